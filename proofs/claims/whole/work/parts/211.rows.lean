section
variable {p : Program} {l : Launch} {e : Env} {s : State} {m : MethodId} {args : Array Value} {below : List Frame} {meth : Method} {c : Code} {g : xG}
set_option maxHeartbeats 4000000 in
set_option maxRecDepth 100000 in
theorem s_X11_wall {Qf : Bool → xM → Prop} {a1 : Int32} {a2 : Bool} (C : x_C p s m args meth c g RX11 cX11_wall 3 (some .boolean)) (hM : xpM g) {u : xM} {H : Heap} {locs : List Loc} {ls : Array Slot} (hw : x_W g s.heap H locs u) (hl : lv_has ls 3 [(0, .ref (xad g 272)), (1, .int a1), (2, .int (xb a2))]) (h : p_X11_wall a1 a2 u Qf) : W p l e (x_rm 3 65) s m args below meth c H locs 0 0 (MQ below (x_Qz g Qf) args s 0 0 (x_A g)) (F0 m 0 ls []) := by
  unfold p_X11_wall at h
  have hx := C.1
  have hb := C.2.1
  refine lv_aload_n hx hb dX11_wall_0 rfl (lv_at hl 0 rfl) ?_
  refine lv_aload_n hx hb dX11_wall_1 rfl (lv_at hl 0 rfl) ?_
  refine lv_iload_n hx hb dX11_wall_2 rfl (lv_at hl 1 rfl) ?_
  refine x_callz hw (x_runV (ci := 11) C hw (m_X11_isDoor l C.2.2.2.2.2.2.2.2.1 hM h) (xoM_272 hM) rfl (x_gV xw_977 xw_978 xw_979 xw_5 xw_980) rfl rfl qX11_isDoor ⟨(Nat.le_of_ble_eq_true rfl), (Nat.le_of_ble_eq_true rfl)⟩ rfl hl.1 rfl (Nat.le_of_ble_eq_true rfl) dX11_wall_3) (fun r2 u1 H locs hw h => ?_)
  refine lv_if_ne (tgt := 13) hx hb dX11_wall_6 (by decide) (fun c3 => ?_) (fun c3 => ?_)
  · have h := h.1 (xb_t c3)
    refine lv_aload_n hx hb dX11_wall_13 rfl (lv_at hl 0 rfl) ?_
    refine lv_iload_n hx hb dX11_wall_14 rfl (lv_at hl 1 rfl) ?_
    refine lv_bipush (v := 7) hx hb dX11_wall_15 (by decide) ?_
    refine lv_iload_n hx hb dX11_wall_17 rfl (lv_at hl 2 rfl) ?_
    refine x_callz hw (x_runV (ci := 11) C hw (m_X11_turns l C.2.2.2.2.2.2.2.2.1 hM h) (xoM_272 hM) rfl (x_gV xw_1225 xw_1226 xw_1227 xw_5 xw_1228) rfl rfl qX11_turns ⟨(Nat.le_of_ble_eq_true rfl), (Nat.le_of_ble_eq_true rfl)⟩ rfl hl.1 rfl (Nat.le_of_ble_eq_true rfl) dX11_wall_18) (fun r5 u4 H locs hw h => ?_)
    refine lv_if_eq (tgt := 28) hx hb dX11_wall_21 (by decide) (fun c6 => ?_) (fun c6 => ?_)
    · have h := h.1 (xb_f c6)
      refine lv_bipush (v := 7) hx hb dX11_wall_28 (by decide) ?_
      refine x_callz hw (x_runV (ci := 11) C hw (m_X11_is l C.2.2.2.2.2.2.2.2.1 hM h) (xoM_272 hM) rfl (x_gV xw_303 xw_304 xw_305 xw_5 xw_306) rfl rfl qX11_is ⟨(Nat.le_of_ble_eq_true rfl), (Nat.le_of_ble_eq_true rfl)⟩ rfl hl.1 rfl (Nat.le_of_ble_eq_true rfl) dX11_wall_30) (fun r8 u7 H locs hw h => ?_)
      exact x_zret _ C hw h rfl dX11_wall_33
    · have h := h.2 (xb_t c6)
      refine lv_iconst (v := 0) hx hb dX11_wall_24 (by decide) ?_
      refine lv_goto (tgt := 30) hx hb dX11_wall_25 (by decide) ?_
      refine x_callz hw (x_runV (ci := 11) C hw (m_X11_is l C.2.2.2.2.2.2.2.2.1 hM h) (xoM_272 hM) rfl (x_gV xw_303 xw_304 xw_305 xw_5 xw_306) rfl rfl qX11_is ⟨(Nat.le_of_ble_eq_true rfl), (Nat.le_of_ble_eq_true rfl)⟩ rfl hl.1 rfl (Nat.le_of_ble_eq_true rfl) dX11_wall_30) (fun r10 u9 H locs hw h => ?_)
      exact x_zret _ C hw h rfl dX11_wall_33
  · have h := h.2 (xb_f c3)
    refine lv_iconst (v := 1) hx hb dX11_wall_9 (by decide) ?_
    refine lv_goto (tgt := 30) hx hb dX11_wall_10 (by decide) ?_
    refine x_callz hw (x_runV (ci := 11) C hw (m_X11_is l C.2.2.2.2.2.2.2.2.1 hM h) (xoM_272 hM) rfl (x_gV xw_303 xw_304 xw_305 xw_5 xw_306) rfl rfl qX11_is ⟨(Nat.le_of_ble_eq_true rfl), (Nat.le_of_ble_eq_true rfl)⟩ rfl hl.1 rfl (Nat.le_of_ble_eq_true rfl) dX11_wall_30) (fun r12 u11 H locs hw h => ?_)
    exact x_zret _ C hw h rfl dX11_wall_33
set_option maxHeartbeats 4000000 in
set_option maxRecDepth 100000 in
theorem m_X11_wall (l : Launch) {g : xG} (hD : x_D g) (hM : xpM g) {a1 : Int32} {a2 : Bool} {u : xM} {Qf : Bool → xM → Prop} (h : p_X11_wall a1 a2 u Qf) : Met l yX11_wall (Cond.code yX11_wall cX11_wall 3 (some .boolean) :: wsL_law) (x_rm 3 65) (va_Pc [.ref (xad g 272), .int a1, .int (xb a2)] (x_B g u)) (x_Qz g Qf) 0 0 (x_A g) := by
  refine Met.ofW (cc := cX11_wall) (maxL := 3) (ret := (some .boolean)) (by decide) rfl ?_
  intro p e s m args below meth c s₁ B hml hv
  obtain ⟨rfl, hB⟩ := hv
  obtain ⟨C, hw⟩ := x_start B hml hD hB
  have hl := lv_entry [.ref (xad g 272), .int a1, .int (xb a2)] (n := 3) (Nat.le_of_ble_eq_true rfl)
  rw [lg_entry_eq]
  exact s_X11_wall C hM hw hl h
set_option maxHeartbeats 4000000 in
set_option maxRecDepth 100000 in
theorem s_X11_bails {Qf : Bool → xM → Prop} {a1 : Int32} {a2 : Int32} (C : x_C p s m args meth c g RX11 cX11_bails 3 (some .boolean)) (hM : xpM g) {u : xM} {H : Heap} {locs : List Loc} {ls : Array Slot} (hw : x_W g s.heap H locs u) (hl : lv_has ls 3 [(0, .ref (xad g 272)), (1, .int a1), (2, .int a2)]) (h : p_X11_bails a1 a2 u Qf) : W p l e (x_rm 2 42) s m args below meth c H locs 0 0 (MQ below (x_Qz g Qf) args s 0 0 (x_A g)) (F0 m 0 ls []) := by
  unfold p_X11_bails at h
  have hx := C.1
  have hb := C.2.1
  refine lv_aload_n hx hb dX11_bails_0 rfl (lv_at hl 0 rfl) ?_
  refine lv_iload_n hx hb dX11_bails_1 rfl (lv_at hl 1 rfl) ?_
  refine lv_iconst (v := 4) hx hb dX11_bails_2 (by decide) ?_
  refine x_calli hw (x_runV (ci := 11) C hw (m_X11_roomOf l C.2.2.2.2.2.2.2.2.1 hM h) (xoM_272 hM) rfl (x_gV xw_892 xw_893 xw_894 xw_5 xw_895) rfl rfl qX11_roomOf ⟨(Nat.le_of_ble_eq_true rfl), (Nat.le_of_ble_eq_true rfl)⟩ rfl hl.1 rfl (Nat.le_of_ble_eq_true rfl) dX11_bails_3) (fun r2 u1 H locs hw h => ?_)
  refine lv_iload_n hx hb dX11_bails_6 rfl (lv_at hl 2 rfl) ?_
  refine lv_icmp_ge (tgt := 12) hx hb dX11_bails_7 (by decide) (fun c3 => ?_) (fun c3 => ?_)
  · have h := h.1 c3
    refine lv_aload_n hx hb dX11_bails_12 rfl (lv_at hl 0 rfl) ?_
    refine x_getr (ci := 11) C hw 0 (xoM_272 hM) rfl inlX11 (by decide) rfl rfl xrM_272_0 xw_219 dX11_bails_13 ?_
    refine lv_iload_n hx hb dX11_bails_16 rfl (lv_at hl 1 rfl) ?_
    refine x_calli hw (x_runS C hw (m_X11_roomRow l C.2.2.2.2.2.2.2.2.1  h) (x_gS xw_896 xw_897 xw_5 xw_898) rfl rfl qX11_roomRow ⟨(Nat.le_of_ble_eq_true rfl), (Nat.le_of_ble_eq_true rfl)⟩ rfl hl.1 rfl (Nat.le_of_ble_eq_true rfl) dX11_bails_17) (fun r5 u4 H locs hw h => ?_)
    refine lv_iconst (v := 4) hx hb dX11_bails_20 (by decide) ?_
    refine lv_iadd hx hb dX11_bails_21 ?_
    refine lv_dup2_11 hx hb dX11_bails_22 rfl rfl ?_
    have c6 := h.1
    have h := h.2
    refine x_iald C hw (xoM_273 hM) c6 dX11_bails_23 ?_
    refine lv_iload_n hx hb dX11_bails_24 rfl (lv_at hl 2 rfl) ?_
    refine lv_isub hx hb dX11_bails_25 ?_
    have c7 := h.1
    have h := h.2
    obtain ⟨u8, eu8⟩ : ∃ q : xM, q = si u4 273 (r5 + (4 : Int32)).toNatClampNeg ((gi u4 273 (r5 + (4 : Int32)).toNatClampNeg) - a2) := ⟨_, rfl⟩
    have h := h u8 eu8
    refine x_iast C hw (xoM_273 hM) c7 dX11_bails_26 eu8 (fun H locs hw => ?_)
    refine lv_iconst (v := 1) hx hb dX11_bails_27 (by decide) ?_
    exact x_zret true C hw h rfl dX11_bails_28
  · have h := h.2 c3
    refine lv_iconst (v := 0) hx hb dX11_bails_10 (by decide) ?_
    exact x_zret false C hw h rfl dX11_bails_11
set_option maxHeartbeats 4000000 in
set_option maxRecDepth 100000 in
theorem m_X11_bails (l : Launch) {g : xG} (hD : x_D g) (hM : xpM g) {a1 : Int32} {a2 : Int32} {u : xM} {Qf : Bool → xM → Prop} (h : p_X11_bails a1 a2 u Qf) : Met l yX11_bails (Cond.code yX11_bails cX11_bails 3 (some .boolean) :: wsL_law) (x_rm 2 42) (va_Pc [.ref (xad g 272), .int a1, .int a2] (x_B g u)) (x_Qz g Qf) 0 0 (x_A g) := by
  refine Met.ofW (cc := cX11_bails) (maxL := 3) (ret := (some .boolean)) (by decide) rfl ?_
  intro p e s m args below meth c s₁ B hml hv
  obtain ⟨rfl, hB⟩ := hv
  obtain ⟨C, hw⟩ := x_start B hml hD hB
  have hl := lv_entry [.ref (xad g 272), .int a1, .int a2] (n := 3) (Nat.le_of_ble_eq_true rfl)
  rw [lg_entry_eq]
  exact s_X11_bails C hM hw hl h
set_option maxHeartbeats 4000000 in
set_option maxRecDepth 100000 in
theorem s_X11_bail {Qf : Int32 → xM → Prop} {a1 : Int32} {a2 : Int32} (C : x_C p s m args meth c g RX11 cX11_bail 3 (some .int)) (hM : xpM g) {u : xM} {H : Heap} {locs : List Loc} {ls : Array Slot} (hw : x_W g s.heap H locs u) (hl : lv_has ls 3 [(0, .ref (xad g 272)), (1, .int a1), (2, .int a2)]) (h : p_X11_bail a1 a2 u Qf) : W p l e (x_rm 3 64) s m args below meth c H locs 0 0 (MQ below (x_Qi g Qf) args s 0 0 (x_A g)) (F0 m 0 ls []) := by
  unfold p_X11_bail at h
  have hx := C.1
  have hb := C.2.1
  refine lv_aload_n hx hb dX11_bail_0 rfl (lv_at hl 0 rfl) ?_
  refine lv_iload_n hx hb dX11_bail_1 rfl (lv_at hl 1 rfl) ?_
  refine x_callz hw (x_runV (ci := 11) C hw (m_X11_isRoom l C.2.2.2.2.2.2.2.2.1 hM h) (xoM_272 hM) rfl (x_gV xw_945 xw_946 xw_947 xw_5 xw_948) rfl rfl qX11_isRoom ⟨(Nat.le_of_ble_eq_true rfl), (Nat.le_of_ble_eq_true rfl)⟩ rfl hl.1 rfl (Nat.le_of_ble_eq_true rfl) dX11_bail_2) (fun r2 u1 H locs hw h => ?_)
  refine lv_if_eq (tgt := 20) hx hb dX11_bail_5 (by decide) (fun c3 => ?_) (fun c3 => ?_)
  · have h := h.1 (xb_f c3)
    refine lv_aload_n hx hb dX11_bail_20 rfl (lv_at hl 0 rfl) ?_
    refine lv_iconst (v := 1) hx hb dX11_bail_21 (by decide) ?_
    refine x_calli hw (x_runV (ci := 11) C hw (m_X11_refuse l C.2.2.2.2.2.2.2.2.1 hM h) (xoM_272 hM) rfl (x_gV xw_657 xw_658 xw_659 xw_5 xw_660) rfl rfl qX11_refuse ⟨(Nat.le_of_ble_eq_true rfl), (Nat.le_of_ble_eq_true rfl)⟩ rfl hl.1 rfl (Nat.le_of_ble_eq_true rfl) dX11_bail_22) (fun r5 u4 H locs hw h => ?_)
    exact x_iret C hw h dX11_bail_25
  · have h := h.2 (xb_t c3)
    refine lv_iload_n hx hb dX11_bail_8 rfl (lv_at hl 2 rfl) ?_
    refine lv_i2l hx hb dX11_bail_9 rfl ?_
    refine lv_lconst (v := 1) hx hb dX11_bail_10 (by decide) ?_
    refine lv_ldc2 (v := 999) hx hb C.2.2.2.1 (C.2.2.2.2.1 _ xw_1246) dX11_bail_11 ?_
    refine x_callz hw (x_runS C hw (m_X11_isFrom l C.2.2.2.2.2.2.2.2.1  h) (x_gS xw_1197 xw_1198 xw_5 xw_1199) rfl rfl qX11_isFrom ⟨(Nat.le_of_ble_eq_true rfl), (Nat.le_of_ble_eq_true rfl)⟩ rfl hl.1 rfl (Nat.le_of_ble_eq_true rfl) dX11_bail_14) (fun r7 u6 H locs hw h => ?_)
    refine lv_if_ne (tgt := 26) hx hb dX11_bail_17 (by decide) (fun c8 => ?_) (fun c8 => ?_)
    · have h := h.1 (xb_t c8)
      refine lv_aload_n hx hb dX11_bail_26 rfl (lv_at hl 0 rfl) ?_
      refine lv_iload_n hx hb dX11_bail_27 rfl (lv_at hl 1 rfl) ?_
      refine lv_iload_n hx hb dX11_bail_28 rfl (lv_at hl 2 rfl) ?_
      refine x_callz hw (x_runV (ci := 11) C hw (m_X11_bails l C.2.2.2.2.2.2.2.2.1 hM h) (xoM_272 hM) rfl (x_gV xw_1247 xw_1248 xw_1249 xw_5 xw_1250) rfl rfl qX11_bails ⟨(Nat.le_of_ble_eq_true rfl), (Nat.le_of_ble_eq_true rfl)⟩ rfl hl.1 rfl (Nat.le_of_ble_eq_true rfl) dX11_bail_29) (fun r10 u9 H locs hw h => ?_)
      refine lv_if_eq (tgt := 48) hx hb dX11_bail_32 (by decide) (fun c11 => ?_) (fun c11 => ?_)
      · have h := h.1 (xb_f c11)
        refine lv_aload_n hx hb dX11_bail_48 rfl (lv_at hl 0 rfl) ?_
        refine lv_bipush (v := 7) hx hb dX11_bail_49 (by decide) ?_
        refine x_calli hw (x_runV (ci := 11) C hw (m_X11_refuse l C.2.2.2.2.2.2.2.2.1 hM h) (xoM_272 hM) rfl (x_gV xw_657 xw_658 xw_659 xw_5 xw_660) rfl rfl qX11_refuse ⟨(Nat.le_of_ble_eq_true rfl), (Nat.le_of_ble_eq_true rfl)⟩ rfl hl.1 rfl (Nat.le_of_ble_eq_true rfl) dX11_bail_51) (fun r13 u12 H locs hw h => ?_)
        exact x_iret C hw h dX11_bail_54
      · have h := h.2 (xb_t c11)
        refine lv_aload_n hx hb dX11_bail_35 rfl (lv_at hl 0 rfl) ?_
        refine lv_aload_n hx hb dX11_bail_36 rfl (lv_at hl 0 rfl) ?_
        refine lv_iload_n hx hb dX11_bail_37 rfl (lv_at hl 1 rfl) ?_
        refine lv_iconst (v := 4) hx hb dX11_bail_38 (by decide) ?_
        refine x_calli hw (x_runV (ci := 11) C hw (m_X11_roomOf l C.2.2.2.2.2.2.2.2.1 hM h) (xoM_272 hM) rfl (x_gV xw_892 xw_893 xw_894 xw_5 xw_895) rfl rfl qX11_roomOf ⟨(Nat.le_of_ble_eq_true rfl), (Nat.le_of_ble_eq_true rfl)⟩ rfl hl.1 rfl (Nat.le_of_ble_eq_true rfl) dX11_bail_39) (fun r15 u14 H locs hw h => ?_)
        refine x_calli hw (x_runV (ci := 11) C hw (m_X11_gives l C.2.2.2.2.2.2.2.2.1 hM h) (xoM_272 hM) rfl (x_gV xw_731 xw_732 xw_733 xw_5 xw_734) rfl rfl qX11_gives ⟨(Nat.le_of_ble_eq_true rfl), (Nat.le_of_ble_eq_true rfl)⟩ rfl hl.1 rfl (Nat.le_of_ble_eq_true rfl) dX11_bail_42) (fun r17 u16 H locs hw h => ?_)
        refine lv_goto (tgt := 54) hx hb dX11_bail_45 (by decide) ?_
        exact x_iret C hw h dX11_bail_54
    · have h := h.2 (xb_f c8)
      refine lv_aload_n hx hb dX11_bail_20 rfl (lv_at hl 0 rfl) ?_
      refine lv_iconst (v := 1) hx hb dX11_bail_21 (by decide) ?_
      refine x_calli hw (x_runV (ci := 11) C hw (m_X11_refuse l C.2.2.2.2.2.2.2.2.1 hM h) (xoM_272 hM) rfl (x_gV xw_657 xw_658 xw_659 xw_5 xw_660) rfl rfl qX11_refuse ⟨(Nat.le_of_ble_eq_true rfl), (Nat.le_of_ble_eq_true rfl)⟩ rfl hl.1 rfl (Nat.le_of_ble_eq_true rfl) dX11_bail_22) (fun r19 u18 H locs hw h => ?_)
      exact x_iret C hw h dX11_bail_25
set_option maxHeartbeats 4000000 in
set_option maxRecDepth 100000 in
theorem m_X11_bail (l : Launch) {g : xG} (hD : x_D g) (hM : xpM g) {a1 : Int32} {a2 : Int32} {u : xM} {Qf : Int32 → xM → Prop} (h : p_X11_bail a1 a2 u Qf) : Met l yX11_bail (Cond.code yX11_bail cX11_bail 3 (some .int) :: wsL_law) (x_rm 3 64) (va_Pc [.ref (xad g 272), .int a1, .int a2] (x_B g u)) (x_Qi g Qf) 0 0 (x_A g) := by
  refine Met.ofW (cc := cX11_bail) (maxL := 3) (ret := (some .int)) (by decide) rfl ?_
  intro p e s m args below meth c s₁ B hml hv
  obtain ⟨rfl, hB⟩ := hv
  obtain ⟨C, hw⟩ := x_start B hml hD hB
  have hl := lv_entry [.ref (xad g 272), .int a1, .int a2] (n := 3) (Nat.le_of_ble_eq_true rfl)
  rw [lg_entry_eq]
  exact s_X11_bail C hM hw hl h
set_option maxHeartbeats 4000000 in
set_option maxRecDepth 100000 in
theorem s_X11_wipes_L30 {Qf : Int32 → xM → Prop} {K4 : Int32 → Int32 → xM → Prop} (C : x_C p s m args meth c g RX11 cX11_wipes 3 (some .int)) (hM : xpM g) (hK4 : ∀ {v1 : Int32} {v2 : Int32} {u : xM} {H : Heap} {locs : List Loc} {ls : Array Slot}, x_W g s.heap H locs u → lv_has ls 3 [(0, .ref (xad g 272)), (1, .int v1), (2, .int v2)] → K4 v1 v2 u → W p l e (x_rm 2 42) s m args below meth c H locs 0 0 (MQ below (x_Qi g Qf) args s 0 0 (x_A g)) (F0 m 4 ls [])) {v2 : Int32} {w0 : Int32} {w1 : Bool} {u : xM} {H : Heap} {locs : List Loc} {ls : Array Slot} (hw : x_W g s.heap H locs u) (hl : lv_has ls 3 [(0, .ref (xad g 272)), (2, .int v2)]) (h : p_X11_wipes_L30 Qf K4 v2 w0 w1 u) : W p l e (x_rm 2 42) s m args below meth c H locs 0 0 (MQ below (x_Qi g Qf) args s 0 0 (x_A g)) (F0 m 30 ls [.int (xb w1), .int w0]) := by
  unfold p_X11_wipes_L30 at h
  have hx := C.1
  have hb := C.2.1
  refine lv_iadd hx hb dX11_wipes_30 ?_
  refine lv_topi (fun x1 ex1 => ?_)
  have h := h x1 ex1
  refine lv_istore_n (lv' := [(1, .int x1), (0, .ref (xad g 272)), (2, .int v2)]) hx hb dX11_wipes_31 rfl hl (by decide) rfl (fun ls hl => ?_)
  refine lv_aload_n hx hb dX11_wipes_32 rfl (lv_at hl 1 rfl) ?_
  refine x_getr (ci := 11) C hw 0 (xoM_272 hM) rfl inlX11 (by decide) rfl rfl xrM_272_0 xw_219 dX11_wipes_33 ?_
  refine lv_iload_n hx hb dX11_wipes_36 rfl (lv_at hl 2 rfl) ?_
  refine x_calli hw (x_runS C hw (m_X11_roomRow l C.2.2.2.2.2.2.2.2.1  h) (x_gS xw_896 xw_897 xw_5 xw_898) rfl rfl qX11_roomRow ⟨(Nat.le_of_ble_eq_true rfl), (Nat.le_of_ble_eq_true rfl)⟩ rfl hl.1 rfl (Nat.le_of_ble_eq_true rfl) dX11_wipes_37) (fun r3 u2 H locs hw h => ?_)
  refine lv_bipush (v := 6) hx hb dX11_wipes_40 (by decide) ?_
  refine lv_iadd hx hb dX11_wipes_42 ?_
  refine lv_iconst (v := 0) hx hb dX11_wipes_43 (by decide) ?_
  have c4 := h.1
  have h := h.2
  obtain ⟨u5, eu5⟩ : ∃ q : xM, q = si u2 273 (r3 + (6 : Int32)).toNatClampNeg (0 : Int32) := ⟨_, rfl⟩
  have h := h u5 eu5
  refine x_iast C hw (xoM_273 hM) c4 dX11_wipes_44 eu5 (fun H locs hw => ?_)
  obtain ⟨x6, ex6⟩ : ∃ y : Int32, y = v2 + 1 := ⟨_, rfl⟩
  have h := h x6 ex6
  refine lv_iinc (v := x6) (lv' := [(2, .int x6), (1, .int x1), (0, .ref (xad g 272))]) hx hb dX11_wipes_45 hl (k := 2) rfl (by rw [ex6]; rfl) (by decide) rfl (fun ls hl => ?_)
  refine lv_goto (tgt := 4) hx hb dX11_wipes_48 (by decide) ?_
  exact hK4 hw (lv_sub hl [2, 1, 0] rfl) h
set_option maxHeartbeats 4000000 in
set_option maxRecDepth 100000 in
theorem s_X11_wipes_L4 {Qf : Int32 → xM → Prop} (C : x_C p s m args meth c g RX11 cX11_wipes 3 (some .int)) (hM : xpM g) : ∀ (nn : Nat) {v1 : Int32} {v2 : Int32} {u : xM} {H : Heap} {locs : List Loc} {ls : Array Slot} (hw : x_W g s.heap H locs u) (hl : lv_has ls 3 [(0, .ref (xad g 272)), (1, .int v1), (2, .int v2)]) (h : p_X11_wipes_L4 Qf nn v1 v2 u), W p l e (x_rm 2 42) s m args below meth c H locs 0 0 (MQ below (x_Qi g Qf) args s 0 0 (x_A g)) (F0 m 4 ls []) := by
  intro nn
  induction nn with
  | zero => intro v1 v2 u H locs ls hw hl h; exact h.elim
  | succ nn ih =>
    intro v1 v2 u H locs ls hw hl h
    unfold p_X11_wipes_L4 at h
    have hx := C.1
    have hb := C.2.1
    refine lv_iload_n hx hb dX11_wipes_4 rfl (lv_at hl 2 rfl) ?_
    refine lv_aload_n hx hb dX11_wipes_5 rfl (lv_at hl 0 rfl) ?_
    refine x_getr (ci := 11) C hw 0 (xoM_272 hM) rfl inlX11 (by decide) rfl rfl xrM_272_0 xw_219 dX11_wipes_6 ?_
    refine lv_iconst (v := 0) hx hb dX11_wipes_9 (by decide) ?_
    have c1 := h.1
    have h := h.2
    refine x_iald C hw (xoM_273 hM) c1 dX11_wipes_10 ?_
    refine lv_icmp_ge (tgt := 51) hx hb dX11_wipes_11 (by decide) (fun c2 => ?_) (fun c2 => ?_)
    · have h := h.1 c2
      refine lv_iload_n hx hb dX11_wipes_51 rfl (lv_at hl 1 rfl) ?_
      exact x_iret C hw h dX11_wipes_52
    · have h := h.2 c2
      refine lv_iload_n hx hb dX11_wipes_14 rfl (lv_at hl 1 rfl) ?_
      refine lv_aload_n hx hb dX11_wipes_15 rfl (lv_at hl 0 rfl) ?_
      refine lv_iload_n hx hb dX11_wipes_16 rfl (lv_at hl 2 rfl) ?_
      refine lv_bipush (v := 6) hx hb dX11_wipes_17 (by decide) ?_
      refine x_calli hw (x_runV (ci := 11) C hw (m_X11_roomOf l C.2.2.2.2.2.2.2.2.1 hM h) (xoM_272 hM) rfl (x_gV xw_892 xw_893 xw_894 xw_5 xw_895) rfl rfl qX11_roomOf ⟨(Nat.le_of_ble_eq_true rfl), (Nat.le_of_ble_eq_true rfl)⟩ rfl hl.1 rfl (Nat.le_of_ble_eq_true rfl) dX11_wipes_19) (fun r4 u3 H locs hw h => ?_)
      refine lv_if_le (tgt := 29) hx hb dX11_wipes_22 (by decide) (fun c5 => ?_) (fun c5 => ?_)
      · have h := h.1 c5
        refine lv_iconst (v := 0) hx hb dX11_wipes_29 (by decide) ?_
        exact s_X11_wipes_L30 C hM (fun hw hl h => ih hw hl h) hw (lv_sub hl [0, 2] rfl) h
      · have h := h.2 c5
        refine lv_iconst (v := 1) hx hb dX11_wipes_25 (by decide) ?_
        refine lv_goto (tgt := 30) hx hb dX11_wipes_26 (by decide) ?_
        exact s_X11_wipes_L30 C hM (fun hw hl h => ih hw hl h) hw (lv_sub hl [0, 2] rfl) h
set_option maxHeartbeats 4000000 in
set_option maxRecDepth 100000 in
theorem s_X11_wipes {Qf : Int32 → xM → Prop} (C : x_C p s m args meth c g RX11 cX11_wipes 3 (some .int)) (hM : xpM g) {u : xM} {H : Heap} {locs : List Loc} {ls : Array Slot} (hw : x_W g s.heap H locs u) (hl : lv_has ls 3 [(0, .ref (xad g 272))]) (h : p_X11_wipes  u Qf) : W p l e (x_rm 2 42) s m args below meth c H locs 0 0 (MQ below (x_Qi g Qf) args s 0 0 (x_A g)) (F0 m 0 ls []) := by
  unfold p_X11_wipes at h
  have hx := C.1
  have hb := C.2.1
  refine lv_iconst (v := 0) hx hb dX11_wipes_0 (by decide) ?_
  refine lv_istore_n (lv' := [(1, .int 0), (0, .ref (xad g 272))]) hx hb dX11_wipes_1 rfl hl (by decide) rfl (fun ls hl => ?_)
  refine lv_iconst (v := 0) hx hb dX11_wipes_2 (by decide) ?_
  refine lv_istore_n (lv' := [(2, .int 0), (1, .int 0), (0, .ref (xad g 272))]) hx hb dX11_wipes_3 rfl hl (by decide) rfl (fun ls hl => ?_)
  obtain ⟨n9, h⟩ := h
  exact s_X11_wipes_L4 C hM n9 hw (lv_sub hl [2, 1, 0] rfl) h
set_option maxHeartbeats 4000000 in
set_option maxRecDepth 100000 in
theorem m_X11_wipes (l : Launch) {g : xG} (hD : x_D g) (hM : xpM g) {u : xM} {Qf : Int32 → xM → Prop} (h : p_X11_wipes  u Qf) : Met l yX11_wipes (Cond.code yX11_wipes cX11_wipes 3 (some .int) :: wsL_law) (x_rm 2 42) (va_Pc [.ref (xad g 272)] (x_B g u)) (x_Qi g Qf) 0 0 (x_A g) := by
  refine Met.ofW (cc := cX11_wipes) (maxL := 3) (ret := (some .int)) (by decide) rfl ?_
  intro p e s m args below meth c s₁ B hml hv
  obtain ⟨rfl, hB⟩ := hv
  obtain ⟨C, hw⟩ := x_start B hml hD hB
  have hl := lv_entry [.ref (xad g 272)] (n := 3) (Nat.le_of_ble_eq_true rfl)
  rw [lg_entry_eq]
  exact s_X11_wipes C hM hw hl h
set_option maxHeartbeats 4000000 in
set_option maxRecDepth 100000 in
theorem s_X11_wipe {Qf : Int32 → xM → Prop} (C : x_C p s m args meth c g RX11 cX11_wipe 1 (some .int)) (hM : xpM g) {u : xM} {H : Heap} {locs : List Loc} {ls : Array Slot} (hw : x_W g s.heap H locs u) (hl : lv_has ls 1 [(0, .ref (xad g 272))]) (h : p_X11_wipe  u Qf) : W p l e (x_rm 3 64) s m args below meth c H locs 0 0 (MQ below (x_Qi g Qf) args s 0 0 (x_A g)) (F0 m 0 ls []) := by
  unfold p_X11_wipe at h
  have hx := C.1
  have hb := C.2.1
  refine lv_aload_n hx hb dX11_wipe_0 rfl (lv_at hl 0 rfl) ?_
  refine lv_aload_n hx hb dX11_wipe_1 rfl (lv_at hl 0 rfl) ?_
  refine x_calli hw (x_runV (ci := 11) C hw (m_X11_wipes l C.2.2.2.2.2.2.2.2.1 hM h) (xoM_272 hM) rfl (x_gV xw_1263 xw_1264 xw_1265 xw_5 xw_1266) rfl rfl qX11_wipes ⟨(Nat.le_of_ble_eq_true rfl), (Nat.le_of_ble_eq_true rfl)⟩ rfl hl.1 rfl (Nat.le_of_ble_eq_true rfl) dX11_wipe_2) (fun r2 u1 H locs hw h => ?_)
  refine x_calli hw (x_runV (ci := 11) C hw (m_X11_gives l C.2.2.2.2.2.2.2.2.1 hM h) (xoM_272 hM) rfl (x_gV xw_731 xw_732 xw_733 xw_5 xw_734) rfl rfl qX11_gives ⟨(Nat.le_of_ble_eq_true rfl), (Nat.le_of_ble_eq_true rfl)⟩ rfl hl.1 rfl (Nat.le_of_ble_eq_true rfl) dX11_wipe_5) (fun r4 u3 H locs hw h => ?_)
  exact x_iret C hw h dX11_wipe_8
set_option maxHeartbeats 4000000 in
set_option maxRecDepth 100000 in
theorem m_X11_wipe (l : Launch) {g : xG} (hD : x_D g) (hM : xpM g) {u : xM} {Qf : Int32 → xM → Prop} (h : p_X11_wipe  u Qf) : Met l yX11_wipe (Cond.code yX11_wipe cX11_wipe 1 (some .int) :: wsL_law) (x_rm 3 64) (va_Pc [.ref (xad g 272)] (x_B g u)) (x_Qi g Qf) 0 0 (x_A g) := by
  refine Met.ofW (cc := cX11_wipe) (maxL := 1) (ret := (some .int)) (by decide) rfl ?_
  intro p e s m args below meth c s₁ B hml hv
  obtain ⟨rfl, hB⟩ := hv
  obtain ⟨C, hw⟩ := x_start B hml hD hB
  have hl := lv_entry [.ref (xad g 272)] (n := 1) (Nat.le_of_ble_eq_true rfl)
  rw [lg_entry_eq]
  exact s_X11_wipe C hM hw hl h
set_option maxHeartbeats 4000000 in
set_option maxRecDepth 100000 in
theorem s_X11_rota {Qf : Bool → xM → Prop} {a1 : Int32} {a2 : Int32} {a3 : Bool} (C : x_C p s m args meth c g RX11 cX11_rota 4 (some .boolean)) (hM : xpM g) {u : xM} {H : Heap} {locs : List Loc} {ls : Array Slot} (hw : x_W g s.heap H locs u) (hl : lv_has ls 4 [(0, .ref (xad g 272)), (1, .int a1), (2, .int a2), (3, .int (xb a3))]) (h : p_X11_rota a1 a2 a3 u Qf) : W p l e (x_rm 2 42) s m args below meth c H locs 0 0 (MQ below (x_Qz g Qf) args s 0 0 (x_A g)) (F0 m 0 ls []) := by
  unfold p_X11_rota at h
  have hx := C.1
  have hb := C.2.1
  refine lv_iload_n hx hb dX11_rota_0 rfl (lv_at hl 1 rfl) ?_
  refine x_callz hw (x_runS C hw (m_X11_isHour l C.2.2.2.2.2.2.2.2.1  h) (x_gS xw_1008 xw_1009 xw_5 xw_1010) rfl rfl qX11_isHour ⟨(Nat.le_of_ble_eq_true rfl), (Nat.le_of_ble_eq_true rfl)⟩ rfl hl.1 rfl (Nat.le_of_ble_eq_true rfl) dX11_rota_1) (fun r2 u1 H locs hw h => ?_)
  refine lv_if_eq (tgt := 15) hx hb dX11_rota_4 (by decide) (fun c3 => ?_) (fun c3 => ?_)
  · have h := h.1 (xb_f c3)
    refine lv_aload_n hx hb dX11_rota_15 rfl (lv_at hl 0 rfl) ?_
    refine lv_iconst (v := 1) hx hb dX11_rota_16 (by decide) ?_
    refine x_callz hw (x_runV (ci := 11) C hw (m_X11_is l C.2.2.2.2.2.2.2.2.1 hM h) (xoM_272 hM) rfl (x_gV xw_303 xw_304 xw_305 xw_5 xw_306) rfl rfl qX11_is ⟨(Nat.le_of_ble_eq_true rfl), (Nat.le_of_ble_eq_true rfl)⟩ rfl hl.1 rfl (Nat.le_of_ble_eq_true rfl) dX11_rota_17) (fun r5 u4 H locs hw h => ?_)
    exact x_zret _ C hw h rfl dX11_rota_20
  · have h := h.2 (xb_t c3)
    refine lv_aload_n hx hb dX11_rota_7 rfl (lv_at hl 0 rfl) ?_
    refine lv_iload_n hx hb dX11_rota_8 rfl (lv_at hl 2 rfl) ?_
    refine x_callz hw (x_runV (ci := 11) C hw (m_X11_isDoor l C.2.2.2.2.2.2.2.2.1 hM h) (xoM_272 hM) rfl (x_gV xw_977 xw_978 xw_979 xw_5 xw_980) rfl rfl qX11_isDoor ⟨(Nat.le_of_ble_eq_true rfl), (Nat.le_of_ble_eq_true rfl)⟩ rfl hl.1 rfl (Nat.le_of_ble_eq_true rfl) dX11_rota_9) (fun r7 u6 H locs hw h => ?_)
    refine lv_if_ne (tgt := 21) hx hb dX11_rota_12 (by decide) (fun c8 => ?_) (fun c8 => ?_)
    · have h := h.1 (xb_t c8)
      refine lv_aload_n hx hb dX11_rota_21 rfl (lv_at hl 0 rfl) ?_
      refine lv_aload_n hx hb dX11_rota_22 rfl (lv_at hl 0 rfl) ?_
      refine lv_iload_n hx hb dX11_rota_23 rfl (lv_at hl 2 rfl) ?_
      refine lv_iconst (v := 5) hx hb dX11_rota_24 (by decide) ?_
      refine x_calli hw (x_runV (ci := 11) C hw (m_X11_doorOf l C.2.2.2.2.2.2.2.2.1 hM h) (xoM_272 hM) rfl (x_gV xw_911 xw_912 xw_913 xw_5 xw_914) rfl rfl qX11_doorOf ⟨(Nat.le_of_ble_eq_true rfl), (Nat.le_of_ble_eq_true rfl)⟩ rfl hl.1 rfl (Nat.le_of_ble_eq_true rfl) dX11_rota_25) (fun r10 u9 H locs hw h => ?_)
      refine lv_iload_n hx hb dX11_rota_28 rfl (lv_at hl 1 rfl) ?_
      refine x_callz hw (x_runV (ci := 11) C hw (m_X11_isIn l C.2.2.2.2.2.2.2.2.1 hM h) (xoM_272 hM) rfl (x_gV xw_918 xw_919 xw_920 xw_5 xw_921) rfl rfl qX11_isIn ⟨(Nat.le_of_ble_eq_true rfl), (Nat.le_of_ble_eq_true rfl)⟩ rfl hl.1 rfl (Nat.le_of_ble_eq_true rfl) dX11_rota_29) (fun r12 u11 H locs hw h => ?_)
      refine lv_iload_n hx hb dX11_rota_32 rfl (lv_at hl 3 rfl) ?_
      refine lv_icmp_ne (tgt := 43) hx hb dX11_rota_33 (by decide) (fun c13 => ?_) (fun c13 => ?_)
      · have h := h.1 c13
        refine lv_aload_n hx hb dX11_rota_43 rfl (lv_at hl 0 rfl) ?_
        refine x_getr (ci := 11) C hw 0 (xoM_272 hM) rfl inlX11 (by decide) rfl rfl xrM_272_0 xw_219 dX11_rota_44 ?_
        refine lv_iload_n hx hb dX11_rota_47 rfl (lv_at hl 2 rfl) ?_
        refine x_calli hw (x_runS C hw (m_X11_doorRow l C.2.2.2.2.2.2.2.2.1  h) (x_gS xw_915 xw_916 xw_5 xw_917) rfl rfl qX11_doorRow ⟨(Nat.le_of_ble_eq_true rfl), (Nat.le_of_ble_eq_true rfl)⟩ rfl hl.1 rfl (Nat.le_of_ble_eq_true rfl) dX11_rota_48) (fun r15 u14 H locs hw h => ?_)
        refine lv_iconst (v := 5) hx hb dX11_rota_51 (by decide) ?_
        refine lv_iadd hx hb dX11_rota_52 ?_
        refine lv_dup2_11 hx hb dX11_rota_53 rfl rfl ?_
        have c16 := h.1
        have h := h.2
        refine x_iald C hw (xoM_273 hM) c16 dX11_rota_54 ?_
        refine lv_iconst (v := 1) hx hb dX11_rota_55 (by decide) ?_
        refine lv_iload_n hx hb dX11_rota_56 rfl (lv_at hl 1 rfl) ?_
        refine lv_ishl hx hb dX11_rota_57 ?_
        refine lv_ixor hx hb dX11_rota_58 ?_
        have c17 := h.1
        have h := h.2
        obtain ⟨u18, eu18⟩ : ∃ q : xM, q = si u14 273 (r15 + (5 : Int32)).toNatClampNeg ((gi u14 273 (r15 + (5 : Int32)).toNatClampNeg) ^^^ ((1 : Int32) <<< (a1 &&& 31))) := ⟨_, rfl⟩
        have h := h u18 eu18
        refine x_iast C hw (xoM_273 hM) c17 dX11_rota_59 eu18 (fun H locs hw => ?_)
        refine lv_aload_n hx hb dX11_rota_60 rfl (lv_at hl 0 rfl) ?_
        refine lv_iconst (v := 0) hx hb dX11_rota_61 (by decide) ?_
        refine x_callz hw (x_runV (ci := 11) C hw (m_X11_is l C.2.2.2.2.2.2.2.2.1 hM h) (xoM_272 hM) rfl (x_gV xw_303 xw_304 xw_305 xw_5 xw_306) rfl rfl qX11_is ⟨(Nat.le_of_ble_eq_true rfl), (Nat.le_of_ble_eq_true rfl)⟩ rfl hl.1 rfl (Nat.le_of_ble_eq_true rfl) dX11_rota_62) (fun r20 u19 H locs hw h => ?_)
        exact x_zret _ C hw h rfl dX11_rota_65
      · have h := h.2 c13
        refine lv_aload_n hx hb dX11_rota_36 rfl (lv_at hl 0 rfl) ?_
        refine lv_bipush (v := 7) hx hb dX11_rota_37 (by decide) ?_
        refine x_callz hw (x_runV (ci := 11) C hw (m_X11_is l C.2.2.2.2.2.2.2.2.1 hM h) (xoM_272 hM) rfl (x_gV xw_303 xw_304 xw_305 xw_5 xw_306) rfl rfl qX11_is ⟨(Nat.le_of_ble_eq_true rfl), (Nat.le_of_ble_eq_true rfl)⟩ rfl hl.1 rfl (Nat.le_of_ble_eq_true rfl) dX11_rota_39) (fun r22 u21 H locs hw h => ?_)
        exact x_zret _ C hw h rfl dX11_rota_42
    · have h := h.2 (xb_f c8)
      refine lv_aload_n hx hb dX11_rota_15 rfl (lv_at hl 0 rfl) ?_
      refine lv_iconst (v := 1) hx hb dX11_rota_16 (by decide) ?_
      refine x_callz hw (x_runV (ci := 11) C hw (m_X11_is l C.2.2.2.2.2.2.2.2.1 hM h) (xoM_272 hM) rfl (x_gV xw_303 xw_304 xw_305 xw_5 xw_306) rfl rfl qX11_is ⟨(Nat.le_of_ble_eq_true rfl), (Nat.le_of_ble_eq_true rfl)⟩ rfl hl.1 rfl (Nat.le_of_ble_eq_true rfl) dX11_rota_17) (fun r24 u23 H locs hw h => ?_)
      exact x_zret _ C hw h rfl dX11_rota_20
set_option maxHeartbeats 4000000 in
set_option maxRecDepth 100000 in
theorem m_X11_rota (l : Launch) {g : xG} (hD : x_D g) (hM : xpM g) {a1 : Int32} {a2 : Int32} {a3 : Bool} {u : xM} {Qf : Bool → xM → Prop} (h : p_X11_rota a1 a2 a3 u Qf) : Met l yX11_rota (Cond.code yX11_rota cX11_rota 4 (some .boolean) :: wsL_law) (x_rm 2 42) (va_Pc [.ref (xad g 272), .int a1, .int a2, .int (xb a3)] (x_B g u)) (x_Qz g Qf) 0 0 (x_A g) := by
  refine Met.ofW (cc := cX11_rota) (maxL := 4) (ret := (some .boolean)) (by decide) rfl ?_
  intro p e s m args below meth c s₁ B hml hv
  obtain ⟨rfl, hB⟩ := hv
  obtain ⟨C, hw⟩ := x_start B hml hD hB
  have hl := lv_entry [.ref (xad g 272), .int a1, .int a2, .int (xb a3)] (n := 4) (Nat.le_of_ble_eq_true rfl)
  rw [lg_entry_eq]
  exact s_X11_rota C hM hw hl h
set_option maxHeartbeats 4000000 in
set_option maxRecDepth 100000 in
theorem s_X11_moon {Qf : Bool → xM → Prop} {a1 : Int32} {a2 : Int32} (C : x_C p s m args meth c g RX11 cX11_moon 3 (some .boolean)) (hM : xpM g) {u : xM} {H : Heap} {locs : List Loc} {ls : Array Slot} (hw : x_W g s.heap H locs u) (hl : lv_has ls 3 [(0, .ref (xad g 272)), (1, .int a1), (2, .int a2)]) (h : p_X11_moon a1 a2 u Qf) : W p l e (x_rm 1 25) s m args below meth c H locs 0 0 (MQ below (x_Qz g Qf) args s 0 0 (x_A g)) (F0 m 0 ls []) := by
  unfold p_X11_moon at h
  have hx := C.1
  have hb := C.2.1
  refine lv_iload_n hx hb dX11_moon_0 rfl (lv_at hl 1 rfl) ?_
  refine x_callz hw (x_runS C hw (m_X11_isHour l C.2.2.2.2.2.2.2.2.1  h) (x_gS xw_1008 xw_1009 xw_5 xw_1010) rfl rfl qX11_isHour ⟨(Nat.le_of_ble_eq_true rfl), (Nat.le_of_ble_eq_true rfl)⟩ rfl hl.1 rfl (Nat.le_of_ble_eq_true rfl) dX11_moon_1) (fun r2 u1 H locs hw h => ?_)
  refine lv_if_eq (tgt := 19) hx hb dX11_moon_4 (by decide) (fun c3 => ?_) (fun c3 => ?_)
  · have h := h.1 (xb_f c3)
    refine lv_aload_n hx hb dX11_moon_19 rfl (lv_at hl 0 rfl) ?_
    refine lv_iconst (v := 1) hx hb dX11_moon_20 (by decide) ?_
    refine x_callz hw (x_runV (ci := 11) C hw (m_X11_is l C.2.2.2.2.2.2.2.2.1 hM h) (xoM_272 hM) rfl (x_gV xw_303 xw_304 xw_305 xw_5 xw_306) rfl rfl qX11_is ⟨(Nat.le_of_ble_eq_true rfl), (Nat.le_of_ble_eq_true rfl)⟩ rfl hl.1 rfl (Nat.le_of_ble_eq_true rfl) dX11_moon_21) (fun r5 u4 H locs hw h => ?_)
    exact x_zret _ C hw h rfl dX11_moon_24
  · have h := h.2 (xb_t c3)
    refine lv_iload_n hx hb dX11_moon_7 rfl (lv_at hl 2 rfl) ?_
    refine lv_i2l hx hb dX11_moon_8 rfl ?_
    refine lv_lconst (v := 0) hx hb dX11_moon_9 (by decide) ?_
    refine lv_ldc2 (v := 99) hx hb C.2.2.2.1 (C.2.2.2.2.1 _ xw_1196) dX11_moon_10 ?_
    refine x_callz hw (x_runS C hw (m_X11_isFrom l C.2.2.2.2.2.2.2.2.1  h) (x_gS xw_1197 xw_1198 xw_5 xw_1199) rfl rfl qX11_isFrom ⟨(Nat.le_of_ble_eq_true rfl), (Nat.le_of_ble_eq_true rfl)⟩ rfl hl.1 rfl (Nat.le_of_ble_eq_true rfl) dX11_moon_13) (fun r7 u6 H locs hw h => ?_)
    refine lv_if_ne (tgt := 25) hx hb dX11_moon_16 (by decide) (fun c8 => ?_) (fun c8 => ?_)
    · have h := h.1 (xb_t c8)
      refine lv_aload_n hx hb dX11_moon_25 rfl (lv_at hl 0 rfl) ?_
      refine x_getr (ci := 11) C hw 0 (xoM_272 hM) rfl inlX11 (by decide) rfl rfl xrM_272_0 xw_219 dX11_moon_26 ?_
      refine lv_sipush (v := 135) hx hb dX11_moon_29 (by decide) ?_
      refine lv_iload_n hx hb dX11_moon_32 rfl (lv_at hl 1 rfl) ?_
      refine lv_iadd hx hb dX11_moon_33 ?_
      refine lv_iload_n hx hb dX11_moon_34 rfl (lv_at hl 2 rfl) ?_
      have c9 := h.1
      have h := h.2
      obtain ⟨u10, eu10⟩ : ∃ q : xM, q = si u6 273 ((135 : Int32) + a1).toNatClampNeg a2 := ⟨_, rfl⟩
      have h := h u10 eu10
      refine x_iast C hw (xoM_273 hM) c9 dX11_moon_35 eu10 (fun H locs hw => ?_)
      refine lv_aload_n hx hb dX11_moon_36 rfl (lv_at hl 0 rfl) ?_
      refine lv_iconst (v := 0) hx hb dX11_moon_37 (by decide) ?_
      refine x_callz hw (x_runV (ci := 11) C hw (m_X11_is l C.2.2.2.2.2.2.2.2.1 hM h) (xoM_272 hM) rfl (x_gV xw_303 xw_304 xw_305 xw_5 xw_306) rfl rfl qX11_is ⟨(Nat.le_of_ble_eq_true rfl), (Nat.le_of_ble_eq_true rfl)⟩ rfl hl.1 rfl (Nat.le_of_ble_eq_true rfl) dX11_moon_38) (fun r12 u11 H locs hw h => ?_)
      exact x_zret _ C hw h rfl dX11_moon_41
    · have h := h.2 (xb_f c8)
      refine lv_aload_n hx hb dX11_moon_19 rfl (lv_at hl 0 rfl) ?_
      refine lv_iconst (v := 1) hx hb dX11_moon_20 (by decide) ?_
      refine x_callz hw (x_runV (ci := 11) C hw (m_X11_is l C.2.2.2.2.2.2.2.2.1 hM h) (xoM_272 hM) rfl (x_gV xw_303 xw_304 xw_305 xw_5 xw_306) rfl rfl qX11_is ⟨(Nat.le_of_ble_eq_true rfl), (Nat.le_of_ble_eq_true rfl)⟩ rfl hl.1 rfl (Nat.le_of_ble_eq_true rfl) dX11_moon_21) (fun r14 u13 H locs hw h => ?_)
      exact x_zret _ C hw h rfl dX11_moon_24
set_option maxHeartbeats 4000000 in
set_option maxRecDepth 100000 in
theorem m_X11_moon (l : Launch) {g : xG} (hD : x_D g) (hM : xpM g) {a1 : Int32} {a2 : Int32} {u : xM} {Qf : Bool → xM → Prop} (h : p_X11_moon a1 a2 u Qf) : Met l yX11_moon (Cond.code yX11_moon cX11_moon 3 (some .boolean) :: wsL_law) (x_rm 1 25) (va_Pc [.ref (xad g 272), .int a1, .int a2] (x_B g u)) (x_Qz g Qf) 0 0 (x_A g) := by
  refine Met.ofW (cc := cX11_moon) (maxL := 3) (ret := (some .boolean)) (by decide) rfl ?_
  intro p e s m args below meth c s₁ B hml hv
  obtain ⟨rfl, hB⟩ := hv
  obtain ⟨C, hw⟩ := x_start B hml hD hB
  have hl := lv_entry [.ref (xad g 272), .int a1, .int a2] (n := 3) (Nat.le_of_ble_eq_true rfl)
  rw [lg_entry_eq]
  exact s_X11_moon C hM hw hl h
set_option maxHeartbeats 4000000 in
set_option maxRecDepth 100000 in
theorem s_X11_pump {Qf : Bool → xM → Prop} {a1 : Int32} {a2 : Int32} (C : x_C p s m args meth c g RX11 cX11_pump 3 (some .boolean)) (hM : xpM g) {u : xM} {H : Heap} {locs : List Loc} {ls : Array Slot} (hw : x_W g s.heap H locs u) (hl : lv_has ls 3 [(0, .ref (xad g 272)), (1, .int a1), (2, .int a2)]) (h : p_X11_pump a1 a2 u Qf) : W p l e (x_rm 1 25) s m args below meth c H locs 0 0 (MQ below (x_Qz g Qf) args s 0 0 (x_A g)) (F0 m 0 ls []) := by
  unfold p_X11_pump at h
  have hx := C.1
  have hb := C.2.1
  refine lv_aload_n hx hb dX11_pump_0 rfl (lv_at hl 0 rfl) ?_
  refine lv_iload_n hx hb dX11_pump_1 rfl (lv_at hl 1 rfl) ?_
  refine x_callz hw (x_runV (ci := 11) C hw (m_X11_isRoom l C.2.2.2.2.2.2.2.2.1 hM h) (xoM_272 hM) rfl (x_gV xw_945 xw_946 xw_947 xw_5 xw_948) rfl rfl qX11_isRoom ⟨(Nat.le_of_ble_eq_true rfl), (Nat.le_of_ble_eq_true rfl)⟩ rfl hl.1 rfl (Nat.le_of_ble_eq_true rfl) dX11_pump_2) (fun r2 u1 H locs hw h => ?_)
  refine lv_if_eq (tgt := 20) hx hb dX11_pump_5 (by decide) (fun c3 => ?_) (fun c3 => ?_)
  · have h := h.1 (xb_f c3)
    refine lv_aload_n hx hb dX11_pump_20 rfl (lv_at hl 0 rfl) ?_
    refine lv_iconst (v := 1) hx hb dX11_pump_21 (by decide) ?_
    refine x_callz hw (x_runV (ci := 11) C hw (m_X11_is l C.2.2.2.2.2.2.2.2.1 hM h) (xoM_272 hM) rfl (x_gV xw_303 xw_304 xw_305 xw_5 xw_306) rfl rfl qX11_is ⟨(Nat.le_of_ble_eq_true rfl), (Nat.le_of_ble_eq_true rfl)⟩ rfl hl.1 rfl (Nat.le_of_ble_eq_true rfl) dX11_pump_22) (fun r5 u4 H locs hw h => ?_)
    exact x_zret _ C hw h rfl dX11_pump_25
  · have h := h.2 (xb_t c3)
    refine lv_iload_n hx hb dX11_pump_8 rfl (lv_at hl 2 rfl) ?_
    refine lv_i2l hx hb dX11_pump_9 rfl ?_
    refine lv_lconst (v := 0) hx hb dX11_pump_10 (by decide) ?_
    refine lv_ldc2 (v := 99) hx hb C.2.2.2.1 (C.2.2.2.2.1 _ xw_1196) dX11_pump_11 ?_
    refine x_callz hw (x_runS C hw (m_X11_isFrom l C.2.2.2.2.2.2.2.2.1  h) (x_gS xw_1197 xw_1198 xw_5 xw_1199) rfl rfl qX11_isFrom ⟨(Nat.le_of_ble_eq_true rfl), (Nat.le_of_ble_eq_true rfl)⟩ rfl hl.1 rfl (Nat.le_of_ble_eq_true rfl) dX11_pump_14) (fun r7 u6 H locs hw h => ?_)
    refine lv_if_ne (tgt := 26) hx hb dX11_pump_17 (by decide) (fun c8 => ?_) (fun c8 => ?_)
    · have h := h.1 (xb_t c8)
      refine lv_aload_n hx hb dX11_pump_26 rfl (lv_at hl 0 rfl) ?_
      refine x_getr (ci := 11) C hw 0 (xoM_272 hM) rfl inlX11 (by decide) rfl rfl xrM_272_0 xw_219 dX11_pump_27 ?_
      refine lv_iload_n hx hb dX11_pump_30 rfl (lv_at hl 1 rfl) ?_
      refine x_calli hw (x_runS C hw (m_X11_roomRow l C.2.2.2.2.2.2.2.2.1  h) (x_gS xw_896 xw_897 xw_5 xw_898) rfl rfl qX11_roomRow ⟨(Nat.le_of_ble_eq_true rfl), (Nat.le_of_ble_eq_true rfl)⟩ rfl hl.1 rfl (Nat.le_of_ble_eq_true rfl) dX11_pump_31) (fun r10 u9 H locs hw h => ?_)
      refine lv_iconst (v := 3) hx hb dX11_pump_34 (by decide) ?_
      refine lv_iadd hx hb dX11_pump_35 ?_
      refine lv_iload_n hx hb dX11_pump_36 rfl (lv_at hl 2 rfl) ?_
      have c11 := h.1
      have h := h.2
      obtain ⟨u12, eu12⟩ : ∃ q : xM, q = si u9 273 (r10 + (3 : Int32)).toNatClampNeg a2 := ⟨_, rfl⟩
      have h := h u12 eu12
      refine x_iast C hw (xoM_273 hM) c11 dX11_pump_37 eu12 (fun H locs hw => ?_)
      refine lv_aload_n hx hb dX11_pump_38 rfl (lv_at hl 0 rfl) ?_
      refine lv_iconst (v := 0) hx hb dX11_pump_39 (by decide) ?_
      refine x_callz hw (x_runV (ci := 11) C hw (m_X11_is l C.2.2.2.2.2.2.2.2.1 hM h) (xoM_272 hM) rfl (x_gV xw_303 xw_304 xw_305 xw_5 xw_306) rfl rfl qX11_is ⟨(Nat.le_of_ble_eq_true rfl), (Nat.le_of_ble_eq_true rfl)⟩ rfl hl.1 rfl (Nat.le_of_ble_eq_true rfl) dX11_pump_40) (fun r14 u13 H locs hw h => ?_)
      exact x_zret _ C hw h rfl dX11_pump_43
    · have h := h.2 (xb_f c8)
      refine lv_aload_n hx hb dX11_pump_20 rfl (lv_at hl 0 rfl) ?_
      refine lv_iconst (v := 1) hx hb dX11_pump_21 (by decide) ?_
      refine x_callz hw (x_runV (ci := 11) C hw (m_X11_is l C.2.2.2.2.2.2.2.2.1 hM h) (xoM_272 hM) rfl (x_gV xw_303 xw_304 xw_305 xw_5 xw_306) rfl rfl qX11_is ⟨(Nat.le_of_ble_eq_true rfl), (Nat.le_of_ble_eq_true rfl)⟩ rfl hl.1 rfl (Nat.le_of_ble_eq_true rfl) dX11_pump_22) (fun r16 u15 H locs hw h => ?_)
      exact x_zret _ C hw h rfl dX11_pump_25
set_option maxHeartbeats 4000000 in
set_option maxRecDepth 100000 in
theorem m_X11_pump (l : Launch) {g : xG} (hD : x_D g) (hM : xpM g) {a1 : Int32} {a2 : Int32} {u : xM} {Qf : Bool → xM → Prop} (h : p_X11_pump a1 a2 u Qf) : Met l yX11_pump (Cond.code yX11_pump cX11_pump 3 (some .boolean) :: wsL_law) (x_rm 1 25) (va_Pc [.ref (xad g 272), .int a1, .int a2] (x_B g u)) (x_Qz g Qf) 0 0 (x_A g) := by
  refine Met.ofW (cc := cX11_pump) (maxL := 3) (ret := (some .boolean)) (by decide) rfl ?_
  intro p e s m args below meth c s₁ B hml hv
  obtain ⟨rfl, hB⟩ := hv
  obtain ⟨C, hw⟩ := x_start B hml hD hB
  have hl := lv_entry [.ref (xad g 272), .int a1, .int a2] (n := 3) (Nat.le_of_ble_eq_true rfl)
  rw [lg_entry_eq]
  exact s_X11_pump C hM hw hl h
set_option maxHeartbeats 4000000 in
set_option maxRecDepth 100000 in
theorem s_X11_raise {Qf : Int32 → xM → Prop} {a1 : Int32} {a2 : Int32} (C : x_C p s m args meth c g RX11 cX11_raise 3 (some .int)) (hM : xpM g) {u : xM} {H : Heap} {locs : List Loc} {ls : Array Slot} (hw : x_W g s.heap H locs u) (hl : lv_has ls 3 [(0, .ref (xad g 272)), (1, .int a1), (2, .int a2)]) (h : p_X11_raise a1 a2 u Qf) : W p l e (x_rm 2 42) s m args below meth c H locs 0 0 (MQ below (x_Qi g Qf) args s 0 0 (x_A g)) (F0 m 0 ls []) := by
  unfold p_X11_raise at h
  have hx := C.1
  have hb := C.2.1
  refine lv_aload_n hx hb dX11_raise_0 rfl (lv_at hl 0 rfl) ?_
  refine lv_iload_n hx hb dX11_raise_1 rfl (lv_at hl 1 rfl) ?_
  refine x_callz hw (x_runV (ci := 11) C hw (m_X11_isDoor l C.2.2.2.2.2.2.2.2.1 hM h) (xoM_272 hM) rfl (x_gV xw_977 xw_978 xw_979 xw_5 xw_980) rfl rfl qX11_isDoor ⟨(Nat.le_of_ble_eq_true rfl), (Nat.le_of_ble_eq_true rfl)⟩ rfl hl.1 rfl (Nat.le_of_ble_eq_true rfl) dX11_raise_2) (fun r2 u1 H locs hw h => ?_)
  refine lv_if_eq (tgt := 22) hx hb dX11_raise_5 (by decide) (fun c3 => ?_) (fun c3 => ?_)
  · have h := h.1 (xb_f c3)
    refine lv_aload_n hx hb dX11_raise_22 rfl (lv_at hl 0 rfl) ?_
    refine lv_iconst (v := 1) hx hb dX11_raise_23 (by decide) ?_
    refine x_calli hw (x_runV (ci := 11) C hw (m_X11_refuse l C.2.2.2.2.2.2.2.2.1 hM h) (xoM_272 hM) rfl (x_gV xw_657 xw_658 xw_659 xw_5 xw_660) rfl rfl qX11_refuse ⟨(Nat.le_of_ble_eq_true rfl), (Nat.le_of_ble_eq_true rfl)⟩ rfl hl.1 rfl (Nat.le_of_ble_eq_true rfl) dX11_raise_24) (fun r5 u4 H locs hw h => ?_)
    exact x_iret C hw h dX11_raise_27
  · have h := h.2 (xb_t c3)
    refine lv_iload_n hx hb dX11_raise_8 rfl (lv_at hl 2 rfl) ?_
    refine lv_i2l hx hb dX11_raise_9 rfl ?_
    refine lv_ldc2 (v := -99) hx hb C.2.2.2.1 (C.2.2.2.2.1 _ xw_1300) dX11_raise_10 ?_
    refine lv_ldc2 (v := 99) hx hb C.2.2.2.1 (C.2.2.2.2.1 _ xw_1196) dX11_raise_13 ?_
    refine x_callz hw (x_runS C hw (m_X11_isFrom l C.2.2.2.2.2.2.2.2.1  h) (x_gS xw_1197 xw_1198 xw_5 xw_1199) rfl rfl qX11_isFrom ⟨(Nat.le_of_ble_eq_true rfl), (Nat.le_of_ble_eq_true rfl)⟩ rfl hl.1 rfl (Nat.le_of_ble_eq_true rfl) dX11_raise_16) (fun r7 u6 H locs hw h => ?_)
    refine lv_if_ne (tgt := 28) hx hb dX11_raise_19 (by decide) (fun c8 => ?_) (fun c8 => ?_)
    · have h := h.1 (xb_t c8)
      refine lv_aload_n hx hb dX11_raise_28 rfl (lv_at hl 0 rfl) ?_
      refine lv_iload_n hx hb dX11_raise_29 rfl (lv_at hl 1 rfl) ?_
      refine lv_iconst (v := 2) hx hb dX11_raise_30 (by decide) ?_
      refine x_calli hw (x_runV (ci := 11) C hw (m_X11_doorOf l C.2.2.2.2.2.2.2.2.1 hM h) (xoM_272 hM) rfl (x_gV xw_911 xw_912 xw_913 xw_5 xw_914) rfl rfl qX11_doorOf ⟨(Nat.le_of_ble_eq_true rfl), (Nat.le_of_ble_eq_true rfl)⟩ rfl hl.1 rfl (Nat.le_of_ble_eq_true rfl) dX11_raise_31) (fun r10 u9 H locs hw h => ?_)
      refine lv_iload_n hx hb dX11_raise_34 rfl (lv_at hl 2 rfl) ?_
      refine lv_iadd hx hb dX11_raise_35 ?_
      refine lv_i2l hx hb dX11_raise_36 rfl ?_
      refine lv_lconst (v := 0) hx hb dX11_raise_37 (by decide) ?_
      refine lv_ldc2 (v := 99) hx hb C.2.2.2.1 (C.2.2.2.2.1 _ xw_1196) dX11_raise_38 ?_
      refine x_callz hw (x_runS C hw (m_X11_isFrom l C.2.2.2.2.2.2.2.2.1  h) (x_gS xw_1197 xw_1198 xw_5 xw_1199) rfl rfl qX11_isFrom ⟨(Nat.le_of_ble_eq_true rfl), (Nat.le_of_ble_eq_true rfl)⟩ rfl hl.1 rfl (Nat.le_of_ble_eq_true rfl) dX11_raise_41) (fun r12 u11 H locs hw h => ?_)
      refine lv_if_ne (tgt := 54) hx hb dX11_raise_44 (by decide) (fun c13 => ?_) (fun c13 => ?_)
      · have h := h.1 (xb_t c13)
        refine lv_aload_n hx hb dX11_raise_54 rfl (lv_at hl 0 rfl) ?_
        refine x_getr (ci := 11) C hw 0 (xoM_272 hM) rfl inlX11 (by decide) rfl rfl xrM_272_0 xw_219 dX11_raise_55 ?_
        refine lv_iload_n hx hb dX11_raise_58 rfl (lv_at hl 1 rfl) ?_
        refine x_calli hw (x_runS C hw (m_X11_doorRow l C.2.2.2.2.2.2.2.2.1  h) (x_gS xw_915 xw_916 xw_5 xw_917) rfl rfl qX11_doorRow ⟨(Nat.le_of_ble_eq_true rfl), (Nat.le_of_ble_eq_true rfl)⟩ rfl hl.1 rfl (Nat.le_of_ble_eq_true rfl) dX11_raise_59) (fun r15 u14 H locs hw h => ?_)
        refine lv_iconst (v := 2) hx hb dX11_raise_62 (by decide) ?_
        refine lv_iadd hx hb dX11_raise_63 ?_
        refine lv_dup2_11 hx hb dX11_raise_64 rfl rfl ?_
        have c16 := h.1
        have h := h.2
        refine x_iald C hw (xoM_273 hM) c16 dX11_raise_65 ?_
        refine lv_iload_n hx hb dX11_raise_66 rfl (lv_at hl 2 rfl) ?_
        refine lv_iadd hx hb dX11_raise_67 ?_
        have c17 := h.1
        have h := h.2
        obtain ⟨u18, eu18⟩ : ∃ q : xM, q = si u14 273 (r15 + (2 : Int32)).toNatClampNeg ((gi u14 273 (r15 + (2 : Int32)).toNatClampNeg) + a2) := ⟨_, rfl⟩
        have h := h u18 eu18
        refine x_iast C hw (xoM_273 hM) c17 dX11_raise_68 eu18 (fun H locs hw => ?_)
        refine lv_aload_n hx hb dX11_raise_69 rfl (lv_at hl 0 rfl) ?_
        refine lv_aload_n hx hb dX11_raise_70 rfl (lv_at hl 0 rfl) ?_
        refine lv_iload_n hx hb dX11_raise_71 rfl (lv_at hl 1 rfl) ?_
        refine lv_iconst (v := 2) hx hb dX11_raise_72 (by decide) ?_
        refine x_calli hw (x_runV (ci := 11) C hw (m_X11_doorOf l C.2.2.2.2.2.2.2.2.1 hM h) (xoM_272 hM) rfl (x_gV xw_911 xw_912 xw_913 xw_5 xw_914) rfl rfl qX11_doorOf ⟨(Nat.le_of_ble_eq_true rfl), (Nat.le_of_ble_eq_true rfl)⟩ rfl hl.1 rfl (Nat.le_of_ble_eq_true rfl) dX11_raise_73) (fun r20 u19 H locs hw h => ?_)
        refine x_calli hw (x_runV (ci := 11) C hw (m_X11_gives l C.2.2.2.2.2.2.2.2.1 hM h) (xoM_272 hM) rfl (x_gV xw_731 xw_732 xw_733 xw_5 xw_734) rfl rfl qX11_gives ⟨(Nat.le_of_ble_eq_true rfl), (Nat.le_of_ble_eq_true rfl)⟩ rfl hl.1 rfl (Nat.le_of_ble_eq_true rfl) dX11_raise_76) (fun r22 u21 H locs hw h => ?_)
        exact x_iret C hw h dX11_raise_79
      · have h := h.2 (xb_f c13)
        refine lv_aload_n hx hb dX11_raise_47 rfl (lv_at hl 0 rfl) ?_
        refine lv_bipush (v := 7) hx hb dX11_raise_48 (by decide) ?_
        refine x_calli hw (x_runV (ci := 11) C hw (m_X11_refuse l C.2.2.2.2.2.2.2.2.1 hM h) (xoM_272 hM) rfl (x_gV xw_657 xw_658 xw_659 xw_5 xw_660) rfl rfl qX11_refuse ⟨(Nat.le_of_ble_eq_true rfl), (Nat.le_of_ble_eq_true rfl)⟩ rfl hl.1 rfl (Nat.le_of_ble_eq_true rfl) dX11_raise_50) (fun r24 u23 H locs hw h => ?_)
        exact x_iret C hw h dX11_raise_53
    · have h := h.2 (xb_f c8)
      refine lv_aload_n hx hb dX11_raise_22 rfl (lv_at hl 0 rfl) ?_
      refine lv_iconst (v := 1) hx hb dX11_raise_23 (by decide) ?_
      refine x_calli hw (x_runV (ci := 11) C hw (m_X11_refuse l C.2.2.2.2.2.2.2.2.1 hM h) (xoM_272 hM) rfl (x_gV xw_657 xw_658 xw_659 xw_5 xw_660) rfl rfl qX11_refuse ⟨(Nat.le_of_ble_eq_true rfl), (Nat.le_of_ble_eq_true rfl)⟩ rfl hl.1 rfl (Nat.le_of_ble_eq_true rfl) dX11_raise_24) (fun r26 u25 H locs hw h => ?_)
      exact x_iret C hw h dX11_raise_27
set_option maxHeartbeats 4000000 in
set_option maxRecDepth 100000 in
theorem m_X11_raise (l : Launch) {g : xG} (hD : x_D g) (hM : xpM g) {a1 : Int32} {a2 : Int32} {u : xM} {Qf : Int32 → xM → Prop} (h : p_X11_raise a1 a2 u Qf) : Met l yX11_raise (Cond.code yX11_raise cX11_raise 3 (some .int) :: wsL_law) (x_rm 2 42) (va_Pc [.ref (xad g 272), .int a1, .int a2] (x_B g u)) (x_Qi g Qf) 0 0 (x_A g) := by
  refine Met.ofW (cc := cX11_raise) (maxL := 3) (ret := (some .int)) (by decide) rfl ?_
  intro p e s m args below meth c s₁ B hml hv
  obtain ⟨rfl, hB⟩ := hv
  obtain ⟨C, hw⟩ := x_start B hml hD hB
  have hl := lv_entry [.ref (xad g 272), .int a1, .int a2] (n := 3) (Nat.le_of_ble_eq_true rfl)
  rw [lg_entry_eq]
  exact s_X11_raise C hM hw hl h
set_option maxHeartbeats 4000000 in
set_option maxRecDepth 100000 in
theorem s_X11_build {Qf : Int32 → xM → Prop} {a1 : Int32} (C : x_C p s m args meth c g RX11 cX11_build 2 (some .int)) (hM : xpM g) {u : xM} {H : Heap} {locs : List Loc} {ls : Array Slot} (hw : x_W g s.heap H locs u) (hl : lv_has ls 2 [(0, .ref (xad g 272)), (1, .int a1)]) (h : p_X11_build a1 u Qf) : W p l e (x_rm 4 86) s m args below meth c H locs 0 0 (MQ below (x_Qi g Qf) args s 0 0 (x_A g)) (F0 m 0 ls []) := by
  unfold p_X11_build at h
  have hx := C.1
  have hb := C.2.1
  refine lv_aload_n hx hb dX11_build_0 rfl (lv_at hl 0 rfl) ?_
  refine lv_iload_n hx hb dX11_build_1 rfl (lv_at hl 1 rfl) ?_
  refine x_callz hw (x_runV (ci := 11) C hw (m_X11_isRoom l C.2.2.2.2.2.2.2.2.1 hM h) (xoM_272 hM) rfl (x_gV xw_945 xw_946 xw_947 xw_5 xw_948) rfl rfl qX11_isRoom ⟨(Nat.le_of_ble_eq_true rfl), (Nat.le_of_ble_eq_true rfl)⟩ rfl hl.1 rfl (Nat.le_of_ble_eq_true rfl) dX11_build_2) (fun r2 u1 H locs hw h => ?_)
  refine lv_if_ne (tgt := 14) hx hb dX11_build_5 (by decide) (fun c3 => ?_) (fun c3 => ?_)
  · have h := h.1 (xb_t c3)
    refine lv_aload_n hx hb dX11_build_14 rfl (lv_at hl 0 rfl) ?_
    refine lv_iload_n hx hb dX11_build_15 rfl (lv_at hl 1 rfl) ?_
    refine lv_iconst (v := 5) hx hb dX11_build_16 (by decide) ?_
    refine x_calli hw (x_runV (ci := 11) C hw (m_X11_roomOf l C.2.2.2.2.2.2.2.2.1 hM h) (xoM_272 hM) rfl (x_gV xw_892 xw_893 xw_894 xw_5 xw_895) rfl rfl qX11_roomOf ⟨(Nat.le_of_ble_eq_true rfl), (Nat.le_of_ble_eq_true rfl)⟩ rfl hl.1 rfl (Nat.le_of_ble_eq_true rfl) dX11_build_17) (fun r5 u4 H locs hw h => ?_)
    refine lv_if_ne (tgt := 30) hx hb dX11_build_20 (by decide) (fun c6 => ?_) (fun c6 => ?_)
    · have h := h.1 c6
      refine lv_aload_n hx hb dX11_build_30 rfl (lv_at hl 0 rfl) ?_
      refine x_getr (ci := 11) C hw 0 (xoM_272 hM) rfl inlX11 (by decide) rfl rfl xrM_272_0 xw_219 dX11_build_31 ?_
      refine lv_iload_n hx hb dX11_build_34 rfl (lv_at hl 1 rfl) ?_
      refine x_calli hw (x_runS C hw (m_X11_roomRow l C.2.2.2.2.2.2.2.2.1  h) (x_gS xw_896 xw_897 xw_5 xw_898) rfl rfl qX11_roomRow ⟨(Nat.le_of_ble_eq_true rfl), (Nat.le_of_ble_eq_true rfl)⟩ rfl hl.1 rfl (Nat.le_of_ble_eq_true rfl) dX11_build_35) (fun r8 u7 H locs hw h => ?_)
      refine lv_iconst (v := 5) hx hb dX11_build_38 (by decide) ?_
      refine lv_iadd hx hb dX11_build_39 ?_
      refine lv_iconst (v := 0) hx hb dX11_build_40 (by decide) ?_
      have c9 := h.1
      have h := h.2
      obtain ⟨u10, eu10⟩ : ∃ q : xM, q = si u7 273 (r8 + (5 : Int32)).toNatClampNeg (0 : Int32) := ⟨_, rfl⟩
      have h := h u10 eu10
      refine x_iast C hw (xoM_273 hM) c9 dX11_build_41 eu10 (fun H locs hw => ?_)
      refine lv_aload_n hx hb dX11_build_42 rfl (lv_at hl 0 rfl) ?_
      refine lv_aload_n hx hb dX11_build_43 rfl (lv_at hl 0 rfl) ?_
      refine lv_iconst (v := 1) hx hb dX11_build_44 (by decide) ?_
      refine x_calli hw (x_runV (ci := 11) C hw (m_X11_setOf l C.2.2.2.2.2.2.2.2.1 hM h) (xoM_272 hM) rfl (x_gV xw_899 xw_900 xw_901 xw_5 xw_902) rfl rfl qX11_setOf ⟨(Nat.le_of_ble_eq_true rfl), (Nat.le_of_ble_eq_true rfl)⟩ rfl hl.1 rfl (Nat.le_of_ble_eq_true rfl) dX11_build_45) (fun r12 u11 H locs hw h => ?_)
      refine x_calli hw (x_runS C hw (m_X11_bits l C.2.2.2.2.2.2.2.2.1  h) (x_gS xw_1320 xw_1321 xw_5 xw_1322) rfl rfl qX11_bits ⟨(Nat.le_of_ble_eq_true rfl), (Nat.le_of_ble_eq_true rfl)⟩ rfl hl.1 rfl (Nat.le_of_ble_eq_true rfl) dX11_build_48) (fun r14 u13 H locs hw h => ?_)
      refine x_calli hw (x_runV (ci := 11) C hw (m_X11_gives l C.2.2.2.2.2.2.2.2.1 hM h) (xoM_272 hM) rfl (x_gV xw_731 xw_732 xw_733 xw_5 xw_734) rfl rfl qX11_gives ⟨(Nat.le_of_ble_eq_true rfl), (Nat.le_of_ble_eq_true rfl)⟩ rfl hl.1 rfl (Nat.le_of_ble_eq_true rfl) dX11_build_51) (fun r16 u15 H locs hw h => ?_)
      exact x_iret C hw h dX11_build_54
    · have h := h.2 c6
      refine lv_aload_n hx hb dX11_build_23 rfl (lv_at hl 0 rfl) ?_
      refine lv_bipush (v := 7) hx hb dX11_build_24 (by decide) ?_
      refine x_calli hw (x_runV (ci := 11) C hw (m_X11_refuse l C.2.2.2.2.2.2.2.2.1 hM h) (xoM_272 hM) rfl (x_gV xw_657 xw_658 xw_659 xw_5 xw_660) rfl rfl qX11_refuse ⟨(Nat.le_of_ble_eq_true rfl), (Nat.le_of_ble_eq_true rfl)⟩ rfl hl.1 rfl (Nat.le_of_ble_eq_true rfl) dX11_build_26) (fun r18 u17 H locs hw h => ?_)
      exact x_iret C hw h dX11_build_29
  · have h := h.2 (xb_f c3)
    refine lv_aload_n hx hb dX11_build_8 rfl (lv_at hl 0 rfl) ?_
    refine lv_iconst (v := 1) hx hb dX11_build_9 (by decide) ?_
    refine x_calli hw (x_runV (ci := 11) C hw (m_X11_refuse l C.2.2.2.2.2.2.2.2.1 hM h) (xoM_272 hM) rfl (x_gV xw_657 xw_658 xw_659 xw_5 xw_660) rfl rfl qX11_refuse ⟨(Nat.le_of_ble_eq_true rfl), (Nat.le_of_ble_eq_true rfl)⟩ rfl hl.1 rfl (Nat.le_of_ble_eq_true rfl) dX11_build_10) (fun r20 u19 H locs hw h => ?_)
    exact x_iret C hw h dX11_build_13
set_option maxHeartbeats 4000000 in
set_option maxRecDepth 100000 in
theorem m_X11_build (l : Launch) {g : xG} (hD : x_D g) (hM : xpM g) {a1 : Int32} {u : xM} {Qf : Int32 → xM → Prop} (h : p_X11_build a1 u Qf) : Met l yX11_build (Cond.code yX11_build cX11_build 2 (some .int) :: wsL_law) (x_rm 4 86) (va_Pc [.ref (xad g 272), .int a1] (x_B g u)) (x_Qi g Qf) 0 0 (x_A g) := by
  refine Met.ofW (cc := cX11_build) (maxL := 2) (ret := (some .int)) (by decide) rfl ?_
  intro p e s m args below meth c s₁ B hml hv
  obtain ⟨rfl, hB⟩ := hv
  obtain ⟨C, hw⟩ := x_start B hml hD hB
  have hl := lv_entry [.ref (xad g 272), .int a1] (n := 2) (Nat.le_of_ble_eq_true rfl)
  rw [lg_entry_eq]
  exact s_X11_build C hM hw hl h
set_option maxHeartbeats 4000000 in
set_option maxRecDepth 100000 in
theorem s_X11_keeps_L2 {Qf : xM → Prop} (C : x_C p s m args meth c g RX11 cX11_keeps 3 none) (hM : xpM g) : ∀ (nn : Nat) {v1 : Int32} {v2 : Int32} {u : xM} {H : Heap} {locs : List Loc} {ls : Array Slot} (hw : x_W g s.heap H locs u) (hl : lv_has ls 3 [(0, .ref (xad g 272)), (1, .int v1), (2, .int v2)]) (h : p_X11_keeps_L2 Qf nn v1 v2 u), W p l e (x_rm 0 0) s m args below meth c H locs 0 0 (MQ below (x_Qv g Qf) args s 0 0 (x_A g)) (F0 m 2 ls []) := by
  intro nn
  induction nn with
  | zero => intro v1 v2 u H locs ls hw hl h; exact h.elim
  | succ nn ih =>
    intro v1 v2 u H locs ls hw hl h
    unfold p_X11_keeps_L2 at h
    have hx := C.1
    have hb := C.2.1
    refine lv_iload_n hx hb dX11_keeps_2 rfl (lv_at hl 2 rfl) ?_
    refine lv_sipush (v := 160) hx hb dX11_keeps_3 (by decide) ?_
    refine lv_icmp_ge (tgt := 29) hx hb dX11_keeps_6 (by decide) (fun c1 => ?_) (fun c1 => ?_)
    · have h := h.1 c1
      exact x_vret C hw h dX11_keeps_29
    · have h := h.2 c1
      refine lv_aload_n hx hb dX11_keeps_9 rfl (lv_at hl 0 rfl) ?_
      refine x_getr (ci := 11) C hw 0 (xoM_272 hM) rfl inlX11 (by decide) rfl rfl xrM_272_0 xw_219 dX11_keeps_10 ?_
      refine lv_iload_n hx hb dX11_keeps_13 rfl (lv_at hl 1 rfl) ?_
      refine lv_iload_n hx hb dX11_keeps_14 rfl (lv_at hl 2 rfl) ?_
      refine lv_iadd hx hb dX11_keeps_15 ?_
      refine lv_aload_n hx hb dX11_keeps_16 rfl (lv_at hl 0 rfl) ?_
      refine x_getr (ci := 11) C hw 0 (xoM_272 hM) rfl inlX11 (by decide) rfl rfl xrM_272_0 xw_219 dX11_keeps_17 ?_
      refine lv_iload_n hx hb dX11_keeps_20 rfl (lv_at hl 2 rfl) ?_
      have c2 := h.1
      have h := h.2
      refine x_iald C hw (xoM_273 hM) c2 dX11_keeps_21 ?_
      have c3 := h.1
      have h := h.2
      obtain ⟨u4, eu4⟩ : ∃ q : xM, q = si u 273 (v1 + v2).toNatClampNeg (gi u 273 v2.toNatClampNeg) := ⟨_, rfl⟩
      have h := h u4 eu4
      refine x_iast C hw (xoM_273 hM) c3 dX11_keeps_22 eu4 (fun H locs hw => ?_)
      obtain ⟨x5, ex5⟩ : ∃ y : Int32, y = v2 + 1 := ⟨_, rfl⟩
      have h := h x5 ex5
      refine lv_iinc (v := x5) (lv' := [(2, .int x5), (0, .ref (xad g 272)), (1, .int v1)]) hx hb dX11_keeps_23 hl (k := 2) rfl (by rw [ex5]; rfl) (by decide) rfl (fun ls hl => ?_)
      refine lv_goto (tgt := 2) hx hb dX11_keeps_26 (by decide) ?_
      exact ih hw (lv_sub hl [1, 2, 0] rfl) h
set_option maxHeartbeats 4000000 in
set_option maxRecDepth 100000 in
theorem s_X11_keeps {Qf : xM → Prop} {a1 : Int32} (C : x_C p s m args meth c g RX11 cX11_keeps 3 none) (hM : xpM g) {u : xM} {H : Heap} {locs : List Loc} {ls : Array Slot} (hw : x_W g s.heap H locs u) (hl : lv_has ls 3 [(0, .ref (xad g 272)), (1, .int a1)]) (h : p_X11_keeps a1 u Qf) : W p l e (x_rm 0 0) s m args below meth c H locs 0 0 (MQ below (x_Qv g Qf) args s 0 0 (x_A g)) (F0 m 0 ls []) := by
  unfold p_X11_keeps at h
  have hx := C.1
  have hb := C.2.1
  refine lv_iconst (v := 0) hx hb dX11_keeps_0 (by decide) ?_
  refine lv_istore_n (lv' := [(2, .int 0), (0, .ref (xad g 272)), (1, .int a1)]) hx hb dX11_keeps_1 rfl hl (by decide) rfl (fun ls hl => ?_)
  obtain ⟨n9, h⟩ := h
  exact s_X11_keeps_L2 C hM n9 hw (lv_sub hl [1, 2, 0] rfl) h
set_option maxHeartbeats 4000000 in
set_option maxRecDepth 100000 in
theorem m_X11_keeps (l : Launch) {g : xG} (hD : x_D g) (hM : xpM g) {a1 : Int32} {u : xM} {Qf : xM → Prop} (h : p_X11_keeps a1 u Qf) : Met l yX11_keeps (Cond.code yX11_keeps cX11_keeps 3 none :: wsL_law) (x_rm 0 0) (va_Pc [.ref (xad g 272), .int a1] (x_B g u)) (x_Qv g Qf) 0 0 (x_A g) := by
  refine Met.ofW (cc := cX11_keeps) (maxL := 3) (ret := none) (by decide) rfl ?_
  intro p e s m args below meth c s₁ B hml hv
  obtain ⟨rfl, hB⟩ := hv
  obtain ⟨C, hw⟩ := x_start B hml hD hB
  have hl := lv_entry [.ref (xad g 272), .int a1] (n := 3) (Nat.le_of_ble_eq_true rfl)
  rw [lg_entry_eq]
  exact s_X11_keeps C hM hw hl h
set_option maxHeartbeats 4000000 in
set_option maxRecDepth 100000 in
theorem s_X11_restores_L2 {Qf : xM → Prop} (C : x_C p s m args meth c g RX11 cX11_restores 3 none) (hM : xpM g) : ∀ (nn : Nat) {v1 : Int32} {v2 : Int32} {u : xM} {H : Heap} {locs : List Loc} {ls : Array Slot} (hw : x_W g s.heap H locs u) (hl : lv_has ls 3 [(0, .ref (xad g 272)), (1, .int v1), (2, .int v2)]) (h : p_X11_restores_L2 Qf nn v1 v2 u), W p l e (x_rm 0 0) s m args below meth c H locs 0 0 (MQ below (x_Qv g Qf) args s 0 0 (x_A g)) (F0 m 2 ls []) := by
  intro nn
  induction nn with
  | zero => intro v1 v2 u H locs ls hw hl h; exact h.elim
  | succ nn ih =>
    intro v1 v2 u H locs ls hw hl h
    unfold p_X11_restores_L2 at h
    have hx := C.1
    have hb := C.2.1
    refine lv_iload_n hx hb dX11_restores_2 rfl (lv_at hl 2 rfl) ?_
    refine lv_sipush (v := 160) hx hb dX11_restores_3 (by decide) ?_
    refine lv_icmp_ge (tgt := 29) hx hb dX11_restores_6 (by decide) (fun c1 => ?_) (fun c1 => ?_)
    · have h := h.1 c1
      exact x_vret C hw h dX11_restores_29
    · have h := h.2 c1
      refine lv_aload_n hx hb dX11_restores_9 rfl (lv_at hl 0 rfl) ?_
      refine x_getr (ci := 11) C hw 0 (xoM_272 hM) rfl inlX11 (by decide) rfl rfl xrM_272_0 xw_219 dX11_restores_10 ?_
      refine lv_iload_n hx hb dX11_restores_13 rfl (lv_at hl 2 rfl) ?_
      refine lv_aload_n hx hb dX11_restores_14 rfl (lv_at hl 0 rfl) ?_
      refine x_getr (ci := 11) C hw 0 (xoM_272 hM) rfl inlX11 (by decide) rfl rfl xrM_272_0 xw_219 dX11_restores_15 ?_
      refine lv_iload_n hx hb dX11_restores_18 rfl (lv_at hl 1 rfl) ?_
      refine lv_iload_n hx hb dX11_restores_19 rfl (lv_at hl 2 rfl) ?_
      refine lv_iadd hx hb dX11_restores_20 ?_
      have c2 := h.1
      have h := h.2
      refine x_iald C hw (xoM_273 hM) c2 dX11_restores_21 ?_
      have c3 := h.1
      have h := h.2
      obtain ⟨u4, eu4⟩ : ∃ q : xM, q = si u 273 v2.toNatClampNeg (gi u 273 (v1 + v2).toNatClampNeg) := ⟨_, rfl⟩
      have h := h u4 eu4
      refine x_iast C hw (xoM_273 hM) c3 dX11_restores_22 eu4 (fun H locs hw => ?_)
      obtain ⟨x5, ex5⟩ : ∃ y : Int32, y = v2 + 1 := ⟨_, rfl⟩
      have h := h x5 ex5
      refine lv_iinc (v := x5) (lv' := [(2, .int x5), (0, .ref (xad g 272)), (1, .int v1)]) hx hb dX11_restores_23 hl (k := 2) rfl (by rw [ex5]; rfl) (by decide) rfl (fun ls hl => ?_)
      refine lv_goto (tgt := 2) hx hb dX11_restores_26 (by decide) ?_
      exact ih hw (lv_sub hl [1, 2, 0] rfl) h
set_option maxHeartbeats 4000000 in
set_option maxRecDepth 100000 in
theorem s_X11_restores {Qf : xM → Prop} {a1 : Int32} (C : x_C p s m args meth c g RX11 cX11_restores 3 none) (hM : xpM g) {u : xM} {H : Heap} {locs : List Loc} {ls : Array Slot} (hw : x_W g s.heap H locs u) (hl : lv_has ls 3 [(0, .ref (xad g 272)), (1, .int a1)]) (h : p_X11_restores a1 u Qf) : W p l e (x_rm 0 0) s m args below meth c H locs 0 0 (MQ below (x_Qv g Qf) args s 0 0 (x_A g)) (F0 m 0 ls []) := by
  unfold p_X11_restores at h
  have hx := C.1
  have hb := C.2.1
  refine lv_iconst (v := 0) hx hb dX11_restores_0 (by decide) ?_
  refine lv_istore_n (lv' := [(2, .int 0), (0, .ref (xad g 272)), (1, .int a1)]) hx hb dX11_restores_1 rfl hl (by decide) rfl (fun ls hl => ?_)
  obtain ⟨n9, h⟩ := h
  exact s_X11_restores_L2 C hM n9 hw (lv_sub hl [1, 2, 0] rfl) h
set_option maxHeartbeats 4000000 in
set_option maxRecDepth 100000 in
theorem m_X11_restores (l : Launch) {g : xG} (hD : x_D g) (hM : xpM g) {a1 : Int32} {u : xM} {Qf : xM → Prop} (h : p_X11_restores a1 u Qf) : Met l yX11_restores (Cond.code yX11_restores cX11_restores 3 none :: wsL_law) (x_rm 0 0) (va_Pc [.ref (xad g 272), .int a1] (x_B g u)) (x_Qv g Qf) 0 0 (x_A g) := by
  refine Met.ofW (cc := cX11_restores) (maxL := 3) (ret := none) (by decide) rfl ?_
  intro p e s m args below meth c s₁ B hml hv
  obtain ⟨rfl, hB⟩ := hv
  obtain ⟨C, hw⟩ := x_start B hml hD hB
  have hl := lv_entry [.ref (xad g 272), .int a1] (n := 3) (Nat.le_of_ble_eq_true rfl)
  rw [lg_entry_eq]
  exact s_X11_restores C hM hw hl h
set_option maxHeartbeats 4000000 in
set_option maxRecDepth 100000 in
theorem s_X11_isSpan {Qf : Bool → xM → Prop} {a1 : Int32} (C : x_C p s m args meth c g RX11 cX11_isSpan 1 (some .boolean)) {u : xM} {H : Heap} {locs : List Loc} {ls : Array Slot} (hw : x_W g s.heap H locs u) (hl : lv_has ls 1 [(0, .int a1)]) (h : p_X11_isSpan a1 u Qf) : W p l e (x_rm 1 25) s m args below meth c H locs 0 0 (MQ below (x_Qz g Qf) args s 0 0 (x_A g)) (F0 m 0 ls []) := by
  unfold p_X11_isSpan at h
  have hx := C.1
  have hb := C.2.1
  refine lv_iload_n hx hb dX11_isSpan_0 rfl (lv_at hl 0 rfl) ?_
  refine lv_i2l hx hb dX11_isSpan_1 rfl ?_
  refine lv_lconst (v := 0) hx hb dX11_isSpan_2 (by decide) ?_
  refine lv_ldc2 (v := 99) hx hb C.2.2.2.1 (C.2.2.2.2.1 _ xw_1196) dX11_isSpan_3 ?_
  refine x_callz hw (x_runS C hw (m_X11_isFrom l C.2.2.2.2.2.2.2.2.1  h) (x_gS xw_1197 xw_1198 xw_5 xw_1199) rfl rfl qX11_isFrom ⟨(Nat.le_of_ble_eq_true rfl), (Nat.le_of_ble_eq_true rfl)⟩ rfl hl.1 rfl (Nat.le_of_ble_eq_true rfl) dX11_isSpan_6) (fun r2 u1 H locs hw h => ?_)
  exact x_zret _ C hw h rfl dX11_isSpan_9
set_option maxHeartbeats 4000000 in
set_option maxRecDepth 100000 in
theorem m_X11_isSpan (l : Launch) {g : xG} (hD : x_D g) {a1 : Int32} {u : xM} {Qf : Bool → xM → Prop} (h : p_X11_isSpan a1 u Qf) : Met l yX11_isSpan (Cond.code yX11_isSpan cX11_isSpan 1 (some .boolean) :: wsL_law) (x_rm 1 25) (va_Pc [.int a1] (x_B g u)) (x_Qz g Qf) 0 0 (x_A g) := by
  refine Met.ofW (cc := cX11_isSpan) (maxL := 1) (ret := (some .boolean)) (by decide) rfl ?_
  intro p e s m args below meth c s₁ B hml hv
  obtain ⟨rfl, hB⟩ := hv
  obtain ⟨C, hw⟩ := x_start B hml hD hB
  have hl := lv_entry [.int a1] (n := 1) (Nat.le_of_ble_eq_true rfl)
  rw [lg_entry_eq]
  exact s_X11_isSpan C hw hl h
set_option maxHeartbeats 4000000 in
set_option maxRecDepth 100000 in
theorem s_X11_waterIn {Qf : Int32 → xM → Prop} {a1 : Int32} {a2 : Int32} (C : x_C p s m args meth c g RX11 cX11_waterIn 4 (some .int)) (hM : xpM g) {u : xM} {H : Heap} {locs : List Loc} {ls : Array Slot} (hw : x_W g s.heap H locs u) (hl : lv_has ls 4 [(0, .ref (xad g 272)), (1, .int a1), (2, .int a2)]) (h : p_X11_waterIn a1 a2 u Qf) : W p l e (x_rm 9 199) s m args below meth c H locs 0 0 (MQ below (x_Qi g Qf) args s 0 0 (x_A g)) (F0 m 0 ls []) := by
  unfold p_X11_waterIn at h
  have hx := C.1
  have hb := C.2.1
  refine lv_aload_n hx hb dX11_waterIn_0 rfl (lv_at hl 0 rfl) ?_
  refine lv_sipush (v := 3144) hx hb dX11_waterIn_1 (by decide) ?_
  refine x_callv hw (x_runV (ci := 11) C hw (m_X11_keeps l C.2.2.2.2.2.2.2.2.1 hM h) (xoM_272 hM) rfl (x_gV xw_1342 xw_1343 xw_1344 xw_5 xw_1345) rfl rfl qX11_keeps ⟨(Nat.le_of_ble_eq_true rfl), (Nat.le_of_ble_eq_true rfl)⟩ rfl hl.1 rfl (Nat.le_of_ble_eq_true rfl) dX11_waterIn_4) (fun u1 H locs hw h => ?_)
  refine lv_aload_n hx hb dX11_waterIn_7 rfl (lv_at hl 0 rfl) ?_
  refine lv_iload_n hx hb dX11_waterIn_8 rfl (lv_at hl 2 rfl) ?_
  refine x_calli hw (x_runV (ci := 11) C hw (m_X11_goes l C.2.2.2.2.2.2.2.2.1 hM h) (xoM_272 hM) rfl (x_gV xw_1200 xw_1201 xw_1202 xw_5 xw_1203) rfl rfl qX11_goes ⟨(Nat.le_of_ble_eq_true rfl), (Nat.le_of_ble_eq_true rfl)⟩ rfl hl.1 rfl (Nat.le_of_ble_eq_true rfl) dX11_waterIn_9) (fun r3 u2 H locs hw h => ?_)
  refine lv_pop hx hb dX11_waterIn_12 rfl ?_
  refine lv_iload_n hx hb dX11_waterIn_13 rfl (lv_at hl 1 rfl) ?_
  refine lv_iconst (v := -1) hx hb dX11_waterIn_14 (by decide) ?_
  refine lv_icmp_ne (tgt := 25) hx hb dX11_waterIn_15 (by decide) (fun c4 => ?_) (fun c4 => ?_)
  · have h := h.1 c4
    refine lv_aload_n hx hb dX11_waterIn_25 rfl (lv_at hl 0 rfl) ?_
    refine lv_iload_n hx hb dX11_waterIn_26 rfl (lv_at hl 1 rfl) ?_
    refine lv_iconst (v := 4) hx hb dX11_waterIn_27 (by decide) ?_
    refine x_calli hw (x_runV (ci := 11) C hw (m_X11_roomOf l C.2.2.2.2.2.2.2.2.1 hM h) (xoM_272 hM) rfl (x_gV xw_892 xw_893 xw_894 xw_5 xw_895) rfl rfl qX11_roomOf ⟨(Nat.le_of_ble_eq_true rfl), (Nat.le_of_ble_eq_true rfl)⟩ rfl hl.1 rfl (Nat.le_of_ble_eq_true rfl) dX11_waterIn_28) (fun r6 u5 H locs hw h => ?_)
    refine lv_istore_n (lv' := [(3, .int r6), (0, .ref (xad g 272)), (1, .int a1), (2, .int a2)]) hx hb dX11_waterIn_31 rfl hl (by decide) rfl (fun ls hl => ?_)
    refine lv_aload_n hx hb dX11_waterIn_32 rfl (lv_at hl 1 rfl) ?_
    refine lv_sipush (v := 3144) hx hb dX11_waterIn_33 (by decide) ?_
    refine x_callv hw (x_runV (ci := 11) C hw (m_X11_restores l C.2.2.2.2.2.2.2.2.1 hM h) (xoM_272 hM) rfl (x_gV xw_1346 xw_1347 xw_1348 xw_5 xw_1349) rfl rfl qX11_restores ⟨(Nat.le_of_ble_eq_true rfl), (Nat.le_of_ble_eq_true rfl)⟩ rfl hl.1 rfl (Nat.le_of_ble_eq_true rfl) dX11_waterIn_36) (fun u7 H locs hw h => ?_)
    refine lv_iload_n hx hb dX11_waterIn_39 rfl (lv_at hl 0 rfl) ?_
    exact x_iret C hw h dX11_waterIn_40
  · have h := h.2 c4
    refine lv_aload_n hx hb dX11_waterIn_18 rfl (lv_at hl 0 rfl) ?_
    refine x_calli hw (x_runV (ci := 11) C hw (m_X11_allWater l C.2.2.2.2.2.2.2.2.1 hM h) (xoM_272 hM) rfl (x_gV xw_888 xw_889 xw_890 xw_5 xw_891) rfl rfl qX11_allWater ⟨(Nat.le_of_ble_eq_true rfl), (Nat.le_of_ble_eq_true rfl)⟩ rfl hl.1 rfl (Nat.le_of_ble_eq_true rfl) dX11_waterIn_19) (fun r9 u8 H locs hw h => ?_)
    refine lv_goto (tgt := 31) hx hb dX11_waterIn_22 (by decide) ?_
    refine lv_istore_n (lv' := [(3, .int r9), (0, .ref (xad g 272)), (1, .int a1), (2, .int a2)]) hx hb dX11_waterIn_31 rfl hl (by decide) rfl (fun ls hl => ?_)
    refine lv_aload_n hx hb dX11_waterIn_32 rfl (lv_at hl 1 rfl) ?_
    refine lv_sipush (v := 3144) hx hb dX11_waterIn_33 (by decide) ?_
    refine x_callv hw (x_runV (ci := 11) C hw (m_X11_restores l C.2.2.2.2.2.2.2.2.1 hM h) (xoM_272 hM) rfl (x_gV xw_1346 xw_1347 xw_1348 xw_5 xw_1349) rfl rfl qX11_restores ⟨(Nat.le_of_ble_eq_true rfl), (Nat.le_of_ble_eq_true rfl)⟩ rfl hl.1 rfl (Nat.le_of_ble_eq_true rfl) dX11_waterIn_36) (fun u10 H locs hw h => ?_)
    refine lv_iload_n hx hb dX11_waterIn_39 rfl (lv_at hl 0 rfl) ?_
    exact x_iret C hw h dX11_waterIn_40
set_option maxHeartbeats 4000000 in
set_option maxRecDepth 100000 in
theorem m_X11_waterIn (l : Launch) {g : xG} (hD : x_D g) (hM : xpM g) {a1 : Int32} {a2 : Int32} {u : xM} {Qf : Int32 → xM → Prop} (h : p_X11_waterIn a1 a2 u Qf) : Met l yX11_waterIn (Cond.code yX11_waterIn cX11_waterIn 4 (some .int) :: wsL_law) (x_rm 9 199) (va_Pc [.ref (xad g 272), .int a1, .int a2] (x_B g u)) (x_Qi g Qf) 0 0 (x_A g) := by
  refine Met.ofW (cc := cX11_waterIn) (maxL := 4) (ret := (some .int)) (by decide) rfl ?_
  intro p e s m args below meth c s₁ B hml hv
  obtain ⟨rfl, hB⟩ := hv
  obtain ⟨C, hw⟩ := x_start B hml hD hB
  have hl := lv_entry [.ref (xad g 272), .int a1, .int a2] (n := 4) (Nat.le_of_ble_eq_true rfl)
  rw [lg_entry_eq]
  exact s_X11_waterIn C hM hw hl h
set_option maxHeartbeats 4000000 in
set_option maxRecDepth 100000 in
theorem s_X11_later {Qf : Int32 → xM → Prop} {a1 : Int32} {a2 : Int32} (C : x_C p s m args meth c g RX11 cX11_later 3 (some .int)) (hM : xpM g) {u : xM} {H : Heap} {locs : List Loc} {ls : Array Slot} (hw : x_W g s.heap H locs u) (hl : lv_has ls 3 [(0, .ref (xad g 272)), (1, .int a1), (2, .int a2)]) (h : p_X11_later a1 a2 u Qf) : W p l e (x_rm 10 222) s m args below meth c H locs 0 0 (MQ below (x_Qi g Qf) args s 0 0 (x_A g)) (F0 m 0 ls []) := by
  unfold p_X11_later at h
  have hx := C.1
  have hb := C.2.1
  refine lv_aload_n hx hb dX11_later_0 rfl (lv_at hl 0 rfl) ?_
  refine lv_iload_n hx hb dX11_later_1 rfl (lv_at hl 1 rfl) ?_
  refine x_callz hw (x_runV (ci := 11) C hw (m_X11_isRoom l C.2.2.2.2.2.2.2.2.1 hM h) (xoM_272 hM) rfl (x_gV xw_945 xw_946 xw_947 xw_5 xw_948) rfl rfl qX11_isRoom ⟨(Nat.le_of_ble_eq_true rfl), (Nat.le_of_ble_eq_true rfl)⟩ rfl hl.1 rfl (Nat.le_of_ble_eq_true rfl) dX11_later_2) (fun r2 u1 H locs hw h => ?_)
  refine lv_if_eq (tgt := 28) hx hb dX11_later_5 (by decide) (fun c3 => ?_) (fun c3 => ?_)
  · have h := h.1 (xb_f c3)
    refine lv_aload_n hx hb dX11_later_28 rfl (lv_at hl 0 rfl) ?_
    refine lv_iconst (v := 1) hx hb dX11_later_29 (by decide) ?_
    refine x_calli hw (x_runV (ci := 11) C hw (m_X11_refuse l C.2.2.2.2.2.2.2.2.1 hM h) (xoM_272 hM) rfl (x_gV xw_657 xw_658 xw_659 xw_5 xw_660) rfl rfl qX11_refuse ⟨(Nat.le_of_ble_eq_true rfl), (Nat.le_of_ble_eq_true rfl)⟩ rfl hl.1 rfl (Nat.le_of_ble_eq_true rfl) dX11_later_30) (fun r5 u4 H locs hw h => ?_)
    exact x_iret C hw h dX11_later_33
  · have h := h.2 (xb_t c3)
    refine lv_iload_n hx hb dX11_later_8 rfl (lv_at hl 2 rfl) ?_
    refine x_callz hw (x_runS C hw (m_X11_isSpan l C.2.2.2.2.2.2.2.2.1  h) (x_gS xw_1335 xw_1336 xw_5 xw_1337) rfl rfl qX11_isSpan ⟨(Nat.le_of_ble_eq_true rfl), (Nat.le_of_ble_eq_true rfl)⟩ rfl hl.1 rfl (Nat.le_of_ble_eq_true rfl) dX11_later_9) (fun r7 u6 H locs hw h => ?_)
    refine lv_if_eq (tgt := 28) hx hb dX11_later_12 (by decide) (fun c8 => ?_) (fun c8 => ?_)
    · have h := h.1 (xb_f c8)
      refine lv_aload_n hx hb dX11_later_28 rfl (lv_at hl 0 rfl) ?_
      refine lv_iconst (v := 1) hx hb dX11_later_29 (by decide) ?_
      refine x_calli hw (x_runV (ci := 11) C hw (m_X11_refuse l C.2.2.2.2.2.2.2.2.1 hM h) (xoM_272 hM) rfl (x_gV xw_657 xw_658 xw_659 xw_5 xw_660) rfl rfl qX11_refuse ⟨(Nat.le_of_ble_eq_true rfl), (Nat.le_of_ble_eq_true rfl)⟩ rfl hl.1 rfl (Nat.le_of_ble_eq_true rfl) dX11_later_30) (fun r10 u9 H locs hw h => ?_)
      exact x_iret C hw h dX11_later_33
    · have h := h.2 (xb_t c8)
      refine lv_aload_n hx hb dX11_later_15 rfl (lv_at hl 0 rfl) ?_
      refine lv_aload_n hx hb dX11_later_16 rfl (lv_at hl 0 rfl) ?_
      refine lv_iload_n hx hb dX11_later_17 rfl (lv_at hl 1 rfl) ?_
      refine lv_iload_n hx hb dX11_later_18 rfl (lv_at hl 2 rfl) ?_
      refine x_calli hw (x_runV (ci := 11) C hw (m_X11_waterIn l C.2.2.2.2.2.2.2.2.1 hM h) (xoM_272 hM) rfl (x_gV xw_1338 xw_1339 xw_1340 xw_5 xw_1341) rfl rfl qX11_waterIn ⟨(Nat.le_of_ble_eq_true rfl), (Nat.le_of_ble_eq_true rfl)⟩ rfl hl.1 rfl (Nat.le_of_ble_eq_true rfl) dX11_later_19) (fun r12 u11 H locs hw h => ?_)
      refine x_calli hw (x_runV (ci := 11) C hw (m_X11_gives l C.2.2.2.2.2.2.2.2.1 hM h) (xoM_272 hM) rfl (x_gV xw_731 xw_732 xw_733 xw_5 xw_734) rfl rfl qX11_gives ⟨(Nat.le_of_ble_eq_true rfl), (Nat.le_of_ble_eq_true rfl)⟩ rfl hl.1 rfl (Nat.le_of_ble_eq_true rfl) dX11_later_22) (fun r14 u13 H locs hw h => ?_)
      refine lv_goto (tgt := 33) hx hb dX11_later_25 (by decide) ?_
      exact x_iret C hw h dX11_later_33
set_option maxHeartbeats 4000000 in
set_option maxRecDepth 100000 in
theorem m_X11_later (l : Launch) {g : xG} (hD : x_D g) (hM : xpM g) {a1 : Int32} {a2 : Int32} {u : xM} {Qf : Int32 → xM → Prop} (h : p_X11_later a1 a2 u Qf) : Met l yX11_later (Cond.code yX11_later cX11_later 3 (some .int) :: wsL_law) (x_rm 10 222) (va_Pc [.ref (xad g 272), .int a1, .int a2] (x_B g u)) (x_Qi g Qf) 0 0 (x_A g) := by
  refine Met.ofW (cc := cX11_later) (maxL := 3) (ret := (some .int)) (by decide) rfl ?_
  intro p e s m args below meth c s₁ B hml hv
  obtain ⟨rfl, hB⟩ := hv
  obtain ⟨C, hw⟩ := x_start B hml hD hB
  have hl := lv_entry [.ref (xad g 272), .int a1, .int a2] (n := 3) (Nat.le_of_ble_eq_true rfl)
  rw [lg_entry_eq]
  exact s_X11_later C hM hw hl h
set_option maxHeartbeats 4000000 in
set_option maxRecDepth 100000 in
theorem s_X11_allLater {Qf : Int32 → xM → Prop} {a1 : Int32} (C : x_C p s m args meth c g RX11 cX11_allLater 2 (some .int)) (hM : xpM g) {u : xM} {H : Heap} {locs : List Loc} {ls : Array Slot} (hw : x_W g s.heap H locs u) (hl : lv_has ls 2 [(0, .ref (xad g 272)), (1, .int a1)]) (h : p_X11_allLater a1 u Qf) : W p l e (x_rm 10 222) s m args below meth c H locs 0 0 (MQ below (x_Qi g Qf) args s 0 0 (x_A g)) (F0 m 0 ls []) := by
  unfold p_X11_allLater at h
  have hx := C.1
  have hb := C.2.1
  refine lv_iload_n hx hb dX11_allLater_0 rfl (lv_at hl 1 rfl) ?_
  refine x_callz hw (x_runS C hw (m_X11_isSpan l C.2.2.2.2.2.2.2.2.1  h) (x_gS xw_1335 xw_1336 xw_5 xw_1337) rfl rfl qX11_isSpan ⟨(Nat.le_of_ble_eq_true rfl), (Nat.le_of_ble_eq_true rfl)⟩ rfl hl.1 rfl (Nat.le_of_ble_eq_true rfl) dX11_allLater_1) (fun r2 u1 H locs hw h => ?_)
  refine lv_if_eq (tgt := 20) hx hb dX11_allLater_4 (by decide) (fun c3 => ?_) (fun c3 => ?_)
  · have h := h.1 (xb_f c3)
    refine lv_aload_n hx hb dX11_allLater_20 rfl (lv_at hl 0 rfl) ?_
    refine lv_iconst (v := 1) hx hb dX11_allLater_21 (by decide) ?_
    refine x_calli hw (x_runV (ci := 11) C hw (m_X11_refuse l C.2.2.2.2.2.2.2.2.1 hM h) (xoM_272 hM) rfl (x_gV xw_657 xw_658 xw_659 xw_5 xw_660) rfl rfl qX11_refuse ⟨(Nat.le_of_ble_eq_true rfl), (Nat.le_of_ble_eq_true rfl)⟩ rfl hl.1 rfl (Nat.le_of_ble_eq_true rfl) dX11_allLater_22) (fun r5 u4 H locs hw h => ?_)
    exact x_iret C hw h dX11_allLater_25
  · have h := h.2 (xb_t c3)
    refine lv_aload_n hx hb dX11_allLater_7 rfl (lv_at hl 0 rfl) ?_
    refine lv_aload_n hx hb dX11_allLater_8 rfl (lv_at hl 0 rfl) ?_
    refine lv_iconst (v := -1) hx hb dX11_allLater_9 (by decide) ?_
    refine lv_iload_n hx hb dX11_allLater_10 rfl (lv_at hl 1 rfl) ?_
    refine x_calli hw (x_runV (ci := 11) C hw (m_X11_waterIn l C.2.2.2.2.2.2.2.2.1 hM h) (xoM_272 hM) rfl (x_gV xw_1338 xw_1339 xw_1340 xw_5 xw_1341) rfl rfl qX11_waterIn ⟨(Nat.le_of_ble_eq_true rfl), (Nat.le_of_ble_eq_true rfl)⟩ rfl hl.1 rfl (Nat.le_of_ble_eq_true rfl) dX11_allLater_11) (fun r7 u6 H locs hw h => ?_)
    refine x_calli hw (x_runV (ci := 11) C hw (m_X11_gives l C.2.2.2.2.2.2.2.2.1 hM h) (xoM_272 hM) rfl (x_gV xw_731 xw_732 xw_733 xw_5 xw_734) rfl rfl qX11_gives ⟨(Nat.le_of_ble_eq_true rfl), (Nat.le_of_ble_eq_true rfl)⟩ rfl hl.1 rfl (Nat.le_of_ble_eq_true rfl) dX11_allLater_14) (fun r9 u8 H locs hw h => ?_)
    refine lv_goto (tgt := 25) hx hb dX11_allLater_17 (by decide) ?_
    exact x_iret C hw h dX11_allLater_25
set_option maxHeartbeats 4000000 in
set_option maxRecDepth 100000 in
theorem m_X11_allLater (l : Launch) {g : xG} (hD : x_D g) (hM : xpM g) {a1 : Int32} {u : xM} {Qf : Int32 → xM → Prop} (h : p_X11_allLater a1 u Qf) : Met l yX11_allLater (Cond.code yX11_allLater cX11_allLater 2 (some .int) :: wsL_law) (x_rm 10 222) (va_Pc [.ref (xad g 272), .int a1] (x_B g u)) (x_Qi g Qf) 0 0 (x_A g) := by
  refine Met.ofW (cc := cX11_allLater) (maxL := 2) (ret := (some .int)) (by decide) rfl ?_
  intro p e s m args below meth c s₁ B hml hv
  obtain ⟨rfl, hB⟩ := hv
  obtain ⟨C, hw⟩ := x_start B hml hD hB
  have hl := lv_entry [.ref (xad g 272), .int a1] (n := 2) (Nat.le_of_ble_eq_true rfl)
  rw [lg_entry_eq]
  exact s_X11_allLater C hM hw hl h
set_option maxHeartbeats 4000000 in
set_option maxRecDepth 100000 in
theorem s_X11_hoursTill_L55 {Qf : Int32 → xM → Prop} (C : x_C p s m args meth c g RX11 cX11_hoursTill 4 (some .int)) (hM : xpM g) {v3 : Int32} {u : xM} {H : Heap} {locs : List Loc} {ls : Array Slot} (hw : x_W g s.heap H locs u) (hl : lv_has ls 4 [(0, .ref (xad g 272)), (3, .int v3)]) (h : p_X11_hoursTill_L55 Qf v3 u) : W p l e (x_rm 8 176) s m args below meth c H locs 0 0 (MQ below (x_Qi g Qf) args s 0 0 (x_A g)) (F0 m 55 ls []) := by
  unfold p_X11_hoursTill_L55 at h
  have hx := C.1
  have hb := C.2.1
  refine lv_aload_n hx hb dX11_hoursTill_55 rfl (lv_at hl 0 rfl) ?_
  refine lv_sipush (v := 3144) hx hb dX11_hoursTill_56 (by decide) ?_
  refine x_callv hw (x_runV (ci := 11) C hw (m_X11_restores l C.2.2.2.2.2.2.2.2.1 hM h) (xoM_272 hM) rfl (x_gV xw_1346 xw_1347 xw_1348 xw_5 xw_1349) rfl rfl qX11_restores ⟨(Nat.le_of_ble_eq_true rfl), (Nat.le_of_ble_eq_true rfl)⟩ rfl hl.1 rfl (Nat.le_of_ble_eq_true rfl) dX11_hoursTill_59) (fun u1 H locs hw h => ?_)
  refine lv_iload_n hx hb dX11_hoursTill_62 rfl (lv_at hl 1 rfl) ?_
  refine lv_bipush (v := 99) hx hb dX11_hoursTill_63 (by decide) ?_
  refine lv_icmp_le (tgt := 72) hx hb dX11_hoursTill_65 (by decide) (fun c2 => ?_) (fun c2 => ?_)
  · have h := h.1 c2
    refine lv_iload_n hx hb dX11_hoursTill_72 rfl (lv_at hl 1 rfl) ?_
    exact x_iret C hw h dX11_hoursTill_73
  · have h := h.2 c2
    refine lv_iconst (v := -1) hx hb dX11_hoursTill_68 (by decide) ?_
    refine lv_goto (tgt := 73) hx hb dX11_hoursTill_69 (by decide) ?_
    exact x_iret C hw h dX11_hoursTill_73
set_option maxHeartbeats 4000000 in
set_option maxRecDepth 100000 in
theorem s_X11_hoursTill_L44 {Qf : Int32 → xM → Prop} {K9 : Int32 → Int32 → Int32 → xM → Prop} (C : x_C p s m args meth c g RX11 cX11_hoursTill 4 (some .int)) (hM : xpM g) (hK9 : ∀ {v1 : Int32} {v2 : Int32} {v3 : Int32} {u : xM} {H : Heap} {locs : List Loc} {ls : Array Slot}, x_W g s.heap H locs u → lv_has ls 4 [(0, .ref (xad g 272)), (1, .int v1), (2, .int v2), (3, .int v3)] → K9 v1 v2 v3 u → W p l e (x_rm 8 176) s m args below meth c H locs 0 0 (MQ below (x_Qi g Qf) args s 0 0 (x_A g)) (F0 m 9 ls [])) {v1 : Int32} {v2 : Int32} {v3 : Int32} {u : xM} {H : Heap} {locs : List Loc} {ls : Array Slot} (hw : x_W g s.heap H locs u) (hl : lv_has ls 4 [(0, .ref (xad g 272)), (1, .int v1), (2, .int v2), (3, .int v3)]) (h : p_X11_hoursTill_L44 Qf K9 v1 v2 v3 u) : W p l e (x_rm 8 176) s m args below meth c H locs 0 0 (MQ below (x_Qi g Qf) args s 0 0 (x_A g)) (F0 m 44 ls []) := by
  unfold p_X11_hoursTill_L44 at h
  have hx := C.1
  have hb := C.2.1
  refine lv_aload_n hx hb dX11_hoursTill_44 rfl (lv_at hl 0 rfl) ?_
  refine x_calli hw (x_runV (ci := 11) C hw (m_X11_goesBy l C.2.2.2.2.2.2.2.2.1 hM h) (xoM_272 hM) rfl (x_gV xw_1204 xw_1205 xw_1206 xw_5 xw_1207) rfl rfl qX11_goesBy ⟨(Nat.le_of_ble_eq_true rfl), (Nat.le_of_ble_eq_true rfl)⟩ rfl hl.1 rfl (Nat.le_of_ble_eq_true rfl) dX11_hoursTill_45) (fun r2 u1 H locs hw h => ?_)
  refine lv_pop hx hb dX11_hoursTill_48 rfl ?_
  obtain ⟨x3, ex3⟩ : ∃ y : Int32, y = v3 + 1 := ⟨_, rfl⟩
  have h := h x3 ex3
  refine lv_iinc (v := x3) (lv' := [(3, .int x3), (0, .ref (xad g 272)), (1, .int v1), (2, .int v2)]) hx hb dX11_hoursTill_49 hl (k := 3) rfl (by rw [ex3]; rfl) (by decide) rfl (fun ls hl => ?_)
  refine lv_goto (tgt := 9) hx hb dX11_hoursTill_52 (by decide) ?_
  exact hK9 hw (lv_sub hl [1, 2, 3, 0] rfl) h
set_option maxHeartbeats 4000000 in
set_option maxRecDepth 100000 in
theorem s_X11_hoursTill_L9 {Qf : Int32 → xM → Prop} (C : x_C p s m args meth c g RX11 cX11_hoursTill 4 (some .int)) (hM : xpM g) : ∀ (nn : Nat) {v1 : Int32} {v2 : Int32} {v3 : Int32} {u : xM} {H : Heap} {locs : List Loc} {ls : Array Slot} (hw : x_W g s.heap H locs u) (hl : lv_has ls 4 [(0, .ref (xad g 272)), (1, .int v1), (2, .int v2), (3, .int v3)]) (h : p_X11_hoursTill_L9 Qf nn v1 v2 v3 u), W p l e (x_rm 8 176) s m args below meth c H locs 0 0 (MQ below (x_Qi g Qf) args s 0 0 (x_A g)) (F0 m 9 ls []) := by
  intro nn
  induction nn with
  | zero => intro v1 v2 v3 u H locs ls hw hl h; exact h.elim
  | succ nn ih =>
    intro v1 v2 v3 u H locs ls hw hl h
    unfold p_X11_hoursTill_L9 at h
    have hx := C.1
    have hb := C.2.1
    refine lv_iload_n hx hb dX11_hoursTill_9 rfl (lv_at hl 3 rfl) ?_
    refine lv_bipush (v := 99) hx hb dX11_hoursTill_10 (by decide) ?_
    refine lv_icmp_gt (tgt := 55) hx hb dX11_hoursTill_12 (by decide) (fun c1 => ?_) (fun c1 => ?_)
    · have h := h.1 c1
      exact s_X11_hoursTill_L55 C hM hw (lv_sub hl [0, 3] rfl) h
    · have h := h.2 c1
      refine lv_iload_n hx hb dX11_hoursTill_15 rfl (lv_at hl 1 rfl) ?_
      refine lv_iconst (v := 2) hx hb dX11_hoursTill_16 (by decide) ?_
      refine lv_icmp_ne (tgt := 31) hx hb dX11_hoursTill_17 (by decide) (fun c2 => ?_) (fun c2 => ?_)
      · have h := h.1 c2
        refine lv_aload_n hx hb dX11_hoursTill_31 rfl (lv_at hl 0 rfl) ?_
        refine lv_aload_n hx hb dX11_hoursTill_32 rfl (lv_at hl 0 rfl) ?_
        refine lv_iload_n hx hb dX11_hoursTill_33 rfl (lv_at hl 1 rfl) ?_
        refine x_calli hw (x_runV (ci := 11) C hw (m_X11_setOf l C.2.2.2.2.2.2.2.2.1 hM h) (xoM_272 hM) rfl (x_gV xw_899 xw_900 xw_901 xw_5 xw_902) rfl rfl qX11_setOf ⟨(Nat.le_of_ble_eq_true rfl), (Nat.le_of_ble_eq_true rfl)⟩ rfl hl.1 rfl (Nat.le_of_ble_eq_true rfl) dX11_hoursTill_34) (fun r4 u3 H locs hw h => ?_)
        refine lv_iload_n hx hb dX11_hoursTill_37 rfl (lv_at hl 2 rfl) ?_
        refine x_callz hw (x_runV (ci := 11) C hw (m_X11_isIn l C.2.2.2.2.2.2.2.2.1 hM h) (xoM_272 hM) rfl (x_gV xw_918 xw_919 xw_920 xw_5 xw_921) rfl rfl qX11_isIn ⟨(Nat.le_of_ble_eq_true rfl), (Nat.le_of_ble_eq_true rfl)⟩ rfl hl.1 rfl (Nat.le_of_ble_eq_true rfl) dX11_hoursTill_38) (fun r6 u5 H locs hw h => ?_)
        refine lv_if_ne (tgt := 55) hx hb dX11_hoursTill_41 (by decide) (fun c7 => ?_) (fun c7 => ?_)
        · have h := h.1 (xb_t c7)
          exact s_X11_hoursTill_L55 C hM hw (lv_sub hl [0, 3] rfl) h
        · have h := h.2 (xb_f c7)
          exact s_X11_hoursTill_L44 C hM (fun hw hl h => ih hw hl h) hw (lv_sub hl [0, 1, 2, 3] rfl) h
      · have h := h.2 c2
        refine lv_aload_n hx hb dX11_hoursTill_20 rfl (lv_at hl 0 rfl) ?_
        refine lv_iconst (v := 0) hx hb dX11_hoursTill_21 (by decide) ?_
        refine x_calli hw (x_runV (ci := 11) C hw (m_X11_setOf l C.2.2.2.2.2.2.2.2.1 hM h) (xoM_272 hM) rfl (x_gV xw_899 xw_900 xw_901 xw_5 xw_902) rfl rfl qX11_setOf ⟨(Nat.le_of_ble_eq_true rfl), (Nat.le_of_ble_eq_true rfl)⟩ rfl hl.1 rfl (Nat.le_of_ble_eq_true rfl) dX11_hoursTill_22) (fun r9 u8 H locs hw h => ?_)
        refine lv_if_eq (tgt := 55) hx hb dX11_hoursTill_25 (by decide) (fun c10 => ?_) (fun c10 => ?_)
        · have h := h.1 c10
          exact s_X11_hoursTill_L55 C hM hw (lv_sub hl [0, 3] rfl) h
        · have h := h.2 c10
          refine lv_goto (tgt := 44) hx hb dX11_hoursTill_28 (by decide) ?_
          exact s_X11_hoursTill_L44 C hM (fun hw hl h => ih hw hl h) hw (lv_sub hl [0, 1, 2, 3] rfl) h
set_option maxHeartbeats 4000000 in
set_option maxRecDepth 100000 in
theorem s_X11_hoursTill {Qf : Int32 → xM → Prop} {a1 : Int32} {a2 : Int32} (C : x_C p s m args meth c g RX11 cX11_hoursTill 4 (some .int)) (hM : xpM g) {u : xM} {H : Heap} {locs : List Loc} {ls : Array Slot} (hw : x_W g s.heap H locs u) (hl : lv_has ls 4 [(0, .ref (xad g 272)), (1, .int a1), (2, .int a2)]) (h : p_X11_hoursTill a1 a2 u Qf) : W p l e (x_rm 8 176) s m args below meth c H locs 0 0 (MQ below (x_Qi g Qf) args s 0 0 (x_A g)) (F0 m 0 ls []) := by
  unfold p_X11_hoursTill at h
  have hx := C.1
  have hb := C.2.1
  refine lv_aload_n hx hb dX11_hoursTill_0 rfl (lv_at hl 0 rfl) ?_
  refine lv_sipush (v := 3144) hx hb dX11_hoursTill_1 (by decide) ?_
  refine x_callv hw (x_runV (ci := 11) C hw (m_X11_keeps l C.2.2.2.2.2.2.2.2.1 hM h) (xoM_272 hM) rfl (x_gV xw_1342 xw_1343 xw_1344 xw_5 xw_1345) rfl rfl qX11_keeps ⟨(Nat.le_of_ble_eq_true rfl), (Nat.le_of_ble_eq_true rfl)⟩ rfl hl.1 rfl (Nat.le_of_ble_eq_true rfl) dX11_hoursTill_4) (fun u1 H locs hw h => ?_)
  refine lv_iconst (v := 0) hx hb dX11_hoursTill_7 (by decide) ?_
  refine lv_istore_n (lv' := [(3, .int 0), (0, .ref (xad g 272)), (1, .int a1), (2, .int a2)]) hx hb dX11_hoursTill_8 rfl hl (by decide) rfl (fun ls hl => ?_)
  obtain ⟨n9, h⟩ := h
  exact s_X11_hoursTill_L9 C hM n9 hw (lv_sub hl [1, 2, 3, 0] rfl) h
set_option maxHeartbeats 4000000 in
set_option maxRecDepth 100000 in
theorem m_X11_hoursTill (l : Launch) {g : xG} (hD : x_D g) (hM : xpM g) {a1 : Int32} {a2 : Int32} {u : xM} {Qf : Int32 → xM → Prop} (h : p_X11_hoursTill a1 a2 u Qf) : Met l yX11_hoursTill (Cond.code yX11_hoursTill cX11_hoursTill 4 (some .int) :: wsL_law) (x_rm 8 176) (va_Pc [.ref (xad g 272), .int a1, .int a2] (x_B g u)) (x_Qi g Qf) 0 0 (x_A g) := by
  refine Met.ofW (cc := cX11_hoursTill) (maxL := 4) (ret := (some .int)) (by decide) rfl ?_
  intro p e s m args below meth c s₁ B hml hv
  obtain ⟨rfl, hB⟩ := hv
  obtain ⟨C, hw⟩ := x_start B hml hD hB
  have hl := lv_entry [.ref (xad g 272), .int a1, .int a2] (n := 4) (Nat.le_of_ble_eq_true rfl)
  rw [lg_entry_eq]
  exact s_X11_hoursTill C hM hw hl h
set_option maxHeartbeats 4000000 in
set_option maxRecDepth 100000 in
theorem s_X11_wetIn {Qf : Int32 → xM → Prop} {a1 : Int32} (C : x_C p s m args meth c g RX11 cX11_wetIn 2 (some .int)) (hM : xpM g) {u : xM} {H : Heap} {locs : List Loc} {ls : Array Slot} (hw : x_W g s.heap H locs u) (hl : lv_has ls 2 [(0, .ref (xad g 272)), (1, .int a1)]) (h : p_X11_wetIn a1 u Qf) : W p l e (x_rm 9 199) s m args below meth c H locs 0 0 (MQ below (x_Qi g Qf) args s 0 0 (x_A g)) (F0 m 0 ls []) := by
  unfold p_X11_wetIn at h
  have hx := C.1
  have hb := C.2.1
  refine lv_aload_n hx hb dX11_wetIn_0 rfl (lv_at hl 0 rfl) ?_
  refine lv_iload_n hx hb dX11_wetIn_1 rfl (lv_at hl 1 rfl) ?_
  refine x_callz hw (x_runV (ci := 11) C hw (m_X11_isRoom l C.2.2.2.2.2.2.2.2.1 hM h) (xoM_272 hM) rfl (x_gV xw_945 xw_946 xw_947 xw_5 xw_948) rfl rfl qX11_isRoom ⟨(Nat.le_of_ble_eq_true rfl), (Nat.le_of_ble_eq_true rfl)⟩ rfl hl.1 rfl (Nat.le_of_ble_eq_true rfl) dX11_wetIn_2) (fun r2 u1 H locs hw h => ?_)
  refine lv_if_eq (tgt := 21) hx hb dX11_wetIn_5 (by decide) (fun c3 => ?_) (fun c3 => ?_)
  · have h := h.1 (xb_f c3)
    refine lv_aload_n hx hb dX11_wetIn_21 rfl (lv_at hl 0 rfl) ?_
    refine lv_iconst (v := 1) hx hb dX11_wetIn_22 (by decide) ?_
    refine x_calli hw (x_runV (ci := 11) C hw (m_X11_refuse l C.2.2.2.2.2.2.2.2.1 hM h) (xoM_272 hM) rfl (x_gV xw_657 xw_658 xw_659 xw_5 xw_660) rfl rfl qX11_refuse ⟨(Nat.le_of_ble_eq_true rfl), (Nat.le_of_ble_eq_true rfl)⟩ rfl hl.1 rfl (Nat.le_of_ble_eq_true rfl) dX11_wetIn_23) (fun r5 u4 H locs hw h => ?_)
    exact x_iret C hw h dX11_wetIn_26
  · have h := h.2 (xb_t c3)
    refine lv_aload_n hx hb dX11_wetIn_8 rfl (lv_at hl 0 rfl) ?_
    refine lv_aload_n hx hb dX11_wetIn_9 rfl (lv_at hl 0 rfl) ?_
    refine lv_iconst (v := 0) hx hb dX11_wetIn_10 (by decide) ?_
    refine lv_iload_n hx hb dX11_wetIn_11 rfl (lv_at hl 1 rfl) ?_
    refine x_calli hw (x_runV (ci := 11) C hw (m_X11_hoursTill l C.2.2.2.2.2.2.2.2.1 hM h) (xoM_272 hM) rfl (x_gV xw_1373 xw_1374 xw_1375 xw_5 xw_1376) rfl rfl qX11_hoursTill ⟨(Nat.le_of_ble_eq_true rfl), (Nat.le_of_ble_eq_true rfl)⟩ rfl hl.1 rfl (Nat.le_of_ble_eq_true rfl) dX11_wetIn_12) (fun r7 u6 H locs hw h => ?_)
    refine x_calli hw (x_runV (ci := 11) C hw (m_X11_orNone l C.2.2.2.2.2.2.2.2.1 hM h) (xoM_272 hM) rfl (x_gV xw_1094 xw_1095 xw_1096 xw_5 xw_1097) rfl rfl qX11_orNone ⟨(Nat.le_of_ble_eq_true rfl), (Nat.le_of_ble_eq_true rfl)⟩ rfl hl.1 rfl (Nat.le_of_ble_eq_true rfl) dX11_wetIn_15) (fun r9 u8 H locs hw h => ?_)
    refine lv_goto (tgt := 26) hx hb dX11_wetIn_18 (by decide) ?_
    exact x_iret C hw h dX11_wetIn_26
set_option maxHeartbeats 4000000 in
set_option maxRecDepth 100000 in
theorem m_X11_wetIn (l : Launch) {g : xG} (hD : x_D g) (hM : xpM g) {a1 : Int32} {u : xM} {Qf : Int32 → xM → Prop} (h : p_X11_wetIn a1 u Qf) : Met l yX11_wetIn (Cond.code yX11_wetIn cX11_wetIn 2 (some .int) :: wsL_law) (x_rm 9 199) (va_Pc [.ref (xad g 272), .int a1] (x_B g u)) (x_Qi g Qf) 0 0 (x_A g) := by
  refine Met.ofW (cc := cX11_wetIn) (maxL := 2) (ret := (some .int)) (by decide) rfl ?_
  intro p e s m args below meth c s₁ B hml hv
  obtain ⟨rfl, hB⟩ := hv
  obtain ⟨C, hw⟩ := x_start B hml hD hB
  have hl := lv_entry [.ref (xad g 272), .int a1] (n := 2) (Nat.le_of_ble_eq_true rfl)
  rw [lg_entry_eq]
  exact s_X11_wetIn C hM hw hl h
set_option maxHeartbeats 4000000 in
set_option maxRecDepth 100000 in
theorem s_X11_drownsIn {Qf : Int32 → xM → Prop} {a1 : Int32} (C : x_C p s m args meth c g RX11 cX11_drownsIn 2 (some .int)) (hM : xpM g) {u : xM} {H : Heap} {locs : List Loc} {ls : Array Slot} (hw : x_W g s.heap H locs u) (hl : lv_has ls 2 [(0, .ref (xad g 272)), (1, .int a1)]) (h : p_X11_drownsIn a1 u Qf) : W p l e (x_rm 9 199) s m args below meth c H locs 0 0 (MQ below (x_Qi g Qf) args s 0 0 (x_A g)) (F0 m 0 ls []) := by
  unfold p_X11_drownsIn at h
  have hx := C.1
  have hb := C.2.1
  refine lv_aload_n hx hb dX11_drownsIn_0 rfl (lv_at hl 0 rfl) ?_
  refine lv_iload_n hx hb dX11_drownsIn_1 rfl (lv_at hl 1 rfl) ?_
  refine x_callz hw (x_runV (ci := 11) C hw (m_X11_isRoom l C.2.2.2.2.2.2.2.2.1 hM h) (xoM_272 hM) rfl (x_gV xw_945 xw_946 xw_947 xw_5 xw_948) rfl rfl qX11_isRoom ⟨(Nat.le_of_ble_eq_true rfl), (Nat.le_of_ble_eq_true rfl)⟩ rfl hl.1 rfl (Nat.le_of_ble_eq_true rfl) dX11_drownsIn_2) (fun r2 u1 H locs hw h => ?_)
  refine lv_if_eq (tgt := 21) hx hb dX11_drownsIn_5 (by decide) (fun c3 => ?_) (fun c3 => ?_)
  · have h := h.1 (xb_f c3)
    refine lv_aload_n hx hb dX11_drownsIn_21 rfl (lv_at hl 0 rfl) ?_
    refine lv_iconst (v := 1) hx hb dX11_drownsIn_22 (by decide) ?_
    refine x_calli hw (x_runV (ci := 11) C hw (m_X11_refuse l C.2.2.2.2.2.2.2.2.1 hM h) (xoM_272 hM) rfl (x_gV xw_657 xw_658 xw_659 xw_5 xw_660) rfl rfl qX11_refuse ⟨(Nat.le_of_ble_eq_true rfl), (Nat.le_of_ble_eq_true rfl)⟩ rfl hl.1 rfl (Nat.le_of_ble_eq_true rfl) dX11_drownsIn_23) (fun r5 u4 H locs hw h => ?_)
    exact x_iret C hw h dX11_drownsIn_26
  · have h := h.2 (xb_t c3)
    refine lv_aload_n hx hb dX11_drownsIn_8 rfl (lv_at hl 0 rfl) ?_
    refine lv_aload_n hx hb dX11_drownsIn_9 rfl (lv_at hl 0 rfl) ?_
    refine lv_iconst (v := 1) hx hb dX11_drownsIn_10 (by decide) ?_
    refine lv_iload_n hx hb dX11_drownsIn_11 rfl (lv_at hl 1 rfl) ?_
    refine x_calli hw (x_runV (ci := 11) C hw (m_X11_hoursTill l C.2.2.2.2.2.2.2.2.1 hM h) (xoM_272 hM) rfl (x_gV xw_1373 xw_1374 xw_1375 xw_5 xw_1376) rfl rfl qX11_hoursTill ⟨(Nat.le_of_ble_eq_true rfl), (Nat.le_of_ble_eq_true rfl)⟩ rfl hl.1 rfl (Nat.le_of_ble_eq_true rfl) dX11_drownsIn_12) (fun r7 u6 H locs hw h => ?_)
    refine x_calli hw (x_runV (ci := 11) C hw (m_X11_orNone l C.2.2.2.2.2.2.2.2.1 hM h) (xoM_272 hM) rfl (x_gV xw_1094 xw_1095 xw_1096 xw_5 xw_1097) rfl rfl qX11_orNone ⟨(Nat.le_of_ble_eq_true rfl), (Nat.le_of_ble_eq_true rfl)⟩ rfl hl.1 rfl (Nat.le_of_ble_eq_true rfl) dX11_drownsIn_15) (fun r9 u8 H locs hw h => ?_)
    refine lv_goto (tgt := 26) hx hb dX11_drownsIn_18 (by decide) ?_
    exact x_iret C hw h dX11_drownsIn_26
set_option maxHeartbeats 4000000 in
set_option maxRecDepth 100000 in
theorem m_X11_drownsIn (l : Launch) {g : xG} (hD : x_D g) (hM : xpM g) {a1 : Int32} {u : xM} {Qf : Int32 → xM → Prop} (h : p_X11_drownsIn a1 u Qf) : Met l yX11_drownsIn (Cond.code yX11_drownsIn cX11_drownsIn 2 (some .int) :: wsL_law) (x_rm 9 199) (va_Pc [.ref (xad g 272), .int a1] (x_B g u)) (x_Qi g Qf) 0 0 (x_A g) := by
  refine Met.ofW (cc := cX11_drownsIn) (maxL := 2) (ret := (some .int)) (by decide) rfl ?_
  intro p e s m args below meth c s₁ B hml hv
  obtain ⟨rfl, hB⟩ := hv
  obtain ⟨C, hw⟩ := x_start B hml hD hB
  have hl := lv_entry [.ref (xad g 272), .int a1] (n := 2) (Nat.le_of_ble_eq_true rfl)
  rw [lg_entry_eq]
  exact s_X11_drownsIn C hM hw hl h
set_option maxHeartbeats 4000000 in
set_option maxRecDepth 100000 in
theorem s_X11_dryIn {Qf : Int32 → xM → Prop} (C : x_C p s m args meth c g RX11 cX11_dryIn 1 (some .int)) (hM : xpM g) {u : xM} {H : Heap} {locs : List Loc} {ls : Array Slot} (hw : x_W g s.heap H locs u) (hl : lv_has ls 1 [(0, .ref (xad g 272))]) (h : p_X11_dryIn  u Qf) : W p l e (x_rm 9 199) s m args below meth c H locs 0 0 (MQ below (x_Qi g Qf) args s 0 0 (x_A g)) (F0 m 0 ls []) := by
  unfold p_X11_dryIn at h
  have hx := C.1
  have hb := C.2.1
  refine lv_aload_n hx hb dX11_dryIn_0 rfl (lv_at hl 0 rfl) ?_
  refine lv_aload_n hx hb dX11_dryIn_1 rfl (lv_at hl 0 rfl) ?_
  refine lv_iconst (v := 2) hx hb dX11_dryIn_2 (by decide) ?_
  refine lv_iconst (v := -1) hx hb dX11_dryIn_3 (by decide) ?_
  refine x_calli hw (x_runV (ci := 11) C hw (m_X11_hoursTill l C.2.2.2.2.2.2.2.2.1 hM h) (xoM_272 hM) rfl (x_gV xw_1373 xw_1374 xw_1375 xw_5 xw_1376) rfl rfl qX11_hoursTill ⟨(Nat.le_of_ble_eq_true rfl), (Nat.le_of_ble_eq_true rfl)⟩ rfl hl.1 rfl (Nat.le_of_ble_eq_true rfl) dX11_dryIn_4) (fun r2 u1 H locs hw h => ?_)
  refine x_calli hw (x_runV (ci := 11) C hw (m_X11_orNone l C.2.2.2.2.2.2.2.2.1 hM h) (xoM_272 hM) rfl (x_gV xw_1094 xw_1095 xw_1096 xw_5 xw_1097) rfl rfl qX11_orNone ⟨(Nat.le_of_ble_eq_true rfl), (Nat.le_of_ble_eq_true rfl)⟩ rfl hl.1 rfl (Nat.le_of_ble_eq_true rfl) dX11_dryIn_7) (fun r4 u3 H locs hw h => ?_)
  exact x_iret C hw h dX11_dryIn_10
set_option maxHeartbeats 4000000 in
set_option maxRecDepth 100000 in
theorem m_X11_dryIn (l : Launch) {g : xG} (hD : x_D g) (hM : xpM g) {u : xM} {Qf : Int32 → xM → Prop} (h : p_X11_dryIn  u Qf) : Met l yX11_dryIn (Cond.code yX11_dryIn cX11_dryIn 1 (some .int) :: wsL_law) (x_rm 9 199) (va_Pc [.ref (xad g 272)] (x_B g u)) (x_Qi g Qf) 0 0 (x_A g) := by
  refine Met.ofW (cc := cX11_dryIn) (maxL := 1) (ret := (some .int)) (by decide) rfl ?_
  intro p e s m args below meth c s₁ B hml hv
  obtain ⟨rfl, hB⟩ := hv
  obtain ⟨C, hw⟩ := x_start B hml hD hB
  have hl := lv_entry [.ref (xad g 272)] (n := 1) (Nat.le_of_ble_eq_true rfl)
  rw [lg_entry_eq]
  exact s_X11_dryIn C hM hw hl h
set_option maxHeartbeats 4000000 in
set_option maxRecDepth 100000 in
theorem s_X11_triesOpen {Qf : xM → Prop} {a1 : Int32} {a2 : Int32} (C : x_C p s m args meth c g RX11 cX11_triesOpen 3 none) (hM : xpM g) {u : xM} {H : Heap} {locs : List Loc} {ls : Array Slot} (hw : x_W g s.heap H locs u) (hl : lv_has ls 3 [(0, .ref (xad g 272)), (1, .int a1), (2, .int a2)]) (h : p_X11_triesOpen a1 a2 u Qf) : W p l e (x_rm 9 199) s m args below meth c H locs 0 0 (MQ below (x_Qv g Qf) args s 0 0 (x_A g)) (F0 m 0 ls []) := by
  unfold p_X11_triesOpen at h
  have hx := C.1
  have hb := C.2.1
  refine lv_aload_n hx hb dX11_triesOpen_0 rfl (lv_at hl 0 rfl) ?_
  refine lv_sipush (v := 3144) hx hb dX11_triesOpen_1 (by decide) ?_
  refine x_callv hw (x_runV (ci := 11) C hw (m_X11_keeps l C.2.2.2.2.2.2.2.2.1 hM h) (xoM_272 hM) rfl (x_gV xw_1342 xw_1343 xw_1344 xw_5 xw_1345) rfl rfl qX11_keeps ⟨(Nat.le_of_ble_eq_true rfl), (Nat.le_of_ble_eq_true rfl)⟩ rfl hl.1 rfl (Nat.le_of_ble_eq_true rfl) dX11_triesOpen_4) (fun u1 H locs hw h => ?_)
  refine lv_aload_n hx hb dX11_triesOpen_7 rfl (lv_at hl 0 rfl) ?_
  refine x_getr (ci := 11) C hw 0 (xoM_272 hM) rfl inlX11 (by decide) rfl rfl xrM_272_0 xw_219 dX11_triesOpen_8 ?_
  refine lv_iload_n hx hb dX11_triesOpen_11 rfl (lv_at hl 1 rfl) ?_
  refine x_calli hw (x_runS C hw (m_X11_doorRow l C.2.2.2.2.2.2.2.2.1  h) (x_gS xw_915 xw_916 xw_5 xw_917) rfl rfl qX11_doorRow ⟨(Nat.le_of_ble_eq_true rfl), (Nat.le_of_ble_eq_true rfl)⟩ rfl hl.1 rfl (Nat.le_of_ble_eq_true rfl) dX11_triesOpen_12) (fun r3 u2 H locs hw h => ?_)
  refine lv_bipush (v := 6) hx hb dX11_triesOpen_15 (by decide) ?_
  refine lv_iadd hx hb dX11_triesOpen_17 ?_
  refine lv_iconst (v := 1) hx hb dX11_triesOpen_18 (by decide) ?_
  have c4 := h.1
  have h := h.2
  obtain ⟨u5, eu5⟩ : ∃ q : xM, q = si u2 273 (r3 + (6 : Int32)).toNatClampNeg (1 : Int32) := ⟨_, rfl⟩
  have h := h u5 eu5
  refine x_iast C hw (xoM_273 hM) c4 dX11_triesOpen_19 eu5 (fun H locs hw => ?_)
  refine lv_aload_n hx hb dX11_triesOpen_20 rfl (lv_at hl 0 rfl) ?_
  refine x_getr (ci := 11) C hw 0 (xoM_272 hM) rfl inlX11 (by decide) rfl rfl xrM_272_0 xw_219 dX11_triesOpen_21 ?_
  refine lv_iload_n hx hb dX11_triesOpen_24 rfl (lv_at hl 1 rfl) ?_
  refine x_calli hw (x_runS C hw (m_X11_doorRow l C.2.2.2.2.2.2.2.2.1  h) (x_gS xw_915 xw_916 xw_5 xw_917) rfl rfl qX11_doorRow ⟨(Nat.le_of_ble_eq_true rfl), (Nat.le_of_ble_eq_true rfl)⟩ rfl hl.1 rfl (Nat.le_of_ble_eq_true rfl) dX11_triesOpen_25) (fun r7 u6 H locs hw h => ?_)
  refine lv_iconst (v := 2) hx hb dX11_triesOpen_28 (by decide) ?_
  refine lv_iadd hx hb dX11_triesOpen_29 ?_
  refine lv_dup2_11 hx hb dX11_triesOpen_30 rfl rfl ?_
  have c8 := h.1
  have h := h.2
  refine x_iald C hw (xoM_273 hM) c8 dX11_triesOpen_31 ?_
  refine lv_iload_n hx hb dX11_triesOpen_32 rfl (lv_at hl 2 rfl) ?_
  refine lv_iadd hx hb dX11_triesOpen_33 ?_
  have c9 := h.1
  have h := h.2
  obtain ⟨u10, eu10⟩ : ∃ q : xM, q = si u6 273 (r7 + (2 : Int32)).toNatClampNeg ((gi u6 273 (r7 + (2 : Int32)).toNatClampNeg) + a2) := ⟨_, rfl⟩
  have h := h u10 eu10
  refine x_iast C hw (xoM_273 hM) c9 dX11_triesOpen_34 eu10 (fun H locs hw => ?_)
  refine lv_aload_n hx hb dX11_triesOpen_35 rfl (lv_at hl 0 rfl) ?_
  refine lv_bipush (v := 12) hx hb dX11_triesOpen_36 (by decide) ?_
  refine x_calli hw (x_runV (ci := 11) C hw (m_X11_goes l C.2.2.2.2.2.2.2.2.1 hM h) (xoM_272 hM) rfl (x_gV xw_1200 xw_1201 xw_1202 xw_5 xw_1203) rfl rfl qX11_goes ⟨(Nat.le_of_ble_eq_true rfl), (Nat.le_of_ble_eq_true rfl)⟩ rfl hl.1 rfl (Nat.le_of_ble_eq_true rfl) dX11_triesOpen_38) (fun r12 u11 H locs hw h => ?_)
  refine lv_pop hx hb dX11_triesOpen_41 rfl ?_
  refine lv_aload_n hx hb dX11_triesOpen_42 rfl (lv_at hl 0 rfl) ?_
  refine lv_aload_n hx hb dX11_triesOpen_43 rfl (lv_at hl 0 rfl) ?_
  refine x_calli hw (x_runV (ci := 11) C hw (m_X11_allWater l C.2.2.2.2.2.2.2.2.1 hM h) (xoM_272 hM) rfl (x_gV xw_888 xw_889 xw_890 xw_5 xw_891) rfl rfl qX11_allWater ⟨(Nat.le_of_ble_eq_true rfl), (Nat.le_of_ble_eq_true rfl)⟩ rfl hl.1 rfl (Nat.le_of_ble_eq_true rfl) dX11_triesOpen_44) (fun r14 u13 H locs hw h => ?_)
  obtain ⟨u15, eu15⟩ : ∃ q : xM, q = si u13 272 28 r14 := ⟨_, rfl⟩
  have h := h u15 eu15
  refine x_puti (ci := 11) (ty := .int) C hw 28 (xoM_272 hM) rfl inlX11 tyX11_ok nmX11 (by decide) rfl rfl xw_1406 rfl (by decide +kernel) rfl rfl dX11_triesOpen_47 eu15 (fun H locs hw => ?_)
  refine lv_aload_n hx hb dX11_triesOpen_50 rfl (lv_at hl 0 rfl) ?_
  refine lv_aload_n hx hb dX11_triesOpen_51 rfl (lv_at hl 0 rfl) ?_
  refine lv_iconst (v := 1) hx hb dX11_triesOpen_52 (by decide) ?_
  refine x_calli hw (x_runV (ci := 11) C hw (m_X11_setOf l C.2.2.2.2.2.2.2.2.1 hM h) (xoM_272 hM) rfl (x_gV xw_899 xw_900 xw_901 xw_5 xw_902) rfl rfl qX11_setOf ⟨(Nat.le_of_ble_eq_true rfl), (Nat.le_of_ble_eq_true rfl)⟩ rfl hl.1 rfl (Nat.le_of_ble_eq_true rfl) dX11_triesOpen_53) (fun r17 u16 H locs hw h => ?_)
  obtain ⟨u18, eu18⟩ : ∃ q : xM, q = si u16 272 29 r17 := ⟨_, rfl⟩
  have h := h u18 eu18
  refine x_puti (ci := 11) (ty := .int) C hw 29 (xoM_272 hM) rfl inlX11 tyX11_ok nmX11 (by decide) rfl rfl xw_1401 rfl (by decide +kernel) rfl rfl dX11_triesOpen_56 eu18 (fun H locs hw => ?_)
  refine lv_aload_n hx hb dX11_triesOpen_59 rfl (lv_at hl 0 rfl) ?_
  refine lv_sipush (v := 3144) hx hb dX11_triesOpen_60 (by decide) ?_
  refine x_callv hw (x_runV (ci := 11) C hw (m_X11_restores l C.2.2.2.2.2.2.2.2.1 hM h) (xoM_272 hM) rfl (x_gV xw_1346 xw_1347 xw_1348 xw_5 xw_1349) rfl rfl qX11_restores ⟨(Nat.le_of_ble_eq_true rfl), (Nat.le_of_ble_eq_true rfl)⟩ rfl hl.1 rfl (Nat.le_of_ble_eq_true rfl) dX11_triesOpen_63) (fun u19 H locs hw h => ?_)
  exact x_vret C hw h dX11_triesOpen_66
set_option maxHeartbeats 4000000 in
set_option maxRecDepth 100000 in
theorem m_X11_triesOpen (l : Launch) {g : xG} (hD : x_D g) (hM : xpM g) {a1 : Int32} {a2 : Int32} {u : xM} {Qf : xM → Prop} (h : p_X11_triesOpen a1 a2 u Qf) : Met l yX11_triesOpen (Cond.code yX11_triesOpen cX11_triesOpen 3 none :: wsL_law) (x_rm 9 199) (va_Pc [.ref (xad g 272), .int a1, .int a2] (x_B g u)) (x_Qv g Qf) 0 0 (x_A g) := by
  refine Met.ofW (cc := cX11_triesOpen) (maxL := 3) (ret := none) (by decide) rfl ?_
  intro p e s m args below meth c s₁ B hml hv
  obtain ⟨rfl, hB⟩ := hv
  obtain ⟨C, hw⟩ := x_start B hml hD hB
  have hl := lv_entry [.ref (xad g 272), .int a1, .int a2] (n := 3) (Nat.le_of_ble_eq_true rfl)
  rw [lg_entry_eq]
  exact s_X11_triesOpen C hM hw hl h
set_option maxHeartbeats 4000000 in
set_option maxRecDepth 100000 in
theorem s_X11_fails {Qf : Int32 → xM → Prop} {a1 : Int32} (C : x_C p s m args meth c g RX11 cX11_fails 2 (some .int)) (hM : xpM g) {u : xM} {H : Heap} {locs : List Loc} {ls : Array Slot} (hw : x_W g s.heap H locs u) (hl : lv_has ls 2 [(0, .ref (xad g 272)), (1, .int a1)]) (h : p_X11_fails a1 u Qf) : W p l e (x_rm 10 221) s m args below meth c H locs 0 0 (MQ below (x_Qi g Qf) args s 0 0 (x_A g)) (F0 m 0 ls []) := by
  unfold p_X11_fails at h
  have hx := C.1
  have hb := C.2.1
  refine lv_aload_n hx hb dX11_fails_0 rfl (lv_at hl 0 rfl) ?_
  refine lv_iload_n hx hb dX11_fails_1 rfl (lv_at hl 1 rfl) ?_
  refine x_callz hw (x_runV (ci := 11) C hw (m_X11_isDoor l C.2.2.2.2.2.2.2.2.1 hM h) (xoM_272 hM) rfl (x_gV xw_977 xw_978 xw_979 xw_5 xw_980) rfl rfl qX11_isDoor ⟨(Nat.le_of_ble_eq_true rfl), (Nat.le_of_ble_eq_true rfl)⟩ rfl hl.1 rfl (Nat.le_of_ble_eq_true rfl) dX11_fails_2) (fun r2 u1 H locs hw h => ?_)
  refine lv_if_ne (tgt := 14) hx hb dX11_fails_5 (by decide) (fun c3 => ?_) (fun c3 => ?_)
  · have h := h.1 (xb_t c3)
    refine lv_aload_n hx hb dX11_fails_14 rfl (lv_at hl 0 rfl) ?_
    refine lv_iload_n hx hb dX11_fails_15 rfl (lv_at hl 1 rfl) ?_
    refine lv_iconst (v := 0) hx hb dX11_fails_16 (by decide) ?_
    refine x_callv hw (x_runV (ci := 11) C hw (m_X11_triesOpen l C.2.2.2.2.2.2.2.2.1 hM h) (xoM_272 hM) rfl (x_gV xw_1402 xw_1403 xw_1404 xw_5 xw_1405) rfl rfl qX11_triesOpen ⟨(Nat.le_of_ble_eq_true rfl), (Nat.le_of_ble_eq_true rfl)⟩ rfl hl.1 rfl (Nat.le_of_ble_eq_true rfl) dX11_fails_17) (fun u4 H locs hw h => ?_)
    refine lv_aload_n hx hb dX11_fails_20 rfl (lv_at hl 0 rfl) ?_
    refine lv_aload_n hx hb dX11_fails_21 rfl (lv_at hl 0 rfl) ?_
    refine x_geti (ci := 11) C hw 29 (xoM_272 hM) rfl inlX11 (by decide) rfl rfl xw_1401 dX11_fails_22 ?_
    refine x_calli hw (x_runV (ci := 11) C hw (m_X11_gives l C.2.2.2.2.2.2.2.2.1 hM h) (xoM_272 hM) rfl (x_gV xw_731 xw_732 xw_733 xw_5 xw_734) rfl rfl qX11_gives ⟨(Nat.le_of_ble_eq_true rfl), (Nat.le_of_ble_eq_true rfl)⟩ rfl hl.1 rfl (Nat.le_of_ble_eq_true rfl) dX11_fails_25) (fun r6 u5 H locs hw h => ?_)
    exact x_iret C hw h dX11_fails_28
  · have h := h.2 (xb_f c3)
    refine lv_aload_n hx hb dX11_fails_8 rfl (lv_at hl 0 rfl) ?_
    refine lv_iconst (v := 1) hx hb dX11_fails_9 (by decide) ?_
    refine x_calli hw (x_runV (ci := 11) C hw (m_X11_refuse l C.2.2.2.2.2.2.2.2.1 hM h) (xoM_272 hM) rfl (x_gV xw_657 xw_658 xw_659 xw_5 xw_660) rfl rfl qX11_refuse ⟨(Nat.le_of_ble_eq_true rfl), (Nat.le_of_ble_eq_true rfl)⟩ rfl hl.1 rfl (Nat.le_of_ble_eq_true rfl) dX11_fails_10) (fun r8 u7 H locs hw h => ?_)
    exact x_iret C hw h dX11_fails_13
set_option maxHeartbeats 4000000 in
set_option maxRecDepth 100000 in
theorem m_X11_fails (l : Launch) {g : xG} (hD : x_D g) (hM : xpM g) {a1 : Int32} {u : xM} {Qf : Int32 → xM → Prop} (h : p_X11_fails a1 u Qf) : Met l yX11_fails (Cond.code yX11_fails cX11_fails 2 (some .int) :: wsL_law) (x_rm 10 221) (va_Pc [.ref (xad g 272), .int a1] (x_B g u)) (x_Qi g Qf) 0 0 (x_A g) := by
  refine Met.ofW (cc := cX11_fails) (maxL := 2) (ret := (some .int)) (by decide) rfl ?_
  intro p e s m args below meth c s₁ B hml hv
  obtain ⟨rfl, hB⟩ := hv
  obtain ⟨C, hw⟩ := x_start B hml hD hB
  have hl := lv_entry [.ref (xad g 272), .int a1] (n := 2) (Nat.le_of_ble_eq_true rfl)
  rw [lg_entry_eq]
  exact s_X11_fails C hM hw hl h
set_option maxHeartbeats 4000000 in
set_option maxRecDepth 100000 in
theorem s_X11_worst_L6 {Qf : Int32 → xM → Prop} (C : x_C p s m args meth c g RX11 cX11_worst 4 (some .int)) (hM : xpM g) : ∀ (nn : Nat) {v1 : Int32} {v2 : Int32} {v3 : Int32} {u : xM} {H : Heap} {locs : List Loc} {ls : Array Slot} (hw : x_W g s.heap H locs u) (hl : lv_has ls 4 [(0, .ref (xad g 272)), (1, .int v1), (2, .int v2), (3, .int v3)]) (h : p_X11_worst_L6 Qf nn v1 v2 v3 u), W p l e (x_rm 10 221) s m args below meth c H locs 0 0 (MQ below (x_Qi g Qf) args s 0 0 (x_A g)) (F0 m 6 ls []) := by
  intro nn
  induction nn with
  | zero => intro v1 v2 v3 u H locs ls hw hl h; exact h.elim
  | succ nn ih =>
    intro v1 v2 v3 u H locs ls hw hl h
    unfold p_X11_worst_L6 at h
    have hx := C.1
    have hb := C.2.1
    refine lv_iload_n hx hb dX11_worst_6 rfl (lv_at hl 3 rfl) ?_
    refine lv_aload_n hx hb dX11_worst_7 rfl (lv_at hl 0 rfl) ?_
    refine x_getr (ci := 11) C hw 0 (xoM_272 hM) rfl inlX11 (by decide) rfl rfl xrM_272_0 xw_219 dX11_worst_8 ?_
    refine lv_iconst (v := 1) hx hb dX11_worst_11 (by decide) ?_
    have c1 := h.1
    have h := h.2
    refine x_iald C hw (xoM_273 hM) c1 dX11_worst_12 ?_
    refine lv_icmp_ge (tgt := 46) hx hb dX11_worst_13 (by decide) (fun c2 => ?_) (fun c2 => ?_)
    · have h := h.1 c2
      refine lv_aload_n hx hb dX11_worst_46 rfl (lv_at hl 0 rfl) ?_
      refine lv_iload_n hx hb dX11_worst_47 rfl (lv_at hl 1 rfl) ?_
      refine x_calli hw (x_runV (ci := 11) C hw (m_X11_orNone l C.2.2.2.2.2.2.2.2.1 hM h) (xoM_272 hM) rfl (x_gV xw_1094 xw_1095 xw_1096 xw_5 xw_1097) rfl rfl qX11_orNone ⟨(Nat.le_of_ble_eq_true rfl), (Nat.le_of_ble_eq_true rfl)⟩ rfl hl.1 rfl (Nat.le_of_ble_eq_true rfl) dX11_worst_48) (fun r4 u3 H locs hw h => ?_)
      exact x_iret C hw h dX11_worst_51
    · have h := h.2 c2
      refine lv_aload_n hx hb dX11_worst_16 rfl (lv_at hl 0 rfl) ?_
      refine lv_iload_n hx hb dX11_worst_17 rfl (lv_at hl 3 rfl) ?_
      refine lv_iconst (v := 0) hx hb dX11_worst_18 (by decide) ?_
      refine x_callv hw (x_runV (ci := 11) C hw (m_X11_triesOpen l C.2.2.2.2.2.2.2.2.1 hM h) (xoM_272 hM) rfl (x_gV xw_1402 xw_1403 xw_1404 xw_5 xw_1405) rfl rfl qX11_triesOpen ⟨(Nat.le_of_ble_eq_true rfl), (Nat.le_of_ble_eq_true rfl)⟩ rfl hl.1 rfl (Nat.le_of_ble_eq_true rfl) dX11_worst_19) (fun u5 H locs hw h => ?_)
      refine lv_aload_n hx hb dX11_worst_22 rfl (lv_at hl 0 rfl) ?_
      refine x_geti (ci := 11) C hw 28 (xoM_272 hM) rfl inlX11 (by decide) rfl rfl xw_1406 dX11_worst_23 ?_
      refine lv_iload_n hx hb dX11_worst_26 rfl (lv_at hl 2 rfl) ?_
      refine lv_icmp_gt (tgt := 33) hx hb dX11_worst_27 (by decide) (fun c6 => ?_) (fun c6 => ?_)
      · have h := h.1 c6
        refine lv_aload_n hx hb dX11_worst_33 rfl (lv_at hl 0 rfl) ?_
        refine x_geti (ci := 11) C hw 28 (xoM_272 hM) rfl inlX11 (by decide) rfl rfl xw_1406 dX11_worst_34 ?_
        refine lv_topi (fun x7 ex7 => ?_)
        have h := h x7 ex7
        refine lv_istore_n (lv' := [(2, .int x7), (0, .ref (xad g 272)), (1, .int v1), (3, .int v3)]) hx hb dX11_worst_37 rfl hl (by decide) rfl (fun ls hl => ?_)
        refine lv_iload_n hx hb dX11_worst_38 rfl (lv_at hl 3 rfl) ?_
        refine lv_istore_n (lv' := [(1, .int v3), (2, .int x7), (0, .ref (xad g 272)), (3, .int v3)]) hx hb dX11_worst_39 rfl hl (by decide) rfl (fun ls hl => ?_)
        obtain ⟨x8, ex8⟩ : ∃ y : Int32, y = v3 + 1 := ⟨_, rfl⟩
        have h := h x8 ex8
        refine lv_iinc (v := x8) (lv' := [(3, .int x8), (1, .int v3), (2, .int x7), (0, .ref (xad g 272))]) hx hb dX11_worst_40 hl (k := 3) rfl (by rw [ex8]; rfl) (by decide) rfl (fun ls hl => ?_)
        refine lv_goto (tgt := 6) hx hb dX11_worst_43 (by decide) ?_
        exact ih hw (lv_sub hl [3, 1, 2, 0] rfl) h
      · have h := h.2 c6
        refine lv_goto (tgt := 40) hx hb dX11_worst_30 (by decide) ?_
        obtain ⟨x9, ex9⟩ : ∃ y : Int32, y = v3 + 1 := ⟨_, rfl⟩
        have h := h x9 ex9
        refine lv_iinc (v := x9) (lv' := [(3, .int x9), (0, .ref (xad g 272)), (1, .int v1), (2, .int v2)]) hx hb dX11_worst_40 hl (k := 3) rfl (by rw [ex9]; rfl) (by decide) rfl (fun ls hl => ?_)
        refine lv_goto (tgt := 6) hx hb dX11_worst_43 (by decide) ?_
        exact ih hw (lv_sub hl [1, 2, 3, 0] rfl) h
set_option maxHeartbeats 4000000 in
set_option maxRecDepth 100000 in
theorem s_X11_worst {Qf : Int32 → xM → Prop} (C : x_C p s m args meth c g RX11 cX11_worst 4 (some .int)) (hM : xpM g) {u : xM} {H : Heap} {locs : List Loc} {ls : Array Slot} (hw : x_W g s.heap H locs u) (hl : lv_has ls 4 [(0, .ref (xad g 272))]) (h : p_X11_worst  u Qf) : W p l e (x_rm 10 221) s m args below meth c H locs 0 0 (MQ below (x_Qi g Qf) args s 0 0 (x_A g)) (F0 m 0 ls []) := by
  unfold p_X11_worst at h
  have hx := C.1
  have hb := C.2.1
  refine lv_iconst (v := -1) hx hb dX11_worst_0 (by decide) ?_
  refine lv_istore_n (lv' := [(1, .int (-1)), (0, .ref (xad g 272))]) hx hb dX11_worst_1 rfl hl (by decide) rfl (fun ls hl => ?_)
  refine lv_iconst (v := -1) hx hb dX11_worst_2 (by decide) ?_
  refine lv_istore_n (lv' := [(2, .int (-1)), (1, .int (-1)), (0, .ref (xad g 272))]) hx hb dX11_worst_3 rfl hl (by decide) rfl (fun ls hl => ?_)
  refine lv_iconst (v := 0) hx hb dX11_worst_4 (by decide) ?_
  refine lv_istore_n (lv' := [(3, .int 0), (2, .int (-1)), (1, .int (-1)), (0, .ref (xad g 272))]) hx hb dX11_worst_5 rfl hl (by decide) rfl (fun ls hl => ?_)
  obtain ⟨n9, h⟩ := h
  exact s_X11_worst_L6 C hM n9 hw (lv_sub hl [3, 2, 1, 0] rfl) h
set_option maxHeartbeats 4000000 in
set_option maxRecDepth 100000 in
theorem m_X11_worst (l : Launch) {g : xG} (hD : x_D g) (hM : xpM g) {u : xM} {Qf : Int32 → xM → Prop} (h : p_X11_worst  u Qf) : Met l yX11_worst (Cond.code yX11_worst cX11_worst 4 (some .int) :: wsL_law) (x_rm 10 221) (va_Pc [.ref (xad g 272)] (x_B g u)) (x_Qi g Qf) 0 0 (x_A g) := by
  refine Met.ofW (cc := cX11_worst) (maxL := 4) (ret := (some .int)) (by decide) rfl ?_
  intro p e s m args below meth c s₁ B hml hv
  obtain ⟨rfl, hB⟩ := hv
  obtain ⟨C, hw⟩ := x_start B hml hD hB
  have hl := lv_entry [.ref (xad g 272)] (n := 4) (Nat.le_of_ble_eq_true rfl)
  rw [lg_entry_eq]
  exact s_X11_worst C hM hw hl h
set_option maxHeartbeats 4000000 in
set_option maxRecDepth 100000 in
theorem s_X11_sillFor_L16 {Qf : Int32 → xM → Prop} (C : x_C p s m args meth c g RX11 cX11_sillFor 3 (some .int)) (hM : xpM g) : ∀ (nn : Nat) {v1 : Int32} {v2 : Int32} {u : xM} {H : Heap} {locs : List Loc} {ls : Array Slot} (hw : x_W g s.heap H locs u) (hl : lv_has ls 3 [(0, .ref (xad g 272)), (1, .int v1), (2, .int v2)]) (h : p_X11_sillFor_L16 Qf nn v1 v2 u), W p l e (x_rm 10 221) s m args below meth c H locs 0 0 (MQ below (x_Qi g Qf) args s 0 0 (x_A g)) (F0 m 16 ls []) := by
  intro nn
  induction nn with
  | zero => intro v1 v2 u H locs ls hw hl h; exact h.elim
  | succ nn ih =>
    intro v1 v2 u H locs ls hw hl h
    unfold p_X11_sillFor_L16 at h
    have hx := C.1
    have hb := C.2.1
    refine lv_iload_n hx hb dX11_sillFor_16 rfl (lv_at hl 2 rfl) ?_
    refine lv_aload_n hx hb dX11_sillFor_17 rfl (lv_at hl 0 rfl) ?_
    refine lv_iload_n hx hb dX11_sillFor_18 rfl (lv_at hl 1 rfl) ?_
    refine lv_iconst (v := 2) hx hb dX11_sillFor_19 (by decide) ?_
    refine x_calli hw (x_runV (ci := 11) C hw (m_X11_doorOf l C.2.2.2.2.2.2.2.2.1 hM h) (xoM_272 hM) rfl (x_gV xw_911 xw_912 xw_913 xw_5 xw_914) rfl rfl qX11_doorOf ⟨(Nat.le_of_ble_eq_true rfl), (Nat.le_of_ble_eq_true rfl)⟩ rfl hl.1 rfl (Nat.le_of_ble_eq_true rfl) dX11_sillFor_20) (fun r2 u1 H locs hw h => ?_)
    refine lv_iadd hx hb dX11_sillFor_23 ?_
    refine lv_bipush (v := 100) hx hb dX11_sillFor_24 (by decide) ?_
    refine lv_icmp_ge (tgt := 59) hx hb dX11_sillFor_26 (by decide) (fun c3 => ?_) (fun c3 => ?_)
    · have h := h.1 c3
      refine lv_aload_n hx hb dX11_sillFor_59 rfl (lv_at hl 0 rfl) ?_
      refine lv_bipush (v := 6) hx hb dX11_sillFor_60 (by decide) ?_
      refine x_calli hw (x_runV (ci := 11) C hw (m_X11_refuse l C.2.2.2.2.2.2.2.2.1 hM h) (xoM_272 hM) rfl (x_gV xw_657 xw_658 xw_659 xw_5 xw_660) rfl rfl qX11_refuse ⟨(Nat.le_of_ble_eq_true rfl), (Nat.le_of_ble_eq_true rfl)⟩ rfl hl.1 rfl (Nat.le_of_ble_eq_true rfl) dX11_sillFor_62) (fun r5 u4 H locs hw h => ?_)
      exact x_iret C hw h dX11_sillFor_65
    · have h := h.2 c3
      refine lv_aload_n hx hb dX11_sillFor_29 rfl (lv_at hl 0 rfl) ?_
      refine lv_iload_n hx hb dX11_sillFor_30 rfl (lv_at hl 1 rfl) ?_
      refine lv_iload_n hx hb dX11_sillFor_31 rfl (lv_at hl 2 rfl) ?_
      refine x_callv hw (x_runV (ci := 11) C hw (m_X11_triesOpen l C.2.2.2.2.2.2.2.2.1 hM h) (xoM_272 hM) rfl (x_gV xw_1402 xw_1403 xw_1404 xw_5 xw_1405) rfl rfl qX11_triesOpen ⟨(Nat.le_of_ble_eq_true rfl), (Nat.le_of_ble_eq_true rfl)⟩ rfl hl.1 rfl (Nat.le_of_ble_eq_true rfl) dX11_sillFor_32) (fun u6 H locs hw h => ?_)
      refine lv_aload_n hx hb dX11_sillFor_35 rfl (lv_at hl 0 rfl) ?_
      refine x_geti (ci := 11) C hw 29 (xoM_272 hM) rfl inlX11 (by decide) rfl rfl xw_1401 dX11_sillFor_36 ?_
      refine lv_aload_n hx hb dX11_sillFor_39 rfl (lv_at hl 0 rfl) ?_
      refine lv_iconst (v := 1) hx hb dX11_sillFor_40 (by decide) ?_
      refine x_calli hw (x_runV (ci := 11) C hw (m_X11_setOf l C.2.2.2.2.2.2.2.2.1 hM h) (xoM_272 hM) rfl (x_gV xw_899 xw_900 xw_901 xw_5 xw_902) rfl rfl qX11_setOf ⟨(Nat.le_of_ble_eq_true rfl), (Nat.le_of_ble_eq_true rfl)⟩ rfl hl.1 rfl (Nat.le_of_ble_eq_true rfl) dX11_sillFor_41) (fun r8 u7 H locs hw h => ?_)
      refine lv_icmp_ne (tgt := 53) hx hb dX11_sillFor_44 (by decide) (fun c9 => ?_) (fun c9 => ?_)
      · have h := h.1 c9
        obtain ⟨x10, ex10⟩ : ∃ y : Int32, y = v2 + 1 := ⟨_, rfl⟩
        have h := h x10 ex10
        refine lv_iinc (v := x10) (lv' := [(2, .int x10), (0, .ref (xad g 272)), (1, .int v1)]) hx hb dX11_sillFor_53 hl (k := 2) rfl (by rw [ex10]; rfl) (by decide) rfl (fun ls hl => ?_)
        refine lv_goto (tgt := 16) hx hb dX11_sillFor_56 (by decide) ?_
        exact ih hw (lv_sub hl [1, 2, 0] rfl) h
      · have h := h.2 c9
        refine lv_aload_n hx hb dX11_sillFor_47 rfl (lv_at hl 0 rfl) ?_
        refine lv_iload_n hx hb dX11_sillFor_48 rfl (lv_at hl 2 rfl) ?_
        refine x_calli hw (x_runV (ci := 11) C hw (m_X11_gives l C.2.2.2.2.2.2.2.2.1 hM h) (xoM_272 hM) rfl (x_gV xw_731 xw_732 xw_733 xw_5 xw_734) rfl rfl qX11_gives ⟨(Nat.le_of_ble_eq_true rfl), (Nat.le_of_ble_eq_true rfl)⟩ rfl hl.1 rfl (Nat.le_of_ble_eq_true rfl) dX11_sillFor_49) (fun r12 u11 H locs hw h => ?_)
        exact x_iret C hw h dX11_sillFor_52
set_option maxHeartbeats 4000000 in
set_option maxRecDepth 100000 in
theorem s_X11_sillFor {Qf : Int32 → xM → Prop} {a1 : Int32} (C : x_C p s m args meth c g RX11 cX11_sillFor 3 (some .int)) (hM : xpM g) {u : xM} {H : Heap} {locs : List Loc} {ls : Array Slot} (hw : x_W g s.heap H locs u) (hl : lv_has ls 3 [(0, .ref (xad g 272)), (1, .int a1)]) (h : p_X11_sillFor a1 u Qf) : W p l e (x_rm 10 221) s m args below meth c H locs 0 0 (MQ below (x_Qi g Qf) args s 0 0 (x_A g)) (F0 m 0 ls []) := by
  unfold p_X11_sillFor at h
  have hx := C.1
  have hb := C.2.1
  refine lv_aload_n hx hb dX11_sillFor_0 rfl (lv_at hl 0 rfl) ?_
  refine lv_iload_n hx hb dX11_sillFor_1 rfl (lv_at hl 1 rfl) ?_
  refine x_callz hw (x_runV (ci := 11) C hw (m_X11_isDoor l C.2.2.2.2.2.2.2.2.1 hM h) (xoM_272 hM) rfl (x_gV xw_977 xw_978 xw_979 xw_5 xw_980) rfl rfl qX11_isDoor ⟨(Nat.le_of_ble_eq_true rfl), (Nat.le_of_ble_eq_true rfl)⟩ rfl hl.1 rfl (Nat.le_of_ble_eq_true rfl) dX11_sillFor_2) (fun r2 u1 H locs hw h => ?_)
  refine lv_if_ne (tgt := 14) hx hb dX11_sillFor_5 (by decide) (fun c3 => ?_) (fun c3 => ?_)
  · have h := h.1 (xb_t c3)
    refine lv_iconst (v := 0) hx hb dX11_sillFor_14 (by decide) ?_
    refine lv_istore_n (lv' := [(2, .int 0), (0, .ref (xad g 272)), (1, .int a1)]) hx hb dX11_sillFor_15 rfl hl (by decide) rfl (fun ls hl => ?_)
    obtain ⟨n9, h⟩ := h
    exact s_X11_sillFor_L16 C hM n9 hw (lv_sub hl [1, 2, 0] rfl) h
  · have h := h.2 (xb_f c3)
    refine lv_aload_n hx hb dX11_sillFor_8 rfl (lv_at hl 0 rfl) ?_
    refine lv_iconst (v := 1) hx hb dX11_sillFor_9 (by decide) ?_
    refine x_calli hw (x_runV (ci := 11) C hw (m_X11_refuse l C.2.2.2.2.2.2.2.2.1 hM h) (xoM_272 hM) rfl (x_gV xw_657 xw_658 xw_659 xw_5 xw_660) rfl rfl qX11_refuse ⟨(Nat.le_of_ble_eq_true rfl), (Nat.le_of_ble_eq_true rfl)⟩ rfl hl.1 rfl (Nat.le_of_ble_eq_true rfl) dX11_sillFor_10) (fun r5 u4 H locs hw h => ?_)
    exact x_iret C hw h dX11_sillFor_13
set_option maxHeartbeats 4000000 in
set_option maxRecDepth 100000 in
theorem m_X11_sillFor (l : Launch) {g : xG} (hD : x_D g) (hM : xpM g) {a1 : Int32} {u : xM} {Qf : Int32 → xM → Prop} (h : p_X11_sillFor a1 u Qf) : Met l yX11_sillFor (Cond.code yX11_sillFor cX11_sillFor 3 (some .int) :: wsL_law) (x_rm 10 221) (va_Pc [.ref (xad g 272), .int a1] (x_B g u)) (x_Qi g Qf) 0 0 (x_A g) := by
  refine Met.ofW (cc := cX11_sillFor) (maxL := 3) (ret := (some .int)) (by decide) rfl ?_
  intro p e s m args below meth c s₁ B hml hv
  obtain ⟨rfl, hB⟩ := hv
  obtain ⟨C, hw⟩ := x_start B hml hD hB
  have hl := lv_entry [.ref (xad g 272), .int a1] (n := 3) (Nat.le_of_ble_eq_true rfl)
  rw [lg_entry_eq]
  exact s_X11_sillFor C hM hw hl h
set_option maxHeartbeats 4000000 in
set_option maxRecDepth 100000 in
theorem s_X11_through {Qf : Int32 → xM → Prop} {a1 : Int32} {a2 : Int32} (C : x_C p s m args meth c g RX11 cX11_through 3 (some .int)) (hM : xpM g) {u : xM} {H : Heap} {locs : List Loc} {ls : Array Slot} (hw : x_W g s.heap H locs u) (hl : lv_has ls 3 [(0, .ref (xad g 272)), (1, .int a1), (2, .int a2)]) (h : p_X11_through a1 a2 u Qf) : W p l e (x_rm 10 222) s m args below meth c H locs 0 0 (MQ below (x_Qi g Qf) args s 0 0 (x_A g)) (F0 m 0 ls []) := by
  unfold p_X11_through at h
  have hx := C.1
  have hb := C.2.1
  refine lv_aload_n hx hb dX11_through_0 rfl (lv_at hl 0 rfl) ?_
  refine lv_iload_n hx hb dX11_through_1 rfl (lv_at hl 1 rfl) ?_
  refine x_callz hw (x_runV (ci := 11) C hw (m_X11_isDoor l C.2.2.2.2.2.2.2.2.1 hM h) (xoM_272 hM) rfl (x_gV xw_977 xw_978 xw_979 xw_5 xw_980) rfl rfl qX11_isDoor ⟨(Nat.le_of_ble_eq_true rfl), (Nat.le_of_ble_eq_true rfl)⟩ rfl hl.1 rfl (Nat.le_of_ble_eq_true rfl) dX11_through_2) (fun r2 u1 H locs hw h => ?_)
  refine lv_if_eq (tgt := 15) hx hb dX11_through_5 (by decide) (fun c3 => ?_) (fun c3 => ?_)
  · have h := h.1 (xb_f c3)
    refine lv_aload_n hx hb dX11_through_15 rfl (lv_at hl 0 rfl) ?_
    refine lv_iconst (v := 1) hx hb dX11_through_16 (by decide) ?_
    refine x_calli hw (x_runV (ci := 11) C hw (m_X11_refuse l C.2.2.2.2.2.2.2.2.1 hM h) (xoM_272 hM) rfl (x_gV xw_657 xw_658 xw_659 xw_5 xw_660) rfl rfl qX11_refuse ⟨(Nat.le_of_ble_eq_true rfl), (Nat.le_of_ble_eq_true rfl)⟩ rfl hl.1 rfl (Nat.le_of_ble_eq_true rfl) dX11_through_17) (fun r5 u4 H locs hw h => ?_)
    exact x_iret C hw h dX11_through_20
  · have h := h.2 (xb_t c3)
    refine lv_iload_n hx hb dX11_through_8 rfl (lv_at hl 2 rfl) ?_
    refine x_callz hw (x_runS C hw (m_X11_isSpan l C.2.2.2.2.2.2.2.2.1  h) (x_gS xw_1335 xw_1336 xw_5 xw_1337) rfl rfl qX11_isSpan ⟨(Nat.le_of_ble_eq_true rfl), (Nat.le_of_ble_eq_true rfl)⟩ rfl hl.1 rfl (Nat.le_of_ble_eq_true rfl) dX11_through_9) (fun r7 u6 H locs hw h => ?_)
    refine lv_if_ne (tgt := 21) hx hb dX11_through_12 (by decide) (fun c8 => ?_) (fun c8 => ?_)
    · have h := h.1 (xb_t c8)
      refine lv_aload_n hx hb dX11_through_21 rfl (lv_at hl 0 rfl) ?_
      refine x_getr (ci := 11) C hw 27 (xoM_272 hM) rfl inlX11 (by decide) rfl rfl xrM_272_27 xw_233 dX11_through_22 ?_
      refine lv_iload_n hx hb dX11_through_25 rfl (lv_at hl 1 rfl) ?_
      refine lv_iconst (v := 0) hx hb dX11_through_26 (by decide) ?_
      have c9 := h.1
      have h := h.2
      obtain ⟨u10, eu10⟩ : ∃ q : xM, q = si u6 282 a1.toNatClampNeg (0 : Int32) := ⟨_, rfl⟩
      have h := h u10 eu10
      refine x_iast C hw (xoM_282 hM) c9 dX11_through_27 eu10 (fun H locs hw => ?_)
      refine lv_aload_n hx hb dX11_through_28 rfl (lv_at hl 0 rfl) ?_
      refine lv_iconst (v := -1) hx hb dX11_through_29 (by decide) ?_
      refine lv_iload_n hx hb dX11_through_30 rfl (lv_at hl 2 rfl) ?_
      refine x_calli hw (x_runV (ci := 11) C hw (m_X11_waterIn l C.2.2.2.2.2.2.2.2.1 hM h) (xoM_272 hM) rfl (x_gV xw_1338 xw_1339 xw_1340 xw_5 xw_1341) rfl rfl qX11_waterIn ⟨(Nat.le_of_ble_eq_true rfl), (Nat.le_of_ble_eq_true rfl)⟩ rfl hl.1 rfl (Nat.le_of_ble_eq_true rfl) dX11_through_31) (fun r12 u11 H locs hw h => ?_)
      refine lv_pop hx hb dX11_through_34 rfl ?_
      refine lv_aload_n hx hb dX11_through_35 rfl (lv_at hl 0 rfl) ?_
      refine lv_aload_n hx hb dX11_through_36 rfl (lv_at hl 0 rfl) ?_
      refine x_getr (ci := 11) C hw 27 (xoM_272 hM) rfl inlX11 (by decide) rfl rfl xrM_272_27 xw_233 dX11_through_37 ?_
      refine lv_iload_n hx hb dX11_through_40 rfl (lv_at hl 1 rfl) ?_
      have c13 := h.1
      have h := h.2
      refine x_iald C hw (xoM_282 hM) c13 dX11_through_41 ?_
      refine x_calli hw (x_runV (ci := 11) C hw (m_X11_gives l C.2.2.2.2.2.2.2.2.1 hM h) (xoM_272 hM) rfl (x_gV xw_731 xw_732 xw_733 xw_5 xw_734) rfl rfl qX11_gives ⟨(Nat.le_of_ble_eq_true rfl), (Nat.le_of_ble_eq_true rfl)⟩ rfl hl.1 rfl (Nat.le_of_ble_eq_true rfl) dX11_through_42) (fun r15 u14 H locs hw h => ?_)
      exact x_iret C hw h dX11_through_45
    · have h := h.2 (xb_f c8)
      refine lv_aload_n hx hb dX11_through_15 rfl (lv_at hl 0 rfl) ?_
      refine lv_iconst (v := 1) hx hb dX11_through_16 (by decide) ?_
      refine x_calli hw (x_runV (ci := 11) C hw (m_X11_refuse l C.2.2.2.2.2.2.2.2.1 hM h) (xoM_272 hM) rfl (x_gV xw_657 xw_658 xw_659 xw_5 xw_660) rfl rfl qX11_refuse ⟨(Nat.le_of_ble_eq_true rfl), (Nat.le_of_ble_eq_true rfl)⟩ rfl hl.1 rfl (Nat.le_of_ble_eq_true rfl) dX11_through_17) (fun r17 u16 H locs hw h => ?_)
      exact x_iret C hw h dX11_through_20
set_option maxHeartbeats 4000000 in
set_option maxRecDepth 100000 in
theorem m_X11_through (l : Launch) {g : xG} (hD : x_D g) (hM : xpM g) {a1 : Int32} {a2 : Int32} {u : xM} {Qf : Int32 → xM → Prop} (h : p_X11_through a1 a2 u Qf) : Met l yX11_through (Cond.code yX11_through cX11_through 3 (some .int) :: wsL_law) (x_rm 10 222) (va_Pc [.ref (xad g 272), .int a1, .int a2] (x_B g u)) (x_Qi g Qf) 0 0 (x_A g) := by
  refine Met.ofW (cc := cX11_through) (maxL := 3) (ret := (some .int)) (by decide) rfl ?_
  intro p e s m args below meth c s₁ B hml hv
  obtain ⟨rfl, hB⟩ := hv
  obtain ⟨C, hw⟩ := x_start B hml hD hB
  have hl := lv_entry [.ref (xad g 272), .int a1, .int a2] (n := 3) (Nat.le_of_ble_eq_true rfl)
  rw [lg_entry_eq]
  exact s_X11_through C hM hw hl h
set_option maxHeartbeats 4000000 in
set_option maxRecDepth 100000 in
theorem s_X11_greatest_L37 {Qf : Int32 → xM → Prop} (C : x_C p s m args meth c g RX11 cX11_greatest 5 (some .int)) (hM : xpM g) : ∀ (nn : Nat) {v1 : Int32} {v2 : Int32} {v3 : Int32} {v4 : Int32} {u : xM} {H : Heap} {locs : List Loc} {ls : Array Slot} (hw : x_W g s.heap H locs u) (hl : lv_has ls 5 [(0, .ref (xad g 272)), (1, .int v1), (2, .int v2), (3, .int v3), (4, .int v4)]) (h : p_X11_greatest_L37 Qf nn v1 v2 v3 v4 u), W p l e (x_rm 8 176) s m args below meth c H locs 0 0 (MQ below (x_Qi g Qf) args s 0 0 (x_A g)) (F0 m 37 ls []) := by
  intro nn
  induction nn with
  | zero => intro v1 v2 v3 v4 u H locs ls hw hl h; exact h.elim
  | succ nn ih =>
    intro v1 v2 v3 v4 u H locs ls hw hl h
    unfold p_X11_greatest_L37 at h
    have hx := C.1
    have hb := C.2.1
    refine lv_iload hx hb dX11_greatest_37 (lv_at hl 4 rfl) ?_
    refine lv_iload_n hx hb dX11_greatest_39 rfl (lv_at hl 2 rfl) ?_
    refine lv_icmp_ge (tgt := 64) hx hb dX11_greatest_40 (by decide) (fun c1 => ?_) (fun c1 => ?_)
    · have h := h.1 c1
      refine lv_aload_n hx hb dX11_greatest_64 rfl (lv_at hl 0 rfl) ?_
      refine lv_sipush (v := 3144) hx hb dX11_greatest_65 (by decide) ?_
      refine x_callv hw (x_runV (ci := 11) C hw (m_X11_restores l C.2.2.2.2.2.2.2.2.1 hM h) (xoM_272 hM) rfl (x_gV xw_1346 xw_1347 xw_1348 xw_5 xw_1349) rfl rfl qX11_restores ⟨(Nat.le_of_ble_eq_true rfl), (Nat.le_of_ble_eq_true rfl)⟩ rfl hl.1 rfl (Nat.le_of_ble_eq_true rfl) dX11_greatest_68) (fun u2 H locs hw h => ?_)
      refine lv_aload_n hx hb dX11_greatest_71 rfl (lv_at hl 0 rfl) ?_
      refine lv_iload_n hx hb dX11_greatest_72 rfl (lv_at hl 3 rfl) ?_
      refine x_calli hw (x_runV (ci := 11) C hw (m_X11_gives l C.2.2.2.2.2.2.2.2.1 hM h) (xoM_272 hM) rfl (x_gV xw_731 xw_732 xw_733 xw_5 xw_734) rfl rfl qX11_gives ⟨(Nat.le_of_ble_eq_true rfl), (Nat.le_of_ble_eq_true rfl)⟩ rfl hl.1 rfl (Nat.le_of_ble_eq_true rfl) dX11_greatest_73) (fun r4 u3 H locs hw h => ?_)
      exact x_iret C hw h dX11_greatest_76
    · have h := h.2 c1
      refine lv_aload_n hx hb dX11_greatest_43 rfl (lv_at hl 0 rfl) ?_
      refine x_calli hw (x_runV (ci := 11) C hw (m_X11_goesBy l C.2.2.2.2.2.2.2.2.1 hM h) (xoM_272 hM) rfl (x_gV xw_1204 xw_1205 xw_1206 xw_5 xw_1207) rfl rfl qX11_goesBy ⟨(Nat.le_of_ble_eq_true rfl), (Nat.le_of_ble_eq_true rfl)⟩ rfl hl.1 rfl (Nat.le_of_ble_eq_true rfl) dX11_greatest_44) (fun r6 u5 H locs hw h => ?_)
      refine lv_pop hx hb dX11_greatest_47 rfl ?_
      refine lv_iload_n hx hb dX11_greatest_48 rfl (lv_at hl 3 rfl) ?_
      refine lv_aload_n hx hb dX11_greatest_49 rfl (lv_at hl 0 rfl) ?_
      refine lv_iload_n hx hb dX11_greatest_50 rfl (lv_at hl 1 rfl) ?_
      refine x_calli hw (x_runV (ci := 11) C hw (m_X11_depthOf l C.2.2.2.2.2.2.2.2.1 hM h) (xoM_272 hM) rfl (x_gV xw_903 xw_904 xw_905 xw_5 xw_906) rfl rfl qX11_depthOf ⟨(Nat.le_of_ble_eq_true rfl), (Nat.le_of_ble_eq_true rfl)⟩ rfl hl.1 rfl (Nat.le_of_ble_eq_true rfl) dX11_greatest_51) (fun r8 u7 H locs hw h => ?_)
      refine x_mmax C hl.1 xw_1056 (Nat.le_of_ble_eq_true rfl) (Nat.le_of_ble_eq_true rfl) dX11_greatest_54 ?_
      refine lv_topi (fun x9 ex9 => ?_)
      have h := h x9 ex9
      refine lv_istore_n (lv' := [(3, .int x9), (0, .ref (xad g 272)), (1, .int v1), (2, .int v2), (4, .int v4)]) hx hb dX11_greatest_57 rfl hl (by decide) rfl (fun ls hl => ?_)
      obtain ⟨x10, ex10⟩ : ∃ y : Int32, y = v4 + 1 := ⟨_, rfl⟩
      have h := h x10 ex10
      refine lv_iinc (v := x10) (lv' := [(4, .int x10), (3, .int x9), (0, .ref (xad g 272)), (1, .int v1), (2, .int v2)]) hx hb dX11_greatest_58 hl (k := 4) rfl (by rw [ex10]; rfl) (by decide) rfl (fun ls hl => ?_)
      refine lv_goto (tgt := 37) hx hb dX11_greatest_61 (by decide) ?_
      exact ih hw (lv_sub hl [2, 3, 4, 1, 0] rfl) h
set_option maxHeartbeats 4000000 in
set_option maxRecDepth 100000 in
theorem s_X11_greatest {Qf : Int32 → xM → Prop} {a1 : Int32} {a2 : Int32} (C : x_C p s m args meth c g RX11 cX11_greatest 5 (some .int)) (hM : xpM g) {u : xM} {H : Heap} {locs : List Loc} {ls : Array Slot} (hw : x_W g s.heap H locs u) (hl : lv_has ls 5 [(0, .ref (xad g 272)), (1, .int a1), (2, .int a2)]) (h : p_X11_greatest a1 a2 u Qf) : W p l e (x_rm 8 176) s m args below meth c H locs 0 0 (MQ below (x_Qi g Qf) args s 0 0 (x_A g)) (F0 m 0 ls []) := by
  unfold p_X11_greatest at h
  have hx := C.1
  have hb := C.2.1
  refine lv_aload_n hx hb dX11_greatest_0 rfl (lv_at hl 0 rfl) ?_
  refine lv_iload_n hx hb dX11_greatest_1 rfl (lv_at hl 1 rfl) ?_
  refine x_callz hw (x_runV (ci := 11) C hw (m_X11_isRoom l C.2.2.2.2.2.2.2.2.1 hM h) (xoM_272 hM) rfl (x_gV xw_945 xw_946 xw_947 xw_5 xw_948) rfl rfl qX11_isRoom ⟨(Nat.le_of_ble_eq_true rfl), (Nat.le_of_ble_eq_true rfl)⟩ rfl hl.1 rfl (Nat.le_of_ble_eq_true rfl) dX11_greatest_2) (fun r2 u1 H locs hw h => ?_)
  refine lv_if_eq (tgt := 15) hx hb dX11_greatest_5 (by decide) (fun c3 => ?_) (fun c3 => ?_)
  · have h := h.1 (xb_f c3)
    refine lv_aload_n hx hb dX11_greatest_15 rfl (lv_at hl 0 rfl) ?_
    refine lv_iconst (v := 1) hx hb dX11_greatest_16 (by decide) ?_
    refine x_calli hw (x_runV (ci := 11) C hw (m_X11_refuse l C.2.2.2.2.2.2.2.2.1 hM h) (xoM_272 hM) rfl (x_gV xw_657 xw_658 xw_659 xw_5 xw_660) rfl rfl qX11_refuse ⟨(Nat.le_of_ble_eq_true rfl), (Nat.le_of_ble_eq_true rfl)⟩ rfl hl.1 rfl (Nat.le_of_ble_eq_true rfl) dX11_greatest_17) (fun r5 u4 H locs hw h => ?_)
    exact x_iret C hw h dX11_greatest_20
  · have h := h.2 (xb_t c3)
    refine lv_iload_n hx hb dX11_greatest_8 rfl (lv_at hl 2 rfl) ?_
    refine x_callz hw (x_runS C hw (m_X11_isSpan l C.2.2.2.2.2.2.2.2.1  h) (x_gS xw_1335 xw_1336 xw_5 xw_1337) rfl rfl qX11_isSpan ⟨(Nat.le_of_ble_eq_true rfl), (Nat.le_of_ble_eq_true rfl)⟩ rfl hl.1 rfl (Nat.le_of_ble_eq_true rfl) dX11_greatest_9) (fun r7 u6 H locs hw h => ?_)
    refine lv_if_ne (tgt := 21) hx hb dX11_greatest_12 (by decide) (fun c8 => ?_) (fun c8 => ?_)
    · have h := h.1 (xb_t c8)
      refine lv_aload_n hx hb dX11_greatest_21 rfl (lv_at hl 0 rfl) ?_
      refine lv_sipush (v := 3144) hx hb dX11_greatest_22 (by decide) ?_
      refine x_callv hw (x_runV (ci := 11) C hw (m_X11_keeps l C.2.2.2.2.2.2.2.2.1 hM h) (xoM_272 hM) rfl (x_gV xw_1342 xw_1343 xw_1344 xw_5 xw_1345) rfl rfl qX11_keeps ⟨(Nat.le_of_ble_eq_true rfl), (Nat.le_of_ble_eq_true rfl)⟩ rfl hl.1 rfl (Nat.le_of_ble_eq_true rfl) dX11_greatest_25) (fun u9 H locs hw h => ?_)
      refine lv_aload_n hx hb dX11_greatest_28 rfl (lv_at hl 0 rfl) ?_
      refine lv_iload_n hx hb dX11_greatest_29 rfl (lv_at hl 1 rfl) ?_
      refine x_calli hw (x_runV (ci := 11) C hw (m_X11_depthOf l C.2.2.2.2.2.2.2.2.1 hM h) (xoM_272 hM) rfl (x_gV xw_903 xw_904 xw_905 xw_5 xw_906) rfl rfl qX11_depthOf ⟨(Nat.le_of_ble_eq_true rfl), (Nat.le_of_ble_eq_true rfl)⟩ rfl hl.1 rfl (Nat.le_of_ble_eq_true rfl) dX11_greatest_30) (fun r11 u10 H locs hw h => ?_)
      refine lv_istore_n (lv' := [(3, .int r11), (0, .ref (xad g 272)), (1, .int a1), (2, .int a2)]) hx hb dX11_greatest_33 rfl hl (by decide) rfl (fun ls hl => ?_)
      refine lv_iconst (v := 0) hx hb dX11_greatest_34 (by decide) ?_
      refine lv_istore (lv' := [(4, .int 0), (3, .int r11), (0, .ref (xad g 272)), (1, .int a1), (2, .int a2)]) hx hb dX11_greatest_35 hl (by decide) rfl (fun ls hl => ?_)
      obtain ⟨n9, h⟩ := h
      exact s_X11_greatest_L37 C hM n9 hw (lv_sub hl [2, 3, 4, 1, 0] rfl) h
    · have h := h.2 (xb_f c8)
      refine lv_aload_n hx hb dX11_greatest_15 rfl (lv_at hl 0 rfl) ?_
      refine lv_iconst (v := 1) hx hb dX11_greatest_16 (by decide) ?_
      refine x_calli hw (x_runV (ci := 11) C hw (m_X11_refuse l C.2.2.2.2.2.2.2.2.1 hM h) (xoM_272 hM) rfl (x_gV xw_657 xw_658 xw_659 xw_5 xw_660) rfl rfl qX11_refuse ⟨(Nat.le_of_ble_eq_true rfl), (Nat.le_of_ble_eq_true rfl)⟩ rfl hl.1 rfl (Nat.le_of_ble_eq_true rfl) dX11_greatest_17) (fun r13 u12 H locs hw h => ?_)
      exact x_iret C hw h dX11_greatest_20
set_option maxHeartbeats 4000000 in
set_option maxRecDepth 100000 in
theorem m_X11_greatest (l : Launch) {g : xG} (hD : x_D g) (hM : xpM g) {a1 : Int32} {a2 : Int32} {u : xM} {Qf : Int32 → xM → Prop} (h : p_X11_greatest a1 a2 u Qf) : Met l yX11_greatest (Cond.code yX11_greatest cX11_greatest 5 (some .int) :: wsL_law) (x_rm 8 176) (va_Pc [.ref (xad g 272), .int a1, .int a2] (x_B g u)) (x_Qi g Qf) 0 0 (x_A g) := by
  refine Met.ofW (cc := cX11_greatest) (maxL := 5) (ret := (some .int)) (by decide) rfl ?_
  intro p e s m args below meth c s₁ B hml hv
  obtain ⟨rfl, hB⟩ := hv
  obtain ⟨C, hw⟩ := x_start B hml hD hB
  have hl := lv_entry [.ref (xad g 272), .int a1, .int a2] (n := 5) (Nat.le_of_ble_eq_true rfl)
  rw [lg_entry_eq]
  exact s_X11_greatest C hM hw hl h
set_option maxHeartbeats 4000000 in
set_option maxRecDepth 100000 in
theorem s_X11_firstDrowned_L60 {Qf : Int32 → xM → Prop} (C : x_C p s m args meth c g RX11 cX11_firstDrowned 3 (some .int)) (hM : xpM g) {v1 : Int32} {v2 : Int32} {u : xM} {H : Heap} {locs : List Loc} {ls : Array Slot} (hw : x_W g s.heap H locs u) (hl : lv_has ls 3 [(0, .ref (xad g 272)), (1, .int v1), (2, .int v2)]) (h : p_X11_firstDrowned_L60 Qf v1 v2 u) : W p l e (x_rm 8 176) s m args below meth c H locs 0 0 (MQ below (x_Qi g Qf) args s 0 0 (x_A g)) (F0 m 60 ls []) := by
  unfold p_X11_firstDrowned_L60 at h
  have hx := C.1
  have hb := C.2.1
  refine lv_iload_n hx hb dX11_firstDrowned_60 rfl (lv_at hl 1 rfl) ?_
  refine lv_if_ne (tgt := 73) hx hb dX11_firstDrowned_61 (by decide) (fun c1 => ?_) (fun c1 => ?_)
  · have h := h.1 c1
    refine lv_aload_n hx hb dX11_firstDrowned_73 rfl (lv_at hl 0 rfl) ?_
    refine lv_iload_n hx hb dX11_firstDrowned_74 rfl (lv_at hl 2 rfl) ?_
    refine x_calli hw (x_runV (ci := 11) C hw (m_X11_gives l C.2.2.2.2.2.2.2.2.1 hM h) (xoM_272 hM) rfl (x_gV xw_731 xw_732 xw_733 xw_5 xw_734) rfl rfl qX11_gives ⟨(Nat.le_of_ble_eq_true rfl), (Nat.le_of_ble_eq_true rfl)⟩ rfl hl.1 rfl (Nat.le_of_ble_eq_true rfl) dX11_firstDrowned_75) (fun r3 u2 H locs hw h => ?_)
    exact x_iret C hw h dX11_firstDrowned_78
  · have h := h.2 c1
    refine lv_aload_n hx hb dX11_firstDrowned_64 rfl (lv_at hl 0 rfl) ?_
    refine lv_bipush (v := 6) hx hb dX11_firstDrowned_65 (by decide) ?_
    refine x_calli hw (x_runV (ci := 11) C hw (m_X11_refuse l C.2.2.2.2.2.2.2.2.1 hM h) (xoM_272 hM) rfl (x_gV xw_657 xw_658 xw_659 xw_5 xw_660) rfl rfl qX11_refuse ⟨(Nat.le_of_ble_eq_true rfl), (Nat.le_of_ble_eq_true rfl)⟩ rfl hl.1 rfl (Nat.le_of_ble_eq_true rfl) dX11_firstDrowned_67) (fun r5 u4 H locs hw h => ?_)
    refine lv_goto (tgt := 78) hx hb dX11_firstDrowned_70 (by decide) ?_
    exact x_iret C hw h dX11_firstDrowned_78
set_option maxHeartbeats 4000000 in
set_option maxRecDepth 100000 in
theorem s_X11_firstDrowned_L41 {Qf : Int32 → xM → Prop} (C : x_C p s m args meth c g RX11 cX11_firstDrowned 3 (some .int)) (hM : xpM g) : ∀ (nn : Nat) {v1 : Int32} {v2 : Int32} {u : xM} {H : Heap} {locs : List Loc} {ls : Array Slot} (hw : x_W g s.heap H locs u) (hl : lv_has ls 3 [(0, .ref (xad g 272)), (1, .int v1), (2, .int v2)]) (h : p_X11_firstDrowned_L41 Qf nn v1 v2 u), W p l e (x_rm 8 176) s m args below meth c H locs 0 0 (MQ below (x_Qi g Qf) args s 0 0 (x_A g)) (F0 m 41 ls []) := by
  intro nn
  induction nn with
  | zero => intro v1 v2 u H locs ls hw hl h; exact h.elim
  | succ nn ih =>
    intro v1 v2 u H locs ls hw hl h
    unfold p_X11_firstDrowned_L41 at h
    have hx := C.1
    have hb := C.2.1
    refine lv_iload_n hx hb dX11_firstDrowned_41 rfl (lv_at hl 1 rfl) ?_
    refine lv_if_eq (tgt := 60) hx hb dX11_firstDrowned_42 (by decide) (fun c1 => ?_) (fun c1 => ?_)
    · have h := h.1 c1
      exact s_X11_firstDrowned_L60 C hM hw (lv_sub hl [0, 1, 2] rfl) h
    · have h := h.2 c1
      refine lv_aload_n hx hb dX11_firstDrowned_45 rfl (lv_at hl 0 rfl) ?_
      refine lv_iload_n hx hb dX11_firstDrowned_46 rfl (lv_at hl 1 rfl) ?_
      refine lv_iload_n hx hb dX11_firstDrowned_47 rfl (lv_at hl 2 rfl) ?_
      refine x_callz hw (x_runV (ci := 11) C hw (m_X11_isIn l C.2.2.2.2.2.2.2.2.1 hM h) (xoM_272 hM) rfl (x_gV xw_918 xw_919 xw_920 xw_5 xw_921) rfl rfl qX11_isIn ⟨(Nat.le_of_ble_eq_true rfl), (Nat.le_of_ble_eq_true rfl)⟩ rfl hl.1 rfl (Nat.le_of_ble_eq_true rfl) dX11_firstDrowned_48) (fun r3 u2 H locs hw h => ?_)
      refine lv_if_ne (tgt := 60) hx hb dX11_firstDrowned_51 (by decide) (fun c4 => ?_) (fun c4 => ?_)
      · have h := h.1 (xb_t c4)
        exact s_X11_firstDrowned_L60 C hM hw (lv_sub hl [0, 1, 2] rfl) h
      · have h := h.2 (xb_f c4)
        obtain ⟨x5, ex5⟩ : ∃ y : Int32, y = v2 + 1 := ⟨_, rfl⟩
        have h := h x5 ex5
        refine lv_iinc (v := x5) (lv' := [(2, .int x5), (0, .ref (xad g 272)), (1, .int v1)]) hx hb dX11_firstDrowned_54 hl (k := 2) rfl (by rw [ex5]; rfl) (by decide) rfl (fun ls hl => ?_)
        refine lv_goto (tgt := 41) hx hb dX11_firstDrowned_57 (by decide) ?_
        exact ih hw (lv_sub hl [1, 2, 0] rfl) h
set_option maxHeartbeats 4000000 in
set_option maxRecDepth 100000 in
theorem s_X11_firstDrowned_L32 {Qf : Int32 → xM → Prop} (C : x_C p s m args meth c g RX11 cX11_firstDrowned 3 (some .int)) (hM : xpM g) {v1 : Int32} {u : xM} {H : Heap} {locs : List Loc} {ls : Array Slot} (hw : x_W g s.heap H locs u) (hl : lv_has ls 3 [(0, .ref (xad g 272)), (1, .int v1)]) (h : p_X11_firstDrowned_L32 Qf v1 u) : W p l e (x_rm 8 176) s m args below meth c H locs 0 0 (MQ below (x_Qi g Qf) args s 0 0 (x_A g)) (F0 m 32 ls []) := by
  unfold p_X11_firstDrowned_L32 at h
  have hx := C.1
  have hb := C.2.1
  refine lv_aload_n hx hb dX11_firstDrowned_32 rfl (lv_at hl 0 rfl) ?_
  refine lv_sipush (v := 3144) hx hb dX11_firstDrowned_33 (by decide) ?_
  refine x_callv hw (x_runV (ci := 11) C hw (m_X11_restores l C.2.2.2.2.2.2.2.2.1 hM h) (xoM_272 hM) rfl (x_gV xw_1346 xw_1347 xw_1348 xw_5 xw_1349) rfl rfl qX11_restores ⟨(Nat.le_of_ble_eq_true rfl), (Nat.le_of_ble_eq_true rfl)⟩ rfl hl.1 rfl (Nat.le_of_ble_eq_true rfl) dX11_firstDrowned_36) (fun u1 H locs hw h => ?_)
  refine lv_iconst (v := 0) hx hb dX11_firstDrowned_39 (by decide) ?_
  refine lv_istore_n (lv' := [(2, .int 0), (0, .ref (xad g 272)), (1, .int v1)]) hx hb dX11_firstDrowned_40 rfl hl (by decide) rfl (fun ls hl => ?_)
  obtain ⟨n9, h⟩ := h
  exact s_X11_firstDrowned_L41 C hM n9 hw (lv_sub hl [1, 2, 0] rfl) h
set_option maxHeartbeats 4000000 in
set_option maxRecDepth 100000 in
theorem s_X11_firstDrowned_L11 {Qf : Int32 → xM → Prop} (C : x_C p s m args meth c g RX11 cX11_firstDrowned 3 (some .int)) (hM : xpM g) : ∀ (nn : Nat) {v1 : Int32} {v2 : Int32} {u : xM} {H : Heap} {locs : List Loc} {ls : Array Slot} (hw : x_W g s.heap H locs u) (hl : lv_has ls 3 [(0, .ref (xad g 272)), (1, .int v1), (2, .int v2)]) (h : p_X11_firstDrowned_L11 Qf nn v1 v2 u), W p l e (x_rm 8 176) s m args below meth c H locs 0 0 (MQ below (x_Qi g Qf) args s 0 0 (x_A g)) (F0 m 11 ls []) := by
  intro nn
  induction nn with
  | zero => intro v1 v2 u H locs ls hw hl h; exact h.elim
  | succ nn ih =>
    intro v1 v2 u H locs ls hw hl h
    unfold p_X11_firstDrowned_L11 at h
    have hx := C.1
    have hb := C.2.1
    refine lv_iload_n hx hb dX11_firstDrowned_11 rfl (lv_at hl 2 rfl) ?_
    refine lv_bipush (v := 99) hx hb dX11_firstDrowned_12 (by decide) ?_
    refine lv_icmp_ge (tgt := 32) hx hb dX11_firstDrowned_14 (by decide) (fun c1 => ?_) (fun c1 => ?_)
    · have h := h.1 c1
      exact s_X11_firstDrowned_L32 C hM hw (lv_sub hl [0, 1] rfl) h
    · have h := h.2 c1
      refine lv_iload_n hx hb dX11_firstDrowned_17 rfl (lv_at hl 1 rfl) ?_
      refine lv_if_ne (tgt := 32) hx hb dX11_firstDrowned_18 (by decide) (fun c2 => ?_) (fun c2 => ?_)
      · have h := h.1 c2
        exact s_X11_firstDrowned_L32 C hM hw (lv_sub hl [0, 1] rfl) h
      · have h := h.2 c2
        refine lv_aload_n hx hb dX11_firstDrowned_21 rfl (lv_at hl 0 rfl) ?_
        refine x_calli hw (x_runV (ci := 11) C hw (m_X11_goesBy l C.2.2.2.2.2.2.2.2.1 hM h) (xoM_272 hM) rfl (x_gV xw_1204 xw_1205 xw_1206 xw_5 xw_1207) rfl rfl qX11_goesBy ⟨(Nat.le_of_ble_eq_true rfl), (Nat.le_of_ble_eq_true rfl)⟩ rfl hl.1 rfl (Nat.le_of_ble_eq_true rfl) dX11_firstDrowned_22) (fun r4 u3 H locs hw h => ?_)
        refine lv_istore_n (lv' := [(1, .int r4), (0, .ref (xad g 272)), (2, .int v2)]) hx hb dX11_firstDrowned_25 rfl hl (by decide) rfl (fun ls hl => ?_)
        obtain ⟨x5, ex5⟩ : ∃ y : Int32, y = v2 + 1 := ⟨_, rfl⟩
        have h := h x5 ex5
        refine lv_iinc (v := x5) (lv' := [(2, .int x5), (1, .int r4), (0, .ref (xad g 272))]) hx hb dX11_firstDrowned_26 hl (k := 2) rfl (by rw [ex5]; rfl) (by decide) rfl (fun ls hl => ?_)
        refine lv_goto (tgt := 11) hx hb dX11_firstDrowned_29 (by decide) ?_
        exact ih hw (lv_sub hl [2, 1, 0] rfl) h
set_option maxHeartbeats 4000000 in
set_option maxRecDepth 100000 in
theorem s_X11_firstDrowned {Qf : Int32 → xM → Prop} (C : x_C p s m args meth c g RX11 cX11_firstDrowned 3 (some .int)) (hM : xpM g) {u : xM} {H : Heap} {locs : List Loc} {ls : Array Slot} (hw : x_W g s.heap H locs u) (hl : lv_has ls 3 [(0, .ref (xad g 272))]) (h : p_X11_firstDrowned  u Qf) : W p l e (x_rm 8 176) s m args below meth c H locs 0 0 (MQ below (x_Qi g Qf) args s 0 0 (x_A g)) (F0 m 0 ls []) := by
  unfold p_X11_firstDrowned at h
  have hx := C.1
  have hb := C.2.1
  refine lv_iconst (v := 0) hx hb dX11_firstDrowned_0 (by decide) ?_
  refine lv_istore_n (lv' := [(1, .int 0), (0, .ref (xad g 272))]) hx hb dX11_firstDrowned_1 rfl hl (by decide) rfl (fun ls hl => ?_)
  refine lv_aload_n hx hb dX11_firstDrowned_2 rfl (lv_at hl 1 rfl) ?_
  refine lv_sipush (v := 3144) hx hb dX11_firstDrowned_3 (by decide) ?_
  refine x_callv hw (x_runV (ci := 11) C hw (m_X11_keeps l C.2.2.2.2.2.2.2.2.1 hM h) (xoM_272 hM) rfl (x_gV xw_1342 xw_1343 xw_1344 xw_5 xw_1345) rfl rfl qX11_keeps ⟨(Nat.le_of_ble_eq_true rfl), (Nat.le_of_ble_eq_true rfl)⟩ rfl hl.1 rfl (Nat.le_of_ble_eq_true rfl) dX11_firstDrowned_6) (fun u1 H locs hw h => ?_)
  refine lv_iconst (v := 0) hx hb dX11_firstDrowned_9 (by decide) ?_
  refine lv_istore_n (lv' := [(2, .int 0), (1, .int 0), (0, .ref (xad g 272))]) hx hb dX11_firstDrowned_10 rfl hl (by decide) rfl (fun ls hl => ?_)
  obtain ⟨n9, h⟩ := h
  exact s_X11_firstDrowned_L11 C hM n9 hw (lv_sub hl [2, 1, 0] rfl) h
set_option maxHeartbeats 4000000 in
set_option maxRecDepth 100000 in
theorem m_X11_firstDrowned (l : Launch) {g : xG} (hD : x_D g) (hM : xpM g) {u : xM} {Qf : Int32 → xM → Prop} (h : p_X11_firstDrowned  u Qf) : Met l yX11_firstDrowned (Cond.code yX11_firstDrowned cX11_firstDrowned 3 (some .int) :: wsL_law) (x_rm 8 176) (va_Pc [.ref (xad g 272)] (x_B g u)) (x_Qi g Qf) 0 0 (x_A g) := by
  refine Met.ofW (cc := cX11_firstDrowned) (maxL := 3) (ret := (some .int)) (by decide) rfl ?_
  intro p e s m args below meth c s₁ B hml hv
  obtain ⟨rfl, hB⟩ := hv
  obtain ⟨C, hw⟩ := x_start B hml hD hB
  have hl := lv_entry [.ref (xad g 272)] (n := 3) (Nat.le_of_ble_eq_true rfl)
  rw [lg_entry_eq]
  exact s_X11_firstDrowned C hM hw hl h
set_option maxHeartbeats 4000000 in
set_option maxRecDepth 100000 in
theorem s_X11_bestHour_L72 {Qf : Int32 → xM → Prop} {K30 : Int32 → Int32 → Int32 → Int32 → xM → Prop} {K40 : Int32 → Int32 → Int32 → Int32 → Int32 → xM → Prop} (C : x_C p s m args meth c g RX11 cX11_bestHour 6 (some .int)) (hM : xpM g) (hK30 : ∀ {v1 : Int32} {v2 : Int32} {v3 : Int32} {v4 : Int32} {u : xM} {H : Heap} {locs : List Loc} {ls : Array Slot}, x_W g s.heap H locs u → lv_has ls 6 [(0, .ref (xad g 272)), (1, .int v1), (2, .int v2), (3, .int v3), (4, .int v4)] → K30 v1 v2 v3 v4 u → W p l e (x_rm 8 176) s m args below meth c H locs 0 0 (MQ below (x_Qi g Qf) args s 0 0 (x_A g)) (F0 m 30 ls [])) (hK40 : ∀ {v1 : Int32} {v2 : Int32} {v3 : Int32} {v4 : Int32} {v5 : Int32} {u : xM} {H : Heap} {locs : List Loc} {ls : Array Slot}, x_W g s.heap H locs u → lv_has ls 6 [(0, .ref (xad g 272)), (1, .int v1), (2, .int v2), (3, .int v3), (4, .int v4), (5, .int v5)] → K40 v1 v2 v3 v4 v5 u → W p l e (x_rm 8 176) s m args below meth c H locs 0 0 (MQ below (x_Qi g Qf) args s 0 0 (x_A g)) (F0 m 40 ls [])) {v1 : Int32} {v2 : Int32} {v3 : Int32} {v4 : Int32} {v5 : Int32} {w1 : Int32} {w2 : Bool} {u : xM} {H : Heap} {locs : List Loc} {ls : Array Slot} (hw : x_W g s.heap H locs u) (hl : lv_has ls 6 [(0, .ref (xad g 272)), (1, .int v1), (2, .int v2), (3, .int v3), (4, .int v4), (5, .int v5)]) (h : p_X11_bestHour_L72 Qf K30 K40 v1 v2 v3 v4 v5 w1 w2 u) : W p l e (x_rm 8 176) s m args below meth c H locs 0 0 (MQ below (x_Qi g Qf) args s 0 0 (x_A g)) (F0 m 72 ls [.int (xb w2), .int w1, .ref (xad g 273)]) := by
  unfold p_X11_bestHour_L72 at h
  have hx := C.1
  have hb := C.2.1
  have c1 := h.1
  have h := h.2
  obtain ⟨u2, eu2⟩ : ∃ q : xM, q = si u 273 w1.toNatClampNeg (xb w2) := ⟨_, rfl⟩
  have h := h u2 eu2
  refine x_iast C hw (xoM_273 hM) c1 dX11_bestHour_72 eu2 (fun H locs hw => ?_)
  refine lv_aload_n hx hb dX11_bestHour_73 rfl (lv_at hl 0 rfl) ?_
  refine x_calli hw (x_runV (ci := 11) C hw (m_X11_goesBy l C.2.2.2.2.2.2.2.2.1 hM h) (xoM_272 hM) rfl (x_gV xw_1204 xw_1205 xw_1206 xw_5 xw_1207) rfl rfl qX11_goesBy ⟨(Nat.le_of_ble_eq_true rfl), (Nat.le_of_ble_eq_true rfl)⟩ rfl hl.1 rfl (Nat.le_of_ble_eq_true rfl) dX11_bestHour_74) (fun r4 u3 H locs hw h => ?_)
  refine lv_pop hx hb dX11_bestHour_77 rfl ?_
  obtain ⟨x5, ex5⟩ : ∃ y : Int32, y = v5 + 1 := ⟨_, rfl⟩
  have h := h x5 ex5
  refine lv_iinc (v := x5) (lv' := [(5, .int x5), (0, .ref (xad g 272)), (1, .int v1), (2, .int v2), (3, .int v3), (4, .int v4)]) hx hb dX11_bestHour_78 hl (k := 5) rfl (by rw [ex5]; rfl) (by decide) rfl (fun ls hl => ?_)
  refine lv_goto (tgt := 40) hx hb dX11_bestHour_81 (by decide) ?_
  exact hK40 hw (lv_sub hl [1, 2, 3, 4, 5, 0] rfl) h
set_option maxHeartbeats 4000000 in
set_option maxRecDepth 100000 in
theorem s_X11_bestHour_L40 {Qf : Int32 → xM → Prop} {K30 : Int32 → Int32 → Int32 → Int32 → xM → Prop} (C : x_C p s m args meth c g RX11 cX11_bestHour 6 (some .int)) (hM : xpM g) (hK30 : ∀ {v1 : Int32} {v2 : Int32} {v3 : Int32} {v4 : Int32} {u : xM} {H : Heap} {locs : List Loc} {ls : Array Slot}, x_W g s.heap H locs u → lv_has ls 6 [(0, .ref (xad g 272)), (1, .int v1), (2, .int v2), (3, .int v3), (4, .int v4)] → K30 v1 v2 v3 v4 u → W p l e (x_rm 8 176) s m args below meth c H locs 0 0 (MQ below (x_Qi g Qf) args s 0 0 (x_A g)) (F0 m 30 ls [])) : ∀ (nn : Nat) {v1 : Int32} {v2 : Int32} {v3 : Int32} {v4 : Int32} {v5 : Int32} {u : xM} {H : Heap} {locs : List Loc} {ls : Array Slot} (hw : x_W g s.heap H locs u) (hl : lv_has ls 6 [(0, .ref (xad g 272)), (1, .int v1), (2, .int v2), (3, .int v3), (4, .int v4), (5, .int v5)]) (h : p_X11_bestHour_L40 Qf K30 nn v1 v2 v3 v4 v5 u), W p l e (x_rm 8 176) s m args below meth c H locs 0 0 (MQ below (x_Qi g Qf) args s 0 0 (x_A g)) (F0 m 40 ls []) := by
  intro nn
  induction nn with
  | zero => intro v1 v2 v3 v4 v5 u H locs ls hw hl h; exact h.elim
  | succ nn ih =>
    intro v1 v2 v3 v4 v5 u H locs ls hw hl h
    unfold p_X11_bestHour_L40 at h
    have hx := C.1
    have hb := C.2.1
    refine lv_iload hx hb dX11_bestHour_40 (lv_at hl 5 rfl) ?_
    refine lv_bipush (v := 12) hx hb dX11_bestHour_42 (by decide) ?_
    refine lv_icmp_ge (tgt := 84) hx hb dX11_bestHour_44 (by decide) (fun c1 => ?_) (fun c1 => ?_)
    · have h := h.1 c1
      refine lv_aload_n hx hb dX11_bestHour_84 rfl (lv_at hl 0 rfl) ?_
      refine x_calli hw (x_runV (ci := 11) C hw (m_X11_allWater l C.2.2.2.2.2.2.2.2.1 hM h) (xoM_272 hM) rfl (x_gV xw_888 xw_889 xw_890 xw_5 xw_891) rfl rfl qX11_allWater ⟨(Nat.le_of_ble_eq_true rfl), (Nat.le_of_ble_eq_true rfl)⟩ rfl hl.1 rfl (Nat.le_of_ble_eq_true rfl) dX11_bestHour_85) (fun r3 u2 H locs hw h => ?_)
      refine lv_istore (lv' := [(5, .int r3), (0, .ref (xad g 272)), (1, .int v1), (2, .int v2), (3, .int v3), (4, .int v4)]) hx hb dX11_bestHour_88 hl (by decide) rfl (fun ls hl => ?_)
      refine lv_aload_n hx hb dX11_bestHour_90 rfl (lv_at hl 1 rfl) ?_
      refine lv_sipush (v := 3144) hx hb dX11_bestHour_91 (by decide) ?_
      refine x_callv hw (x_runV (ci := 11) C hw (m_X11_restores l C.2.2.2.2.2.2.2.2.1 hM h) (xoM_272 hM) rfl (x_gV xw_1346 xw_1347 xw_1348 xw_5 xw_1349) rfl rfl qX11_restores ⟨(Nat.le_of_ble_eq_true rfl), (Nat.le_of_ble_eq_true rfl)⟩ rfl hl.1 rfl (Nat.le_of_ble_eq_true rfl) dX11_bestHour_94) (fun u4 H locs hw h => ?_)
      refine lv_iload hx hb dX11_bestHour_97 (lv_at hl 0 rfl) ?_
      refine lv_iload_n hx hb dX11_bestHour_99 rfl (lv_at hl 4 rfl) ?_
      refine lv_icmp_lt (tgt := 106) hx hb dX11_bestHour_100 (by decide) (fun c5 => ?_) (fun c5 => ?_)
      · have h := h.1 c5
        refine lv_iload hx hb dX11_bestHour_106 (lv_at hl 0 rfl) ?_
        refine lv_istore_n (lv' := [(3, .int r3), (5, .int r3), (0, .ref (xad g 272)), (1, .int v1), (2, .int v2), (4, .int v4)]) hx hb dX11_bestHour_108 rfl hl (by decide) rfl (fun ls hl => ?_)
        refine lv_iload hx hb dX11_bestHour_109 (lv_at hl 5 rfl) ?_
        refine lv_istore_n (lv' := [(2, .int v4), (3, .int r3), (5, .int r3), (0, .ref (xad g 272)), (1, .int v1), (4, .int v4)]) hx hb dX11_bestHour_111 rfl hl (by decide) rfl (fun ls hl => ?_)
        obtain ⟨x6, ex6⟩ : ∃ y : Int32, y = v4 + 1 := ⟨_, rfl⟩
        have h := h x6 ex6
        refine lv_iinc (v := x6) (lv' := [(4, .int x6), (2, .int v4), (3, .int r3), (5, .int r3), (0, .ref (xad g 272)), (1, .int v1)]) hx hb dX11_bestHour_112 hl (k := 5) rfl (by rw [ex6]; rfl) (by decide) rfl (fun ls hl => ?_)
        refine lv_goto (tgt := 30) hx hb dX11_bestHour_115 (by decide) ?_
        exact hK30 hw (lv_sub hl [4, 5, 1, 2, 0] rfl) h
      · have h := h.2 c5
        refine lv_goto (tgt := 112) hx hb dX11_bestHour_103 (by decide) ?_
        obtain ⟨x7, ex7⟩ : ∃ y : Int32, y = v4 + 1 := ⟨_, rfl⟩
        have h := h x7 ex7
        refine lv_iinc (v := x7) (lv' := [(4, .int x7), (5, .int r3), (0, .ref (xad g 272)), (1, .int v1), (2, .int v2), (3, .int v3)]) hx hb dX11_bestHour_112 hl (k := 5) rfl (by rw [ex7]; rfl) (by decide) rfl (fun ls hl => ?_)
        refine lv_goto (tgt := 30) hx hb dX11_bestHour_115 (by decide) ?_
        exact hK30 hw (lv_sub hl [2, 3, 4, 5, 0] rfl) h
    · have h := h.2 c1
      refine lv_aload_n hx hb dX11_bestHour_47 rfl (lv_at hl 0 rfl) ?_
      refine x_getr (ci := 11) C hw 0 (xoM_272 hM) rfl inlX11 (by decide) rfl rfl xrM_272_0 xw_219 dX11_bestHour_48 ?_
      refine lv_iload_n hx hb dX11_bestHour_51 rfl (lv_at hl 1 rfl) ?_
      refine x_calli hw (x_runS C hw (m_X11_doorRow l C.2.2.2.2.2.2.2.2.1  h) (x_gS xw_915 xw_916 xw_5 xw_917) rfl rfl qX11_doorRow ⟨(Nat.le_of_ble_eq_true rfl), (Nat.le_of_ble_eq_true rfl)⟩ rfl hl.1 rfl (Nat.le_of_ble_eq_true rfl) dX11_bestHour_52) (fun r9 u8 H locs hw h => ?_)
      refine lv_bipush (v := 6) hx hb dX11_bestHour_55 (by decide) ?_
      refine lv_iadd hx hb dX11_bestHour_57 ?_
      refine lv_aload_n hx hb dX11_bestHour_58 rfl (lv_at hl 0 rfl) ?_
      refine x_calli hw (x_runV (ci := 11) C hw (m_X11_now l C.2.2.2.2.2.2.2.2.1 hM h) (xoM_272 hM) rfl (x_gV xw_922 xw_923 xw_924 xw_5 xw_925) rfl rfl qX11_now ⟨(Nat.le_of_ble_eq_true rfl), (Nat.le_of_ble_eq_true rfl)⟩ rfl hl.1 rfl (Nat.le_of_ble_eq_true rfl) dX11_bestHour_59) (fun r11 u10 H locs hw h => ?_)
      refine lv_iload hx hb dX11_bestHour_62 (lv_at hl 4 rfl) ?_
      refine lv_icmp_ne (tgt := 71) hx hb dX11_bestHour_64 (by decide) (fun c12 => ?_) (fun c12 => ?_)
      · have h := h.1 c12
        refine lv_iconst (v := 0) hx hb dX11_bestHour_71 (by decide) ?_
        exact s_X11_bestHour_L72 C hM hK30 (fun hw hl h => ih hw hl h) hw (lv_sub hl [0, 1, 2, 3, 4, 5] rfl) h
      · have h := h.2 c12
        refine lv_iconst (v := 1) hx hb dX11_bestHour_67 (by decide) ?_
        refine lv_goto (tgt := 72) hx hb dX11_bestHour_68 (by decide) ?_
        exact s_X11_bestHour_L72 C hM hK30 (fun hw hl h => ih hw hl h) hw (lv_sub hl [0, 1, 2, 3, 4, 5] rfl) h
set_option maxHeartbeats 4000000 in
set_option maxRecDepth 100000 in
theorem s_X11_bestHour_L30 {Qf : Int32 → xM → Prop} (C : x_C p s m args meth c g RX11 cX11_bestHour 6 (some .int)) (hM : xpM g) : ∀ (nn : Nat) {v1 : Int32} {v2 : Int32} {v3 : Int32} {v4 : Int32} {u : xM} {H : Heap} {locs : List Loc} {ls : Array Slot} (hw : x_W g s.heap H locs u) (hl : lv_has ls 6 [(0, .ref (xad g 272)), (1, .int v1), (2, .int v2), (3, .int v3), (4, .int v4)]) (h : p_X11_bestHour_L30 Qf nn v1 v2 v3 v4 u), W p l e (x_rm 8 176) s m args below meth c H locs 0 0 (MQ below (x_Qi g Qf) args s 0 0 (x_A g)) (F0 m 30 ls []) := by
  intro nn
  induction nn with
  | zero => intro v1 v2 v3 v4 u H locs ls hw hl h; exact h.elim
  | succ nn ih =>
    intro v1 v2 v3 v4 u H locs ls hw hl h
    unfold p_X11_bestHour_L30 at h
    have hx := C.1
    have hb := C.2.1
    refine lv_iload hx hb dX11_bestHour_30 (lv_at hl 4 rfl) ?_
    refine lv_bipush (v := 12) hx hb dX11_bestHour_32 (by decide) ?_
    refine lv_icmp_ge (tgt := 118) hx hb dX11_bestHour_34 (by decide) (fun c1 => ?_) (fun c1 => ?_)
    · have h := h.1 c1
      refine lv_aload_n hx hb dX11_bestHour_118 rfl (lv_at hl 0 rfl) ?_
      refine lv_iload_n hx hb dX11_bestHour_119 rfl (lv_at hl 2 rfl) ?_
      refine x_calli hw (x_runV (ci := 11) C hw (m_X11_gives l C.2.2.2.2.2.2.2.2.1 hM h) (xoM_272 hM) rfl (x_gV xw_731 xw_732 xw_733 xw_5 xw_734) rfl rfl qX11_gives ⟨(Nat.le_of_ble_eq_true rfl), (Nat.le_of_ble_eq_true rfl)⟩ rfl hl.1 rfl (Nat.le_of_ble_eq_true rfl) dX11_bestHour_120) (fun r3 u2 H locs hw h => ?_)
      exact x_iret C hw h dX11_bestHour_123
    · have h := h.2 c1
      refine lv_iconst (v := 0) hx hb dX11_bestHour_37 (by decide) ?_
      refine lv_istore (lv' := [(5, .int 0), (0, .ref (xad g 272)), (1, .int v1), (2, .int v2), (3, .int v3), (4, .int v4)]) hx hb dX11_bestHour_38 hl (by decide) rfl (fun ls hl => ?_)
      obtain ⟨n9, h⟩ := h
      exact s_X11_bestHour_L40 C hM (fun hw hl h => ih hw hl h) n9 hw (lv_sub hl [1, 2, 3, 4, 5, 0] rfl) h
set_option maxHeartbeats 4000000 in
set_option maxRecDepth 100000 in
theorem s_X11_bestHour {Qf : Int32 → xM → Prop} {a1 : Int32} (C : x_C p s m args meth c g RX11 cX11_bestHour 6 (some .int)) (hM : xpM g) {u : xM} {H : Heap} {locs : List Loc} {ls : Array Slot} (hw : x_W g s.heap H locs u) (hl : lv_has ls 6 [(0, .ref (xad g 272)), (1, .int a1)]) (h : p_X11_bestHour a1 u Qf) : W p l e (x_rm 8 176) s m args below meth c H locs 0 0 (MQ below (x_Qi g Qf) args s 0 0 (x_A g)) (F0 m 0 ls []) := by
  unfold p_X11_bestHour at h
  have hx := C.1
  have hb := C.2.1
  refine lv_aload_n hx hb dX11_bestHour_0 rfl (lv_at hl 0 rfl) ?_
  refine lv_iload_n hx hb dX11_bestHour_1 rfl (lv_at hl 1 rfl) ?_
  refine x_callz hw (x_runV (ci := 11) C hw (m_X11_isDoor l C.2.2.2.2.2.2.2.2.1 hM h) (xoM_272 hM) rfl (x_gV xw_977 xw_978 xw_979 xw_5 xw_980) rfl rfl qX11_isDoor ⟨(Nat.le_of_ble_eq_true rfl), (Nat.le_of_ble_eq_true rfl)⟩ rfl hl.1 rfl (Nat.le_of_ble_eq_true rfl) dX11_bestHour_2) (fun r2 u1 H locs hw h => ?_)
  refine lv_if_ne (tgt := 14) hx hb dX11_bestHour_5 (by decide) (fun c3 => ?_) (fun c3 => ?_)
  · have h := h.1 (xb_t c3)
    refine lv_iconst (v := -1) hx hb dX11_bestHour_14 (by decide) ?_
    refine lv_istore_n (lv' := [(2, .int (-1)), (0, .ref (xad g 272)), (1, .int a1)]) hx hb dX11_bestHour_15 rfl hl (by decide) rfl (fun ls hl => ?_)
    refine lv_ldcw (v := 1000000) hx hb C.2.2.2.1 (C.2.2.2.2.1 _ xw_1465) dX11_bestHour_16 ?_
    refine lv_istore_n (lv' := [(3, .int 1000000), (2, .int (-1)), (0, .ref (xad g 272)), (1, .int a1)]) hx hb dX11_bestHour_19 rfl hl (by decide) rfl (fun ls hl => ?_)
    refine lv_aload_n hx hb dX11_bestHour_20 rfl (lv_at hl 2 rfl) ?_
    refine lv_sipush (v := 3144) hx hb dX11_bestHour_21 (by decide) ?_
    refine x_callv hw (x_runV (ci := 11) C hw (m_X11_keeps l C.2.2.2.2.2.2.2.2.1 hM h) (xoM_272 hM) rfl (x_gV xw_1342 xw_1343 xw_1344 xw_5 xw_1345) rfl rfl qX11_keeps ⟨(Nat.le_of_ble_eq_true rfl), (Nat.le_of_ble_eq_true rfl)⟩ rfl hl.1 rfl (Nat.le_of_ble_eq_true rfl) dX11_bestHour_24) (fun u4 H locs hw h => ?_)
    refine lv_iconst (v := 0) hx hb dX11_bestHour_27 (by decide) ?_
    refine lv_istore (lv' := [(4, .int 0), (3, .int 1000000), (2, .int (-1)), (0, .ref (xad g 272)), (1, .int a1)]) hx hb dX11_bestHour_28 hl (by decide) rfl (fun ls hl => ?_)
    obtain ⟨n9, h⟩ := h
    exact s_X11_bestHour_L30 C hM n9 hw (lv_sub hl [3, 4, 2, 1, 0] rfl) h
  · have h := h.2 (xb_f c3)
    refine lv_aload_n hx hb dX11_bestHour_8 rfl (lv_at hl 0 rfl) ?_
    refine lv_iconst (v := 1) hx hb dX11_bestHour_9 (by decide) ?_
    refine x_calli hw (x_runV (ci := 11) C hw (m_X11_refuse l C.2.2.2.2.2.2.2.2.1 hM h) (xoM_272 hM) rfl (x_gV xw_657 xw_658 xw_659 xw_5 xw_660) rfl rfl qX11_refuse ⟨(Nat.le_of_ble_eq_true rfl), (Nat.le_of_ble_eq_true rfl)⟩ rfl hl.1 rfl (Nat.le_of_ble_eq_true rfl) dX11_bestHour_10) (fun r6 u5 H locs hw h => ?_)
    exact x_iret C hw h dX11_bestHour_13
set_option maxHeartbeats 4000000 in
set_option maxRecDepth 100000 in
theorem m_X11_bestHour (l : Launch) {g : xG} (hD : x_D g) (hM : xpM g) {a1 : Int32} {u : xM} {Qf : Int32 → xM → Prop} (h : p_X11_bestHour a1 u Qf) : Met l yX11_bestHour (Cond.code yX11_bestHour cX11_bestHour 6 (some .int) :: wsL_law) (x_rm 8 176) (va_Pc [.ref (xad g 272), .int a1] (x_B g u)) (x_Qi g Qf) 0 0 (x_A g) := by
  refine Met.ofW (cc := cX11_bestHour) (maxL := 6) (ret := (some .int)) (by decide) rfl ?_
  intro p e s m args below meth c s₁ B hml hv
  obtain ⟨rfl, hB⟩ := hv
  obtain ⟨C, hw⟩ := x_start B hml hD hB
  have hl := lv_entry [.ref (xad g 272), .int a1] (n := 6) (Nat.le_of_ble_eq_true rfl)
  rw [lg_entry_eq]
  exact s_X11_bestHour C hM hw hl h
set_option maxHeartbeats 4000000 in
set_option maxRecDepth 100000 in
theorem s_X11_pumpFor_L66 {Qf : Int32 → xM → Prop} {K25 : Int32 → Int32 → Int32 → xM → Prop} (C : x_C p s m args meth c g RX11 cX11_pumpFor 4 (some .int)) (hM : xpM g) (hK25 : ∀ {v1 : Int32} {v2 : Int32} {v3 : Int32} {u : xM} {H : Heap} {locs : List Loc} {ls : Array Slot}, x_W g s.heap H locs u → lv_has ls 4 [(0, .ref (xad g 272)), (1, .int v1), (2, .int v2), (3, .int v3)] → K25 v1 v2 v3 u → W p l e (x_rm 9 199) s m args below meth c H locs 0 0 (MQ below (x_Qi g Qf) args s 0 0 (x_A g)) (F0 m 25 ls [])) {v1 : Int32} {v2 : Int32} {v3 : Int32} {u : xM} {H : Heap} {locs : List Loc} {ls : Array Slot} (hw : x_W g s.heap H locs u) (hl : lv_has ls 4 [(0, .ref (xad g 272)), (1, .int v1), (2, .int v2), (3, .int v3)]) (h : p_X11_pumpFor_L66 Qf K25 v1 v2 v3 u) : W p l e (x_rm 9 199) s m args below meth c H locs 0 0 (MQ below (x_Qi g Qf) args s 0 0 (x_A g)) (F0 m 66 ls []) := by
  unfold p_X11_pumpFor_L66 at h
  have hx := C.1
  have hb := C.2.1
  refine lv_aload_n hx hb dX11_pumpFor_66 rfl (lv_at hl 0 rfl) ?_
  refine lv_sipush (v := 3144) hx hb dX11_pumpFor_67 (by decide) ?_
  refine x_callv hw (x_runV (ci := 11) C hw (m_X11_restores l C.2.2.2.2.2.2.2.2.1 hM h) (xoM_272 hM) rfl (x_gV xw_1346 xw_1347 xw_1348 xw_5 xw_1349) rfl rfl qX11_restores ⟨(Nat.le_of_ble_eq_true rfl), (Nat.le_of_ble_eq_true rfl)⟩ rfl hl.1 rfl (Nat.le_of_ble_eq_true rfl) dX11_pumpFor_70) (fun u1 H locs hw h => ?_)
  obtain ⟨x2, ex2⟩ : ∃ y : Int32, y = v3 + 1 := ⟨_, rfl⟩
  have h := h x2 ex2
  refine lv_iinc (v := x2) (lv' := [(3, .int x2), (0, .ref (xad g 272)), (1, .int v1), (2, .int v2)]) hx hb dX11_pumpFor_73 hl (k := 3) rfl (by rw [ex2]; rfl) (by decide) rfl (fun ls hl => ?_)
  refine lv_goto (tgt := 25) hx hb dX11_pumpFor_76 (by decide) ?_
  exact hK25 hw (lv_sub hl [1, 2, 3, 0] rfl) h
set_option maxHeartbeats 4000000 in
set_option maxRecDepth 100000 in
theorem s_X11_pumpFor_L25 {Qf : Int32 → xM → Prop} (C : x_C p s m args meth c g RX11 cX11_pumpFor 4 (some .int)) (hM : xpM g) : ∀ (nn : Nat) {v1 : Int32} {v2 : Int32} {v3 : Int32} {u : xM} {H : Heap} {locs : List Loc} {ls : Array Slot} (hw : x_W g s.heap H locs u) (hl : lv_has ls 4 [(0, .ref (xad g 272)), (1, .int v1), (2, .int v2), (3, .int v3)]) (h : p_X11_pumpFor_L25 Qf nn v1 v2 v3 u), W p l e (x_rm 9 199) s m args below meth c H locs 0 0 (MQ below (x_Qi g Qf) args s 0 0 (x_A g)) (F0 m 25 ls []) := by
  intro nn
  induction nn with
  | zero => intro v1 v2 v3 u H locs ls hw hl h; exact h.elim
  | succ nn ih =>
    intro v1 v2 v3 u H locs ls hw hl h
    unfold p_X11_pumpFor_L25 at h
    have hx := C.1
    have hb := C.2.1
    refine lv_iload_n hx hb dX11_pumpFor_25 rfl (lv_at hl 3 rfl) ?_
    refine lv_bipush (v := 100) hx hb dX11_pumpFor_26 (by decide) ?_
    refine lv_icmp_ge (tgt := 79) hx hb dX11_pumpFor_28 (by decide) (fun c1 => ?_) (fun c1 => ?_)
    · have h := h.1 c1
      refine lv_aload_n hx hb dX11_pumpFor_79 rfl (lv_at hl 0 rfl) ?_
      refine lv_iload_n hx hb dX11_pumpFor_80 rfl (lv_at hl 2 rfl) ?_
      refine x_calli hw (x_runV (ci := 11) C hw (m_X11_orNone l C.2.2.2.2.2.2.2.2.1 hM h) (xoM_272 hM) rfl (x_gV xw_1094 xw_1095 xw_1096 xw_5 xw_1097) rfl rfl qX11_orNone ⟨(Nat.le_of_ble_eq_true rfl), (Nat.le_of_ble_eq_true rfl)⟩ rfl hl.1 rfl (Nat.le_of_ble_eq_true rfl) dX11_pumpFor_81) (fun r3 u2 H locs hw h => ?_)
      exact x_iret C hw h dX11_pumpFor_84
    · have h := h.2 c1
      refine lv_iload_n hx hb dX11_pumpFor_31 rfl (lv_at hl 2 rfl) ?_
      refine lv_iconst (v := -1) hx hb dX11_pumpFor_32 (by decide) ?_
      refine lv_icmp_ne (tgt := 79) hx hb dX11_pumpFor_33 (by decide) (fun c4 => ?_) (fun c4 => ?_)
      · have h := h.1 c4
        refine lv_aload_n hx hb dX11_pumpFor_79 rfl (lv_at hl 0 rfl) ?_
        refine lv_iload_n hx hb dX11_pumpFor_80 rfl (lv_at hl 2 rfl) ?_
        refine x_calli hw (x_runV (ci := 11) C hw (m_X11_orNone l C.2.2.2.2.2.2.2.2.1 hM h) (xoM_272 hM) rfl (x_gV xw_1094 xw_1095 xw_1096 xw_5 xw_1097) rfl rfl qX11_orNone ⟨(Nat.le_of_ble_eq_true rfl), (Nat.le_of_ble_eq_true rfl)⟩ rfl hl.1 rfl (Nat.le_of_ble_eq_true rfl) dX11_pumpFor_81) (fun r6 u5 H locs hw h => ?_)
        exact x_iret C hw h dX11_pumpFor_84
      · have h := h.2 c4
        refine lv_aload_n hx hb dX11_pumpFor_36 rfl (lv_at hl 0 rfl) ?_
        refine x_getr (ci := 11) C hw 0 (xoM_272 hM) rfl inlX11 (by decide) rfl rfl xrM_272_0 xw_219 dX11_pumpFor_37 ?_
        refine lv_iload_n hx hb dX11_pumpFor_40 rfl (lv_at hl 1 rfl) ?_
        refine x_calli hw (x_runS C hw (m_X11_roomRow l C.2.2.2.2.2.2.2.2.1  h) (x_gS xw_896 xw_897 xw_5 xw_898) rfl rfl qX11_roomRow ⟨(Nat.le_of_ble_eq_true rfl), (Nat.le_of_ble_eq_true rfl)⟩ rfl hl.1 rfl (Nat.le_of_ble_eq_true rfl) dX11_pumpFor_41) (fun r8 u7 H locs hw h => ?_)
        refine lv_iconst (v := 3) hx hb dX11_pumpFor_44 (by decide) ?_
        refine lv_iadd hx hb dX11_pumpFor_45 ?_
        refine lv_iload_n hx hb dX11_pumpFor_46 rfl (lv_at hl 3 rfl) ?_
        have c9 := h.1
        have h := h.2
        obtain ⟨u10, eu10⟩ : ∃ q : xM, q = si u7 273 (r8 + (3 : Int32)).toNatClampNeg v3 := ⟨_, rfl⟩
        have h := h u10 eu10
        refine x_iast C hw (xoM_273 hM) c9 dX11_pumpFor_47 eu10 (fun H locs hw => ?_)
        refine lv_aload_n hx hb dX11_pumpFor_48 rfl (lv_at hl 0 rfl) ?_
        refine lv_bipush (v := 24) hx hb dX11_pumpFor_49 (by decide) ?_
        refine x_calli hw (x_runV (ci := 11) C hw (m_X11_goes l C.2.2.2.2.2.2.2.2.1 hM h) (xoM_272 hM) rfl (x_gV xw_1200 xw_1201 xw_1202 xw_5 xw_1203) rfl rfl qX11_goes ⟨(Nat.le_of_ble_eq_true rfl), (Nat.le_of_ble_eq_true rfl)⟩ rfl hl.1 rfl (Nat.le_of_ble_eq_true rfl) dX11_pumpFor_51) (fun r12 u11 H locs hw h => ?_)
        refine lv_pop hx hb dX11_pumpFor_54 rfl ?_
        refine lv_aload_n hx hb dX11_pumpFor_55 rfl (lv_at hl 0 rfl) ?_
        refine lv_iload_n hx hb dX11_pumpFor_56 rfl (lv_at hl 1 rfl) ?_
        refine lv_iconst (v := 5) hx hb dX11_pumpFor_57 (by decide) ?_
        refine x_calli hw (x_runV (ci := 11) C hw (m_X11_roomOf l C.2.2.2.2.2.2.2.2.1 hM h) (xoM_272 hM) rfl (x_gV xw_892 xw_893 xw_894 xw_5 xw_895) rfl rfl qX11_roomOf ⟨(Nat.le_of_ble_eq_true rfl), (Nat.le_of_ble_eq_true rfl)⟩ rfl hl.1 rfl (Nat.le_of_ble_eq_true rfl) dX11_pumpFor_58) (fun r14 u13 H locs hw h => ?_)
        refine lv_if_ne (tgt := 66) hx hb dX11_pumpFor_61 (by decide) (fun c15 => ?_) (fun c15 => ?_)
        · have h := h.1 c15
          exact s_X11_pumpFor_L66 C hM (fun hw hl h => ih hw hl h) hw (lv_sub hl [0, 1, 2, 3] rfl) h
        · have h := h.2 c15
          refine lv_iload_n hx hb dX11_pumpFor_64 rfl (lv_at hl 3 rfl) ?_
          refine lv_istore_n (lv' := [(2, .int v3), (0, .ref (xad g 272)), (1, .int v1), (3, .int v3)]) hx hb dX11_pumpFor_65 rfl hl (by decide) rfl (fun ls hl => ?_)
          exact s_X11_pumpFor_L66 C hM (fun hw hl h => ih hw hl h) hw (lv_sub hl [1, 2, 0, 3] rfl) h
set_option maxHeartbeats 4000000 in
set_option maxRecDepth 100000 in
theorem s_X11_pumpFor {Qf : Int32 → xM → Prop} {a1 : Int32} (C : x_C p s m args meth c g RX11 cX11_pumpFor 4 (some .int)) (hM : xpM g) {u : xM} {H : Heap} {locs : List Loc} {ls : Array Slot} (hw : x_W g s.heap H locs u) (hl : lv_has ls 4 [(0, .ref (xad g 272)), (1, .int a1)]) (h : p_X11_pumpFor a1 u Qf) : W p l e (x_rm 9 199) s m args below meth c H locs 0 0 (MQ below (x_Qi g Qf) args s 0 0 (x_A g)) (F0 m 0 ls []) := by
  unfold p_X11_pumpFor at h
  have hx := C.1
  have hb := C.2.1
  refine lv_aload_n hx hb dX11_pumpFor_0 rfl (lv_at hl 0 rfl) ?_
  refine lv_iload_n hx hb dX11_pumpFor_1 rfl (lv_at hl 1 rfl) ?_
  refine x_callz hw (x_runV (ci := 11) C hw (m_X11_isRoom l C.2.2.2.2.2.2.2.2.1 hM h) (xoM_272 hM) rfl (x_gV xw_945 xw_946 xw_947 xw_5 xw_948) rfl rfl qX11_isRoom ⟨(Nat.le_of_ble_eq_true rfl), (Nat.le_of_ble_eq_true rfl)⟩ rfl hl.1 rfl (Nat.le_of_ble_eq_true rfl) dX11_pumpFor_2) (fun r2 u1 H locs hw h => ?_)
  refine lv_if_ne (tgt := 14) hx hb dX11_pumpFor_5 (by decide) (fun c3 => ?_) (fun c3 => ?_)
  · have h := h.1 (xb_t c3)
    refine lv_aload_n hx hb dX11_pumpFor_14 rfl (lv_at hl 0 rfl) ?_
    refine lv_sipush (v := 3144) hx hb dX11_pumpFor_15 (by decide) ?_
    refine x_callv hw (x_runV (ci := 11) C hw (m_X11_keeps l C.2.2.2.2.2.2.2.2.1 hM h) (xoM_272 hM) rfl (x_gV xw_1342 xw_1343 xw_1344 xw_5 xw_1345) rfl rfl qX11_keeps ⟨(Nat.le_of_ble_eq_true rfl), (Nat.le_of_ble_eq_true rfl)⟩ rfl hl.1 rfl (Nat.le_of_ble_eq_true rfl) dX11_pumpFor_18) (fun u4 H locs hw h => ?_)
    refine lv_iconst (v := -1) hx hb dX11_pumpFor_21 (by decide) ?_
    refine lv_istore_n (lv' := [(2, .int (-1)), (0, .ref (xad g 272)), (1, .int a1)]) hx hb dX11_pumpFor_22 rfl hl (by decide) rfl (fun ls hl => ?_)
    refine lv_iconst (v := 0) hx hb dX11_pumpFor_23 (by decide) ?_
    refine lv_istore_n (lv' := [(3, .int 0), (2, .int (-1)), (0, .ref (xad g 272)), (1, .int a1)]) hx hb dX11_pumpFor_24 rfl hl (by decide) rfl (fun ls hl => ?_)
    obtain ⟨n9, h⟩ := h
    exact s_X11_pumpFor_L25 C hM n9 hw (lv_sub hl [2, 3, 1, 0] rfl) h
  · have h := h.2 (xb_f c3)
    refine lv_aload_n hx hb dX11_pumpFor_8 rfl (lv_at hl 0 rfl) ?_
    refine lv_iconst (v := 1) hx hb dX11_pumpFor_9 (by decide) ?_
    refine x_calli hw (x_runV (ci := 11) C hw (m_X11_refuse l C.2.2.2.2.2.2.2.2.1 hM h) (xoM_272 hM) rfl (x_gV xw_657 xw_658 xw_659 xw_5 xw_660) rfl rfl qX11_refuse ⟨(Nat.le_of_ble_eq_true rfl), (Nat.le_of_ble_eq_true rfl)⟩ rfl hl.1 rfl (Nat.le_of_ble_eq_true rfl) dX11_pumpFor_10) (fun r6 u5 H locs hw h => ?_)
    exact x_iret C hw h dX11_pumpFor_13
set_option maxHeartbeats 4000000 in
set_option maxRecDepth 100000 in
theorem m_X11_pumpFor (l : Launch) {g : xG} (hD : x_D g) (hM : xpM g) {a1 : Int32} {u : xM} {Qf : Int32 → xM → Prop} (h : p_X11_pumpFor a1 u Qf) : Met l yX11_pumpFor (Cond.code yX11_pumpFor cX11_pumpFor 4 (some .int) :: wsL_law) (x_rm 9 199) (va_Pc [.ref (xad g 272), .int a1] (x_B g u)) (x_Qi g Qf) 0 0 (x_A g) := by
  refine Met.ofW (cc := cX11_pumpFor) (maxL := 4) (ret := (some .int)) (by decide) rfl ?_
  intro p e s m args below meth c s₁ B hml hv
  obtain ⟨rfl, hB⟩ := hv
  obtain ⟨C, hw⟩ := x_start B hml hD hB
  have hl := lv_entry [.ref (xad g 272), .int a1] (n := 4) (Nat.le_of_ble_eq_true rfl)
  rw [lg_entry_eq]
  exact s_X11_pumpFor C hM hw hl h
end
