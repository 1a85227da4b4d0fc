section
variable {p : Program} {l : Launch} {e : Env} {s : State} {m : MethodId} {args : Array Value} {below : List Frame} {meth : Method} {c : Code} {g : xG}
set_option maxHeartbeats 4000000 in
set_option maxRecDepth 100000 in
theorem s_X10_fine {Qf : Int32 → xM → Prop} {a1 : Int32} (C : x_C p s m args meth c g RX10 cX10_fine 2 (some .int)) (hX : xpX g) {u : xM} {H : Heap} {locs : List Loc} {ls : Array Slot} (hw : x_W g s.heap H locs u) (hl : lv_has ls 2 [(0, .ref (xad g 0)), (1, .int a1)]) (h : p_X10_fine a1 u Qf) : W p l e (x_rm 0 0) s m args below meth c H locs 0 0 (MQ below (x_Qi g Qf) args s 0 0 (x_A g)) (F0 m 0 ls []) := by
  unfold p_X10_fine at h
  have hx := C.1
  have hb := C.2.1
  refine lv_aload_n hx hb dX10_fine_0 rfl (lv_at hl 0 rfl) ?_
  refine lv_iconst (v := 0) hx hb dX10_fine_1 (by decide) ?_
  obtain ⟨u1, eu1⟩ : ∃ q : xM, q = si u 0 14 (0 : Int32) := ⟨_, rfl⟩
  have h := h u1 eu1
  refine x_puti (ci := 10) (ty := .int) C hw 14 (xoX_0 hX) rfl inlX10 tyX10_ok nmX10 (by decide) rfl rfl xw_45 rfl (by decide +kernel) rfl rfl dX10_fine_2 eu1 (fun H locs hw => ?_)
  refine lv_iload_n hx hb dX10_fine_5 rfl (lv_at hl 1 rfl) ?_
  exact x_iret C hw h dX10_fine_6
set_option maxHeartbeats 4000000 in
set_option maxRecDepth 100000 in
theorem m_X10_fine (l : Launch) {g : xG} (hD : x_D g) (hX : xpX g) {a1 : Int32} {u : xM} {Qf : Int32 → xM → Prop} (h : p_X10_fine a1 u Qf) : Met l yX10_fine (Cond.code yX10_fine cX10_fine 2 (some .int) :: wsL_law) (x_rm 0 0) (va_Pc [.ref (xad g 0), .int a1] (x_B g u)) (x_Qi g Qf) 0 0 (x_A g) := by
  refine Met.ofW (cc := cX10_fine) (maxL := 2) (ret := (some .int)) (by decide) rfl ?_
  intro p e s m args below meth c s₁ B hml hv
  obtain ⟨rfl, hB⟩ := hv
  obtain ⟨C, hw⟩ := x_start B hml hD hB
  have hl := lv_entry [.ref (xad g 0), .int a1] (n := 2) (Nat.le_of_ble_eq_true rfl)
  rw [lg_entry_eq]
  exact s_X10_fine C hX hw hl h
set_option maxHeartbeats 4000000 in
set_option maxRecDepth 100000 in
theorem s_X10_none {Qf : Int32 → xM → Prop} {a1 : Int32} (C : x_C p s m args meth c g RX10 cX10_none 2 (some .int)) (hX : xpX g) {u : xM} {H : Heap} {locs : List Loc} {ls : Array Slot} (hw : x_W g s.heap H locs u) (hl : lv_has ls 2 [(0, .ref (xad g 0)), (1, .int a1)]) (h : p_X10_none a1 u Qf) : W p l e (x_rm 0 0) s m args below meth c H locs 0 0 (MQ below (x_Qi g Qf) args s 0 0 (x_A g)) (F0 m 0 ls []) := by
  unfold p_X10_none at h
  have hx := C.1
  have hb := C.2.1
  refine lv_aload_n hx hb dX10_none_0 rfl (lv_at hl 0 rfl) ?_
  refine lv_iload_n hx hb dX10_none_1 rfl (lv_at hl 1 rfl) ?_
  obtain ⟨u1, eu1⟩ : ∃ q : xM, q = si u 0 14 a1 := ⟨_, rfl⟩
  have h := h u1 eu1
  refine x_puti (ci := 10) (ty := .int) C hw 14 (xoX_0 hX) rfl inlX10 tyX10_ok nmX10 (by decide) rfl rfl xw_45 rfl (by decide +kernel) rfl rfl dX10_none_2 eu1 (fun H locs hw => ?_)
  refine lv_iconst (v := -1) hx hb dX10_none_5 (by decide) ?_
  exact x_iret C hw h dX10_none_6
set_option maxHeartbeats 4000000 in
set_option maxRecDepth 100000 in
theorem m_X10_none (l : Launch) {g : xG} (hD : x_D g) (hX : xpX g) {a1 : Int32} {u : xM} {Qf : Int32 → xM → Prop} (h : p_X10_none a1 u Qf) : Met l yX10_none (Cond.code yX10_none cX10_none 2 (some .int) :: wsL_law) (x_rm 0 0) (va_Pc [.ref (xad g 0), .int a1] (x_B g u)) (x_Qi g Qf) 0 0 (x_A g) := by
  refine Met.ofW (cc := cX10_none) (maxL := 2) (ret := (some .int)) (by decide) rfl ?_
  intro p e s m args below meth c s₁ B hml hv
  obtain ⟨rfl, hB⟩ := hv
  obtain ⟨C, hw⟩ := x_start B hml hD hB
  have hl := lv_entry [.ref (xad g 0), .int a1] (n := 2) (Nat.le_of_ble_eq_true rfl)
  rw [lg_entry_eq]
  exact s_X10_none C hX hw hl h
set_option maxHeartbeats 4000000 in
set_option maxRecDepth 100000 in
theorem s_X10_done {Qf : Bool → xM → Prop} (C : x_C p s m args meth c g RX10 cX10_done 1 (some .boolean)) (hX : xpX g) {u : xM} {H : Heap} {locs : List Loc} {ls : Array Slot} (hw : x_W g s.heap H locs u) (hl : lv_has ls 1 [(0, .ref (xad g 0))]) (h : p_X10_done  u Qf) : W p l e (x_rm 0 0) s m args below meth c H locs 0 0 (MQ below (x_Qz g Qf) args s 0 0 (x_A g)) (F0 m 0 ls []) := by
  unfold p_X10_done at h
  have hx := C.1
  have hb := C.2.1
  refine lv_aload_n hx hb dX10_done_0 rfl (lv_at hl 0 rfl) ?_
  refine lv_iconst (v := 0) hx hb dX10_done_1 (by decide) ?_
  obtain ⟨u1, eu1⟩ : ∃ q : xM, q = si u 0 14 (0 : Int32) := ⟨_, rfl⟩
  have h := h u1 eu1
  refine x_puti (ci := 10) (ty := .int) C hw 14 (xoX_0 hX) rfl inlX10 tyX10_ok nmX10 (by decide) rfl rfl xw_45 rfl (by decide +kernel) rfl rfl dX10_done_2 eu1 (fun H locs hw => ?_)
  refine lv_iconst (v := 1) hx hb dX10_done_5 (by decide) ?_
  exact x_zret true C hw h rfl dX10_done_6
set_option maxHeartbeats 4000000 in
set_option maxRecDepth 100000 in
theorem m_X10_done (l : Launch) {g : xG} (hD : x_D g) (hX : xpX g) {u : xM} {Qf : Bool → xM → Prop} (h : p_X10_done  u Qf) : Met l yX10_done (Cond.code yX10_done cX10_done 1 (some .boolean) :: wsL_law) (x_rm 0 0) (va_Pc [.ref (xad g 0)] (x_B g u)) (x_Qz g Qf) 0 0 (x_A g) := by
  refine Met.ofW (cc := cX10_done) (maxL := 1) (ret := (some .boolean)) (by decide) rfl ?_
  intro p e s m args below meth c s₁ B hml hv
  obtain ⟨rfl, hB⟩ := hv
  obtain ⟨C, hw⟩ := x_start B hml hD hB
  have hl := lv_entry [.ref (xad g 0)] (n := 1) (Nat.le_of_ble_eq_true rfl)
  rw [lg_entry_eq]
  exact s_X10_done C hX hw hl h
set_option maxHeartbeats 4000000 in
set_option maxRecDepth 100000 in
theorem s_X10_refused {Qf : Bool → xM → Prop} {a1 : Int32} (C : x_C p s m args meth c g RX10 cX10_refused 2 (some .boolean)) (hX : xpX g) {u : xM} {H : Heap} {locs : List Loc} {ls : Array Slot} (hw : x_W g s.heap H locs u) (hl : lv_has ls 2 [(0, .ref (xad g 0)), (1, .int a1)]) (h : p_X10_refused a1 u Qf) : W p l e (x_rm 0 0) s m args below meth c H locs 0 0 (MQ below (x_Qz g Qf) args s 0 0 (x_A g)) (F0 m 0 ls []) := by
  unfold p_X10_refused at h
  have hx := C.1
  have hb := C.2.1
  refine lv_aload_n hx hb dX10_refused_0 rfl (lv_at hl 0 rfl) ?_
  refine lv_iload_n hx hb dX10_refused_1 rfl (lv_at hl 1 rfl) ?_
  obtain ⟨u1, eu1⟩ : ∃ q : xM, q = si u 0 14 a1 := ⟨_, rfl⟩
  have h := h u1 eu1
  refine x_puti (ci := 10) (ty := .int) C hw 14 (xoX_0 hX) rfl inlX10 tyX10_ok nmX10 (by decide) rfl rfl xw_45 rfl (by decide +kernel) rfl rfl dX10_refused_2 eu1 (fun H locs hw => ?_)
  refine lv_iconst (v := 0) hx hb dX10_refused_5 (by decide) ?_
  exact x_zret false C hw h rfl dX10_refused_6
set_option maxHeartbeats 4000000 in
set_option maxRecDepth 100000 in
theorem m_X10_refused (l : Launch) {g : xG} (hD : x_D g) (hX : xpX g) {a1 : Int32} {u : xM} {Qf : Bool → xM → Prop} (h : p_X10_refused a1 u Qf) : Met l yX10_refused (Cond.code yX10_refused cX10_refused 2 (some .boolean) :: wsL_law) (x_rm 0 0) (va_Pc [.ref (xad g 0), .int a1] (x_B g u)) (x_Qz g Qf) 0 0 (x_A g) := by
  refine Met.ofW (cc := cX10_refused) (maxL := 2) (ret := (some .boolean)) (by decide) rfl ?_
  intro p e s m args below meth c s₁ B hml hv
  obtain ⟨rfl, hB⟩ := hv
  obtain ⟨C, hw⟩ := x_start B hml hD hB
  have hl := lv_entry [.ref (xad g 0), .int a1] (n := 2) (Nat.le_of_ble_eq_true rfl)
  rw [lg_entry_eq]
  exact s_X10_refused C hX hw hl h
set_option maxHeartbeats 4000000 in
set_option maxRecDepth 100000 in
theorem s_X10_isRoom {Qf : Bool → xM → Prop} {a1 : Int32} (C : x_C p s m args meth c g RX10 cX10_isRoom 2 (some .boolean)) (hX : xpX g) {u : xM} {H : Heap} {locs : List Loc} {ls : Array Slot} (hw : x_W g s.heap H locs u) (hl : lv_has ls 2 [(0, .ref (xad g 0)), (1, .int a1)]) (h : p_X10_isRoom a1 u Qf) : W p l e (x_rm 0 0) s m args below meth c H locs 0 0 (MQ below (x_Qz g Qf) args s 0 0 (x_A g)) (F0 m 0 ls []) := by
  unfold p_X10_isRoom at h
  have hx := C.1
  have hb := C.2.1
  refine lv_iload_n hx hb dX10_isRoom_0 rfl (lv_at hl 1 rfl) ?_
  refine lv_if_lt (tgt := 22) hx hb dX10_isRoom_1 (by decide) (fun c1 => ?_) (fun c1 => ?_)
  · have h := h.1 c1
    refine lv_iconst (v := 0) hx hb dX10_isRoom_22 (by decide) ?_
    exact x_zret false C hw h rfl dX10_isRoom_23
  · have h := h.2 c1
    refine lv_iload_n hx hb dX10_isRoom_4 rfl (lv_at hl 1 rfl) ?_
    refine lv_aload_n hx hb dX10_isRoom_5 rfl (lv_at hl 0 rfl) ?_
    refine x_getr (ci := 10) C hw 0 (xoX_0 hX) rfl inlX10 (by decide) rfl rfl xrX_0_0 xw_16 dX10_isRoom_6 ?_
    refine x_getr (ci := 1) C hw 0 (xoL_0 (xpL_83 hX)) rfl inlX1 (by decide) rfl rfl (xrL_0_0 (xpL_83 hX)) xw_858 dX10_isRoom_9 ?_
    refine x_geti (ci := 7) C hw 0 (xoL_1 (xpL_83 hX)) rfl inlX7 (by decide) rfl rfl xw_859 dX10_isRoom_12 ?_
    refine lv_icmp_ge (tgt := 22) hx hb dX10_isRoom_15 (by decide) (fun c2 => ?_) (fun c2 => ?_)
    · have h := h.1 c2
      refine lv_iconst (v := 0) hx hb dX10_isRoom_22 (by decide) ?_
      exact x_zret false C hw h rfl dX10_isRoom_23
    · have h := h.2 c2
      refine lv_iconst (v := 1) hx hb dX10_isRoom_18 (by decide) ?_
      refine lv_goto (tgt := 23) hx hb dX10_isRoom_19 (by decide) ?_
      exact x_zret true C hw h rfl dX10_isRoom_23
set_option maxHeartbeats 4000000 in
set_option maxRecDepth 100000 in
theorem m_X10_isRoom (l : Launch) {g : xG} (hD : x_D g) (hX : xpX g) {a1 : Int32} {u : xM} {Qf : Bool → xM → Prop} (h : p_X10_isRoom a1 u Qf) : Met l yX10_isRoom (Cond.code yX10_isRoom cX10_isRoom 2 (some .boolean) :: wsL_law) (x_rm 0 0) (va_Pc [.ref (xad g 0), .int a1] (x_B g u)) (x_Qz g Qf) 0 0 (x_A g) := by
  refine Met.ofW (cc := cX10_isRoom) (maxL := 2) (ret := (some .boolean)) (by decide) rfl ?_
  intro p e s m args below meth c s₁ B hml hv
  obtain ⟨rfl, hB⟩ := hv
  obtain ⟨C, hw⟩ := x_start B hml hD hB
  have hl := lv_entry [.ref (xad g 0), .int a1] (n := 2) (Nat.le_of_ble_eq_true rfl)
  rw [lg_entry_eq]
  exact s_X10_isRoom C hX hw hl h
set_option maxHeartbeats 4000000 in
set_option maxRecDepth 100000 in
theorem s_X10_isDoor {Qf : Bool → xM → Prop} {a1 : Int32} (C : x_C p s m args meth c g RX10 cX10_isDoor 2 (some .boolean)) (hX : xpX g) {u : xM} {H : Heap} {locs : List Loc} {ls : Array Slot} (hw : x_W g s.heap H locs u) (hl : lv_has ls 2 [(0, .ref (xad g 0)), (1, .int a1)]) (h : p_X10_isDoor a1 u Qf) : W p l e (x_rm 0 0) s m args below meth c H locs 0 0 (MQ below (x_Qz g Qf) args s 0 0 (x_A g)) (F0 m 0 ls []) := by
  unfold p_X10_isDoor at h
  have hx := C.1
  have hb := C.2.1
  refine lv_iload_n hx hb dX10_isDoor_0 rfl (lv_at hl 1 rfl) ?_
  refine lv_if_lt (tgt := 22) hx hb dX10_isDoor_1 (by decide) (fun c1 => ?_) (fun c1 => ?_)
  · have h := h.1 c1
    refine lv_iconst (v := 0) hx hb dX10_isDoor_22 (by decide) ?_
    exact x_zret false C hw h rfl dX10_isDoor_23
  · have h := h.2 c1
    refine lv_iload_n hx hb dX10_isDoor_4 rfl (lv_at hl 1 rfl) ?_
    refine lv_aload_n hx hb dX10_isDoor_5 rfl (lv_at hl 0 rfl) ?_
    refine x_getr (ci := 10) C hw 0 (xoX_0 hX) rfl inlX10 (by decide) rfl rfl xrX_0_0 xw_16 dX10_isDoor_6 ?_
    refine x_getr (ci := 1) C hw 1 (xoL_0 (xpL_83 hX)) rfl inlX1 (by decide) rfl rfl (xrL_0_1 (xpL_83 hX)) xw_398 dX10_isDoor_9 ?_
    refine x_geti (ci := 0) C hw 0 (xoL_9 (xpL_83 hX)) rfl inlX0 (by decide) rfl rfl xw_399 dX10_isDoor_12 ?_
    refine lv_icmp_ge (tgt := 22) hx hb dX10_isDoor_15 (by decide) (fun c2 => ?_) (fun c2 => ?_)
    · have h := h.1 c2
      refine lv_iconst (v := 0) hx hb dX10_isDoor_22 (by decide) ?_
      exact x_zret false C hw h rfl dX10_isDoor_23
    · have h := h.2 c2
      refine lv_iconst (v := 1) hx hb dX10_isDoor_18 (by decide) ?_
      refine lv_goto (tgt := 23) hx hb dX10_isDoor_19 (by decide) ?_
      exact x_zret true C hw h rfl dX10_isDoor_23
set_option maxHeartbeats 4000000 in
set_option maxRecDepth 100000 in
theorem m_X10_isDoor (l : Launch) {g : xG} (hD : x_D g) (hX : xpX g) {a1 : Int32} {u : xM} {Qf : Bool → xM → Prop} (h : p_X10_isDoor a1 u Qf) : Met l yX10_isDoor (Cond.code yX10_isDoor cX10_isDoor 2 (some .boolean) :: wsL_law) (x_rm 0 0) (va_Pc [.ref (xad g 0), .int a1] (x_B g u)) (x_Qz g Qf) 0 0 (x_A g) := by
  refine Met.ofW (cc := cX10_isDoor) (maxL := 2) (ret := (some .boolean)) (by decide) rfl ?_
  intro p e s m args below meth c s₁ B hml hv
  obtain ⟨rfl, hB⟩ := hv
  obtain ⟨C, hw⟩ := x_start B hml hD hB
  have hl := lv_entry [.ref (xad g 0), .int a1] (n := 2) (Nat.le_of_ble_eq_true rfl)
  rw [lg_entry_eq]
  exact s_X10_isDoor C hX hw hl h
set_option maxHeartbeats 4000000 in
set_option maxRecDepth 100000 in
theorem s_X10_isHourOfDay {Qf : Bool → xM → Prop} {a1 : Int32} (C : x_C p s m args meth c g RX10 cX10_isHourOfDay 1 (some .boolean)) {u : xM} {H : Heap} {locs : List Loc} {ls : Array Slot} (hw : x_W g s.heap H locs u) (hl : lv_has ls 1 [(0, .int a1)]) (h : p_X10_isHourOfDay a1 u Qf) : W p l e (x_rm 0 0) s m args below meth c H locs 0 0 (MQ below (x_Qz g Qf) args s 0 0 (x_A g)) (F0 m 0 ls []) := by
  unfold p_X10_isHourOfDay at h
  have hx := C.1
  have hb := C.2.1
  refine lv_iload_n hx hb dX10_isHourOfDay_0 rfl (lv_at hl 0 rfl) ?_
  refine lv_if_lt (tgt := 14) hx hb dX10_isHourOfDay_1 (by decide) (fun c1 => ?_) (fun c1 => ?_)
  · have h := h.1 c1
    refine lv_iconst (v := 0) hx hb dX10_isHourOfDay_14 (by decide) ?_
    exact x_zret false C hw h rfl dX10_isHourOfDay_15
  · have h := h.2 c1
    refine lv_iload_n hx hb dX10_isHourOfDay_4 rfl (lv_at hl 0 rfl) ?_
    refine lv_bipush (v := 12) hx hb dX10_isHourOfDay_5 (by decide) ?_
    refine lv_icmp_ge (tgt := 14) hx hb dX10_isHourOfDay_7 (by decide) (fun c2 => ?_) (fun c2 => ?_)
    · have h := h.1 c2
      refine lv_iconst (v := 0) hx hb dX10_isHourOfDay_14 (by decide) ?_
      exact x_zret false C hw h rfl dX10_isHourOfDay_15
    · have h := h.2 c2
      refine lv_iconst (v := 1) hx hb dX10_isHourOfDay_10 (by decide) ?_
      refine lv_goto (tgt := 15) hx hb dX10_isHourOfDay_11 (by decide) ?_
      exact x_zret true C hw h rfl dX10_isHourOfDay_15
set_option maxHeartbeats 4000000 in
set_option maxRecDepth 100000 in
theorem m_X10_isHourOfDay (l : Launch) {g : xG} (hD : x_D g) {a1 : Int32} {u : xM} {Qf : Bool → xM → Prop} (h : p_X10_isHourOfDay a1 u Qf) : Met l yX10_isHourOfDay (Cond.code yX10_isHourOfDay cX10_isHourOfDay 1 (some .boolean) :: wsL_law) (x_rm 0 0) (va_Pc [.int a1] (x_B g u)) (x_Qz g Qf) 0 0 (x_A g) := by
  refine Met.ofW (cc := cX10_isHourOfDay) (maxL := 1) (ret := (some .boolean)) (by decide) rfl ?_
  intro p e s m args below meth c s₁ B hml hv
  obtain ⟨rfl, hB⟩ := hv
  obtain ⟨C, hw⟩ := x_start B hml hD hB
  have hl := lv_entry [.int a1] (n := 1) (Nat.le_of_ble_eq_true rfl)
  rw [lg_entry_eq]
  exact s_X10_isHourOfDay C hw hl h
set_option maxHeartbeats 4000000 in
set_option maxRecDepth 100000 in
theorem s_X10_isWithin {Qf : Bool → xM → Prop} {a1 : Int32} {a2 : Int32} {a3 : Int32} (C : x_C p s m args meth c g RX10 cX10_isWithin 3 (some .boolean)) {u : xM} {H : Heap} {locs : List Loc} {ls : Array Slot} (hw : x_W g s.heap H locs u) (hl : lv_has ls 3 [(0, .int a1), (1, .int a2), (2, .int a3)]) (h : p_X10_isWithin a1 a2 a3 u Qf) : W p l e (x_rm 0 0) s m args below meth c H locs 0 0 (MQ below (x_Qz g Qf) args s 0 0 (x_A g)) (F0 m 0 ls []) := by
  unfold p_X10_isWithin at h
  have hx := C.1
  have hb := C.2.1
  refine lv_iload_n hx hb dX10_isWithin_0 rfl (lv_at hl 0 rfl) ?_
  refine lv_iload_n hx hb dX10_isWithin_1 rfl (lv_at hl 1 rfl) ?_
  refine lv_icmp_lt (tgt := 14) hx hb dX10_isWithin_2 (by decide) (fun c1 => ?_) (fun c1 => ?_)
  · have h := h.1 c1
    refine lv_iconst (v := 0) hx hb dX10_isWithin_14 (by decide) ?_
    exact x_zret false C hw h rfl dX10_isWithin_15
  · have h := h.2 c1
    refine lv_iload_n hx hb dX10_isWithin_5 rfl (lv_at hl 0 rfl) ?_
    refine lv_iload_n hx hb dX10_isWithin_6 rfl (lv_at hl 2 rfl) ?_
    refine lv_icmp_gt (tgt := 14) hx hb dX10_isWithin_7 (by decide) (fun c2 => ?_) (fun c2 => ?_)
    · have h := h.1 c2
      refine lv_iconst (v := 0) hx hb dX10_isWithin_14 (by decide) ?_
      exact x_zret false C hw h rfl dX10_isWithin_15
    · have h := h.2 c2
      refine lv_iconst (v := 1) hx hb dX10_isWithin_10 (by decide) ?_
      refine lv_goto (tgt := 15) hx hb dX10_isWithin_11 (by decide) ?_
      exact x_zret true C hw h rfl dX10_isWithin_15
set_option maxHeartbeats 4000000 in
set_option maxRecDepth 100000 in
theorem m_X10_isWithin (l : Launch) {g : xG} (hD : x_D g) {a1 : Int32} {a2 : Int32} {a3 : Int32} {u : xM} {Qf : Bool → xM → Prop} (h : p_X10_isWithin a1 a2 a3 u Qf) : Met l yX10_isWithin (Cond.code yX10_isWithin cX10_isWithin 3 (some .boolean) :: wsL_law) (x_rm 0 0) (va_Pc [.int a1, .int a2, .int a3] (x_B g u)) (x_Qz g Qf) 0 0 (x_A g) := by
  refine Met.ofW (cc := cX10_isWithin) (maxL := 3) (ret := (some .boolean)) (by decide) rfl ?_
  intro p e s m args below meth c s₁ B hml hv
  obtain ⟨rfl, hB⟩ := hv
  obtain ⟨C, hw⟩ := x_start B hml hD hB
  have hl := lv_entry [.int a1, .int a2, .int a3] (n := 3) (Nat.le_of_ble_eq_true rfl)
  rw [lg_entry_eq]
  exact s_X10_isWithin C hw hl h
set_option maxHeartbeats 4000000 in
set_option maxRecDepth 100000 in
theorem s_X10_status {Qf : Int32 → xM → Prop} (C : x_C p s m args meth c g RX10 cX10_status 1 (some .int)) (hX : xpX g) {u : xM} {H : Heap} {locs : List Loc} {ls : Array Slot} (hw : x_W g s.heap H locs u) (hl : lv_has ls 1 [(0, .ref (xad g 0))]) (h : p_X10_status  u Qf) : W p l e (x_rm 0 0) s m args below meth c H locs 0 0 (MQ below (x_Qi g Qf) args s 0 0 (x_A g)) (F0 m 0 ls []) := by
  unfold p_X10_status at h
  have hx := C.1
  have hb := C.2.1
  refine lv_aload_n hx hb dX10_status_0 rfl (lv_at hl 0 rfl) ?_
  refine x_geti (ci := 10) C hw 14 (xoX_0 hX) rfl inlX10 (by decide) rfl rfl xw_45 dX10_status_1 ?_
  exact x_iret C hw h dX10_status_4
set_option maxHeartbeats 4000000 in
set_option maxRecDepth 100000 in
theorem m_X10_status (l : Launch) {g : xG} (hD : x_D g) (hX : xpX g) {u : xM} {Qf : Int32 → xM → Prop} (h : p_X10_status  u Qf) : Met l yX10_status (Cond.code yX10_status cX10_status 1 (some .int) :: wsL_law) (x_rm 0 0) (va_Pc [.ref (xad g 0)] (x_B g u)) (x_Qi g Qf) 0 0 (x_A g) := by
  refine Met.ofW (cc := cX10_status) (maxL := 1) (ret := (some .int)) (by decide) rfl ?_
  intro p e s m args below meth c s₁ B hml hv
  obtain ⟨rfl, hB⟩ := hv
  obtain ⟨C, hw⟩ := x_start B hml hD hB
  have hl := lv_entry [.ref (xad g 0)] (n := 1) (Nat.le_of_ble_eq_true rfl)
  rw [lg_entry_eq]
  exact s_X10_status C hX hw hl h
set_option maxHeartbeats 4000000 in
set_option maxRecDepth 100000 in
theorem s_X10_top {Qf : Int64 → xM → Prop} (C : x_C p s m args meth c g RX10 cX10_top 1 (some .long)) (hX : xpX g) {u : xM} {H : Heap} {locs : List Loc} {ls : Array Slot} (hw : x_W g s.heap H locs u) (hl : lv_has ls 1 [(0, .ref (xad g 0))]) (h : p_X10_top  u Qf) : W p l e (x_rm 0 0) s m args below meth c H locs 0 0 (MQ below (x_Ql g Qf) args s 0 0 (x_A g)) (F0 m 0 ls []) := by
  unfold p_X10_top at h
  have hx := C.1
  have hb := C.2.1
  refine lv_aload_n hx hb dX10_top_0 rfl (lv_at hl 0 rfl) ?_
  refine x_getl (ci := 10) C hw 15 (xoX_0 hX) rfl inlX10 (by decide) rfl rfl xw_258 dX10_top_1 ?_
  exact x_lret C hw h dX10_top_4
set_option maxHeartbeats 4000000 in
set_option maxRecDepth 100000 in
theorem m_X10_top (l : Launch) {g : xG} (hD : x_D g) (hX : xpX g) {u : xM} {Qf : Int64 → xM → Prop} (h : p_X10_top  u Qf) : Met l yX10_top (Cond.code yX10_top cX10_top 1 (some .long) :: wsL_law) (x_rm 0 0) (va_Pc [.ref (xad g 0)] (x_B g u)) (x_Ql g Qf) 0 0 (x_A g) := by
  refine Met.ofW (cc := cX10_top) (maxL := 1) (ret := (some .long)) (by decide) rfl ?_
  intro p e s m args below meth c s₁ B hml hv
  obtain ⟨rfl, hB⟩ := hv
  obtain ⟨C, hw⟩ := x_start B hml hD hB
  have hl := lv_entry [.ref (xad g 0)] (n := 1) (Nat.le_of_ble_eq_true rfl)
  rw [lg_entry_eq]
  exact s_X10_top C hX hw hl h
set_option maxHeartbeats 4000000 in
set_option maxRecDepth 100000 in
theorem s_X10_bottom {Qf : Int64 → xM → Prop} (C : x_C p s m args meth c g RX10 cX10_bottom 1 (some .long)) (hX : xpX g) {u : xM} {H : Heap} {locs : List Loc} {ls : Array Slot} (hw : x_W g s.heap H locs u) (hl : lv_has ls 1 [(0, .ref (xad g 0))]) (h : p_X10_bottom  u Qf) : W p l e (x_rm 0 0) s m args below meth c H locs 0 0 (MQ below (x_Ql g Qf) args s 0 0 (x_A g)) (F0 m 0 ls []) := by
  unfold p_X10_bottom at h
  have hx := C.1
  have hb := C.2.1
  refine lv_aload_n hx hb dX10_bottom_0 rfl (lv_at hl 0 rfl) ?_
  refine x_getl (ci := 10) C hw 16 (xoX_0 hX) rfl inlX10 (by decide) rfl rfl xw_46 dX10_bottom_1 ?_
  exact x_lret C hw h dX10_bottom_4
set_option maxHeartbeats 4000000 in
set_option maxRecDepth 100000 in
theorem m_X10_bottom (l : Launch) {g : xG} (hD : x_D g) (hX : xpX g) {u : xM} {Qf : Int64 → xM → Prop} (h : p_X10_bottom  u Qf) : Met l yX10_bottom (Cond.code yX10_bottom cX10_bottom 1 (some .long) :: wsL_law) (x_rm 0 0) (va_Pc [.ref (xad g 0)] (x_B g u)) (x_Ql g Qf) 0 0 (x_A g) := by
  refine Met.ofW (cc := cX10_bottom) (maxL := 1) (ret := (some .long)) (by decide) rfl ?_
  intro p e s m args below meth c s₁ B hml hv
  obtain ⟨rfl, hB⟩ := hv
  obtain ⟨C, hw⟩ := x_start B hml hD hB
  have hl := lv_entry [.ref (xad g 0)] (n := 1) (Nat.le_of_ble_eq_true rfl)
  rw [lg_entry_eq]
  exact s_X10_bottom C hX hw hl h
set_option maxHeartbeats 4000000 in
set_option maxRecDepth 100000 in
theorem s_X10_commonDivisor_L9 {Qf : Int64 → xM → Prop} (C : x_C p s m args meth c g RX10 cX10_commonDivisor 11 (some .long)) : ∀ (nn : Nat) {v4 : Int64} {v6 : Int64} {v8 : Int32} {u : xM} {H : Heap} {locs : List Loc} {ls : Array Slot} (hw : x_W g s.heap H locs u) (hl : lv_has ls 11 [(4, .long v4), (6, .long v6), (8, .int v8)]) (h : p_X10_commonDivisor_L9 Qf nn v4 v6 v8 u), W p l e (x_rm 0 0) s m args below meth c H locs 0 0 (MQ below (x_Ql g Qf) args s 0 0 (x_A g)) (F0 m 9 ls []) := by
  intro nn
  induction nn with
  | zero => intro v4 v6 v8 u H locs ls hw hl h; exact h.elim
  | succ nn ih =>
    intro v4 v6 v8 u H locs ls hw hl h
    unfold p_X10_commonDivisor_L9 at h
    have hx := C.1
    have hb := C.2.1
    refine lv_iload hx hb dX10_commonDivisor_9 (lv_at hl 2 rfl) ?_
    refine lv_sipush (v := 1000) hx hb dX10_commonDivisor_11 (by decide) ?_
    refine lv_icmp_ge (tgt := 45) hx hb dX10_commonDivisor_14 (by decide) (fun c1 => ?_) (fun c1 => ?_)
    · have h := h.1 c1
      refine lv_lload hx hb dX10_commonDivisor_45 (lv_at hl 0 rfl) ?_
      exact x_lret C hw h dX10_commonDivisor_47
    · have h := h.2 c1
      refine lv_lload hx hb dX10_commonDivisor_17 (lv_at hl 1 rfl) ?_
      refine lv_lconst (v := 0) hx hb dX10_commonDivisor_19 (by decide) ?_
      refine W.lcmp hx hb dX10_commonDivisor_20 ?_
      refine lv_if_eq (tgt := 45) hx hb dX10_commonDivisor_21 (by decide) (fun c2 => ?_) (fun c2 => ?_)
      · have h := h.1 c2
        refine lv_lload hx hb dX10_commonDivisor_45 (lv_at hl 0 rfl) ?_
        exact x_lret C hw h dX10_commonDivisor_47
      · have h := h.2 c2
        refine lv_lload hx hb dX10_commonDivisor_24 (lv_at hl 0 rfl) ?_
        refine lv_lload hx hb dX10_commonDivisor_26 (lv_at hl 1 rfl) ?_
        have c3 := h.1
        have h := h.2
        refine lv_lrem hx hb dX10_commonDivisor_28 c3 ?_
        refine lv_topl (fun x4 ex4 => ?_)
        have h := h x4 ex4
        refine lv_lstore (lv' := [(9, .long x4), (4, .long v4), (6, .long v6), (8, .int v8)]) hx hb dX10_commonDivisor_29 hl (by decide) rfl (fun ls hl => ?_)
        refine lv_lload hx hb dX10_commonDivisor_31 (lv_at hl 2 rfl) ?_
        refine lv_lstore (lv' := [(4, .long v6), (9, .long x4), (6, .long v6), (8, .int v8)]) hx hb dX10_commonDivisor_33 hl (by decide) rfl (fun ls hl => ?_)
        refine lv_lload hx hb dX10_commonDivisor_35 (lv_at hl 1 rfl) ?_
        refine lv_lstore (lv' := [(6, .long x4), (4, .long v6), (9, .long x4), (8, .int v8)]) hx hb dX10_commonDivisor_37 hl (by decide) rfl (fun ls hl => ?_)
        obtain ⟨x5, ex5⟩ : ∃ y : Int32, y = v8 + 1 := ⟨_, rfl⟩
        have h := h x5 ex5
        refine lv_iinc (v := x5) (lv' := [(8, .int x5), (6, .long x4), (4, .long v6), (9, .long x4)]) hx hb dX10_commonDivisor_39 hl (k := 3) rfl (by rw [ex5]; rfl) (by decide) rfl (fun ls hl => ?_)
        refine lv_goto (tgt := 9) hx hb dX10_commonDivisor_42 (by decide) ?_
        exact ih hw (lv_sub hl [2, 1, 0] rfl) h
set_option maxHeartbeats 4000000 in
set_option maxRecDepth 100000 in
theorem s_X10_commonDivisor {Qf : Int64 → xM → Prop} {a1 : Int64} {a2 : Int64} (C : x_C p s m args meth c g RX10 cX10_commonDivisor 11 (some .long)) {u : xM} {H : Heap} {locs : List Loc} {ls : Array Slot} (hw : x_W g s.heap H locs u) (hl : lv_has ls 11 [(0, .long a1), (2, .long a2)]) (h : p_X10_commonDivisor a1 a2 u Qf) : W p l e (x_rm 0 0) s m args below meth c H locs 0 0 (MQ below (x_Ql g Qf) args s 0 0 (x_A g)) (F0 m 0 ls []) := by
  unfold p_X10_commonDivisor at h
  have hx := C.1
  have hb := C.2.1
  refine lv_lload_n hx hb dX10_commonDivisor_0 rfl (lv_at hl 0 rfl) ?_
  refine lv_lstore (lv' := [(4, .long a1), (0, .long a1), (2, .long a2)]) hx hb dX10_commonDivisor_1 hl (by decide) rfl (fun ls hl => ?_)
  refine lv_lload_n hx hb dX10_commonDivisor_3 rfl (lv_at hl 2 rfl) ?_
  refine lv_lstore (lv' := [(6, .long a2), (4, .long a1), (0, .long a1), (2, .long a2)]) hx hb dX10_commonDivisor_4 hl (by decide) rfl (fun ls hl => ?_)
  refine lv_iconst (v := 0) hx hb dX10_commonDivisor_6 (by decide) ?_
  refine lv_istore (lv' := [(8, .int 0), (6, .long a2), (4, .long a1), (0, .long a1), (2, .long a2)]) hx hb dX10_commonDivisor_7 hl (by decide) rfl (fun ls hl => ?_)
  obtain ⟨n9, h⟩ := h
  exact s_X10_commonDivisor_L9 C n9 hw (lv_sub hl [2, 1, 0] rfl) h
set_option maxHeartbeats 4000000 in
set_option maxRecDepth 100000 in
theorem m_X10_commonDivisor (l : Launch) {g : xG} (hD : x_D g) {a1 : Int64} {a2 : Int64} {u : xM} {Qf : Int64 → xM → Prop} (h : p_X10_commonDivisor a1 a2 u Qf) : Met l yX10_commonDivisor (Cond.code yX10_commonDivisor cX10_commonDivisor 11 (some .long) :: wsL_law) (x_rm 0 0) (va_Pc [.long a1, .long a2] (x_B g u)) (x_Ql g Qf) 0 0 (x_A g) := by
  refine Met.ofW (cc := cX10_commonDivisor) (maxL := 11) (ret := (some .long)) (by decide) rfl ?_
  intro p e s m args below meth c s₁ B hml hv
  obtain ⟨rfl, hB⟩ := hv
  obtain ⟨C, hw⟩ := x_start B hml hD hB
  have hl := lv_entry [.long a1, .long a2] (n := 11) (Nat.le_of_ble_eq_true rfl)
  rw [lg_entry_eq]
  exact s_X10_commonDivisor C hw hl h
set_option maxHeartbeats 4000000 in
set_option maxRecDepth 100000 in
theorem s_X10_tellFraction_L28 {Qf : xM → Prop} (C : x_C p s m args meth c g RX10 cX10_tellFraction 7 none) (hX : xpX g) {v1 : Int64} {v3 : Int64} {v5 : Int64} {u : xM} {H : Heap} {locs : List Loc} {ls : Array Slot} (hw : x_W g s.heap H locs u) (hl : lv_has ls 7 [(0, .ref (xad g 0)), (1, .long v1), (3, .long v3), (5, .long v5)]) (h : p_X10_tellFraction_L28 Qf v1 v3 v5 u) : W p l e (x_rm 1 30) s m args below meth c H locs 0 0 (MQ below (x_Qv g Qf) args s 0 0 (x_A g)) (F0 m 28 ls []) := by
  unfold p_X10_tellFraction_L28 at h
  have hx := C.1
  have hb := C.2.1
  refine lv_aload_n hx hb dX10_tellFraction_28 rfl (lv_at hl 0 rfl) ?_
  refine lv_lload_n hx hb dX10_tellFraction_29 rfl (lv_at hl 1 rfl) ?_
  refine lv_lload hx hb dX10_tellFraction_30 (lv_at hl 3 rfl) ?_
  have c1 := h.1
  have h := h.2
  refine lv_ldiv hx hb dX10_tellFraction_32 c1 ?_
  obtain ⟨u2, eu2⟩ : ∃ q : xM, q = sl u 0 15 (v1 / v5) := ⟨_, rfl⟩
  have h := h u2 eu2
  refine x_putl (ci := 10) C hw 15 (xoX_0 hX) rfl inlX10 tyX10_ok nmX10 (by decide) rfl rfl xw_258 rfl (by decide +kernel) dX10_tellFraction_33 eu2 (fun H locs hw => ?_)
  refine lv_aload_n hx hb dX10_tellFraction_36 rfl (lv_at hl 0 rfl) ?_
  refine lv_lload_n hx hb dX10_tellFraction_37 rfl (lv_at hl 2 rfl) ?_
  refine lv_lload hx hb dX10_tellFraction_38 (lv_at hl 3 rfl) ?_
  have c3 := h.1
  have h := h.2
  refine lv_ldiv hx hb dX10_tellFraction_40 c3 ?_
  obtain ⟨u4, eu4⟩ : ∃ q : xM, q = sl u2 0 16 (v3 / v5) := ⟨_, rfl⟩
  have h := h u4 eu4
  refine x_putl (ci := 10) C hw 16 (xoX_0 hX) rfl inlX10 tyX10_ok nmX10 (by decide) rfl rfl xw_46 rfl (by decide +kernel) dX10_tellFraction_41 eu4 (fun H locs hw => ?_)
  exact x_vret C hw h dX10_tellFraction_44
set_option maxHeartbeats 4000000 in
set_option maxRecDepth 100000 in
theorem s_X10_tellFraction_L12 {Qf : xM → Prop} (C : x_C p s m args meth c g RX10 cX10_tellFraction 7 none) (hX : xpX g) {v1 : Int64} {v3 : Int64} {w0 : Int64} {u : xM} {H : Heap} {locs : List Loc} {ls : Array Slot} (hw : x_W g s.heap H locs u) (hl : lv_has ls 7 [(0, .ref (xad g 0)), (1, .long v1), (3, .long v3)]) (h : p_X10_tellFraction_L12 Qf v1 v3 w0 u) : W p l e (x_rm 1 30) s m args below meth c H locs 0 0 (MQ below (x_Qv g Qf) args s 0 0 (x_A g)) (F0 m 12 ls [.long w0]) := by
  unfold p_X10_tellFraction_L12 at h
  have hx := C.1
  have hb := C.2.1
  refine lv_lload_n hx hb dX10_tellFraction_12 rfl (lv_at hl 2 rfl) ?_
  refine x_calll hw (x_runS C hw (m_X10_commonDivisor l C.2.2.2.2.2.2.2.2.1  h) (x_gS xw_1744 xw_1745 xw_2 xw_1746) rfl rfl qX10_commonDivisor ⟨(Nat.le_of_ble_eq_true rfl), (Nat.le_of_ble_eq_true rfl)⟩ rfl hl.1 rfl (Nat.le_of_ble_eq_true rfl) dX10_tellFraction_13) (fun r2 u1 H locs hw h => ?_)
  refine lv_lstore (lv' := [(5, .long r2), (0, .ref (xad g 0)), (1, .long v1), (3, .long v3)]) hx hb dX10_tellFraction_16 hl (by decide) rfl (fun ls hl => ?_)
  refine lv_lload hx hb dX10_tellFraction_18 (lv_at hl 0 rfl) ?_
  refine lv_lconst (v := 1) hx hb dX10_tellFraction_20 (by decide) ?_
  refine W.lcmp hx hb dX10_tellFraction_21 ?_
  refine lv_if_ge (tgt := 28) hx hb dX10_tellFraction_22 (by decide) (fun c3 => ?_) (fun c3 => ?_)
  · have h := h.1 c3
    exact s_X10_tellFraction_L28 C hX hw (lv_sub hl [1, 2, 3, 0] rfl) h
  · have h := h.2 c3
    refine lv_lconst (v := 1) hx hb dX10_tellFraction_25 (by decide) ?_
    refine lv_lstore (lv' := [(5, .long 1), (0, .ref (xad g 0)), (1, .long v1), (3, .long v3)]) hx hb dX10_tellFraction_26 hl (by decide) rfl (fun ls hl => ?_)
    exact s_X10_tellFraction_L28 C hX hw (lv_sub hl [1, 2, 3, 0] rfl) h
set_option maxHeartbeats 4000000 in
set_option maxRecDepth 100000 in
theorem s_X10_tellFraction {Qf : xM → Prop} {a1 : Int64} {a2 : Int64} (C : x_C p s m args meth c g RX10 cX10_tellFraction 7 none) (hX : xpX g) {u : xM} {H : Heap} {locs : List Loc} {ls : Array Slot} (hw : x_W g s.heap H locs u) (hl : lv_has ls 7 [(0, .ref (xad g 0)), (1, .long a1), (3, .long a2)]) (h : p_X10_tellFraction a1 a2 u Qf) : W p l e (x_rm 1 30) s m args below meth c H locs 0 0 (MQ below (x_Qv g Qf) args s 0 0 (x_A g)) (F0 m 0 ls []) := by
  unfold p_X10_tellFraction at h
  have hx := C.1
  have hb := C.2.1
  refine lv_lload_n hx hb dX10_tellFraction_0 rfl (lv_at hl 1 rfl) ?_
  refine lv_lconst (v := 0) hx hb dX10_tellFraction_1 (by decide) ?_
  refine W.lcmp hx hb dX10_tellFraction_2 ?_
  refine lv_if_ge (tgt := 11) hx hb dX10_tellFraction_3 (by decide) (fun c1 => ?_) (fun c1 => ?_)
  · have h := h.1 c1
    refine lv_lload_n hx hb dX10_tellFraction_11 rfl (lv_at hl 1 rfl) ?_
    exact s_X10_tellFraction_L12 C hX hw (lv_sub hl [0, 1, 2] rfl) h
  · have h := h.2 c1
    refine lv_lload_n hx hb dX10_tellFraction_6 rfl (lv_at hl 1 rfl) ?_
    refine lv_lneg hx hb dX10_tellFraction_7 ?_
    refine lv_goto (tgt := 12) hx hb dX10_tellFraction_8 (by decide) ?_
    exact s_X10_tellFraction_L12 C hX hw (lv_sub hl [0, 1, 2] rfl) h
set_option maxHeartbeats 4000000 in
set_option maxRecDepth 100000 in
theorem m_X10_tellFraction (l : Launch) {g : xG} (hD : x_D g) (hX : xpX g) {a1 : Int64} {a2 : Int64} {u : xM} {Qf : xM → Prop} (h : p_X10_tellFraction a1 a2 u Qf) : Met l yX10_tellFraction (Cond.code yX10_tellFraction cX10_tellFraction 7 none :: wsL_law) (x_rm 1 30) (va_Pc [.ref (xad g 0), .long a1, .long a2] (x_B g u)) (x_Qv g Qf) 0 0 (x_A g) := by
  refine Met.ofW (cc := cX10_tellFraction) (maxL := 7) (ret := none) (by decide) rfl ?_
  intro p e s m args below meth c s₁ B hml hv
  obtain ⟨rfl, hB⟩ := hv
  obtain ⟨C, hw⟩ := x_start B hml hD hB
  have hl := lv_entry [.ref (xad g 0), .long a1, .long a2] (n := 7) (Nat.le_of_ble_eq_true rfl)
  rw [lg_entry_eq]
  exact s_X10_tellFraction C hX hw hl h
set_option maxHeartbeats 4000000 in
set_option maxRecDepth 100000 in
theorem s_X10_trayAt {Qf : Option Nat → xM → Prop} {a1 : Int32} (C : x_C p s m args meth c g RX10 cX10_trayAt 2 (some (.object "DryDoors$Tray"))) (hX : xpX g) {u : xM} {H : Heap} {locs : List Loc} {ls : Array Slot} (hw : x_W g s.heap H locs u) (hl : lv_has ls 2 [(0, .ref (xad g 0)), (1, .int a1)]) (h : p_X10_trayAt a1 u Qf) : W p l e (x_rm 0 0) s m args below meth c H locs 0 0 (MQ below (x_Qq g [50, 52, 54, 56] Qf) args s 0 0 (x_A g)) (F0 m 0 ls []) := by
  unfold p_X10_trayAt at h
  have hx := C.1
  have hb := C.2.1
  refine lv_iload_n hx hb dX10_trayAt_0 rfl (lv_at hl 1 rfl) ?_
  refine lv_if_lt (tgt := 18) hx hb dX10_trayAt_1 (by decide) (fun c1 => ?_) (fun c1 => ?_)
  · have h := h.1 c1
    refine lv_null hx hb dX10_trayAt_18 ?_
    exact x_qret none C hw h rfl (fun _ z => by cases z) dX10_trayAt_19
  · have h := h.2 c1
    refine lv_iload_n hx hb dX10_trayAt_4 rfl (lv_at hl 1 rfl) ?_
    refine lv_iconst (v := 4) hx hb dX10_trayAt_5 (by decide) ?_
    refine lv_icmp_ge (tgt := 18) hx hb dX10_trayAt_6 (by decide) (fun c2 => ?_) (fun c2 => ?_)
    · have h := h.1 c2
      refine lv_null hx hb dX10_trayAt_18 ?_
      exact x_qret none C hw h rfl (fun _ z => by cases z) dX10_trayAt_19
    · have h := h.2 c2
      refine lv_aload_n hx hb dX10_trayAt_9 rfl (lv_at hl 0 rfl) ?_
      refine x_getr (ci := 10) C hw 11 (xoX_0 hX) rfl inlX10 (by decide) rfl rfl xrX_0_11 xw_42 dX10_trayAt_10 ?_
      refine lv_iload_n hx hb dX10_trayAt_13 rfl (lv_at hl 1 rfl) ?_
      have c3 := h.1
      have h := h.2
      refine x_aald C hw (xoX_3 hX) (by decide) (by decide) c3 (xa_3 c3) dX10_trayAt_14 ?_
      refine lv_goto (tgt := 19) hx hb dX10_trayAt_15 (by decide) ?_
      exact x_qret (some _) C hw h rfl (fun _ z => by cases z; exact ((xpY_m hX c3)).1) dX10_trayAt_19
set_option maxHeartbeats 4000000 in
set_option maxRecDepth 100000 in
theorem m_X10_trayAt (l : Launch) {g : xG} (hD : x_D g) (hX : xpX g) {a1 : Int32} {u : xM} {Qf : Option Nat → xM → Prop} (h : p_X10_trayAt a1 u Qf) : Met l yX10_trayAt (Cond.code yX10_trayAt cX10_trayAt 2 (some (.object "DryDoors$Tray")) :: wsL_law) (x_rm 0 0) (va_Pc [.ref (xad g 0), .int a1] (x_B g u)) (x_Qq g [50, 52, 54, 56] Qf) 0 0 (x_A g) := by
  refine Met.ofW (cc := cX10_trayAt) (maxL := 2) (ret := (some (.object "DryDoors$Tray"))) (by decide) rfl ?_
  intro p e s m args below meth c s₁ B hml hv
  obtain ⟨rfl, hB⟩ := hv
  obtain ⟨C, hw⟩ := x_start B hml hD hB
  have hl := lv_entry [.ref (xad g 0), .int a1] (n := 2) (Nat.le_of_ble_eq_true rfl)
  rw [lg_entry_eq]
  exact s_X10_trayAt C hX hw hl h
set_option maxHeartbeats 4000000 in
set_option maxRecDepth 100000 in
theorem s_X9_lay_L12 {o : Nat} {Qf : xM → Prop} (C : x_C p s m args meth c g RX9 cX9_lay 4 none) (ho : xpY g o) : ∀ (nn : Nat) {v3 : Int32} {u : xM} {H : Heap} {locs : List Loc} {ls : Array Slot} (hw : x_W g s.heap H locs u) (hl : lv_has ls 4 [(0, .ref (xad g o)), (3, .int v3)]) (h : p_X9_lay_L12 o Qf nn v3 u), W p l e (x_rm 0 0) s m args below meth c H locs 0 0 (MQ below (x_Qv g Qf) args s 0 0 (x_A g)) (F0 m 12 ls []) := by
  intro nn
  induction nn with
  | zero => intro v3 u H locs ls hw hl h; exact h.elim
  | succ nn ih =>
    intro v3 u H locs ls hw hl h
    unfold p_X9_lay_L12 at h
    have hx := C.1
    have hb := C.2.1
    refine lv_iload_n hx hb dX9_lay_12 rfl (lv_at hl 1 rfl) ?_
    refine lv_bipush (v := 60) hx hb dX9_lay_13 (by decide) ?_
    refine lv_icmp_ge (tgt := 31) hx hb dX9_lay_15 (by decide) (fun c1 => ?_) (fun c1 => ?_)
    · have h := h.1 c1
      exact x_vret C hw h dX9_lay_31
    · have h := h.2 c1
      refine lv_aload_n hx hb dX9_lay_18 rfl (lv_at hl 0 rfl) ?_
      refine x_getr (ci := 9) C hw 0 (xoY_0 ho) rfl inlX9 (by decide) rfl rfl (xrY_0_0 ho) xw_213 dX9_lay_19 ?_
      refine lv_iload_n hx hb dX9_lay_22 rfl (lv_at hl 1 rfl) ?_
      refine lv_lconst (v := 0) hx hb dX9_lay_23 (by decide) ?_
      have c2 := h.1
      have h := h.2
      obtain ⟨u3, eu3⟩ : ∃ q : xM, q = sl u (o + 1) v3.toNatClampNeg (0 : Int64) := ⟨_, rfl⟩
      have h := h u3 eu3
      refine x_last C hw (xoY_1 ho) c2 dX9_lay_24 eu3 (fun H locs hw => ?_)
      obtain ⟨x4, ex4⟩ : ∃ y : Int32, y = v3 + 1 := ⟨_, rfl⟩
      have h := h x4 ex4
      refine lv_iinc (v := x4) (lv' := [(3, .int x4), (0, .ref (xad g o))]) hx hb dX9_lay_25 hl (k := 1) rfl (by rw [ex4]; rfl) (by decide) rfl (fun ls hl => ?_)
      refine lv_goto (tgt := 12) hx hb dX9_lay_28 (by decide) ?_
      exact ih hw (lv_sub hl [1, 0] rfl) h
set_option maxHeartbeats 4000000 in
set_option maxRecDepth 100000 in
theorem s_X9_lay {o : Nat} {Qf : xM → Prop} {a1 : Int32} {a2 : Int32} (C : x_C p s m args meth c g RX9 cX9_lay 4 none) (ho : xpY g o) {u : xM} {H : Heap} {locs : List Loc} {ls : Array Slot} (hw : x_W g s.heap H locs u) (hl : lv_has ls 4 [(0, .ref (xad g o)), (1, .int a1), (2, .int a2)]) (h : p_X9_lay o a1 a2 u Qf) : W p l e (x_rm 0 0) s m args below meth c H locs 0 0 (MQ below (x_Qv g Qf) args s 0 0 (x_A g)) (F0 m 0 ls []) := by
  unfold p_X9_lay at h
  have hx := C.1
  have hb := C.2.1
  refine lv_aload_n hx hb dX9_lay_0 rfl (lv_at hl 0 rfl) ?_
  refine lv_iload_n hx hb dX9_lay_1 rfl (lv_at hl 1 rfl) ?_
  obtain ⟨u1, eu1⟩ : ∃ q : xM, q = si u o 1 a1 := ⟨_, rfl⟩
  have h := h u1 eu1
  refine x_puti (ci := 9) (ty := .int) C hw 1 (xoY_0 ho) rfl inlX9 tyX9_ok nmX9 (by decide) rfl rfl xw_291 rfl (by decide +kernel) rfl rfl dX9_lay_2 eu1 (fun H locs hw => ?_)
  refine lv_aload_n hx hb dX9_lay_5 rfl (lv_at hl 0 rfl) ?_
  refine lv_iload_n hx hb dX9_lay_6 rfl (lv_at hl 2 rfl) ?_
  obtain ⟨u2, eu2⟩ : ∃ q : xM, q = si u1 o 2 a2 := ⟨_, rfl⟩
  have h := h u2 eu2
  refine x_puti (ci := 9) (ty := .int) C hw 2 (xoY_0 ho) rfl inlX9 tyX9_ok nmX9 (by decide) rfl rfl xw_214 rfl (by decide +kernel) rfl rfl dX9_lay_7 eu2 (fun H locs hw => ?_)
  refine lv_iconst (v := 0) hx hb dX9_lay_10 (by decide) ?_
  refine lv_istore_n (lv' := [(3, .int 0), (0, .ref (xad g o)), (1, .int a1), (2, .int a2)]) hx hb dX9_lay_11 rfl hl (by decide) rfl (fun ls hl => ?_)
  obtain ⟨n9, h⟩ := h
  exact s_X9_lay_L12 C ho n9 hw (lv_sub hl [1, 0] rfl) h
set_option maxHeartbeats 4000000 in
set_option maxRecDepth 100000 in
theorem m_X9_lay (l : Launch) {g : xG} (hD : x_D g) {o : Nat} (ho : xpY g o) {a1 : Int32} {a2 : Int32} {u : xM} {Qf : xM → Prop} (h : p_X9_lay o a1 a2 u Qf) : Met l yX9_lay (Cond.code yX9_lay cX9_lay 4 none :: wsL_law) (x_rm 0 0) (va_Pc [.ref (xad g o), .int a1, .int a2] (x_B g u)) (x_Qv g Qf) 0 0 (x_A g) := by
  refine Met.ofW (cc := cX9_lay) (maxL := 4) (ret := none) (by decide) rfl ?_
  intro p e s m args below meth c s₁ B hml hv
  obtain ⟨rfl, hB⟩ := hv
  obtain ⟨C, hw⟩ := x_start B hml hD hB
  have hl := lv_entry [.ref (xad g o), .int a1, .int a2] (n := 4) (Nat.le_of_ble_eq_true rfl)
  rw [lg_entry_eq]
  exact s_X9_lay C ho hw hl h
set_option maxHeartbeats 4000000 in
set_option maxRecDepth 100000 in
theorem s_X10_tray {Qf : Bool → xM → Prop} {a1 : Int32} {a2 : Int32} {a3 : Int32} (C : x_C p s m args meth c g RX10 cX10_tray 5 (some .boolean)) (hX : xpX g) {u : xM} {H : Heap} {locs : List Loc} {ls : Array Slot} (hw : x_W g s.heap H locs u) (hl : lv_has ls 5 [(0, .ref (xad g 0)), (1, .int a1), (2, .int a2), (3, .int a3)]) (h : p_X10_tray a1 a2 a3 u Qf) : W p l e (x_rm 1 23) s m args below meth c H locs 0 0 (MQ below (x_Qz g Qf) args s 0 0 (x_A g)) (F0 m 0 ls []) := by
  unfold p_X10_tray at h
  have hx := C.1
  have hb := C.2.1
  refine lv_aload_n hx hb dX10_tray_0 rfl (lv_at hl 0 rfl) ?_
  refine lv_iload_n hx hb dX10_tray_1 rfl (lv_at hl 1 rfl) ?_
  refine x_callq hw (x_runV (ci := 10) C hw (m_X10_trayAt l C.2.2.2.2.2.2.2.2.1 hX h) (xoX_0 hX) rfl (x_gV xw_276 xw_277 xw_278 xw_2 xw_279) rfl rfl qX10_trayAt ⟨(Nat.le_of_ble_eq_true rfl), (Nat.le_of_ble_eq_true rfl)⟩ rfl hl.1 rfl (Nat.le_of_ble_eq_true rfl) dX10_tray_2) (fun u1 H locs hw h => ?_) (fun t2 u1 H locs hw hkt2 h => ?_)
  · have h := h.1 rfl
    refine lv_astoreN (lv' := [(4, .null), (0, .ref (xad g 0)), (1, .int a1), (2, .int a2), (3, .int a3)]) hx hb dX10_tray_5 hl (by decide) rfl (fun ls hl => ?_)
    refine lv_aloadN hx hb dX10_tray_7 (lv_at hl 0 rfl) ?_
    refine lv_ifnullN (tgt := 31) hx hb dX10_tray_9 (by decide) ?_
    refine lv_aload_n hx hb dX10_tray_31 rfl (lv_at hl 1 rfl) ?_
    refine lv_iconst (v := 1) hx hb dX10_tray_32 (by decide) ?_
    refine x_callz hw (x_runV (ci := 10) C hw (m_X10_refused l C.2.2.2.2.2.2.2.2.1 hX h) (xoX_0 hX) rfl (x_gV xw_283 xw_284 xw_285 xw_2 xw_286) rfl rfl qX10_refused ⟨(Nat.le_of_ble_eq_true rfl), (Nat.le_of_ble_eq_true rfl)⟩ rfl hl.1 rfl (Nat.le_of_ble_eq_true rfl) dX10_tray_33) (fun r4 u3 H locs hw h => ?_)
    exact x_zret _ C hw h rfl dX10_tray_36
  · have h := h.2 t2 rfl
    have ht2 : xpY g t2 := xpY_of hX hkt2
    refine lv_astore (lv' := [(4, .ref (xad g t2)), (0, .ref (xad g 0)), (1, .int a1), (2, .int a2), (3, .int a3)]) hx hb dX10_tray_5 hl (by decide) rfl (fun ls hl => ?_)
    refine lv_aload hx hb dX10_tray_7 (lv_at hl 0 rfl) ?_
    refine lv_ifnull hx hb dX10_tray_9 ?_
    refine lv_iload_n hx hb dX10_tray_12 rfl (lv_at hl 3 rfl) ?_
    refine lv_iconst (v := 0) hx hb dX10_tray_13 (by decide) ?_
    refine lv_iconst (v := 3) hx hb dX10_tray_14 (by decide) ?_
    refine x_callz hw (x_runS C hw (m_X10_isWithin l C.2.2.2.2.2.2.2.2.1  h) (x_gS xw_280 xw_281 xw_2 xw_282) rfl rfl qX10_isWithin ⟨(Nat.le_of_ble_eq_true rfl), (Nat.le_of_ble_eq_true rfl)⟩ rfl hl.1 rfl (Nat.le_of_ble_eq_true rfl) dX10_tray_15) (fun r6 u5 H locs hw h => ?_)
    refine lv_if_eq (tgt := 31) hx hb dX10_tray_18 (by decide) (fun c7 => ?_) (fun c7 => ?_)
    · have h := h.1 (xb_f c7)
      refine lv_aload_n hx hb dX10_tray_31 rfl (lv_at hl 1 rfl) ?_
      refine lv_iconst (v := 1) hx hb dX10_tray_32 (by decide) ?_
      refine x_callz hw (x_runV (ci := 10) C hw (m_X10_refused l C.2.2.2.2.2.2.2.2.1 hX h) (xoX_0 hX) rfl (x_gV xw_283 xw_284 xw_285 xw_2 xw_286) rfl rfl qX10_refused ⟨(Nat.le_of_ble_eq_true rfl), (Nat.le_of_ble_eq_true rfl)⟩ rfl hl.1 rfl (Nat.le_of_ble_eq_true rfl) dX10_tray_33) (fun r9 u8 H locs hw h => ?_)
      exact x_zret _ C hw h rfl dX10_tray_36
    · have h := h.2 (xb_t c7)
      refine lv_iload_n hx hb dX10_tray_21 rfl (lv_at hl 4 rfl) ?_
      refine lv_iconst (v := 0) hx hb dX10_tray_22 (by decide) ?_
      refine lv_bipush (v := 60) hx hb dX10_tray_23 (by decide) ?_
      refine x_callz hw (x_runS C hw (m_X10_isWithin l C.2.2.2.2.2.2.2.2.1  h) (x_gS xw_280 xw_281 xw_2 xw_282) rfl rfl qX10_isWithin ⟨(Nat.le_of_ble_eq_true rfl), (Nat.le_of_ble_eq_true rfl)⟩ rfl hl.1 rfl (Nat.le_of_ble_eq_true rfl) dX10_tray_25) (fun r11 u10 H locs hw h => ?_)
      refine lv_if_ne (tgt := 37) hx hb dX10_tray_28 (by decide) (fun c12 => ?_) (fun c12 => ?_)
      · have h := h.1 (xb_t c12)
        refine lv_aload hx hb dX10_tray_37 (lv_at hl 0 rfl) ?_
        refine lv_iload_n hx hb dX10_tray_39 rfl (lv_at hl 3 rfl) ?_
        refine lv_iload_n hx hb dX10_tray_40 rfl (lv_at hl 4 rfl) ?_
        refine x_callv hw (x_runV (ci := 9) C hw (m_X9_lay l C.2.2.2.2.2.2.2.2.1 ht2 h) (xoY_0 ht2) rfl (x_gV xw_287 xw_288 xw_289 xw_50 xw_290) rfl rfl qX9_lay ⟨(Nat.le_of_ble_eq_true rfl), (Nat.le_of_ble_eq_true rfl)⟩ rfl hl.1 rfl (Nat.le_of_ble_eq_true rfl) dX10_tray_41) (fun u13 H locs hw h => ?_)
        refine lv_aload_n hx hb dX10_tray_44 rfl (lv_at hl 1 rfl) ?_
        refine x_callz hw (x_runV (ci := 10) C hw (m_X10_done l C.2.2.2.2.2.2.2.2.1 hX h) (xoX_0 hX) rfl (x_gV xw_292 xw_293 xw_294 xw_2 xw_295) rfl rfl qX10_done ⟨(Nat.le_of_ble_eq_true rfl), (Nat.le_of_ble_eq_true rfl)⟩ rfl hl.1 rfl (Nat.le_of_ble_eq_true rfl) dX10_tray_45) (fun r15 u14 H locs hw h => ?_)
        exact x_zret _ C hw h rfl dX10_tray_48
      · have h := h.2 (xb_f c12)
        refine lv_aload_n hx hb dX10_tray_31 rfl (lv_at hl 1 rfl) ?_
        refine lv_iconst (v := 1) hx hb dX10_tray_32 (by decide) ?_
        refine x_callz hw (x_runV (ci := 10) C hw (m_X10_refused l C.2.2.2.2.2.2.2.2.1 hX h) (xoX_0 hX) rfl (x_gV xw_283 xw_284 xw_285 xw_2 xw_286) rfl rfl qX10_refused ⟨(Nat.le_of_ble_eq_true rfl), (Nat.le_of_ble_eq_true rfl)⟩ rfl hl.1 rfl (Nat.le_of_ble_eq_true rfl) dX10_tray_33) (fun r17 u16 H locs hw h => ?_)
        exact x_zret _ C hw h rfl dX10_tray_36
set_option maxHeartbeats 4000000 in
set_option maxRecDepth 100000 in
theorem m_X10_tray (l : Launch) {g : xG} (hD : x_D g) (hX : xpX g) {a1 : Int32} {a2 : Int32} {a3 : Int32} {u : xM} {Qf : Bool → xM → Prop} (h : p_X10_tray a1 a2 a3 u Qf) : Met l yX10_tray (Cond.code yX10_tray cX10_tray 5 (some .boolean) :: wsL_law) (x_rm 1 23) (va_Pc [.ref (xad g 0), .int a1, .int a2, .int a3] (x_B g u)) (x_Qz g Qf) 0 0 (x_A g) := by
  refine Met.ofW (cc := cX10_tray) (maxL := 5) (ret := (some .boolean)) (by decide) rfl ?_
  intro p e s m args below meth c s₁ B hml hv
  obtain ⟨rfl, hB⟩ := hv
  obtain ⟨C, hw⟩ := x_start B hml hD hB
  have hl := lv_entry [.ref (xad g 0), .int a1, .int a2, .int a3] (n := 5) (Nat.le_of_ble_eq_true rfl)
  rw [lg_entry_eq]
  exact s_X10_tray C hX hw hl h
set_option maxHeartbeats 4000000 in
set_option maxRecDepth 100000 in
theorem s_X9_isMissing {o : Nat} {Qf : Bool → xM → Prop} (C : x_C p s m args meth c g RX9 cX9_isMissing 1 (some .boolean)) (ho : xpY g o) {u : xM} {H : Heap} {locs : List Loc} {ls : Array Slot} (hw : x_W g s.heap H locs u) (hl : lv_has ls 1 [(0, .ref (xad g o))]) (h : p_X9_isMissing o u Qf) : W p l e (x_rm 0 0) s m args below meth c H locs 0 0 (MQ below (x_Qz g Qf) args s 0 0 (x_A g)) (F0 m 0 ls []) := by
  unfold p_X9_isMissing at h
  have hx := C.1
  have hb := C.2.1
  refine lv_aload_n hx hb dX9_isMissing_0 rfl (lv_at hl 0 rfl) ?_
  refine x_geti (ci := 9) C hw 2 (xoY_0 ho) rfl inlX9 (by decide) rfl rfl xw_214 dX9_isMissing_1 ?_
  refine lv_if_ge (tgt := 11) hx hb dX9_isMissing_4 (by decide) (fun c1 => ?_) (fun c1 => ?_)
  · have h := h.1 c1
    refine lv_iconst (v := 0) hx hb dX9_isMissing_11 (by decide) ?_
    exact x_zret false C hw h rfl dX9_isMissing_12
  · have h := h.2 c1
    refine lv_iconst (v := 1) hx hb dX9_isMissing_7 (by decide) ?_
    refine lv_goto (tgt := 12) hx hb dX9_isMissing_8 (by decide) ?_
    exact x_zret true C hw h rfl dX9_isMissing_12
set_option maxHeartbeats 4000000 in
set_option maxRecDepth 100000 in
theorem m_X9_isMissing (l : Launch) {g : xG} (hD : x_D g) {o : Nat} (ho : xpY g o) {u : xM} {Qf : Bool → xM → Prop} (h : p_X9_isMissing o u Qf) : Met l yX9_isMissing (Cond.code yX9_isMissing cX9_isMissing 1 (some .boolean) :: wsL_law) (x_rm 0 0) (va_Pc [.ref (xad g o)] (x_B g u)) (x_Qz g Qf) 0 0 (x_A g) := by
  refine Met.ofW (cc := cX9_isMissing) (maxL := 1) (ret := (some .boolean)) (by decide) rfl ?_
  intro p e s m args below meth c s₁ B hml hv
  obtain ⟨rfl, hB⟩ := hv
  obtain ⟨C, hw⟩ := x_start B hml hD hB
  have hl := lv_entry [.ref (xad g o)] (n := 1) (Nat.le_of_ble_eq_true rfl)
  rw [lg_entry_eq]
  exact s_X9_isMissing C ho hw hl h
set_option maxHeartbeats 4000000 in
set_option maxRecDepth 100000 in
theorem s_X9_has {o : Nat} {Qf : Bool → xM → Prop} {a1 : Int32} (C : x_C p s m args meth c g RX9 cX9_has 2 (some .boolean)) (ho : xpY g o) {u : xM} {H : Heap} {locs : List Loc} {ls : Array Slot} (hw : x_W g s.heap H locs u) (hl : lv_has ls 2 [(0, .ref (xad g o)), (1, .int a1)]) (h : p_X9_has o a1 u Qf) : W p l e (x_rm 0 0) s m args below meth c H locs 0 0 (MQ below (x_Qz g Qf) args s 0 0 (x_A g)) (F0 m 0 ls []) := by
  unfold p_X9_has at h
  have hx := C.1
  have hb := C.2.1
  refine lv_iload_n hx hb dX9_has_0 rfl (lv_at hl 1 rfl) ?_
  refine lv_if_lt (tgt := 16) hx hb dX9_has_1 (by decide) (fun c1 => ?_) (fun c1 => ?_)
  · have h := h.1 c1
    refine lv_iconst (v := 0) hx hb dX9_has_16 (by decide) ?_
    exact x_zret false C hw h rfl dX9_has_17
  · have h := h.2 c1
    refine lv_iload_n hx hb dX9_has_4 rfl (lv_at hl 1 rfl) ?_
    refine lv_aload_n hx hb dX9_has_5 rfl (lv_at hl 0 rfl) ?_
    refine x_geti (ci := 9) C hw 2 (xoY_0 ho) rfl inlX9 (by decide) rfl rfl xw_214 dX9_has_6 ?_
    refine lv_icmp_ge (tgt := 16) hx hb dX9_has_9 (by decide) (fun c2 => ?_) (fun c2 => ?_)
    · have h := h.1 c2
      refine lv_iconst (v := 0) hx hb dX9_has_16 (by decide) ?_
      exact x_zret false C hw h rfl dX9_has_17
    · have h := h.2 c2
      refine lv_iconst (v := 1) hx hb dX9_has_12 (by decide) ?_
      refine lv_goto (tgt := 17) hx hb dX9_has_13 (by decide) ?_
      exact x_zret true C hw h rfl dX9_has_17
set_option maxHeartbeats 4000000 in
set_option maxRecDepth 100000 in
theorem m_X9_has (l : Launch) {g : xG} (hD : x_D g) {o : Nat} (ho : xpY g o) {a1 : Int32} {u : xM} {Qf : Bool → xM → Prop} (h : p_X9_has o a1 u Qf) : Met l yX9_has (Cond.code yX9_has cX9_has 2 (some .boolean) :: wsL_law) (x_rm 0 0) (va_Pc [.ref (xad g o), .int a1] (x_B g u)) (x_Qz g Qf) 0 0 (x_A g) := by
  refine Met.ofW (cc := cX9_has) (maxL := 2) (ret := (some .boolean)) (by decide) rfl ?_
  intro p e s m args below meth c s₁ B hml hv
  obtain ⟨rfl, hB⟩ := hv
  obtain ⟨C, hw⟩ := x_start B hml hD hB
  have hl := lv_entry [.ref (xad g o), .int a1] (n := 2) (Nat.le_of_ble_eq_true rfl)
  rw [lg_entry_eq]
  exact s_X9_has C ho hw hl h
set_option maxHeartbeats 4000000 in
set_option maxRecDepth 100000 in
theorem s_X9_cut {o : Nat} {Qf : Int64 → xM → Prop} {a1 : Int64} (C : x_C p s m args meth c g RX9 cX9_cut 3 (some .long)) (ho : xpY g o) {u : xM} {H : Heap} {locs : List Loc} {ls : Array Slot} (hw : x_W g s.heap H locs u) (hl : lv_has ls 3 [(0, .ref (xad g o)), (1, .long a1)]) (h : p_X9_cut o a1 u Qf) : W p l e (x_rm 0 0) s m args below meth c H locs 0 0 (MQ below (x_Ql g Qf) args s 0 0 (x_A g)) (F0 m 0 ls []) := by
  unfold p_X9_cut at h
  have hx := C.1
  have hb := C.2.1
  refine lv_aload_n hx hb dX9_cut_0 rfl (lv_at hl 0 rfl) ?_
  refine x_geti (ci := 9) C hw 1 (xoY_0 ho) rfl inlX9 (by decide) rfl rfl xw_291 dX9_cut_1 ?_
  refine lv_topi (fun x1 ex1 => ?_)
  have h := h x1 ex1
  by_cases c2 : x1 = 0
  · refine lv_tableIn (off := 28) (tgt := 32) hx hb dX9_cut_4 (by rw [c2]; decide) (by rw [c2]; decide) (by rw [c2]; rfl) (by decide) ?_
    have h := h.1 c2
    refine lv_lload_n hx hb dX9_cut_32 rfl (lv_at hl 1 rfl) ?_
    refine lv_l2i hx hb dX9_cut_33 rfl ?_
    refine lv_i2b hx hb dX9_cut_34 rfl ?_
    refine lv_i2l hx hb dX9_cut_35 rfl ?_
    exact x_lret C hw h dX9_cut_36
  by_cases c3 : x1 = 1
  · refine lv_tableIn (off := 33) (tgt := 37) hx hb dX9_cut_4 (by rw [c3]; decide) (by rw [c3]; decide) (by rw [c3]; rfl) (by decide) ?_
    have h := h.2.1 c3
    refine lv_lload_n hx hb dX9_cut_37 rfl (lv_at hl 1 rfl) ?_
    refine lv_l2i hx hb dX9_cut_38 rfl ?_
    refine lv_i2s hx hb dX9_cut_39 rfl ?_
    refine lv_i2l hx hb dX9_cut_40 rfl ?_
    exact x_lret C hw h dX9_cut_41
  by_cases c4 : x1 = 2
  · refine lv_tableIn (off := 38) (tgt := 42) hx hb dX9_cut_4 (by rw [c4]; decide) (by rw [c4]; decide) (by rw [c4]; rfl) (by decide) ?_
    have h := h.2.2.1 c4
    refine lv_lload_n hx hb dX9_cut_42 rfl (lv_at hl 1 rfl) ?_
    refine lv_l2i hx hb dX9_cut_43 rfl ?_
    refine lv_i2l hx hb dX9_cut_44 rfl ?_
    exact x_lret C hw h dX9_cut_45
  have ec2 : x1.toInt ≠ 0 := fun z => c2 (Int32.toInt_inj.mp (z.trans (by decide)))
  have ec3 : x1.toInt ≠ 1 := fun z => c3 (Int32.toInt_inj.mp (z.trans (by decide)))
  have ec4 : x1.toInt ≠ 2 := fun z => c4 (Int32.toInt_inj.mp (z.trans (by decide)))
  refine lv_tableOut (tgt := 46) hx hb dX9_cut_4 (by omega) (by decide) ?_
  have h := h.2.2.2 c2 c3 c4
  refine lv_lload_n hx hb dX9_cut_46 rfl (lv_at hl 1 rfl) ?_
  exact x_lret C hw h dX9_cut_47
set_option maxHeartbeats 4000000 in
set_option maxRecDepth 100000 in
theorem m_X9_cut (l : Launch) {g : xG} (hD : x_D g) {o : Nat} (ho : xpY g o) {a1 : Int64} {u : xM} {Qf : Int64 → xM → Prop} (h : p_X9_cut o a1 u Qf) : Met l yX9_cut (Cond.code yX9_cut cX9_cut 3 (some .long) :: wsL_law) (x_rm 0 0) (va_Pc [.ref (xad g o), .long a1] (x_B g u)) (x_Ql g Qf) 0 0 (x_A g) := by
  refine Met.ofW (cc := cX9_cut) (maxL := 3) (ret := (some .long)) (by decide) rfl ?_
  intro p e s m args below meth c s₁ B hml hv
  obtain ⟨rfl, hB⟩ := hv
  obtain ⟨C, hw⟩ := x_start B hml hD hB
  have hl := lv_entry [.ref (xad g o), .long a1] (n := 3) (Nat.le_of_ble_eq_true rfl)
  rw [lg_entry_eq]
  exact s_X9_cut C ho hw hl h
set_option maxHeartbeats 4000000 in
set_option maxRecDepth 100000 in
theorem s_X9_put {o : Nat} {Qf : xM → Prop} {a1 : Int32} {a2 : Int64} (C : x_C p s m args meth c g RX9 cX9_put 4 none) (ho : xpY g o) {u : xM} {H : Heap} {locs : List Loc} {ls : Array Slot} (hw : x_W g s.heap H locs u) (hl : lv_has ls 4 [(0, .ref (xad g o)), (1, .int a1), (2, .long a2)]) (h : p_X9_put o a1 a2 u Qf) : W p l e (x_rm 1 22) s m args below meth c H locs 0 0 (MQ below (x_Qv g Qf) args s 0 0 (x_A g)) (F0 m 0 ls []) := by
  unfold p_X9_put at h
  have hx := C.1
  have hb := C.2.1
  refine lv_aload_n hx hb dX9_put_0 rfl (lv_at hl 0 rfl) ?_
  refine lv_iload_n hx hb dX9_put_1 rfl (lv_at hl 1 rfl) ?_
  refine x_callz hw (x_runV (ci := 9) C hw (m_X9_has l C.2.2.2.2.2.2.2.2.1 ho h) (xoY_0 ho) rfl (x_gV xw_323 xw_316 xw_317 xw_50 xw_318) rfl rfl qX9_has ⟨(Nat.le_of_ble_eq_true rfl), (Nat.le_of_ble_eq_true rfl)⟩ rfl hl.1 rfl (Nat.le_of_ble_eq_true rfl) dX9_put_2) (fun r2 u1 H locs hw h => ?_)
  refine lv_if_eq (tgt := 19) hx hb dX9_put_5 (by decide) (fun c3 => ?_) (fun c3 => ?_)
  · have h := h.1 (xb_f c3)
    exact x_vret C hw h dX9_put_19
  · have h := h.2 (xb_t c3)
    refine lv_aload_n hx hb dX9_put_8 rfl (lv_at hl 0 rfl) ?_
    refine x_getr (ci := 9) C hw 0 (xoY_0 ho) rfl inlX9 (by decide) rfl rfl (xrY_0_0 ho) xw_213 dX9_put_9 ?_
    refine lv_iload_n hx hb dX9_put_12 rfl (lv_at hl 1 rfl) ?_
    refine lv_aload_n hx hb dX9_put_13 rfl (lv_at hl 0 rfl) ?_
    refine lv_lload_n hx hb dX9_put_14 rfl (lv_at hl 2 rfl) ?_
    refine x_calll hw (x_runV (ci := 9) C hw (m_X9_cut l C.2.2.2.2.2.2.2.2.1 ho h) (xoY_0 ho) rfl (x_gV xw_324 xw_325 xw_326 xw_50 xw_327) rfl rfl qX9_cut ⟨(Nat.le_of_ble_eq_true rfl), (Nat.le_of_ble_eq_true rfl)⟩ rfl hl.1 rfl (Nat.le_of_ble_eq_true rfl) dX9_put_15) (fun r5 u4 H locs hw h => ?_)
    have c6 := h.1
    have h := h.2
    obtain ⟨u7, eu7⟩ : ∃ q : xM, q = sl u4 (o + 1) a1.toNatClampNeg r5 := ⟨_, rfl⟩
    have h := h u7 eu7
    refine x_last C hw (xoY_1 ho) c6 dX9_put_18 eu7 (fun H locs hw => ?_)
    exact x_vret C hw h dX9_put_19
set_option maxHeartbeats 4000000 in
set_option maxRecDepth 100000 in
theorem m_X9_put (l : Launch) {g : xG} (hD : x_D g) {o : Nat} (ho : xpY g o) {a1 : Int32} {a2 : Int64} {u : xM} {Qf : xM → Prop} (h : p_X9_put o a1 a2 u Qf) : Met l yX9_put (Cond.code yX9_put cX9_put 4 none :: wsL_law) (x_rm 1 22) (va_Pc [.ref (xad g o), .int a1, .long a2] (x_B g u)) (x_Qv g Qf) 0 0 (x_A g) := by
  refine Met.ofW (cc := cX9_put) (maxL := 4) (ret := none) (by decide) rfl ?_
  intro p e s m args below meth c s₁ B hml hv
  obtain ⟨rfl, hB⟩ := hv
  obtain ⟨C, hw⟩ := x_start B hml hD hB
  have hl := lv_entry [.ref (xad g o), .int a1, .long a2] (n := 4) (Nat.le_of_ble_eq_true rfl)
  rw [lg_entry_eq]
  exact s_X9_put C ho hw hl h
set_option maxHeartbeats 4000000 in
set_option maxRecDepth 100000 in
theorem s_X10_write {Qf : Bool → xM → Prop} {a1 : Int32} {a2 : Int32} {a3 : Int64} (C : x_C p s m args meth c g RX10 cX10_write 6 (some .boolean)) (hX : xpX g) {u : xM} {H : Heap} {locs : List Loc} {ls : Array Slot} (hw : x_W g s.heap H locs u) (hl : lv_has ls 6 [(0, .ref (xad g 0)), (1, .int a1), (2, .int a2), (3, .long a3)]) (h : p_X10_write a1 a2 a3 u Qf) : W p l e (x_rm 2 45) s m args below meth c H locs 0 0 (MQ below (x_Qz g Qf) args s 0 0 (x_A g)) (F0 m 0 ls []) := by
  unfold p_X10_write at h
  have hx := C.1
  have hb := C.2.1
  refine lv_aload_n hx hb dX10_write_0 rfl (lv_at hl 0 rfl) ?_
  refine lv_iload_n hx hb dX10_write_1 rfl (lv_at hl 1 rfl) ?_
  refine x_callq hw (x_runV (ci := 10) C hw (m_X10_trayAt l C.2.2.2.2.2.2.2.2.1 hX h) (xoX_0 hX) rfl (x_gV xw_276 xw_277 xw_278 xw_2 xw_279) rfl rfl qX10_trayAt ⟨(Nat.le_of_ble_eq_true rfl), (Nat.le_of_ble_eq_true rfl)⟩ rfl hl.1 rfl (Nat.le_of_ble_eq_true rfl) dX10_write_2) (fun u1 H locs hw h => ?_) (fun t2 u1 H locs hw hkt2 h => ?_)
  · have h := h.1 rfl
    refine lv_astoreN (lv' := [(5, .null), (0, .ref (xad g 0)), (1, .int a1), (2, .int a2), (3, .long a3)]) hx hb dX10_write_5 hl (by decide) rfl (fun ls hl => ?_)
    refine lv_aloadN hx hb dX10_write_7 (lv_at hl 0 rfl) ?_
    refine lv_ifnonnullN hx hb dX10_write_9 ?_
    refine lv_aload_n hx hb dX10_write_12 rfl (lv_at hl 1 rfl) ?_
    refine lv_iconst (v := 1) hx hb dX10_write_13 (by decide) ?_
    refine x_callz hw (x_runV (ci := 10) C hw (m_X10_refused l C.2.2.2.2.2.2.2.2.1 hX h) (xoX_0 hX) rfl (x_gV xw_283 xw_284 xw_285 xw_2 xw_286) rfl rfl qX10_refused ⟨(Nat.le_of_ble_eq_true rfl), (Nat.le_of_ble_eq_true rfl)⟩ rfl hl.1 rfl (Nat.le_of_ble_eq_true rfl) dX10_write_14) (fun r4 u3 H locs hw h => ?_)
    exact x_zret _ C hw h rfl dX10_write_17
  · have h := h.2 t2 rfl
    have ht2 : xpY g t2 := xpY_of hX hkt2
    refine lv_astore (lv' := [(5, .ref (xad g t2)), (0, .ref (xad g 0)), (1, .int a1), (2, .int a2), (3, .long a3)]) hx hb dX10_write_5 hl (by decide) rfl (fun ls hl => ?_)
    refine lv_aload hx hb dX10_write_7 (lv_at hl 0 rfl) ?_
    refine lv_ifnonnull (tgt := 18) hx hb dX10_write_9 (by decide) ?_
    refine lv_aload hx hb dX10_write_18 (lv_at hl 0 rfl) ?_
    refine x_callz hw (x_runV (ci := 9) C hw (m_X9_isMissing l C.2.2.2.2.2.2.2.2.1 ht2 h) (xoY_0 ht2) rfl (x_gV xw_311 xw_312 xw_313 xw_50 xw_314) rfl rfl qX9_isMissing ⟨(Nat.le_of_ble_eq_true rfl), (Nat.le_of_ble_eq_true rfl)⟩ rfl hl.1 rfl (Nat.le_of_ble_eq_true rfl) dX10_write_20) (fun r6 u5 H locs hw h => ?_)
    refine lv_if_eq (tgt := 32) hx hb dX10_write_23 (by decide) (fun c7 => ?_) (fun c7 => ?_)
    · have h := h.1 (xb_f c7)
      refine lv_aload hx hb dX10_write_32 (lv_at hl 0 rfl) ?_
      refine lv_iload_n hx hb dX10_write_34 rfl (lv_at hl 3 rfl) ?_
      refine x_callz hw (x_runV (ci := 9) C hw (m_X9_has l C.2.2.2.2.2.2.2.2.1 ht2 h) (xoY_0 ht2) rfl (x_gV xw_315 xw_316 xw_317 xw_50 xw_318) rfl rfl qX9_has ⟨(Nat.le_of_ble_eq_true rfl), (Nat.le_of_ble_eq_true rfl)⟩ rfl hl.1 rfl (Nat.le_of_ble_eq_true rfl) dX10_write_35) (fun r9 u8 H locs hw h => ?_)
      refine lv_if_ne (tgt := 47) hx hb dX10_write_38 (by decide) (fun c10 => ?_) (fun c10 => ?_)
      · have h := h.1 (xb_t c10)
        refine lv_aload hx hb dX10_write_47 (lv_at hl 0 rfl) ?_
        refine lv_iload_n hx hb dX10_write_49 rfl (lv_at hl 3 rfl) ?_
        refine lv_lload_n hx hb dX10_write_50 rfl (lv_at hl 4 rfl) ?_
        refine x_callv hw (x_runV (ci := 9) C hw (m_X9_put l C.2.2.2.2.2.2.2.2.1 ht2 h) (xoY_0 ht2) rfl (x_gV xw_319 xw_320 xw_321 xw_50 xw_322) rfl rfl qX9_put ⟨(Nat.le_of_ble_eq_true rfl), (Nat.le_of_ble_eq_true rfl)⟩ rfl hl.1 rfl (Nat.le_of_ble_eq_true rfl) dX10_write_51) (fun u11 H locs hw h => ?_)
        refine lv_aload_n hx hb dX10_write_54 rfl (lv_at hl 1 rfl) ?_
        refine x_callz hw (x_runV (ci := 10) C hw (m_X10_done l C.2.2.2.2.2.2.2.2.1 hX h) (xoX_0 hX) rfl (x_gV xw_292 xw_293 xw_294 xw_2 xw_295) rfl rfl qX10_done ⟨(Nat.le_of_ble_eq_true rfl), (Nat.le_of_ble_eq_true rfl)⟩ rfl hl.1 rfl (Nat.le_of_ble_eq_true rfl) dX10_write_55) (fun r13 u12 H locs hw h => ?_)
        exact x_zret _ C hw h rfl dX10_write_58
      · have h := h.2 (xb_f c10)
        refine lv_aload_n hx hb dX10_write_41 rfl (lv_at hl 1 rfl) ?_
        refine lv_iconst (v := 3) hx hb dX10_write_42 (by decide) ?_
        refine x_callz hw (x_runV (ci := 10) C hw (m_X10_refused l C.2.2.2.2.2.2.2.2.1 hX h) (xoX_0 hX) rfl (x_gV xw_283 xw_284 xw_285 xw_2 xw_286) rfl rfl qX10_refused ⟨(Nat.le_of_ble_eq_true rfl), (Nat.le_of_ble_eq_true rfl)⟩ rfl hl.1 rfl (Nat.le_of_ble_eq_true rfl) dX10_write_43) (fun r15 u14 H locs hw h => ?_)
        exact x_zret _ C hw h rfl dX10_write_46
    · have h := h.2 (xb_t c7)
      refine lv_aload_n hx hb dX10_write_26 rfl (lv_at hl 1 rfl) ?_
      refine lv_iconst (v := 2) hx hb dX10_write_27 (by decide) ?_
      refine x_callz hw (x_runV (ci := 10) C hw (m_X10_refused l C.2.2.2.2.2.2.2.2.1 hX h) (xoX_0 hX) rfl (x_gV xw_283 xw_284 xw_285 xw_2 xw_286) rfl rfl qX10_refused ⟨(Nat.le_of_ble_eq_true rfl), (Nat.le_of_ble_eq_true rfl)⟩ rfl hl.1 rfl (Nat.le_of_ble_eq_true rfl) dX10_write_28) (fun r17 u16 H locs hw h => ?_)
      exact x_zret _ C hw h rfl dX10_write_31
set_option maxHeartbeats 4000000 in
set_option maxRecDepth 100000 in
theorem m_X10_write (l : Launch) {g : xG} (hD : x_D g) (hX : xpX g) {a1 : Int32} {a2 : Int32} {a3 : Int64} {u : xM} {Qf : Bool → xM → Prop} (h : p_X10_write a1 a2 a3 u Qf) : Met l yX10_write (Cond.code yX10_write cX10_write 6 (some .boolean) :: wsL_law) (x_rm 2 45) (va_Pc [.ref (xad g 0), .int a1, .int a2, .long a3] (x_B g u)) (x_Qz g Qf) 0 0 (x_A g) := by
  refine Met.ofW (cc := cX10_write) (maxL := 6) (ret := (some .boolean)) (by decide) rfl ?_
  intro p e s m args below meth c s₁ B hml hv
  obtain ⟨rfl, hB⟩ := hv
  obtain ⟨C, hw⟩ := x_start B hml hD hB
  have hl := lv_entry [.ref (xad g 0), .int a1, .int a2, .long a3] (n := 6) (Nat.le_of_ble_eq_true rfl)
  rw [lg_entry_eq]
  exact s_X10_write C hX hw hl h
set_option maxHeartbeats 4000000 in
set_option maxRecDepth 100000 in
theorem s_X9_at {o : Nat} {Qf : Int64 → xM → Prop} {a1 : Int32} (C : x_C p s m args meth c g RX9 cX9_at 2 (some .long)) (ho : xpY g o) {u : xM} {H : Heap} {locs : List Loc} {ls : Array Slot} (hw : x_W g s.heap H locs u) (hl : lv_has ls 2 [(0, .ref (xad g o)), (1, .int a1)]) (h : p_X9_at o a1 u Qf) : W p l e (x_rm 1 21) s m args below meth c H locs 0 0 (MQ below (x_Ql g Qf) args s 0 0 (x_A g)) (F0 m 0 ls []) := by
  unfold p_X9_at at h
  have hx := C.1
  have hb := C.2.1
  refine lv_aload_n hx hb dX9_at_0 rfl (lv_at hl 0 rfl) ?_
  refine lv_iload_n hx hb dX9_at_1 rfl (lv_at hl 1 rfl) ?_
  refine x_callz hw (x_runV (ci := 9) C hw (m_X9_has l C.2.2.2.2.2.2.2.2.1 ho h) (xoY_0 ho) rfl (x_gV xw_323 xw_316 xw_317 xw_50 xw_318) rfl rfl qX9_has ⟨(Nat.le_of_ble_eq_true rfl), (Nat.le_of_ble_eq_true rfl)⟩ rfl hl.1 rfl (Nat.le_of_ble_eq_true rfl) dX9_at_2) (fun r2 u1 H locs hw h => ?_)
  refine lv_if_eq (tgt := 17) hx hb dX9_at_5 (by decide) (fun c3 => ?_) (fun c3 => ?_)
  · have h := h.1 (xb_f c3)
    refine lv_lconst (v := 0) hx hb dX9_at_17 (by decide) ?_
    exact x_lret C hw h dX9_at_18
  · have h := h.2 (xb_t c3)
    refine lv_aload_n hx hb dX9_at_8 rfl (lv_at hl 0 rfl) ?_
    refine x_getr (ci := 9) C hw 0 (xoY_0 ho) rfl inlX9 (by decide) rfl rfl (xrY_0_0 ho) xw_213 dX9_at_9 ?_
    refine lv_iload_n hx hb dX9_at_12 rfl (lv_at hl 1 rfl) ?_
    have c4 := h.1
    have h := h.2
    refine x_lald C hw (xoY_1 ho) c4 dX9_at_13 ?_
    refine lv_goto (tgt := 18) hx hb dX9_at_14 (by decide) ?_
    exact x_lret C hw h dX9_at_18
set_option maxHeartbeats 4000000 in
set_option maxRecDepth 100000 in
theorem m_X9_at (l : Launch) {g : xG} (hD : x_D g) {o : Nat} (ho : xpY g o) {a1 : Int32} {u : xM} {Qf : Int64 → xM → Prop} (h : p_X9_at o a1 u Qf) : Met l yX9_at (Cond.code yX9_at cX9_at 2 (some .long) :: wsL_law) (x_rm 1 21) (va_Pc [.ref (xad g o), .int a1] (x_B g u)) (x_Ql g Qf) 0 0 (x_A g) := by
  refine Met.ofW (cc := cX9_at) (maxL := 2) (ret := (some .long)) (by decide) rfl ?_
  intro p e s m args below meth c s₁ B hml hv
  obtain ⟨rfl, hB⟩ := hv
  obtain ⟨C, hw⟩ := x_start B hml hD hB
  have hl := lv_entry [.ref (xad g o), .int a1] (n := 2) (Nat.le_of_ble_eq_true rfl)
  rw [lg_entry_eq]
  exact s_X9_at C ho hw hl h
set_option maxHeartbeats 4000000 in
set_option maxRecDepth 100000 in
theorem s_X10_read {Qf : Int64 → xM → Prop} {a1 : Int32} {a2 : Int32} (C : x_C p s m args meth c g RX10 cX10_read 4 (some .long)) (hX : xpX g) {u : xM} {H : Heap} {locs : List Loc} {ls : Array Slot} (hw : x_W g s.heap H locs u) (hl : lv_has ls 4 [(0, .ref (xad g 0)), (1, .int a1), (2, .int a2)]) (h : p_X10_read a1 a2 u Qf) : W p l e (x_rm 2 42) s m args below meth c H locs 0 0 (MQ below (x_Ql g Qf) args s 0 0 (x_A g)) (F0 m 0 ls []) := by
  unfold p_X10_read at h
  have hx := C.1
  have hb := C.2.1
  refine lv_aload_n hx hb dX10_read_0 rfl (lv_at hl 0 rfl) ?_
  refine lv_iload_n hx hb dX10_read_1 rfl (lv_at hl 1 rfl) ?_
  refine x_callq hw (x_runV (ci := 10) C hw (m_X10_trayAt l C.2.2.2.2.2.2.2.2.1 hX h) (xoX_0 hX) rfl (x_gV xw_276 xw_277 xw_278 xw_2 xw_279) rfl rfl qX10_trayAt ⟨(Nat.le_of_ble_eq_true rfl), (Nat.le_of_ble_eq_true rfl)⟩ rfl hl.1 rfl (Nat.le_of_ble_eq_true rfl) dX10_read_2) (fun u1 H locs hw h => ?_) (fun t2 u1 H locs hw hkt2 h => ?_)
  · have h := h.1 rfl
    refine lv_astore_nN (lv' := [(3, .null), (0, .ref (xad g 0)), (1, .int a1), (2, .int a2)]) hx hb dX10_read_5 rfl hl (by decide) rfl (fun ls hl => ?_)
    refine lv_aload_nN hx hb dX10_read_6 rfl (lv_at hl 0 rfl) ?_
    refine lv_ifnonnullN hx hb dX10_read_7 ?_
    refine lv_aload_n hx hb dX10_read_10 rfl (lv_at hl 1 rfl) ?_
    refine lv_iconst (v := 1) hx hb dX10_read_11 (by decide) ?_
    refine x_calli hw (x_runV (ci := 10) C hw (m_X10_none l C.2.2.2.2.2.2.2.2.1 hX h) (xoX_0 hX) rfl (x_gV xw_343 xw_344 xw_345 xw_2 xw_346) rfl rfl qX10_none ⟨(Nat.le_of_ble_eq_true rfl), (Nat.le_of_ble_eq_true rfl)⟩ rfl hl.1 rfl (Nat.le_of_ble_eq_true rfl) dX10_read_12) (fun r4 u3 H locs hw h => ?_)
    refine lv_i2l hx hb dX10_read_15 rfl ?_
    exact x_lret C hw h dX10_read_16
  · have h := h.2 t2 rfl
    have ht2 : xpY g t2 := xpY_of hX hkt2
    refine lv_astore_n (lv' := [(3, .ref (xad g t2)), (0, .ref (xad g 0)), (1, .int a1), (2, .int a2)]) hx hb dX10_read_5 rfl hl (by decide) rfl (fun ls hl => ?_)
    refine lv_aload_n hx hb dX10_read_6 rfl (lv_at hl 0 rfl) ?_
    refine lv_ifnonnull (tgt := 17) hx hb dX10_read_7 (by decide) ?_
    refine lv_aload_n hx hb dX10_read_17 rfl (lv_at hl 0 rfl) ?_
    refine x_callz hw (x_runV (ci := 9) C hw (m_X9_isMissing l C.2.2.2.2.2.2.2.2.1 ht2 h) (xoY_0 ht2) rfl (x_gV xw_311 xw_312 xw_313 xw_50 xw_314) rfl rfl qX9_isMissing ⟨(Nat.le_of_ble_eq_true rfl), (Nat.le_of_ble_eq_true rfl)⟩ rfl hl.1 rfl (Nat.le_of_ble_eq_true rfl) dX10_read_18) (fun r6 u5 H locs hw h => ?_)
    refine lv_if_eq (tgt := 31) hx hb dX10_read_21 (by decide) (fun c7 => ?_) (fun c7 => ?_)
    · have h := h.1 (xb_f c7)
      refine lv_aload_n hx hb dX10_read_31 rfl (lv_at hl 0 rfl) ?_
      refine lv_iload_n hx hb dX10_read_32 rfl (lv_at hl 3 rfl) ?_
      refine x_callz hw (x_runV (ci := 9) C hw (m_X9_has l C.2.2.2.2.2.2.2.2.1 ht2 h) (xoY_0 ht2) rfl (x_gV xw_315 xw_316 xw_317 xw_50 xw_318) rfl rfl qX9_has ⟨(Nat.le_of_ble_eq_true rfl), (Nat.le_of_ble_eq_true rfl)⟩ rfl hl.1 rfl (Nat.le_of_ble_eq_true rfl) dX10_read_33) (fun r9 u8 H locs hw h => ?_)
      refine lv_if_ne (tgt := 46) hx hb dX10_read_36 (by decide) (fun c10 => ?_) (fun c10 => ?_)
      · have h := h.1 (xb_t c10)
        refine lv_aload_n hx hb dX10_read_46 rfl (lv_at hl 1 rfl) ?_
        refine lv_iconst (v := 0) hx hb dX10_read_47 (by decide) ?_
        obtain ⟨u11, eu11⟩ : ∃ q : xM, q = si u8 0 14 (0 : Int32) := ⟨_, rfl⟩
        have h := h u11 eu11
        refine x_puti (ci := 10) (ty := .int) C hw 14 (xoX_0 hX) rfl inlX10 tyX10_ok nmX10 (by decide) rfl rfl xw_45 rfl (by decide +kernel) rfl rfl dX10_read_48 eu11 (fun H locs hw => ?_)
        refine lv_aload_n hx hb dX10_read_51 rfl (lv_at hl 0 rfl) ?_
        refine lv_iload_n hx hb dX10_read_52 rfl (lv_at hl 3 rfl) ?_
        refine x_calll hw (x_runV (ci := 9) C hw (m_X9_at l C.2.2.2.2.2.2.2.2.1 ht2 h) (xoY_0 ht2) rfl (x_gV xw_347 xw_348 xw_349 xw_50 xw_350) rfl rfl qX9_at ⟨(Nat.le_of_ble_eq_true rfl), (Nat.le_of_ble_eq_true rfl)⟩ rfl hl.1 rfl (Nat.le_of_ble_eq_true rfl) dX10_read_53) (fun r13 u12 H locs hw h => ?_)
        exact x_lret C hw h dX10_read_56
      · have h := h.2 (xb_f c10)
        refine lv_aload_n hx hb dX10_read_39 rfl (lv_at hl 1 rfl) ?_
        refine lv_iconst (v := 3) hx hb dX10_read_40 (by decide) ?_
        refine x_calli hw (x_runV (ci := 10) C hw (m_X10_none l C.2.2.2.2.2.2.2.2.1 hX h) (xoX_0 hX) rfl (x_gV xw_343 xw_344 xw_345 xw_2 xw_346) rfl rfl qX10_none ⟨(Nat.le_of_ble_eq_true rfl), (Nat.le_of_ble_eq_true rfl)⟩ rfl hl.1 rfl (Nat.le_of_ble_eq_true rfl) dX10_read_41) (fun r15 u14 H locs hw h => ?_)
        refine lv_i2l hx hb dX10_read_44 rfl ?_
        exact x_lret C hw h dX10_read_45
    · have h := h.2 (xb_t c7)
      refine lv_aload_n hx hb dX10_read_24 rfl (lv_at hl 1 rfl) ?_
      refine lv_iconst (v := 2) hx hb dX10_read_25 (by decide) ?_
      refine x_calli hw (x_runV (ci := 10) C hw (m_X10_none l C.2.2.2.2.2.2.2.2.1 hX h) (xoX_0 hX) rfl (x_gV xw_343 xw_344 xw_345 xw_2 xw_346) rfl rfl qX10_none ⟨(Nat.le_of_ble_eq_true rfl), (Nat.le_of_ble_eq_true rfl)⟩ rfl hl.1 rfl (Nat.le_of_ble_eq_true rfl) dX10_read_26) (fun r17 u16 H locs hw h => ?_)
      refine lv_i2l hx hb dX10_read_29 rfl ?_
      exact x_lret C hw h dX10_read_30
set_option maxHeartbeats 4000000 in
set_option maxRecDepth 100000 in
theorem m_X10_read (l : Launch) {g : xG} (hD : x_D g) (hX : xpX g) {a1 : Int32} {a2 : Int32} {u : xM} {Qf : Int64 → xM → Prop} (h : p_X10_read a1 a2 u Qf) : Met l yX10_read (Cond.code yX10_read cX10_read 4 (some .long) :: wsL_law) (x_rm 2 42) (va_Pc [.ref (xad g 0), .int a1, .int a2] (x_B g u)) (x_Ql g Qf) 0 0 (x_A g) := by
  refine Met.ofW (cc := cX10_read) (maxL := 4) (ret := (some .long)) (by decide) rfl ?_
  intro p e s m args below meth c s₁ B hml hv
  obtain ⟨rfl, hB⟩ := hv
  obtain ⟨C, hw⟩ := x_start B hml hD hB
  have hl := lv_entry [.ref (xad g 0), .int a1, .int a2] (n := 4) (Nat.le_of_ble_eq_true rfl)
  rw [lg_entry_eq]
  exact s_X10_read C hX hw hl h
set_option maxHeartbeats 4000000 in
set_option maxRecDepth 100000 in
theorem s_X9_hasRow {o : Nat} {Qf : Bool → xM → Prop} {a1 : Int32} {a2 : Int32} (C : x_C p s m args meth c g RX9 cX9_hasRow 3 (some .boolean)) (ho : xpY g o) {u : xM} {H : Heap} {locs : List Loc} {ls : Array Slot} (hw : x_W g s.heap H locs u) (hl : lv_has ls 3 [(0, .ref (xad g o)), (1, .int a1), (2, .int a2)]) (h : p_X9_hasRow o a1 a2 u Qf) : W p l e (x_rm 0 0) s m args below meth c H locs 0 0 (MQ below (x_Qz g Qf) args s 0 0 (x_A g)) (F0 m 0 ls []) := by
  unfold p_X9_hasRow at h
  have hx := C.1
  have hb := C.2.1
  refine lv_iload_n hx hb dX9_hasRow_0 rfl (lv_at hl 1 rfl) ?_
  refine lv_if_lt (tgt := 30) hx hb dX9_hasRow_1 (by decide) (fun c1 => ?_) (fun c1 => ?_)
  · have h := h.1 c1
    refine lv_iconst (v := 0) hx hb dX9_hasRow_30 (by decide) ?_
    exact x_zret false C hw h rfl dX9_hasRow_31
  · have h := h.2 c1
    refine lv_iload_n hx hb dX9_hasRow_4 rfl (lv_at hl 2 rfl) ?_
    refine lv_if_lt (tgt := 30) hx hb dX9_hasRow_5 (by decide) (fun c2 => ?_) (fun c2 => ?_)
    · have h := h.1 c2
      refine lv_iconst (v := 0) hx hb dX9_hasRow_30 (by decide) ?_
      exact x_zret false C hw h rfl dX9_hasRow_31
    · have h := h.2 c2
      refine lv_iload_n hx hb dX9_hasRow_8 rfl (lv_at hl 1 rfl) ?_
      refine lv_aload_n hx hb dX9_hasRow_9 rfl (lv_at hl 0 rfl) ?_
      refine x_geti (ci := 9) C hw 2 (xoY_0 ho) rfl inlX9 (by decide) rfl rfl xw_214 dX9_hasRow_10 ?_
      refine lv_icmp_gt (tgt := 30) hx hb dX9_hasRow_13 (by decide) (fun c3 => ?_) (fun c3 => ?_)
      · have h := h.1 c3
        refine lv_iconst (v := 0) hx hb dX9_hasRow_30 (by decide) ?_
        exact x_zret false C hw h rfl dX9_hasRow_31
      · have h := h.2 c3
        refine lv_iload_n hx hb dX9_hasRow_16 rfl (lv_at hl 2 rfl) ?_
        refine lv_aload_n hx hb dX9_hasRow_17 rfl (lv_at hl 0 rfl) ?_
        refine x_geti (ci := 9) C hw 2 (xoY_0 ho) rfl inlX9 (by decide) rfl rfl xw_214 dX9_hasRow_18 ?_
        refine lv_iload_n hx hb dX9_hasRow_21 rfl (lv_at hl 1 rfl) ?_
        refine lv_isub hx hb dX9_hasRow_22 ?_
        refine lv_icmp_gt (tgt := 30) hx hb dX9_hasRow_23 (by decide) (fun c4 => ?_) (fun c4 => ?_)
        · have h := h.1 c4
          refine lv_iconst (v := 0) hx hb dX9_hasRow_30 (by decide) ?_
          exact x_zret false C hw h rfl dX9_hasRow_31
        · have h := h.2 c4
          refine lv_iconst (v := 1) hx hb dX9_hasRow_26 (by decide) ?_
          refine lv_goto (tgt := 31) hx hb dX9_hasRow_27 (by decide) ?_
          exact x_zret true C hw h rfl dX9_hasRow_31
set_option maxHeartbeats 4000000 in
set_option maxRecDepth 100000 in
theorem m_X9_hasRow (l : Launch) {g : xG} (hD : x_D g) {o : Nat} (ho : xpY g o) {a1 : Int32} {a2 : Int32} {u : xM} {Qf : Bool → xM → Prop} (h : p_X9_hasRow o a1 a2 u Qf) : Met l yX9_hasRow (Cond.code yX9_hasRow cX9_hasRow 3 (some .boolean) :: wsL_law) (x_rm 0 0) (va_Pc [.ref (xad g o), .int a1, .int a2] (x_B g u)) (x_Qz g Qf) 0 0 (x_A g) := by
  refine Met.ofW (cc := cX9_hasRow) (maxL := 3) (ret := (some .boolean)) (by decide) rfl ?_
  intro p e s m args below meth c s₁ B hml hv
  obtain ⟨rfl, hB⟩ := hv
  obtain ⟨C, hw⟩ := x_start B hml hD hB
  have hl := lv_entry [.ref (xad g o), .int a1, .int a2] (n := 3) (Nat.le_of_ble_eq_true rfl)
  rw [lg_entry_eq]
  exact s_X9_hasRow C ho hw hl h
set_option maxHeartbeats 4000000 in
set_option maxRecDepth 100000 in
theorem s_X10_pour {Qf : Bool → xM → Prop} {a1 : Int32} {a2 : Int32} {a3 : Int32} {a4 : Int32} {a5 : Int32} (C : x_C p s m args meth c g RX10 cX10_pour 8 (some .boolean)) (hX : xpX g) {u : xM} {H : Heap} {locs : List Loc} {ls : Array Slot} (hw : x_W g s.heap H locs u) (hl : lv_has ls 8 [(0, .ref (xad g 0)), (1, .int a1), (2, .int a2), (3, .int a3), (4, .int a4), (5, .int a5)]) (h : p_X10_pour a1 a2 a3 a4 a5 u Qf) : W p l e (x_rm 1 80) s m args below meth c H locs 0 0 (MQ below (x_Qz g Qf) args s 0 0 (x_A g)) (F0 m 0 ls []) := by
  unfold p_X10_pour at h
  have hx := C.1
  have hb := C.2.1
  refine lv_aload_n hx hb dX10_pour_0 rfl (lv_at hl 0 rfl) ?_
  refine lv_iload_n hx hb dX10_pour_1 rfl (lv_at hl 1 rfl) ?_
  refine x_callq hw (x_runV (ci := 10) C hw (m_X10_trayAt l C.2.2.2.2.2.2.2.2.1 hX h) (xoX_0 hX) rfl (x_gV xw_276 xw_277 xw_278 xw_2 xw_279) rfl rfl qX10_trayAt ⟨(Nat.le_of_ble_eq_true rfl), (Nat.le_of_ble_eq_true rfl)⟩ rfl hl.1 rfl (Nat.le_of_ble_eq_true rfl) dX10_pour_2) (fun u1 H locs hw h => ?_) (fun t2 u1 H locs hw hkt2 h => ?_)
  · have h := h.1 rfl
    refine lv_astoreN (lv' := [(6, .null), (0, .ref (xad g 0)), (1, .int a1), (2, .int a2), (3, .int a3), (4, .int a4), (5, .int a5)]) hx hb dX10_pour_5 hl (by decide) rfl (fun ls hl => ?_)
    refine lv_aload_n hx hb dX10_pour_7 rfl (lv_at hl 1 rfl) ?_
    refine lv_iload_n hx hb dX10_pour_8 rfl (lv_at hl 4 rfl) ?_
    refine x_callq hw (x_runV (ci := 10) C hw (m_X10_trayAt l C.2.2.2.2.2.2.2.2.1 hX h) (xoX_0 hX) rfl (x_gV xw_276 xw_277 xw_278 xw_2 xw_279) rfl rfl qX10_trayAt ⟨(Nat.le_of_ble_eq_true rfl), (Nat.le_of_ble_eq_true rfl)⟩ rfl hl.1 rfl (Nat.le_of_ble_eq_true rfl) dX10_pour_9) (fun u3 H locs hw h => ?_) (fun t4 u3 H locs hw hkt4 h => ?_)
    · have h := h.1 rfl
      refine lv_astoreN (lv' := [(7, .null), (6, .null), (0, .ref (xad g 0)), (1, .int a1), (2, .int a2), (3, .int a3), (4, .int a4), (5, .int a5)]) hx hb dX10_pour_12 hl (by decide) rfl (fun ls hl => ?_)
      refine lv_aloadN hx hb dX10_pour_14 (lv_at hl 1 rfl) ?_
      refine lv_ifnullN (tgt := 38) hx hb dX10_pour_16 (by decide) ?_
      refine lv_aload_n hx hb dX10_pour_38 rfl (lv_at hl 2 rfl) ?_
      refine lv_iconst (v := 1) hx hb dX10_pour_39 (by decide) ?_
      refine x_callz hw (x_runV (ci := 10) C hw (m_X10_refused l C.2.2.2.2.2.2.2.2.1 hX h) (xoX_0 hX) rfl (x_gV xw_283 xw_284 xw_285 xw_2 xw_286) rfl rfl qX10_refused ⟨(Nat.le_of_ble_eq_true rfl), (Nat.le_of_ble_eq_true rfl)⟩ rfl hl.1 rfl (Nat.le_of_ble_eq_true rfl) dX10_pour_40) (fun r6 u5 H locs hw h => ?_)
      exact x_zret _ C hw h rfl dX10_pour_43
    · have h := h.2 t4 rfl
      have ht4 : xpY g t4 := xpY_of hX hkt4
      refine lv_astore (lv' := [(7, .ref (xad g t4)), (6, .null), (0, .ref (xad g 0)), (1, .int a1), (2, .int a2), (3, .int a3), (4, .int a4), (5, .int a5)]) hx hb dX10_pour_12 hl (by decide) rfl (fun ls hl => ?_)
      refine lv_aloadN hx hb dX10_pour_14 (lv_at hl 1 rfl) ?_
      refine lv_ifnullN (tgt := 38) hx hb dX10_pour_16 (by decide) ?_
      refine lv_aload_n hx hb dX10_pour_38 rfl (lv_at hl 2 rfl) ?_
      refine lv_iconst (v := 1) hx hb dX10_pour_39 (by decide) ?_
      refine x_callz hw (x_runV (ci := 10) C hw (m_X10_refused l C.2.2.2.2.2.2.2.2.1 hX h) (xoX_0 hX) rfl (x_gV xw_283 xw_284 xw_285 xw_2 xw_286) rfl rfl qX10_refused ⟨(Nat.le_of_ble_eq_true rfl), (Nat.le_of_ble_eq_true rfl)⟩ rfl hl.1 rfl (Nat.le_of_ble_eq_true rfl) dX10_pour_40) (fun r8 u7 H locs hw h => ?_)
      exact x_zret _ C hw h rfl dX10_pour_43
  · have h := h.2 t2 rfl
    have ht2 : xpY g t2 := xpY_of hX hkt2
    refine lv_astore (lv' := [(6, .ref (xad g t2)), (0, .ref (xad g 0)), (1, .int a1), (2, .int a2), (3, .int a3), (4, .int a4), (5, .int a5)]) hx hb dX10_pour_5 hl (by decide) rfl (fun ls hl => ?_)
    refine lv_aload_n hx hb dX10_pour_7 rfl (lv_at hl 1 rfl) ?_
    refine lv_iload_n hx hb dX10_pour_8 rfl (lv_at hl 4 rfl) ?_
    refine x_callq hw (x_runV (ci := 10) C hw (m_X10_trayAt l C.2.2.2.2.2.2.2.2.1 hX h) (xoX_0 hX) rfl (x_gV xw_276 xw_277 xw_278 xw_2 xw_279) rfl rfl qX10_trayAt ⟨(Nat.le_of_ble_eq_true rfl), (Nat.le_of_ble_eq_true rfl)⟩ rfl hl.1 rfl (Nat.le_of_ble_eq_true rfl) dX10_pour_9) (fun u10 H locs hw h => ?_) (fun t11 u10 H locs hw hkt11 h => ?_)
    · have h := h.1 rfl
      refine lv_astoreN (lv' := [(7, .null), (6, .ref (xad g t2)), (0, .ref (xad g 0)), (1, .int a1), (2, .int a2), (3, .int a3), (4, .int a4), (5, .int a5)]) hx hb dX10_pour_12 hl (by decide) rfl (fun ls hl => ?_)
      refine lv_aload hx hb dX10_pour_14 (lv_at hl 1 rfl) ?_
      refine lv_ifnull hx hb dX10_pour_16 ?_
      refine lv_aloadN hx hb dX10_pour_19 (lv_at hl 0 rfl) ?_
      refine lv_ifnullN (tgt := 38) hx hb dX10_pour_21 (by decide) ?_
      refine lv_aload_n hx hb dX10_pour_38 rfl (lv_at hl 2 rfl) ?_
      refine lv_iconst (v := 1) hx hb dX10_pour_39 (by decide) ?_
      refine x_callz hw (x_runV (ci := 10) C hw (m_X10_refused l C.2.2.2.2.2.2.2.2.1 hX h) (xoX_0 hX) rfl (x_gV xw_283 xw_284 xw_285 xw_2 xw_286) rfl rfl qX10_refused ⟨(Nat.le_of_ble_eq_true rfl), (Nat.le_of_ble_eq_true rfl)⟩ rfl hl.1 rfl (Nat.le_of_ble_eq_true rfl) dX10_pour_40) (fun r13 u12 H locs hw h => ?_)
      exact x_zret _ C hw h rfl dX10_pour_43
    · have h := h.2 t11 rfl
      have ht11 : xpY g t11 := xpY_of hX hkt11
      refine lv_astore (lv' := [(7, .ref (xad g t11)), (6, .ref (xad g t2)), (0, .ref (xad g 0)), (1, .int a1), (2, .int a2), (3, .int a3), (4, .int a4), (5, .int a5)]) hx hb dX10_pour_12 hl (by decide) rfl (fun ls hl => ?_)
      refine lv_aload hx hb dX10_pour_14 (lv_at hl 1 rfl) ?_
      refine lv_ifnull hx hb dX10_pour_16 ?_
      refine lv_aload hx hb dX10_pour_19 (lv_at hl 0 rfl) ?_
      refine lv_ifnull hx hb dX10_pour_21 ?_
      refine lv_iload_n hx hb dX10_pour_24 rfl (lv_at hl 4 rfl) ?_
      refine lv_if_lt (tgt := 38) hx hb dX10_pour_25 (by decide) (fun c14 => ?_) (fun c14 => ?_)
      · have h := h.1 c14
        refine lv_aload_n hx hb dX10_pour_38 rfl (lv_at hl 2 rfl) ?_
        refine lv_iconst (v := 1) hx hb dX10_pour_39 (by decide) ?_
        refine x_callz hw (x_runV (ci := 10) C hw (m_X10_refused l C.2.2.2.2.2.2.2.2.1 hX h) (xoX_0 hX) rfl (x_gV xw_283 xw_284 xw_285 xw_2 xw_286) rfl rfl qX10_refused ⟨(Nat.le_of_ble_eq_true rfl), (Nat.le_of_ble_eq_true rfl)⟩ rfl hl.1 rfl (Nat.le_of_ble_eq_true rfl) dX10_pour_40) (fun r16 u15 H locs hw h => ?_)
        exact x_zret _ C hw h rfl dX10_pour_43
      · have h := h.2 c14
        refine lv_iload hx hb dX10_pour_28 (lv_at hl 6 rfl) ?_
        refine lv_if_lt (tgt := 38) hx hb dX10_pour_30 (by decide) (fun c17 => ?_) (fun c17 => ?_)
        · have h := h.1 c17
          refine lv_aload_n hx hb dX10_pour_38 rfl (lv_at hl 2 rfl) ?_
          refine lv_iconst (v := 1) hx hb dX10_pour_39 (by decide) ?_
          refine x_callz hw (x_runV (ci := 10) C hw (m_X10_refused l C.2.2.2.2.2.2.2.2.1 hX h) (xoX_0 hX) rfl (x_gV xw_283 xw_284 xw_285 xw_2 xw_286) rfl rfl qX10_refused ⟨(Nat.le_of_ble_eq_true rfl), (Nat.le_of_ble_eq_true rfl)⟩ rfl hl.1 rfl (Nat.le_of_ble_eq_true rfl) dX10_pour_40) (fun r19 u18 H locs hw h => ?_)
          exact x_zret _ C hw h rfl dX10_pour_43
        · have h := h.2 c17
          refine lv_iload hx hb dX10_pour_33 (lv_at hl 7 rfl) ?_
          refine lv_if_ge (tgt := 44) hx hb dX10_pour_35 (by decide) (fun c20 => ?_) (fun c20 => ?_)
          · have h := h.1 c20
            refine lv_aload hx hb dX10_pour_44 (lv_at hl 1 rfl) ?_
            refine x_callz hw (x_runV (ci := 9) C hw (m_X9_isMissing l C.2.2.2.2.2.2.2.2.1 ht2 h) (xoY_0 ht2) rfl (x_gV xw_311 xw_312 xw_313 xw_50 xw_314) rfl rfl qX9_isMissing ⟨(Nat.le_of_ble_eq_true rfl), (Nat.le_of_ble_eq_true rfl)⟩ rfl hl.1 rfl (Nat.le_of_ble_eq_true rfl) dX10_pour_46) (fun r22 u21 H locs hw h => ?_)
            refine lv_if_ne (tgt := 60) hx hb dX10_pour_49 (by decide) (fun c23 => ?_) (fun c23 => ?_)
            · have h := h.1 (xb_t c23)
              refine lv_aload_n hx hb dX10_pour_60 rfl (lv_at hl 2 rfl) ?_
              refine lv_iconst (v := 2) hx hb dX10_pour_61 (by decide) ?_
              refine x_callz hw (x_runV (ci := 10) C hw (m_X10_refused l C.2.2.2.2.2.2.2.2.1 hX h) (xoX_0 hX) rfl (x_gV xw_283 xw_284 xw_285 xw_2 xw_286) rfl rfl qX10_refused ⟨(Nat.le_of_ble_eq_true rfl), (Nat.le_of_ble_eq_true rfl)⟩ rfl hl.1 rfl (Nat.le_of_ble_eq_true rfl) dX10_pour_62) (fun r25 u24 H locs hw h => ?_)
              exact x_zret _ C hw h rfl dX10_pour_65
            · have h := h.2 (xb_f c23)
              refine lv_aload hx hb dX10_pour_52 (lv_at hl 0 rfl) ?_
              refine x_callz hw (x_runV (ci := 9) C hw (m_X9_isMissing l C.2.2.2.2.2.2.2.2.1 ht11 h) (xoY_0 ht11) rfl (x_gV xw_311 xw_312 xw_313 xw_50 xw_314) rfl rfl qX9_isMissing ⟨(Nat.le_of_ble_eq_true rfl), (Nat.le_of_ble_eq_true rfl)⟩ rfl hl.1 rfl (Nat.le_of_ble_eq_true rfl) dX10_pour_54) (fun r27 u26 H locs hw h => ?_)
              refine lv_if_eq (tgt := 66) hx hb dX10_pour_57 (by decide) (fun c28 => ?_) (fun c28 => ?_)
              · have h := h.1 (xb_f c28)
                refine lv_aload hx hb dX10_pour_66 (lv_at hl 1 rfl) ?_
                refine x_geti (ci := 9) C hw 1 (xoY_0 ht2) rfl inlX9 (by decide) rfl rfl xw_360 dX10_pour_68 ?_
                refine lv_aload hx hb dX10_pour_71 (lv_at hl 0 rfl) ?_
                refine x_geti (ci := 9) C hw 1 (xoY_0 ht11) rfl inlX9 (by decide) rfl rfl xw_360 dX10_pour_73 ?_
                refine lv_icmp_eq (tgt := 86) hx hb dX10_pour_76 (by decide) (fun c29 => ?_) (fun c29 => ?_)
                · have h := h.1 c29
                  refine lv_aload hx hb dX10_pour_86 (lv_at hl 1 rfl) ?_
                  refine lv_iload_n hx hb dX10_pour_88 rfl (lv_at hl 4 rfl) ?_
                  refine lv_iload hx hb dX10_pour_89 (lv_at hl 7 rfl) ?_
                  refine x_callz hw (x_runV (ci := 9) C hw (m_X9_hasRow l C.2.2.2.2.2.2.2.2.1 ht2 h) (xoY_0 ht2) rfl (x_gV xw_366 xw_367 xw_368 xw_50 xw_369) rfl rfl qX9_hasRow ⟨(Nat.le_of_ble_eq_true rfl), (Nat.le_of_ble_eq_true rfl)⟩ rfl hl.1 rfl (Nat.le_of_ble_eq_true rfl) dX10_pour_91) (fun r31 u30 H locs hw h => ?_)
                  refine lv_if_eq (tgt := 109) hx hb dX10_pour_94 (by decide) (fun c32 => ?_) (fun c32 => ?_)
                  · have h := h.1 (xb_f c32)
                    refine lv_aload_n hx hb dX10_pour_109 rfl (lv_at hl 2 rfl) ?_
                    refine lv_iconst (v := 3) hx hb dX10_pour_110 (by decide) ?_
                    refine x_callz hw (x_runV (ci := 10) C hw (m_X10_refused l C.2.2.2.2.2.2.2.2.1 hX h) (xoX_0 hX) rfl (x_gV xw_283 xw_284 xw_285 xw_2 xw_286) rfl rfl qX10_refused ⟨(Nat.le_of_ble_eq_true rfl), (Nat.le_of_ble_eq_true rfl)⟩ rfl hl.1 rfl (Nat.le_of_ble_eq_true rfl) dX10_pour_111) (fun r34 u33 H locs hw h => ?_)
                    exact x_zret _ C hw h rfl dX10_pour_114
                  · have h := h.2 (xb_t c32)
                    refine lv_aload hx hb dX10_pour_97 (lv_at hl 0 rfl) ?_
                    refine lv_iload hx hb dX10_pour_99 (lv_at hl 6 rfl) ?_
                    refine lv_iload hx hb dX10_pour_101 (lv_at hl 7 rfl) ?_
                    refine x_callz hw (x_runV (ci := 9) C hw (m_X9_hasRow l C.2.2.2.2.2.2.2.2.1 ht11 h) (xoY_0 ht11) rfl (x_gV xw_366 xw_367 xw_368 xw_50 xw_369) rfl rfl qX9_hasRow ⟨(Nat.le_of_ble_eq_true rfl), (Nat.le_of_ble_eq_true rfl)⟩ rfl hl.1 rfl (Nat.le_of_ble_eq_true rfl) dX10_pour_103) (fun r36 u35 H locs hw h => ?_)
                    refine lv_if_ne (tgt := 115) hx hb dX10_pour_106 (by decide) (fun c37 => ?_) (fun c37 => ?_)
                    · have h := h.1 (xb_t c37)
                      refine lv_aload hx hb dX10_pour_115 (lv_at hl 1 rfl) ?_
                      refine x_getr (ci := 9) C hw 0 (xoY_0 ht2) rfl inlX9 (by decide) rfl rfl (xrY_0_0 ht2) xw_361 dX10_pour_117 ?_
                      refine lv_iload_n hx hb dX10_pour_120 rfl (lv_at hl 4 rfl) ?_
                      refine lv_aload hx hb dX10_pour_121 (lv_at hl 0 rfl) ?_
                      refine x_getr (ci := 9) C hw 0 (xoY_0 ht11) rfl inlX9 (by decide) rfl rfl (xrY_0_0 ht11) xw_361 dX10_pour_123 ?_
                      refine lv_iload hx hb dX10_pour_126 (lv_at hl 6 rfl) ?_
                      refine lv_iload hx hb dX10_pour_128 (lv_at hl 7 rfl) ?_
                      have c38 := h.1
                      have h := h.2
                      obtain ⟨u39, eu39⟩ : ∃ q : xM, q = cpl u35 (t2 + 1) a2.toNatClampNeg (t11 + 1) a4.toNatClampNeg a5.toNatClampNeg := ⟨_, rfl⟩
                      have h := h u39 eu39
                      refine x_cpyl C hl.1 xw_362 hw (xoY_1 ht2) (xoY_1 ht11) c38 (Nat.le_of_ble_eq_true rfl) (Nat.le_of_ble_eq_true rfl) dX10_pour_130 eu39 (fun H locs hw => ?_)
                      refine lv_aload_n hx hb dX10_pour_133 rfl (lv_at hl 2 rfl) ?_
                      refine x_callz hw (x_runV (ci := 10) C hw (m_X10_done l C.2.2.2.2.2.2.2.2.1 hX h) (xoX_0 hX) rfl (x_gV xw_292 xw_293 xw_294 xw_2 xw_295) rfl rfl qX10_done ⟨(Nat.le_of_ble_eq_true rfl), (Nat.le_of_ble_eq_true rfl)⟩ rfl hl.1 rfl (Nat.le_of_ble_eq_true rfl) dX10_pour_134) (fun r41 u40 H locs hw h => ?_)
                      exact x_zret _ C hw h rfl dX10_pour_137
                    · have h := h.2 (xb_f c37)
                      refine lv_aload_n hx hb dX10_pour_109 rfl (lv_at hl 2 rfl) ?_
                      refine lv_iconst (v := 3) hx hb dX10_pour_110 (by decide) ?_
                      refine x_callz hw (x_runV (ci := 10) C hw (m_X10_refused l C.2.2.2.2.2.2.2.2.1 hX h) (xoX_0 hX) rfl (x_gV xw_283 xw_284 xw_285 xw_2 xw_286) rfl rfl qX10_refused ⟨(Nat.le_of_ble_eq_true rfl), (Nat.le_of_ble_eq_true rfl)⟩ rfl hl.1 rfl (Nat.le_of_ble_eq_true rfl) dX10_pour_111) (fun r43 u42 H locs hw h => ?_)
                      exact x_zret _ C hw h rfl dX10_pour_114
                · have h := h.2 c29
                  refine lv_aload_n hx hb dX10_pour_79 rfl (lv_at hl 2 rfl) ?_
                  refine lv_bipush (v := 8) hx hb dX10_pour_80 (by decide) ?_
                  refine x_callz hw (x_runV (ci := 10) C hw (m_X10_refused l C.2.2.2.2.2.2.2.2.1 hX h) (xoX_0 hX) rfl (x_gV xw_283 xw_284 xw_285 xw_2 xw_286) rfl rfl qX10_refused ⟨(Nat.le_of_ble_eq_true rfl), (Nat.le_of_ble_eq_true rfl)⟩ rfl hl.1 rfl (Nat.le_of_ble_eq_true rfl) dX10_pour_82) (fun r45 u44 H locs hw h => ?_)
                  exact x_zret _ C hw h rfl dX10_pour_85
              · have h := h.2 (xb_t c28)
                refine lv_aload_n hx hb dX10_pour_60 rfl (lv_at hl 2 rfl) ?_
                refine lv_iconst (v := 2) hx hb dX10_pour_61 (by decide) ?_
                refine x_callz hw (x_runV (ci := 10) C hw (m_X10_refused l C.2.2.2.2.2.2.2.2.1 hX h) (xoX_0 hX) rfl (x_gV xw_283 xw_284 xw_285 xw_2 xw_286) rfl rfl qX10_refused ⟨(Nat.le_of_ble_eq_true rfl), (Nat.le_of_ble_eq_true rfl)⟩ rfl hl.1 rfl (Nat.le_of_ble_eq_true rfl) dX10_pour_62) (fun r47 u46 H locs hw h => ?_)
                exact x_zret _ C hw h rfl dX10_pour_65
          · have h := h.2 c20
            refine lv_aload_n hx hb dX10_pour_38 rfl (lv_at hl 2 rfl) ?_
            refine lv_iconst (v := 1) hx hb dX10_pour_39 (by decide) ?_
            refine x_callz hw (x_runV (ci := 10) C hw (m_X10_refused l C.2.2.2.2.2.2.2.2.1 hX h) (xoX_0 hX) rfl (x_gV xw_283 xw_284 xw_285 xw_2 xw_286) rfl rfl qX10_refused ⟨(Nat.le_of_ble_eq_true rfl), (Nat.le_of_ble_eq_true rfl)⟩ rfl hl.1 rfl (Nat.le_of_ble_eq_true rfl) dX10_pour_40) (fun r49 u48 H locs hw h => ?_)
            exact x_zret _ C hw h rfl dX10_pour_43
set_option maxHeartbeats 4000000 in
set_option maxRecDepth 100000 in
theorem m_X10_pour (l : Launch) {g : xG} (hD : x_D g) (hX : xpX g) {a1 : Int32} {a2 : Int32} {a3 : Int32} {a4 : Int32} {a5 : Int32} {u : xM} {Qf : Bool → xM → Prop} (h : p_X10_pour a1 a2 a3 a4 a5 u Qf) : Met l yX10_pour (Cond.code yX10_pour cX10_pour 8 (some .boolean) :: wsL_law) (x_rm 1 80) (va_Pc [.ref (xad g 0), .int a1, .int a2, .int a3, .int a4, .int a5] (x_B g u)) (x_Qz g Qf) 0 0 (x_A g) := by
  refine Met.ofW (cc := cX10_pour) (maxL := 8) (ret := (some .boolean)) (by decide) rfl ?_
  intro p e s m args below meth c s₁ B hml hv
  obtain ⟨rfl, hB⟩ := hv
  obtain ⟨C, hw⟩ := x_start B hml hD hB
  have hl := lv_entry [.ref (xad g 0), .int a1, .int a2, .int a3, .int a4, .int a5] (n := 8) (Nat.le_of_ble_eq_true rfl)
  rw [lg_entry_eq]
  exact s_X10_pour C hX hw hl h
set_option maxHeartbeats 4000000 in
set_option maxRecDepth 100000 in
theorem s_X10_putOnTape_L3 {Qf : xM → Prop} (C : x_C p s m args meth c g RX10 cX10_putOnTape 3 none) (hX : xpX g) : ∀ (nn : Nat) {v1 : Int32} {v2 : Int32} {u : xM} {H : Heap} {locs : List Loc} {ls : Array Slot} (hw : x_W g s.heap H locs u) (hl : lv_has ls 3 [(0, .ref (xad g 0)), (1, .int v1), (2, .int v2)]) (h : p_X10_putOnTape_L3 Qf nn v1 v2 u), W p l e (x_rm 0 0) s m args below meth c H locs 0 0 (MQ below (x_Qv g Qf) args s 0 0 (x_A g)) (F0 m 3 ls []) := by
  intro nn
  induction nn with
  | zero => intro v1 v2 u H locs ls hw hl h; exact h.elim
  | succ nn ih =>
    intro v1 v2 u H locs ls hw hl h
    unfold p_X10_putOnTape_L3 at h
    have hx := C.1
    have hb := C.2.1
    refine lv_iload_n hx hb dX10_putOnTape_3 rfl (lv_at hl 2 rfl) ?_
    refine lv_if_lt (tgt := 46) hx hb dX10_putOnTape_4 (by decide) (fun c1 => ?_) (fun c1 => ?_)
    · have h := h.1 c1
      exact x_vret C hw h dX10_putOnTape_46
    · have h := h.2 c1
      refine lv_aload_n hx hb dX10_putOnTape_7 rfl (lv_at hl 0 rfl) ?_
      refine x_geti (ci := 10) C hw 13 (xoX_0 hX) rfl inlX10 (by decide) rfl rfl xw_378 dX10_putOnTape_8 ?_
      refine lv_sipush (v := 900) hx hb dX10_putOnTape_11 (by decide) ?_
      refine lv_icmp_ge (tgt := 46) hx hb dX10_putOnTape_14 (by decide) (fun c2 => ?_) (fun c2 => ?_)
      · have h := h.1 c2
        exact x_vret C hw h dX10_putOnTape_46
      · have h := h.2 c2
        refine lv_aload_n hx hb dX10_putOnTape_17 rfl (lv_at hl 0 rfl) ?_
        refine x_getr (ci := 10) C hw 12 (xoX_0 hX) rfl inlX10 (by decide) rfl rfl xrX_0_12 xw_44 dX10_putOnTape_18 ?_
        refine lv_aload_n hx hb dX10_putOnTape_21 rfl (lv_at hl 0 rfl) ?_
        refine x_geti (ci := 10) C hw 13 (xoX_0 hX) rfl inlX10 (by decide) rfl rfl xw_378 dX10_putOnTape_22 ?_
        refine lv_iload_n hx hb dX10_putOnTape_25 rfl (lv_at hl 1 rfl) ?_
        refine lv_iload_n hx hb dX10_putOnTape_26 rfl (lv_at hl 2 rfl) ?_
        refine lv_ishr hx hb dX10_putOnTape_27 ?_
        refine lv_i2b hx hb dX10_putOnTape_28 rfl ?_
        have c3 := h.1
        have h := h.2
        obtain ⟨u4, eu4⟩ : ∃ q : xM, q = si u 4 (gi u 0 13).toNatClampNeg ((v1 >>> (v2 &&& 31)).toInt8.toInt32).toInt8.toInt32 := ⟨_, rfl⟩
        have h := h u4 eu4
        refine x_bast C hw (xoX_4 hX) c3 dX10_putOnTape_29 eu4 (fun H locs hw => ?_)
        refine lv_aload_n hx hb dX10_putOnTape_30 rfl (lv_at hl 0 rfl) ?_
        refine lv_dup hx hb dX10_putOnTape_31 rfl ?_
        refine x_geti (ci := 10) C hw 13 (xoX_0 hX) rfl inlX10 (by decide) rfl rfl xw_378 dX10_putOnTape_32 ?_
        refine lv_iconst (v := 1) hx hb dX10_putOnTape_35 (by decide) ?_
        refine lv_iadd hx hb dX10_putOnTape_36 ?_
        obtain ⟨u5, eu5⟩ : ∃ q : xM, q = si u4 0 13 ((gi u4 0 13) + (1 : Int32)) := ⟨_, rfl⟩
        have h := h u5 eu5
        refine x_puti (ci := 10) (ty := .int) C hw 13 (xoX_0 hX) rfl inlX10 tyX10_ok nmX10 (by decide) rfl rfl xw_378 rfl (by decide +kernel) rfl rfl dX10_putOnTape_37 eu5 (fun H locs hw => ?_)
        obtain ⟨x6, ex6⟩ : ∃ y : Int32, y = v2 + (-8) := ⟨_, rfl⟩
        have h := h x6 ex6
        refine lv_iinc (v := x6) (lv' := [(2, .int x6), (0, .ref (xad g 0)), (1, .int v1)]) hx hb dX10_putOnTape_40 hl (k := 2) rfl (by rw [ex6]; rfl) (by decide) rfl (fun ls hl => ?_)
        refine lv_goto (tgt := 3) hx hb dX10_putOnTape_43 (by decide) ?_
        exact ih hw (lv_sub hl [1, 2, 0] rfl) h
set_option maxHeartbeats 4000000 in
set_option maxRecDepth 100000 in
theorem s_X10_putOnTape {Qf : xM → Prop} {a1 : Int32} (C : x_C p s m args meth c g RX10 cX10_putOnTape 3 none) (hX : xpX g) {u : xM} {H : Heap} {locs : List Loc} {ls : Array Slot} (hw : x_W g s.heap H locs u) (hl : lv_has ls 3 [(0, .ref (xad g 0)), (1, .int a1)]) (h : p_X10_putOnTape a1 u Qf) : W p l e (x_rm 0 0) s m args below meth c H locs 0 0 (MQ below (x_Qv g Qf) args s 0 0 (x_A g)) (F0 m 0 ls []) := by
  unfold p_X10_putOnTape at h
  have hx := C.1
  have hb := C.2.1
  refine lv_bipush (v := 24) hx hb dX10_putOnTape_0 (by decide) ?_
  refine lv_istore_n (lv' := [(2, .int 24), (0, .ref (xad g 0)), (1, .int a1)]) hx hb dX10_putOnTape_2 rfl hl (by decide) rfl (fun ls hl => ?_)
  obtain ⟨n9, h⟩ := h
  exact s_X10_putOnTape_L3 C hX n9 hw (lv_sub hl [1, 2, 0] rfl) h
set_option maxHeartbeats 4000000 in
set_option maxRecDepth 100000 in
theorem m_X10_putOnTape (l : Launch) {g : xG} (hD : x_D g) (hX : xpX g) {a1 : Int32} {u : xM} {Qf : xM → Prop} (h : p_X10_putOnTape a1 u Qf) : Met l yX10_putOnTape (Cond.code yX10_putOnTape cX10_putOnTape 3 none :: wsL_law) (x_rm 0 0) (va_Pc [.ref (xad g 0), .int a1] (x_B g u)) (x_Qv g Qf) 0 0 (x_A g) := by
  refine Met.ofW (cc := cX10_putOnTape) (maxL := 3) (ret := none) (by decide) rfl ?_
  intro p e s m args below meth c s₁ B hml hv
  obtain ⟨rfl, hB⟩ := hv
  obtain ⟨C, hw⟩ := x_start B hml hD hB
  have hl := lv_entry [.ref (xad g 0), .int a1] (n := 3) (Nat.le_of_ble_eq_true rfl)
  rw [lg_entry_eq]
  exact s_X10_putOnTape C hX hw hl h
set_option maxHeartbeats 4000000 in
set_option maxRecDepth 100000 in
theorem s_X10_feed {Qf : Int32 → xM → Prop} {a1 : Int32} {a2 : Int32} {a3 : Int32} {a4 : Int32} {a5 : Int32} (C : x_C p s m args meth c g RX10 cX10_feed 6 (some .int)) (hX : xpX g) {u : xM} {H : Heap} {locs : List Loc} {ls : Array Slot} (hw : x_W g s.heap H locs u) (hl : lv_has ls 6 [(0, .ref (xad g 0)), (1, .int a1), (2, .int a2), (3, .int a3), (4, .int a4), (5, .int a5)]) (h : p_X10_feed a1 a2 a3 a4 a5 u Qf) : W p l e (x_rm 1 22) s m args below meth c H locs 0 0 (MQ below (x_Qi g Qf) args s 0 0 (x_A g)) (F0 m 0 ls []) := by
  unfold p_X10_feed at h
  have hx := C.1
  have hb := C.2.1
  refine lv_aload_n hx hb dX10_feed_0 rfl (lv_at hl 0 rfl) ?_
  refine x_geti (ci := 10) C hw 13 (xoX_0 hX) rfl inlX10 (by decide) rfl rfl xw_378 dX10_feed_1 ?_
  refine lv_bipush (v := 20) hx hb dX10_feed_4 (by decide) ?_
  refine lv_iadd hx hb dX10_feed_6 ?_
  refine lv_sipush (v := 900) hx hb dX10_feed_7 (by decide) ?_
  refine lv_icmp_le (tgt := 15) hx hb dX10_feed_10 (by decide) (fun c1 => ?_) (fun c1 => ?_)
  · have h := h.1 c1
    refine lv_aload_n hx hb dX10_feed_15 rfl (lv_at hl 0 rfl) ?_
    refine lv_iload_n hx hb dX10_feed_16 rfl (lv_at hl 1 rfl) ?_
    refine x_callv hw (x_runV (ci := 10) C hw (m_X10_putOnTape l C.2.2.2.2.2.2.2.2.1 hX h) (xoX_0 hX) rfl (x_gV xw_379 xw_380 xw_381 xw_2 xw_382) rfl rfl qX10_putOnTape ⟨(Nat.le_of_ble_eq_true rfl), (Nat.le_of_ble_eq_true rfl)⟩ rfl hl.1 rfl (Nat.le_of_ble_eq_true rfl) dX10_feed_17) (fun u2 H locs hw h => ?_)
    refine lv_aload_n hx hb dX10_feed_20 rfl (lv_at hl 0 rfl) ?_
    refine lv_iload_n hx hb dX10_feed_21 rfl (lv_at hl 2 rfl) ?_
    refine x_callv hw (x_runV (ci := 10) C hw (m_X10_putOnTape l C.2.2.2.2.2.2.2.2.1 hX h) (xoX_0 hX) rfl (x_gV xw_379 xw_380 xw_381 xw_2 xw_382) rfl rfl qX10_putOnTape ⟨(Nat.le_of_ble_eq_true rfl), (Nat.le_of_ble_eq_true rfl)⟩ rfl hl.1 rfl (Nat.le_of_ble_eq_true rfl) dX10_feed_22) (fun u3 H locs hw h => ?_)
    refine lv_aload_n hx hb dX10_feed_25 rfl (lv_at hl 0 rfl) ?_
    refine lv_iload_n hx hb dX10_feed_26 rfl (lv_at hl 3 rfl) ?_
    refine x_callv hw (x_runV (ci := 10) C hw (m_X10_putOnTape l C.2.2.2.2.2.2.2.2.1 hX h) (xoX_0 hX) rfl (x_gV xw_379 xw_380 xw_381 xw_2 xw_382) rfl rfl qX10_putOnTape ⟨(Nat.le_of_ble_eq_true rfl), (Nat.le_of_ble_eq_true rfl)⟩ rfl hl.1 rfl (Nat.le_of_ble_eq_true rfl) dX10_feed_27) (fun u4 H locs hw h => ?_)
    refine lv_aload_n hx hb dX10_feed_30 rfl (lv_at hl 0 rfl) ?_
    refine lv_iload hx hb dX10_feed_31 (lv_at hl 4 rfl) ?_
    refine x_callv hw (x_runV (ci := 10) C hw (m_X10_putOnTape l C.2.2.2.2.2.2.2.2.1 hX h) (xoX_0 hX) rfl (x_gV xw_379 xw_380 xw_381 xw_2 xw_382) rfl rfl qX10_putOnTape ⟨(Nat.le_of_ble_eq_true rfl), (Nat.le_of_ble_eq_true rfl)⟩ rfl hl.1 rfl (Nat.le_of_ble_eq_true rfl) dX10_feed_33) (fun u5 H locs hw h => ?_)
    refine lv_aload_n hx hb dX10_feed_36 rfl (lv_at hl 0 rfl) ?_
    refine lv_iload hx hb dX10_feed_37 (lv_at hl 5 rfl) ?_
    refine x_callv hw (x_runV (ci := 10) C hw (m_X10_putOnTape l C.2.2.2.2.2.2.2.2.1 hX h) (xoX_0 hX) rfl (x_gV xw_379 xw_380 xw_381 xw_2 xw_382) rfl rfl qX10_putOnTape ⟨(Nat.le_of_ble_eq_true rfl), (Nat.le_of_ble_eq_true rfl)⟩ rfl hl.1 rfl (Nat.le_of_ble_eq_true rfl) dX10_feed_39) (fun u6 H locs hw h => ?_)
    refine lv_aload_n hx hb dX10_feed_42 rfl (lv_at hl 0 rfl) ?_
    refine x_geti (ci := 10) C hw 13 (xoX_0 hX) rfl inlX10 (by decide) rfl rfl xw_378 dX10_feed_43 ?_
    exact x_iret C hw h dX10_feed_46
  · have h := h.2 c1
    refine lv_iconst (v := -1) hx hb dX10_feed_13 (by decide) ?_
    exact x_iret C hw h dX10_feed_14
set_option maxHeartbeats 4000000 in
set_option maxRecDepth 100000 in
theorem m_X10_feed (l : Launch) {g : xG} (hD : x_D g) (hX : xpX g) {a1 : Int32} {a2 : Int32} {a3 : Int32} {a4 : Int32} {a5 : Int32} {u : xM} {Qf : Int32 → xM → Prop} (h : p_X10_feed a1 a2 a3 a4 a5 u Qf) : Met l yX10_feed (Cond.code yX10_feed cX10_feed 6 (some .int) :: wsL_law) (x_rm 1 22) (va_Pc [.ref (xad g 0), .int a1, .int a2, .int a3, .int a4, .int a5] (x_B g u)) (x_Qi g Qf) 0 0 (x_A g) := by
  refine Met.ofW (cc := cX10_feed) (maxL := 6) (ret := (some .int)) (by decide) rfl ?_
  intro p e s m args below meth c s₁ B hml hv
  obtain ⟨rfl, hB⟩ := hv
  obtain ⟨C, hw⟩ := x_start B hml hD hB
  have hl := lv_entry [.ref (xad g 0), .int a1, .int a2, .int a3, .int a4, .int a5] (n := 6) (Nat.le_of_ble_eq_true rfl)
  rw [lg_entry_eq]
  exact s_X10_feed C hX hw hl h
set_option maxHeartbeats 4000000 in
set_option maxRecDepth 100000 in
theorem s_X7_clear {o : Nat} {Qf : xM → Prop} (C : x_C p s m args meth c g RX7 cX7_clear 1 none) (ho : xpL g o) {u : xM} {H : Heap} {locs : List Loc} {ls : Array Slot} (hw : x_W g s.heap H locs u) (hl : lv_has ls 1 [(0, .ref (xad g (o + 1)))]) (h : p_X7_clear o u Qf) : W p l e (x_rm 0 0) s m args below meth c H locs 0 0 (MQ below (x_Qv g Qf) args s 0 0 (x_A g)) (F0 m 0 ls []) := by
  unfold p_X7_clear at h
  have hx := C.1
  have hb := C.2.1
  refine lv_aload_n hx hb dX7_clear_0 rfl (lv_at hl 0 rfl) ?_
  refine lv_iconst (v := 0) hx hb dX7_clear_1 (by decide) ?_
  obtain ⟨u1, eu1⟩ : ∃ q : xM, q = si u (o + 1) 0 (0 : Int32) := ⟨_, rfl⟩
  have h := h u1 eu1
  refine x_puti (ci := 7) (ty := .int) C hw 0 (xoL_1 ho) rfl inlX7 tyX7_ok nmX7 (by decide) rfl rfl xw_414 rfl (by decide +kernel) rfl rfl dX7_clear_2 eu1 (fun H locs hw => ?_)
  refine lv_aload_n hx hb dX7_clear_5 rfl (lv_at hl 0 rfl) ?_
  refine lv_iconst (v := 0) hx hb dX7_clear_6 (by decide) ?_
  obtain ⟨u2, eu2⟩ : ∃ q : xM, q = si u1 (o + 1) 1 (0 : Int32) := ⟨_, rfl⟩
  have h := h u2 eu2
  refine x_puti (ci := 7) (ty := .int) C hw 1 (xoL_1 ho) rfl inlX7 tyX7_ok nmX7 (by decide) rfl rfl xw_415 rfl (by decide +kernel) rfl rfl dX7_clear_7 eu2 (fun H locs hw => ?_)
  exact x_vret C hw h dX7_clear_10
set_option maxHeartbeats 4000000 in
set_option maxRecDepth 100000 in
theorem m_X7_clear (l : Launch) {g : xG} (hD : x_D g) {o : Nat} (ho : xpL g o) {u : xM} {Qf : xM → Prop} (h : p_X7_clear o u Qf) : Met l yX7_clear (Cond.code yX7_clear cX7_clear 1 none :: wsL_law) (x_rm 0 0) (va_Pc [.ref (xad g (o + 1))] (x_B g u)) (x_Qv g Qf) 0 0 (x_A g) := by
  refine Met.ofW (cc := cX7_clear) (maxL := 1) (ret := none) (by decide) rfl ?_
  intro p e s m args below meth c s₁ B hml hv
  obtain ⟨rfl, hB⟩ := hv
  obtain ⟨C, hw⟩ := x_start B hml hD hB
  have hl := lv_entry [.ref (xad g (o + 1))] (n := 1) (Nat.le_of_ble_eq_true rfl)
  rw [lg_entry_eq]
  exact s_X7_clear C ho hw hl h
set_option maxHeartbeats 4000000 in
set_option maxRecDepth 100000 in
theorem s_X0_clearRota_L2 {o : Nat} {Qf : xM → Prop} (C : x_C p s m args meth c g RX0 cX0_clearRota 2 none) (ho : xpL g o) : ∀ (nn : Nat) {v1 : Int32} {u : xM} {H : Heap} {locs : List Loc} {ls : Array Slot} (hw : x_W g s.heap H locs u) (hl : lv_has ls 2 [(0, .ref (xad g (o + 9))), (1, .int v1)]) (h : p_X0_clearRota_L2 o Qf nn v1 u), W p l e (x_rm 0 0) s m args below meth c H locs 0 0 (MQ below (x_Qv g Qf) args s 0 0 (x_A g)) (F0 m 2 ls []) := by
  intro nn
  induction nn with
  | zero => intro v1 u H locs ls hw hl h; exact h.elim
  | succ nn ih =>
    intro v1 u H locs ls hw hl h
    unfold p_X0_clearRota_L2 at h
    have hx := C.1
    have hb := C.2.1
    refine lv_iload_n hx hb dX0_clearRota_2 rfl (lv_at hl 1 rfl) ?_
    refine lv_bipush (v := 12) hx hb dX0_clearRota_3 (by decide) ?_
    refine lv_icmp_ge (tgt := 21) hx hb dX0_clearRota_5 (by decide) (fun c1 => ?_) (fun c1 => ?_)
    · have h := h.1 c1
      exact x_vret C hw h dX0_clearRota_21
    · have h := h.2 c1
      refine lv_aload_n hx hb dX0_clearRota_8 rfl (lv_at hl 0 rfl) ?_
      refine x_getr (ci := 0) C hw 9 (xoL_9 ho) rfl inlX0 (by decide) rfl rfl (xrL_9_9 ho) xw_95 dX0_clearRota_9 ?_
      refine lv_iload_n hx hb dX0_clearRota_12 rfl (lv_at hl 1 rfl) ?_
      refine lv_iconst (v := 0) hx hb dX0_clearRota_13 (by decide) ?_
      have c2 := h.1
      have h := h.2
      obtain ⟨u3, eu3⟩ : ∃ q : xM, q = si u (o + 16) v1.toNatClampNeg (0 : Int32) := ⟨_, rfl⟩
      have h := h u3 eu3
      refine x_iast C hw (xoL_16 ho) c2 dX0_clearRota_14 eu3 (fun H locs hw => ?_)
      obtain ⟨x4, ex4⟩ : ∃ y : Int32, y = v1 + 1 := ⟨_, rfl⟩
      have h := h x4 ex4
      refine lv_iinc (v := x4) (lv' := [(1, .int x4), (0, .ref (xad g (o + 9)))]) hx hb dX0_clearRota_15 hl (k := 1) rfl (by rw [ex4]; rfl) (by decide) rfl (fun ls hl => ?_)
      refine lv_goto (tgt := 2) hx hb dX0_clearRota_18 (by decide) ?_
      exact ih hw (lv_sub hl [1, 0] rfl) h
set_option maxHeartbeats 4000000 in
set_option maxRecDepth 100000 in
theorem s_X0_clearRota {o : Nat} {Qf : xM → Prop} (C : x_C p s m args meth c g RX0 cX0_clearRota 2 none) (ho : xpL g o) {u : xM} {H : Heap} {locs : List Loc} {ls : Array Slot} (hw : x_W g s.heap H locs u) (hl : lv_has ls 2 [(0, .ref (xad g (o + 9)))]) (h : p_X0_clearRota o u Qf) : W p l e (x_rm 0 0) s m args below meth c H locs 0 0 (MQ below (x_Qv g Qf) args s 0 0 (x_A g)) (F0 m 0 ls []) := by
  unfold p_X0_clearRota at h
  have hx := C.1
  have hb := C.2.1
  refine lv_iconst (v := 0) hx hb dX0_clearRota_0 (by decide) ?_
  refine lv_istore_n (lv' := [(1, .int 0), (0, .ref (xad g (o + 9)))]) hx hb dX0_clearRota_1 rfl hl (by decide) rfl (fun ls hl => ?_)
  obtain ⟨n9, h⟩ := h
  exact s_X0_clearRota_L2 C ho n9 hw (lv_sub hl [1, 0] rfl) h
set_option maxHeartbeats 4000000 in
set_option maxRecDepth 100000 in
theorem m_X0_clearRota (l : Launch) {g : xG} (hD : x_D g) {o : Nat} (ho : xpL g o) {u : xM} {Qf : xM → Prop} (h : p_X0_clearRota o u Qf) : Met l yX0_clearRota (Cond.code yX0_clearRota cX0_clearRota 2 none :: wsL_law) (x_rm 0 0) (va_Pc [.ref (xad g (o + 9))] (x_B g u)) (x_Qv g Qf) 0 0 (x_A g) := by
  refine Met.ofW (cc := cX0_clearRota) (maxL := 2) (ret := none) (by decide) rfl ?_
  intro p e s m args below meth c s₁ B hml hv
  obtain ⟨rfl, hB⟩ := hv
  obtain ⟨C, hw⟩ := x_start B hml hD hB
  have hl := lv_entry [.ref (xad g (o + 9))] (n := 2) (Nat.le_of_ble_eq_true rfl)
  rw [lg_entry_eq]
  exact s_X0_clearRota C ho hw hl h
set_option maxHeartbeats 4000000 in
set_option maxRecDepth 100000 in
theorem s_X0_clear {o : Nat} {Qf : xM → Prop} (C : x_C p s m args meth c g RX0 cX0_clear 1 none) (ho : xpL g o) {u : xM} {H : Heap} {locs : List Loc} {ls : Array Slot} (hw : x_W g s.heap H locs u) (hl : lv_has ls 1 [(0, .ref (xad g (o + 9)))]) (h : p_X0_clear o u Qf) : W p l e (x_rm 1 21) s m args below meth c H locs 0 0 (MQ below (x_Qv g Qf) args s 0 0 (x_A g)) (F0 m 0 ls []) := by
  unfold p_X0_clear at h
  have hx := C.1
  have hb := C.2.1
  refine lv_aload_n hx hb dX0_clear_0 rfl (lv_at hl 0 rfl) ?_
  refine lv_iconst (v := 0) hx hb dX0_clear_1 (by decide) ?_
  obtain ⟨u1, eu1⟩ : ∃ q : xM, q = si u (o + 9) 0 (0 : Int32) := ⟨_, rfl⟩
  have h := h u1 eu1
  refine x_puti (ci := 0) (ty := .int) C hw 0 (xoL_9 ho) rfl inlX0 tyX0_ok nmX0 (by decide) rfl rfl xw_420 rfl (by decide +kernel) rfl rfl dX0_clear_2 eu1 (fun H locs hw => ?_)
  refine lv_aload_n hx hb dX0_clear_5 rfl (lv_at hl 0 rfl) ?_
  refine lv_iconst (v := 0) hx hb dX0_clear_6 (by decide) ?_
  obtain ⟨u2, eu2⟩ : ∃ q : xM, q = si u1 (o + 9) 1 (0 : Int32) := ⟨_, rfl⟩
  have h := h u2 eu2
  refine x_puti (ci := 0) (ty := .int) C hw 1 (xoL_9 ho) rfl inlX0 tyX0_ok nmX0 (by decide) rfl rfl xw_421 rfl (by decide +kernel) rfl rfl dX0_clear_7 eu2 (fun H locs hw => ?_)
  refine lv_aload_n hx hb dX0_clear_10 rfl (lv_at hl 0 rfl) ?_
  refine lv_iconst (v := 0) hx hb dX0_clear_11 (by decide) ?_
  obtain ⟨u3, eu3⟩ : ∃ q : xM, q = si u2 (o + 9) 2 (0 : Int32) := ⟨_, rfl⟩
  have h := h u3 eu3
  refine x_puti (ci := 0) (ty := .int) C hw 2 (xoL_9 ho) rfl inlX0 tyX0_ok nmX0 (by decide) rfl rfl xw_422 rfl (by decide +kernel) rfl rfl dX0_clear_12 eu3 (fun H locs hw => ?_)
  refine lv_aload_n hx hb dX0_clear_15 rfl (lv_at hl 0 rfl) ?_
  refine x_callv hw (x_runV (ci := 0) C hw (m_X0_clearRota l C.2.2.2.2.2.2.2.2.1 ho h) (xoL_9 ho) rfl (x_gV xw_423 xw_424 xw_425 xw_61 xw_426) rfl rfl qX0_clearRota ⟨(Nat.le_of_ble_eq_true rfl), (Nat.le_of_ble_eq_true rfl)⟩ rfl hl.1 rfl (Nat.le_of_ble_eq_true rfl) dX0_clear_16) (fun u4 H locs hw h => ?_)
  exact x_vret C hw h dX0_clear_19
set_option maxHeartbeats 4000000 in
set_option maxRecDepth 100000 in
theorem m_X0_clear (l : Launch) {g : xG} (hD : x_D g) {o : Nat} (ho : xpL g o) {u : xM} {Qf : xM → Prop} (h : p_X0_clear o u Qf) : Met l yX0_clear (Cond.code yX0_clear cX0_clear 1 none :: wsL_law) (x_rm 1 21) (va_Pc [.ref (xad g (o + 9))] (x_B g u)) (x_Qv g Qf) 0 0 (x_A g) := by
  refine Met.ofW (cc := cX0_clear) (maxL := 1) (ret := none) (by decide) rfl ?_
  intro p e s m args below meth c s₁ B hml hv
  obtain ⟨rfl, hB⟩ := hv
  obtain ⟨C, hw⟩ := x_start B hml hD hB
  have hl := lv_entry [.ref (xad g (o + 9))] (n := 1) (Nat.le_of_ble_eq_true rfl)
  rw [lg_entry_eq]
  exact s_X0_clear C ho hw hl h
set_option maxHeartbeats 4000000 in
set_option maxRecDepth 100000 in
theorem s_X1_setAllTides_L2 {o : Nat} {Qf : xM → Prop} (C : x_C p s m args meth c g RX1 cX1_setAllTides 3 none) (ho : xpL g o) : ∀ (nn : Nat) {v1 : Int32} {v2 : Int32} {u : xM} {H : Heap} {locs : List Loc} {ls : Array Slot} (hw : x_W g s.heap H locs u) (hl : lv_has ls 3 [(0, .ref (xad g o)), (1, .int v1), (2, .int v2)]) (h : p_X1_setAllTides_L2 o Qf nn v1 v2 u), W p l e (x_rm 0 0) s m args below meth c H locs 0 0 (MQ below (x_Qv g Qf) args s 0 0 (x_A g)) (F0 m 2 ls []) := by
  intro nn
  induction nn with
  | zero => intro v1 v2 u H locs ls hw hl h; exact h.elim
  | succ nn ih =>
    intro v1 v2 u H locs ls hw hl h
    unfold p_X1_setAllTides_L2 at h
    have hx := C.1
    have hb := C.2.1
    refine lv_iload_n hx hb dX1_setAllTides_2 rfl (lv_at hl 2 rfl) ?_
    refine lv_bipush (v := 12) hx hb dX1_setAllTides_3 (by decide) ?_
    refine lv_icmp_ge (tgt := 21) hx hb dX1_setAllTides_5 (by decide) (fun c1 => ?_) (fun c1 => ?_)
    · have h := h.1 c1
      exact x_vret C hw h dX1_setAllTides_21
    · have h := h.2 c1
      refine lv_aload_n hx hb dX1_setAllTides_8 rfl (lv_at hl 0 rfl) ?_
      refine x_getr (ci := 1) C hw 7 (xoL_0 ho) rfl inlX1 (by decide) rfl rfl (xrL_0_7 ho) xw_69 dX1_setAllTides_9 ?_
      refine lv_iload_n hx hb dX1_setAllTides_12 rfl (lv_at hl 2 rfl) ?_
      refine lv_iload_n hx hb dX1_setAllTides_13 rfl (lv_at hl 1 rfl) ?_
      have c2 := h.1
      have h := h.2
      obtain ⟨u3, eu3⟩ : ∃ q : xM, q = si u (o + 21) v2.toNatClampNeg v1 := ⟨_, rfl⟩
      have h := h u3 eu3
      refine x_iast C hw (xoL_21 ho) c2 dX1_setAllTides_14 eu3 (fun H locs hw => ?_)
      obtain ⟨x4, ex4⟩ : ∃ y : Int32, y = v2 + 1 := ⟨_, rfl⟩
      have h := h x4 ex4
      refine lv_iinc (v := x4) (lv' := [(2, .int x4), (0, .ref (xad g o)), (1, .int v1)]) hx hb dX1_setAllTides_15 hl (k := 2) rfl (by rw [ex4]; rfl) (by decide) rfl (fun ls hl => ?_)
      refine lv_goto (tgt := 2) hx hb dX1_setAllTides_18 (by decide) ?_
      exact ih hw (lv_sub hl [1, 2, 0] rfl) h
set_option maxHeartbeats 4000000 in
set_option maxRecDepth 100000 in
theorem s_X1_setAllTides {o : Nat} {Qf : xM → Prop} {a1 : Int32} (C : x_C p s m args meth c g RX1 cX1_setAllTides 3 none) (ho : xpL g o) {u : xM} {H : Heap} {locs : List Loc} {ls : Array Slot} (hw : x_W g s.heap H locs u) (hl : lv_has ls 3 [(0, .ref (xad g o)), (1, .int a1)]) (h : p_X1_setAllTides o a1 u Qf) : W p l e (x_rm 0 0) s m args below meth c H locs 0 0 (MQ below (x_Qv g Qf) args s 0 0 (x_A g)) (F0 m 0 ls []) := by
  unfold p_X1_setAllTides at h
  have hx := C.1
  have hb := C.2.1
  refine lv_iconst (v := 0) hx hb dX1_setAllTides_0 (by decide) ?_
  refine lv_istore_n (lv' := [(2, .int 0), (0, .ref (xad g o)), (1, .int a1)]) hx hb dX1_setAllTides_1 rfl hl (by decide) rfl (fun ls hl => ?_)
  obtain ⟨n9, h⟩ := h
  exact s_X1_setAllTides_L2 C ho n9 hw (lv_sub hl [1, 2, 0] rfl) h
set_option maxHeartbeats 4000000 in
set_option maxRecDepth 100000 in
theorem m_X1_setAllTides (l : Launch) {g : xG} (hD : x_D g) {o : Nat} (ho : xpL g o) {a1 : Int32} {u : xM} {Qf : xM → Prop} (h : p_X1_setAllTides o a1 u Qf) : Met l yX1_setAllTides (Cond.code yX1_setAllTides cX1_setAllTides 3 none :: wsL_law) (x_rm 0 0) (va_Pc [.ref (xad g o), .int a1] (x_B g u)) (x_Qv g Qf) 0 0 (x_A g) := by
  refine Met.ofW (cc := cX1_setAllTides) (maxL := 3) (ret := none) (by decide) rfl ?_
  intro p e s m args below meth c s₁ B hml hv
  obtain ⟨rfl, hB⟩ := hv
  obtain ⟨C, hw⟩ := x_start B hml hD hB
  have hl := lv_entry [.ref (xad g o), .int a1] (n := 3) (Nat.le_of_ble_eq_true rfl)
  rw [lg_entry_eq]
  exact s_X1_setAllTides C ho hw hl h
set_option maxHeartbeats 4000000 in
set_option maxRecDepth 100000 in
theorem s_X1_clear {o : Nat} {Qf : xM → Prop} (C : x_C p s m args meth c g RX1 cX1_clear 1 none) (ho : xpL g o) {u : xM} {H : Heap} {locs : List Loc} {ls : Array Slot} (hw : x_W g s.heap H locs u) (hl : lv_has ls 1 [(0, .ref (xad g o))]) (h : p_X1_clear o u Qf) : W p l e (x_rm 2 41) s m args below meth c H locs 0 0 (MQ below (x_Qv g Qf) args s 0 0 (x_A g)) (F0 m 0 ls []) := by
  unfold p_X1_clear at h
  have hx := C.1
  have hb := C.2.1
  refine lv_aload_n hx hb dX1_clear_0 rfl (lv_at hl 0 rfl) ?_
  refine x_getr (ci := 1) C hw 0 (xoL_0 ho) rfl inlX1 (by decide) rfl rfl (xrL_0_0 ho) xw_58 dX1_clear_1 ?_
  refine x_callv hw (x_runV (ci := 7) C hw (m_X7_clear l C.2.2.2.2.2.2.2.2.1 ho h) (xoL_1 ho) rfl (x_gV xw_410 xw_411 xw_412 xw_57 xw_413) rfl rfl qX7_clear ⟨(Nat.le_of_ble_eq_true rfl), (Nat.le_of_ble_eq_true rfl)⟩ rfl hl.1 rfl (Nat.le_of_ble_eq_true rfl) dX1_clear_4) (fun u1 H locs hw h => ?_)
  refine lv_aload_n hx hb dX1_clear_7 rfl (lv_at hl 0 rfl) ?_
  refine x_getr (ci := 1) C hw 1 (xoL_0 ho) rfl inlX1 (by decide) rfl rfl (xrL_0_1 ho) xw_62 dX1_clear_8 ?_
  refine x_callv hw (x_runV (ci := 0) C hw (m_X0_clear l C.2.2.2.2.2.2.2.2.1 ho h) (xoL_9 ho) rfl (x_gV xw_416 xw_417 xw_418 xw_61 xw_419) rfl rfl qX0_clear ⟨(Nat.le_of_ble_eq_true rfl), (Nat.le_of_ble_eq_true rfl)⟩ rfl hl.1 rfl (Nat.le_of_ble_eq_true rfl) dX1_clear_11) (fun u2 H locs hw h => ?_)
  refine lv_aload_n hx hb dX1_clear_14 rfl (lv_at hl 0 rfl) ?_
  refine lv_iconst (v := 0) hx hb dX1_clear_15 (by decide) ?_
  obtain ⟨u3, eu3⟩ : ∃ q : xM, q = si u2 o 2 (0 : Int32) := ⟨_, rfl⟩
  have h := h u3 eu3
  refine x_puti (ci := 1) (ty := .int) C hw 2 (xoL_0 ho) rfl inlX1 tyX1_ok nmX1 (by decide) rfl rfl xw_408 rfl (by decide +kernel) rfl rfl dX1_clear_16 eu3 (fun H locs hw => ?_)
  refine lv_aload_n hx hb dX1_clear_19 rfl (lv_at hl 0 rfl) ?_
  refine lv_bipush (v := 10) hx hb dX1_clear_20 (by decide) ?_
  refine x_callv hw (x_runV (ci := 1) C hw (m_X1_setAllTides l C.2.2.2.2.2.2.2.2.1 ho h) (xoL_0 ho) rfl (x_gV xw_96 xw_97 xw_98 xw_15 xw_99) rfl rfl qX1_setAllTides ⟨(Nat.le_of_ble_eq_true rfl), (Nat.le_of_ble_eq_true rfl)⟩ rfl hl.1 rfl (Nat.le_of_ble_eq_true rfl) dX1_clear_22) (fun u4 H locs hw h => ?_)
  refine lv_aload_n hx hb dX1_clear_25 rfl (lv_at hl 0 rfl) ?_
  refine lv_iconst (v := 0) hx hb dX1_clear_26 (by decide) ?_
  obtain ⟨u5, eu5⟩ : ∃ q : xM, q = si u4 o 8 (0 : Int32) := ⟨_, rfl⟩
  have h := h u5 eu5
  refine x_puti (ci := 1) (ty := .int) C hw 8 (xoL_0 ho) rfl inlX1 tyX1_ok nmX1 (by decide) rfl rfl xw_409 rfl (by decide +kernel) rfl rfl dX1_clear_27 eu5 (fun H locs hw => ?_)
  refine lv_aload_n hx hb dX1_clear_30 rfl (lv_at hl 0 rfl) ?_
  refine lv_sipush (v := 4095) hx hb dX1_clear_31 (by decide) ?_
  obtain ⟨u6, eu6⟩ : ∃ q : xM, q = si u5 o 9 (4095 : Int32) := ⟨_, rfl⟩
  have h := h u6 eu6
  refine x_puti (ci := 1) (ty := .int) C hw 9 (xoL_0 ho) rfl inlX1 tyX1_ok nmX1 (by decide) rfl rfl xw_70 rfl (by decide +kernel) rfl rfl dX1_clear_34 eu6 (fun H locs hw => ?_)
  exact x_vret C hw h dX1_clear_37
set_option maxHeartbeats 4000000 in
set_option maxRecDepth 100000 in
theorem m_X1_clear (l : Launch) {g : xG} (hD : x_D g) {o : Nat} (ho : xpL g o) {u : xM} {Qf : xM → Prop} (h : p_X1_clear o u Qf) : Met l yX1_clear (Cond.code yX1_clear cX1_clear 1 none :: wsL_law) (x_rm 2 41) (va_Pc [.ref (xad g o)] (x_B g u)) (x_Qv g Qf) 0 0 (x_A g) := by
  refine Met.ofW (cc := cX1_clear) (maxL := 1) (ret := none) (by decide) rfl ?_
  intro p e s m args below meth c s₁ B hml hv
  obtain ⟨rfl, hB⟩ := hv
  obtain ⟨C, hw⟩ := x_start B hml hD hB
  have hl := lv_entry [.ref (xad g o)] (n := 1) (Nat.le_of_ble_eq_true rfl)
  rw [lg_entry_eq]
  exact s_X1_clear C ho hw hl h
set_option maxHeartbeats 4000000 in
set_option maxRecDepth 100000 in
theorem s_X8_isBlank {Qf : Bool → xM → Prop} {a1 : Int32} (C : x_C p s m args meth c g RX8 cX8_isBlank 1 (some .boolean)) {u : xM} {H : Heap} {locs : List Loc} {ls : Array Slot} (hw : x_W g s.heap H locs u) (hl : lv_has ls 1 [(0, .int a1)]) (h : p_X8_isBlank a1 u Qf) : W p l e (x_rm 0 0) s m args below meth c H locs 0 0 (MQ below (x_Qz g Qf) args s 0 0 (x_A g)) (F0 m 0 ls []) := by
  unfold p_X8_isBlank at h
  have hx := C.1
  have hb := C.2.1
  refine lv_iload_n hx hb dX8_isBlank_0 rfl (lv_at hl 0 rfl) ?_
  refine lv_bipush (v := 10) hx hb dX8_isBlank_1 (by decide) ?_
  refine lv_icmp_eq (tgt := 12) hx hb dX8_isBlank_3 (by decide) (fun c1 => ?_) (fun c1 => ?_)
  · have h := h.1 c1
    refine lv_iconst (v := 1) hx hb dX8_isBlank_12 (by decide) ?_
    refine lv_goto (tgt := 17) hx hb dX8_isBlank_13 (by decide) ?_
    exact x_zret true C hw h rfl dX8_isBlank_17
  · have h := h.2 c1
    refine lv_iload_n hx hb dX8_isBlank_6 rfl (lv_at hl 0 rfl) ?_
    refine lv_bipush (v := 32) hx hb dX8_isBlank_7 (by decide) ?_
    refine lv_icmp_ne (tgt := 16) hx hb dX8_isBlank_9 (by decide) (fun c2 => ?_) (fun c2 => ?_)
    · have h := h.1 c2
      refine lv_iconst (v := 0) hx hb dX8_isBlank_16 (by decide) ?_
      exact x_zret false C hw h rfl dX8_isBlank_17
    · have h := h.2 c2
      refine lv_iconst (v := 1) hx hb dX8_isBlank_12 (by decide) ?_
      refine lv_goto (tgt := 17) hx hb dX8_isBlank_13 (by decide) ?_
      exact x_zret true C hw h rfl dX8_isBlank_17
set_option maxHeartbeats 4000000 in
set_option maxRecDepth 100000 in
theorem m_X8_isBlank (l : Launch) {g : xG} (hD : x_D g) {a1 : Int32} {u : xM} {Qf : Bool → xM → Prop} (h : p_X8_isBlank a1 u Qf) : Met l yX8_isBlank (Cond.code yX8_isBlank cX8_isBlank 1 (some .boolean) :: wsL_law) (x_rm 0 0) (va_Pc [.int a1] (x_B g u)) (x_Qz g Qf) 0 0 (x_A g) := by
  refine Met.ofW (cc := cX8_isBlank) (maxL := 1) (ret := (some .boolean)) (by decide) rfl ?_
  intro p e s m args below meth c s₁ B hml hv
  obtain ⟨rfl, hB⟩ := hv
  obtain ⟨C, hw⟩ := x_start B hml hD hB
  have hl := lv_entry [.int a1] (n := 1) (Nat.le_of_ble_eq_true rfl)
  rw [lg_entry_eq]
  exact s_X8_isBlank C hw hl h
set_option maxHeartbeats 4000000 in
set_option maxRecDepth 100000 in
theorem s_X8_isLetter {Qf : Bool → xM → Prop} {a1 : Int32} (C : x_C p s m args meth c g RX8 cX8_isLetter 1 (some .boolean)) {u : xM} {H : Heap} {locs : List Loc} {ls : Array Slot} (hw : x_W g s.heap H locs u) (hl : lv_has ls 1 [(0, .int a1)]) (h : p_X8_isLetter a1 u Qf) : W p l e (x_rm 0 0) s m args below meth c H locs 0 0 (MQ below (x_Qz g Qf) args s 0 0 (x_A g)) (F0 m 0 ls []) := by
  unfold p_X8_isLetter at h
  have hx := C.1
  have hb := C.2.1
  refine lv_iload_n hx hb dX8_isLetter_0 rfl (lv_at hl 0 rfl) ?_
  refine lv_bipush (v := 97) hx hb dX8_isLetter_1 (by decide) ?_
  refine lv_icmp_lt (tgt := 16) hx hb dX8_isLetter_3 (by decide) (fun c1 => ?_) (fun c1 => ?_)
  · have h := h.1 c1
    refine lv_iconst (v := 0) hx hb dX8_isLetter_16 (by decide) ?_
    exact x_zret false C hw h rfl dX8_isLetter_17
  · have h := h.2 c1
    refine lv_iload_n hx hb dX8_isLetter_6 rfl (lv_at hl 0 rfl) ?_
    refine lv_bipush (v := 122) hx hb dX8_isLetter_7 (by decide) ?_
    refine lv_icmp_gt (tgt := 16) hx hb dX8_isLetter_9 (by decide) (fun c2 => ?_) (fun c2 => ?_)
    · have h := h.1 c2
      refine lv_iconst (v := 0) hx hb dX8_isLetter_16 (by decide) ?_
      exact x_zret false C hw h rfl dX8_isLetter_17
    · have h := h.2 c2
      refine lv_iconst (v := 1) hx hb dX8_isLetter_12 (by decide) ?_
      refine lv_goto (tgt := 17) hx hb dX8_isLetter_13 (by decide) ?_
      exact x_zret true C hw h rfl dX8_isLetter_17
set_option maxHeartbeats 4000000 in
set_option maxRecDepth 100000 in
theorem m_X8_isLetter (l : Launch) {g : xG} (hD : x_D g) {a1 : Int32} {u : xM} {Qf : Bool → xM → Prop} (h : p_X8_isLetter a1 u Qf) : Met l yX8_isLetter (Cond.code yX8_isLetter cX8_isLetter 1 (some .boolean) :: wsL_law) (x_rm 0 0) (va_Pc [.int a1] (x_B g u)) (x_Qz g Qf) 0 0 (x_A g) := by
  refine Met.ofW (cc := cX8_isLetter) (maxL := 1) (ret := (some .boolean)) (by decide) rfl ?_
  intro p e s m args below meth c s₁ B hml hv
  obtain ⟨rfl, hB⟩ := hv
  obtain ⟨C, hw⟩ := x_start B hml hD hB
  have hl := lv_entry [.int a1] (n := 1) (Nat.le_of_ble_eq_true rfl)
  rw [lg_entry_eq]
  exact s_X8_isLetter C hw hl h
set_option maxHeartbeats 4000000 in
set_option maxRecDepth 100000 in
theorem s_X8_withLetter {Qf : Int64 → xM → Prop} {a1 : Int64} {a2 : Int32} (C : x_C p s m args meth c g RX8 cX8_withLetter 3 (some .long)) {u : xM} {H : Heap} {locs : List Loc} {ls : Array Slot} (hw : x_W g s.heap H locs u) (hl : lv_has ls 3 [(0, .long a1), (2, .int a2)]) (h : p_X8_withLetter a1 a2 u Qf) : W p l e (x_rm 0 0) s m args below meth c H locs 0 0 (MQ below (x_Ql g Qf) args s 0 0 (x_A g)) (F0 m 0 ls []) := by
  unfold p_X8_withLetter at h
  have hx := C.1
  have hb := C.2.1
  refine lv_lload_n hx hb dX8_withLetter_0 rfl (lv_at hl 0 rfl) ?_
  refine lv_iconst (v := 5) hx hb dX8_withLetter_1 (by decide) ?_
  refine lv_lshl hx hb dX8_withLetter_2 rfl ?_
  refine lv_iload_n hx hb dX8_withLetter_3 rfl (lv_at hl 1 rfl) ?_
  refine lv_bipush (v := 97) hx hb dX8_withLetter_4 (by decide) ?_
  refine lv_isub hx hb dX8_withLetter_6 ?_
  refine lv_iconst (v := 1) hx hb dX8_withLetter_7 (by decide) ?_
  refine lv_iadd hx hb dX8_withLetter_8 ?_
  refine lv_i2l hx hb dX8_withLetter_9 rfl ?_
  refine lv_lor hx hb dX8_withLetter_10 ?_
  exact x_lret C hw h dX8_withLetter_11
set_option maxHeartbeats 4000000 in
set_option maxRecDepth 100000 in
theorem m_X8_withLetter (l : Launch) {g : xG} (hD : x_D g) {a1 : Int64} {a2 : Int32} {u : xM} {Qf : Int64 → xM → Prop} (h : p_X8_withLetter a1 a2 u Qf) : Met l yX8_withLetter (Cond.code yX8_withLetter cX8_withLetter 3 (some .long) :: wsL_law) (x_rm 0 0) (va_Pc [.long a1, .int a2] (x_B g u)) (x_Ql g Qf) 0 0 (x_A g) := by
  refine Met.ofW (cc := cX8_withLetter) (maxL := 3) (ret := (some .long)) (by decide) rfl ?_
  intro p e s m args below meth c s₁ B hml hv
  obtain ⟨rfl, hB⟩ := hv
  obtain ⟨C, hw⟩ := x_start B hml hD hB
  have hl := lv_entry [.long a1, .int a2] (n := 3) (Nat.le_of_ble_eq_true rfl)
  rw [lg_entry_eq]
  exact s_X8_withLetter C hw hl h
set_option maxHeartbeats 4000000 in
set_option maxRecDepth 100000 in
theorem s_X10_indexIn_L3 {k1 : Nat} {Qf : Int32 → xM → Prop} (C : x_C p s m args meth c g RX10 cX10_indexIn 5 (some .int)) (hk1 : x_ok g k1 (1, x_len k1)) : ∀ (nn : Nat) {v1 : Int32} {v2 : Int64} {v4 : Int32} {u : xM} {H : Heap} {locs : List Loc} {ls : Array Slot} (hw : x_W g s.heap H locs u) (hl : lv_has ls 5 [(0, .ref (xad g k1)), (1, .int v1), (2, .long v2), (4, .int v4)]) (h : p_X10_indexIn_L3 k1 Qf nn v1 v2 v4 u), W p l e (x_rm 0 0) s m args below meth c H locs 0 0 (MQ below (x_Qi g Qf) args s 0 0 (x_A g)) (F0 m 3 ls []) := by
  intro nn
  induction nn with
  | zero => intro v1 v2 v4 u H locs ls hw hl h; exact h.elim
  | succ nn ih =>
    intro v1 v2 v4 u H locs ls hw hl h
    unfold p_X10_indexIn_L3 at h
    have hx := C.1
    have hb := C.2.1
    refine lv_iload hx hb dX10_indexIn_3 (lv_at hl 3 rfl) ?_
    refine lv_iload_n hx hb dX10_indexIn_5 rfl (lv_at hl 1 rfl) ?_
    refine lv_icmp_ge (tgt := 34) hx hb dX10_indexIn_6 (by decide) (fun c1 => ?_) (fun c1 => ?_)
    · have h := h.1 c1
      refine lv_iconst (v := -1) hx hb dX10_indexIn_34 (by decide) ?_
      exact x_iret C hw h dX10_indexIn_35
    · have h := h.2 c1
      refine lv_iload hx hb dX10_indexIn_9 (lv_at hl 3 rfl) ?_
      refine lv_aload_n hx hb dX10_indexIn_11 rfl (lv_at hl 0 rfl) ?_
      refine x_alen C hw hk1 (by decide) dX10_indexIn_12 ?_
      refine lv_icmp_ge (tgt := 34) hx hb dX10_indexIn_13 (by decide) (fun c2 => ?_) (fun c2 => ?_)
      · have h := h.1 c2
        refine lv_iconst (v := -1) hx hb dX10_indexIn_34 (by decide) ?_
        exact x_iret C hw h dX10_indexIn_35
      · have h := h.2 c2
        refine lv_aload_n hx hb dX10_indexIn_16 rfl (lv_at hl 0 rfl) ?_
        refine lv_iload hx hb dX10_indexIn_17 (lv_at hl 3 rfl) ?_
        have c3 := h.1
        have h := h.2
        refine x_lald C hw hk1 c3 dX10_indexIn_19 ?_
        refine lv_lload_n hx hb dX10_indexIn_20 rfl (lv_at hl 2 rfl) ?_
        refine W.lcmp hx hb dX10_indexIn_21 ?_
        refine lv_if_ne (tgt := 28) hx hb dX10_indexIn_22 (by decide) (fun c4 => ?_) (fun c4 => ?_)
        · have h := h.1 c4
          obtain ⟨x5, ex5⟩ : ∃ y : Int32, y = v4 + 1 := ⟨_, rfl⟩
          have h := h x5 ex5
          refine lv_iinc (v := x5) (lv' := [(4, .int x5), (0, .ref (xad g k1)), (1, .int v1), (2, .long v2)]) hx hb dX10_indexIn_28 hl (k := 3) rfl (by rw [ex5]; rfl) (by decide) rfl (fun ls hl => ?_)
          refine lv_goto (tgt := 3) hx hb dX10_indexIn_31 (by decide) ?_
          exact ih hw (lv_sub hl [1, 2, 3, 0] rfl) h
        · have h := h.2 c4
          refine lv_iload hx hb dX10_indexIn_25 (lv_at hl 3 rfl) ?_
          exact x_iret C hw h dX10_indexIn_27
set_option maxHeartbeats 4000000 in
set_option maxRecDepth 100000 in
theorem s_X10_indexIn {k1 : Nat} {Qf : Int32 → xM → Prop} {a2 : Int32} {a3 : Int64} (C : x_C p s m args meth c g RX10 cX10_indexIn 5 (some .int)) (hk1 : x_ok g k1 (1, x_len k1)) {u : xM} {H : Heap} {locs : List Loc} {ls : Array Slot} (hw : x_W g s.heap H locs u) (hl : lv_has ls 5 [(0, .ref (xad g k1)), (1, .int a2), (2, .long a3)]) (h : p_X10_indexIn k1 a2 a3 u Qf) : W p l e (x_rm 0 0) s m args below meth c H locs 0 0 (MQ below (x_Qi g Qf) args s 0 0 (x_A g)) (F0 m 0 ls []) := by
  unfold p_X10_indexIn at h
  have hx := C.1
  have hb := C.2.1
  refine lv_iconst (v := 0) hx hb dX10_indexIn_0 (by decide) ?_
  refine lv_istore (lv' := [(4, .int 0), (0, .ref (xad g k1)), (1, .int a2), (2, .long a3)]) hx hb dX10_indexIn_1 hl (by decide) rfl (fun ls hl => ?_)
  obtain ⟨n9, h⟩ := h
  exact s_X10_indexIn_L3 C hk1 n9 hw (lv_sub hl [1, 2, 3, 0] rfl) h
set_option maxHeartbeats 4000000 in
set_option maxRecDepth 100000 in
theorem m_X10_indexIn (l : Launch) {g : xG} (hD : x_D g) {k1 : Nat} (hk1 : x_ok g k1 (1, x_len k1)) {a2 : Int32} {a3 : Int64} {u : xM} {Qf : Int32 → xM → Prop} (h : p_X10_indexIn k1 a2 a3 u Qf) : Met l yX10_indexIn (Cond.code yX10_indexIn cX10_indexIn 5 (some .int) :: wsL_law) (x_rm 0 0) (va_Pc [.ref (xad g k1), .int a2, .long a3] (x_B g u)) (x_Qi g Qf) 0 0 (x_A g) := by
  refine Met.ofW (cc := cX10_indexIn) (maxL := 5) (ret := (some .int)) (by decide) rfl ?_
  intro p e s m args below meth c s₁ B hml hv
  obtain ⟨rfl, hB⟩ := hv
  obtain ⟨C, hw⟩ := x_start B hml hD hB
  have hl := lv_entry [.ref (xad g k1), .int a2, .long a3] (n := 5) (Nat.le_of_ble_eq_true rfl)
  rw [lg_entry_eq]
  exact s_X10_indexIn C hk1 hw hl h
set_option maxHeartbeats 4000000 in
set_option maxRecDepth 100000 in
theorem s_X8_add {o : Nat} {Qf : xM → Prop} {a1 : Int32} {a2 : Int32} {a3 : Int64} (C : x_C p s m args meth c g RX8 cX8_add 5 none) (ho : xpT g o) {u : xM} {H : Heap} {locs : List Loc} {ls : Array Slot} (hw : x_W g s.heap H locs u) (hl : lv_has ls 5 [(0, .ref (xad g o)), (1, .int a1), (2, .int a2), (3, .long a3)]) (h : p_X8_add o a1 a2 a3 u Qf) : W p l e (x_rm 1 24) s m args below meth c H locs 0 0 (MQ below (x_Qv g Qf) args s 0 0 (x_A g)) (F0 m 0 ls []) := by
  unfold p_X8_add at h
  have hx := C.1
  have hb := C.2.1
  refine lv_aload_n hx hb dX8_add_0 rfl (lv_at hl 0 rfl) ?_
  refine x_geti (ci := 8) C hw 6 (xoT_0 ho) rfl inlX8 (by decide) rfl rfl xw_431 dX8_add_1 ?_
  refine lv_aload_n hx hb dX8_add_4 rfl (lv_at hl 0 rfl) ?_
  refine x_geti (ci := 8) C hw 1 (xoT_0 ho) rfl inlX8 (by decide) rfl rfl xw_135 dX8_add_5 ?_
  refine lv_icmp_lt (tgt := 12) hx hb dX8_add_8 (by decide) (fun c1 => ?_) (fun c1 => ?_)
  · have h := h.1 c1
    refine lv_aload_n hx hb dX8_add_12 rfl (lv_at hl 0 rfl) ?_
    refine x_getr (ci := 8) C hw 2 (xoT_0 ho) rfl inlX8 (by decide) rfl rfl (xrT_0_2 ho) xw_136 dX8_add_13 ?_
    refine lv_aload_n hx hb dX8_add_16 rfl (lv_at hl 0 rfl) ?_
    refine x_geti (ci := 8) C hw 6 (xoT_0 ho) rfl inlX8 (by decide) rfl rfl xw_431 dX8_add_17 ?_
    refine lv_iload_n hx hb dX8_add_20 rfl (lv_at hl 1 rfl) ?_
    have c2 := h.1
    have h := h.2
    obtain ⟨u3, eu3⟩ : ∃ q : xM, q = si u (o + 2) (gi u o 6).toNatClampNeg a1 := ⟨_, rfl⟩
    have h := h u3 eu3
    refine x_iast C hw (xoT_2 ho) c2 dX8_add_21 eu3 (fun H locs hw => ?_)
    refine lv_aload_n hx hb dX8_add_22 rfl (lv_at hl 0 rfl) ?_
    refine x_getr (ci := 8) C hw 3 (xoT_0 ho) rfl inlX8 (by decide) rfl rfl (xrT_0_3 ho) xw_137 dX8_add_23 ?_
    refine lv_aload_n hx hb dX8_add_26 rfl (lv_at hl 0 rfl) ?_
    refine x_geti (ci := 8) C hw 6 (xoT_0 ho) rfl inlX8 (by decide) rfl rfl xw_431 dX8_add_27 ?_
    refine lv_iload_n hx hb dX8_add_30 rfl (lv_at hl 2 rfl) ?_
    have c4 := h.1
    have h := h.2
    obtain ⟨u5, eu5⟩ : ∃ q : xM, q = si u3 (o + 3) (gi u3 o 6).toNatClampNeg a2 := ⟨_, rfl⟩
    have h := h u5 eu5
    refine x_iast C hw (xoT_3 ho) c4 dX8_add_31 eu5 (fun H locs hw => ?_)
    refine lv_aload_n hx hb dX8_add_32 rfl (lv_at hl 0 rfl) ?_
    refine x_getr (ci := 8) C hw 4 (xoT_0 ho) rfl inlX8 (by decide) rfl rfl (xrT_0_4 ho) xw_138 dX8_add_33 ?_
    refine lv_aload_n hx hb dX8_add_36 rfl (lv_at hl 0 rfl) ?_
    refine x_geti (ci := 8) C hw 6 (xoT_0 ho) rfl inlX8 (by decide) rfl rfl xw_431 dX8_add_37 ?_
    refine lv_lload_n hx hb dX8_add_40 rfl (lv_at hl 3 rfl) ?_
    have c6 := h.1
    have h := h.2
    obtain ⟨u7, eu7⟩ : ∃ q : xM, q = sl u5 (o + 4) (gi u5 o 6).toNatClampNeg a3 := ⟨_, rfl⟩
    have h := h u7 eu7
    refine x_last C hw (xoT_4 ho) c6 dX8_add_41 eu7 (fun H locs hw => ?_)
    refine lv_aload_n hx hb dX8_add_42 rfl (lv_at hl 0 rfl) ?_
    refine x_getr (ci := 8) C hw 5 (xoT_0 ho) rfl inlX8 (by decide) rfl rfl (xrT_0_5 ho) xw_139 dX8_add_43 ?_
    refine lv_aload_n hx hb dX8_add_46 rfl (lv_at hl 0 rfl) ?_
    refine x_geti (ci := 8) C hw 6 (xoT_0 ho) rfl inlX8 (by decide) rfl rfl xw_431 dX8_add_47 ?_
    refine lv_iload_n hx hb dX8_add_50 rfl (lv_at hl 1 rfl) ?_
    refine lv_iconst (v := 1) hx hb dX8_add_51 (by decide) ?_
    refine lv_icmp_ne (tgt := 68) hx hb dX8_add_52 (by decide) (fun c8 => ?_) (fun c8 => ?_)
    · have h := h.1 c8
      refine lv_iconst (v := -1) hx hb dX8_add_68 (by decide) ?_
      have c9 := h.1
      have h := h.2
      obtain ⟨u10, eu10⟩ : ∃ q : xM, q = si u7 (o + 5) (gi u7 o 6).toNatClampNeg (-1 : Int32) := ⟨_, rfl⟩
      have h := h u10 eu10
      refine x_iast C hw (xoT_5 ho) c9 dX8_add_69 eu10 (fun H locs hw => ?_)
      refine lv_aload_n hx hb dX8_add_70 rfl (lv_at hl 0 rfl) ?_
      refine lv_dup hx hb dX8_add_71 rfl ?_
      refine x_geti (ci := 8) C hw 6 (xoT_0 ho) rfl inlX8 (by decide) rfl rfl xw_431 dX8_add_72 ?_
      refine lv_iconst (v := 1) hx hb dX8_add_75 (by decide) ?_
      refine lv_iadd hx hb dX8_add_76 ?_
      obtain ⟨u11, eu11⟩ : ∃ q : xM, q = si u10 o 6 ((gi u10 o 6) + (1 : Int32)) := ⟨_, rfl⟩
      have h := h u11 eu11
      refine x_puti (ci := 8) (ty := .int) C hw 6 (xoT_0 ho) rfl inlX8 tyX8_ok nmX8 (by decide) rfl rfl xw_431 rfl (by decide +kernel) rfl rfl dX8_add_77 eu11 (fun H locs hw => ?_)
      exact x_vret C hw h dX8_add_80
    · have h := h.2 c8
      refine lv_aload_n hx hb dX8_add_55 rfl (lv_at hl 0 rfl) ?_
      refine x_getr (ci := 8) C hw 0 (xoT_0 ho) rfl inlX8 (by decide) rfl rfl (xrT_0_0 ho) xw_130 dX8_add_56 ?_
      refine lv_bipush (v := 28) hx hb dX8_add_59 (by decide) ?_
      refine lv_lload_n hx hb dX8_add_61 rfl (lv_at hl 3 rfl) ?_
      refine x_calli hw (x_runSN C hw (m_X10_indexIn l C.2.2.2.2.2.2.2.2.1 (x_okl (xoT_1 ho)) h) C.2.2.2.2.2.2.2.2.2.1.1.2.2.2 xw_456 xw_2 xw_457 rfl rfl qX10_indexIn ⟨(Nat.le_of_ble_eq_true rfl), (Nat.le_of_ble_eq_true rfl)⟩ rfl hl.1 rfl (Nat.le_of_ble_eq_true rfl) dX8_add_62) (fun r13 u12 H locs hw h => ?_)
      refine lv_goto (tgt := 69) hx hb dX8_add_65 (by decide) ?_
      have c14 := h.1
      have h := h.2
      obtain ⟨u15, eu15⟩ : ∃ q : xM, q = si u12 (o + 5) (gi u7 o 6).toNatClampNeg r13 := ⟨_, rfl⟩
      have h := h u15 eu15
      refine x_iast C hw (xoT_5 ho) c14 dX8_add_69 eu15 (fun H locs hw => ?_)
      refine lv_aload_n hx hb dX8_add_70 rfl (lv_at hl 0 rfl) ?_
      refine lv_dup hx hb dX8_add_71 rfl ?_
      refine x_geti (ci := 8) C hw 6 (xoT_0 ho) rfl inlX8 (by decide) rfl rfl xw_431 dX8_add_72 ?_
      refine lv_iconst (v := 1) hx hb dX8_add_75 (by decide) ?_
      refine lv_iadd hx hb dX8_add_76 ?_
      obtain ⟨u16, eu16⟩ : ∃ q : xM, q = si u15 o 6 ((gi u15 o 6) + (1 : Int32)) := ⟨_, rfl⟩
      have h := h u16 eu16
      refine x_puti (ci := 8) (ty := .int) C hw 6 (xoT_0 ho) rfl inlX8 tyX8_ok nmX8 (by decide) rfl rfl xw_431 rfl (by decide +kernel) rfl rfl dX8_add_77 eu16 (fun H locs hw => ?_)
      exact x_vret C hw h dX8_add_80
  · have h := h.2 c1
    exact x_vret C hw h dX8_add_11
set_option maxHeartbeats 4000000 in
set_option maxRecDepth 100000 in
theorem m_X8_add (l : Launch) {g : xG} (hD : x_D g) {o : Nat} (ho : xpT g o) {a1 : Int32} {a2 : Int32} {a3 : Int64} {u : xM} {Qf : xM → Prop} (h : p_X8_add o a1 a2 a3 u Qf) : Met l yX8_add (Cond.code yX8_add cX8_add 5 none :: wsL_law) (x_rm 1 24) (va_Pc [.ref (xad g o), .int a1, .int a2, .long a3] (x_B g u)) (x_Qv g Qf) 0 0 (x_A g) := by
  refine Met.ofW (cc := cX8_add) (maxL := 5) (ret := none) (by decide) rfl ?_
  intro p e s m args below meth c s₁ B hml hv
  obtain ⟨rfl, hB⟩ := hv
  obtain ⟨C, hw⟩ := x_start B hml hD hB
  have hl := lv_entry [.ref (xad g o), .int a1, .int a2, .long a3] (n := 5) (Nat.le_of_ble_eq_true rfl)
  rw [lg_entry_eq]
  exact s_X8_add C ho hw hl h
set_option maxHeartbeats 4000000 in
set_option maxRecDepth 100000 in
theorem s_X8_behindWord_L52 {o : Nat} {Qf : Int32 → xM → Prop} (C : x_C p s m args meth c g RX8 cX8_behindWord 7 (some .int)) (ho : xpT g o) (hX : xpX g) {v2 : Int32} {v4 : Int64} {v6 : Int32} {u : xM} {H : Heap} {locs : List Loc} {ls : Array Slot} (hw : x_W g s.heap H locs u) (hl : lv_has ls 7 [(0, .ref (xad g o)), (2, .int v2), (4, .long v4), (6, .int v6)]) (h : p_X8_behindWord_L52 o Qf v2 v4 v6 u) : W p l e (x_rm 2 48) s m args below meth c H locs 0 0 (MQ below (x_Qi g Qf) args s 0 0 (x_A g)) (F0 m 52 ls []) := by
  unfold p_X8_behindWord_L52 at h
  have hx := C.1
  have hb := C.2.1
  refine lv_aload_n hx hb dX8_behindWord_52 rfl (lv_at hl 0 rfl) ?_
  refine lv_iconst (v := 1) hx hb dX8_behindWord_53 (by decide) ?_
  refine lv_iload_n hx hb dX8_behindWord_54 rfl (lv_at hl 1 rfl) ?_
  refine lv_lload hx hb dX8_behindWord_55 (lv_at hl 2 rfl) ?_
  refine x_callv hw (x_runV (ci := 8) C hw (m_X8_add l C.2.2.2.2.2.2.2.2.1 ho h) (xoT_0 ho) rfl (x_gV xw_452 xw_453 xw_454 xw_122 xw_455) rfl rfl qX8_add ⟨(Nat.le_of_ble_eq_true rfl), (Nat.le_of_ble_eq_true rfl)⟩ rfl hl.1 rfl (Nat.le_of_ble_eq_true rfl) dX8_behindWord_57) (fun u1 H locs hw h => ?_)
  refine lv_iload hx hb dX8_behindWord_60 (lv_at hl 3 rfl) ?_
  exact x_iret C hw h dX8_behindWord_62
set_option maxHeartbeats 4000000 in
set_option maxRecDepth 100000 in
theorem s_X8_behindWord_L6 {o : Nat} {Qf : Int32 → xM → Prop} (C : x_C p s m args meth c g RX8 cX8_behindWord 7 (some .int)) (ho : xpT g o) (hX : xpX g) : ∀ (nn : Nat) {v2 : Int32} {v3 : Int32} {v4 : Int64} {v6 : Int32} {u : xM} {H : Heap} {locs : List Loc} {ls : Array Slot} (hw : x_W g s.heap H locs u) (hl : lv_has ls 7 [(0, .ref (xad g o)), (1, .ref (xad g 4)), (2, .int v2), (3, .int v3), (4, .long v4), (6, .int v6)]) (h : p_X8_behindWord_L6 o Qf nn v2 v3 v4 v6 u), W p l e (x_rm 2 48) s m args below meth c H locs 0 0 (MQ below (x_Qi g Qf) args s 0 0 (x_A g)) (F0 m 6 ls []) := by
  intro nn
  induction nn with
  | zero => intro v2 v3 v4 v6 u H locs ls hw hl h; exact h.elim
  | succ nn ih =>
    intro v2 v3 v4 v6 u H locs ls hw hl h
    unfold p_X8_behindWord_L6 at h
    have hx := C.1
    have hb := C.2.1
    refine lv_iload hx hb dX8_behindWord_6 (lv_at hl 5 rfl) ?_
    refine lv_iload_n hx hb dX8_behindWord_8 rfl (lv_at hl 3 rfl) ?_
    refine lv_icmp_ge (tgt := 52) hx hb dX8_behindWord_9 (by decide) (fun c1 => ?_) (fun c1 => ?_)
    · have h := h.1 c1
      exact s_X8_behindWord_L52 C ho hX hw (lv_sub hl [0, 2, 4, 5] rfl) h
    · have h := h.2 c1
      refine lv_aload_n hx hb dX8_behindWord_12 rfl (lv_at hl 1 rfl) ?_
      refine lv_iload hx hb dX8_behindWord_13 (lv_at hl 5 rfl) ?_
      have c2 := h.1
      have h := h.2
      refine x_bald C hw (xoX_4 hX) c2 dX8_behindWord_15 ?_
      refine x_callz hw (x_runS C hw (m_X8_isLetter l C.2.2.2.2.2.2.2.2.1  h) (x_gS xw_445 xw_446 xw_122 xw_447) rfl rfl qX8_isLetter ⟨(Nat.le_of_ble_eq_true rfl), (Nat.le_of_ble_eq_true rfl)⟩ rfl hl.1 rfl (Nat.le_of_ble_eq_true rfl) dX8_behindWord_16) (fun r4 u3 H locs hw h => ?_)
      refine lv_if_eq (tgt := 52) hx hb dX8_behindWord_19 (by decide) (fun c5 => ?_) (fun c5 => ?_)
      · have h := h.1 (xb_f c5)
        exact s_X8_behindWord_L52 C ho hX hw (lv_sub hl [0, 2, 4, 5] rfl) h
      · have h := h.2 (xb_t c5)
        refine lv_iload hx hb dX8_behindWord_22 (lv_at hl 5 rfl) ?_
        refine lv_iload_n hx hb dX8_behindWord_24 rfl (lv_at hl 2 rfl) ?_
        refine lv_isub hx hb dX8_behindWord_25 ?_
        refine lv_bipush (v := 8) hx hb dX8_behindWord_26 (by decide) ?_
        refine lv_icmp_ge (tgt := 43) hx hb dX8_behindWord_28 (by decide) (fun c6 => ?_) (fun c6 => ?_)
        · have h := h.1 c6
          refine lv_lconst (v := 0) hx hb dX8_behindWord_43 (by decide) ?_
          refine lv_lstore (lv' := [(4, .long 0), (0, .ref (xad g o)), (1, .ref (xad g 4)), (2, .int v2), (3, .int v3), (6, .int v6)]) hx hb dX8_behindWord_44 hl (by decide) rfl (fun ls hl => ?_)
          obtain ⟨x7, ex7⟩ : ∃ y : Int32, y = v6 + 1 := ⟨_, rfl⟩
          have h := h x7 ex7
          refine lv_iinc (v := x7) (lv' := [(6, .int x7), (4, .long 0), (0, .ref (xad g o)), (1, .ref (xad g 4)), (2, .int v2), (3, .int v3)]) hx hb dX8_behindWord_46 hl (k := 5) rfl (by rw [ex7]; rfl) (by decide) rfl (fun ls hl => ?_)
          refine lv_goto (tgt := 6) hx hb dX8_behindWord_49 (by decide) ?_
          exact ih hw (lv_sub hl [2, 3, 4, 5, 1, 0] rfl) h
        · have h := h.2 c6
          refine lv_lload hx hb dX8_behindWord_31 (lv_at hl 4 rfl) ?_
          refine lv_aload_n hx hb dX8_behindWord_33 rfl (lv_at hl 1 rfl) ?_
          refine lv_iload hx hb dX8_behindWord_34 (lv_at hl 5 rfl) ?_
          have c8 := h.1
          have h := h.2
          refine x_bald C hw (xoX_4 hX) c8 dX8_behindWord_36 ?_
          refine x_calll hw (x_runS C hw (m_X8_withLetter l C.2.2.2.2.2.2.2.2.1  h) (x_gS xw_193 xw_194 xw_122 xw_195) rfl rfl qX8_withLetter ⟨(Nat.le_of_ble_eq_true rfl), (Nat.le_of_ble_eq_true rfl)⟩ rfl hl.1 rfl (Nat.le_of_ble_eq_true rfl) dX8_behindWord_37) (fun r10 u9 H locs hw h => ?_)
          refine lv_goto (tgt := 44) hx hb dX8_behindWord_40 (by decide) ?_
          refine lv_lstore (lv' := [(4, .long r10), (0, .ref (xad g o)), (1, .ref (xad g 4)), (2, .int v2), (3, .int v3), (6, .int v6)]) hx hb dX8_behindWord_44 hl (by decide) rfl (fun ls hl => ?_)
          obtain ⟨x11, ex11⟩ : ∃ y : Int32, y = v6 + 1 := ⟨_, rfl⟩
          have h := h x11 ex11
          refine lv_iinc (v := x11) (lv' := [(6, .int x11), (4, .long r10), (0, .ref (xad g o)), (1, .ref (xad g 4)), (2, .int v2), (3, .int v3)]) hx hb dX8_behindWord_46 hl (k := 5) rfl (by rw [ex11]; rfl) (by decide) rfl (fun ls hl => ?_)
          refine lv_goto (tgt := 6) hx hb dX8_behindWord_49 (by decide) ?_
          exact ih hw (lv_sub hl [2, 3, 4, 5, 1, 0] rfl) h
set_option maxHeartbeats 4000000 in
set_option maxRecDepth 100000 in
theorem s_X8_behindWord {o : Nat} {Qf : Int32 → xM → Prop} {a2 : Int32} {a3 : Int32} (C : x_C p s m args meth c g RX8 cX8_behindWord 7 (some .int)) (ho : xpT g o) (hX : xpX g) {u : xM} {H : Heap} {locs : List Loc} {ls : Array Slot} (hw : x_W g s.heap H locs u) (hl : lv_has ls 7 [(0, .ref (xad g o)), (1, .ref (xad g 4)), (2, .int a2), (3, .int a3)]) (h : p_X8_behindWord o a2 a3 u Qf) : W p l e (x_rm 2 48) s m args below meth c H locs 0 0 (MQ below (x_Qi g Qf) args s 0 0 (x_A g)) (F0 m 0 ls []) := by
  unfold p_X8_behindWord at h
  have hx := C.1
  have hb := C.2.1
  refine lv_lconst (v := 0) hx hb dX8_behindWord_0 (by decide) ?_
  refine lv_lstore (lv' := [(4, .long 0), (0, .ref (xad g o)), (1, .ref (xad g 4)), (2, .int a2), (3, .int a3)]) hx hb dX8_behindWord_1 hl (by decide) rfl (fun ls hl => ?_)
  refine lv_iload_n hx hb dX8_behindWord_3 rfl (lv_at hl 3 rfl) ?_
  refine lv_istore (lv' := [(6, .int a2), (4, .long 0), (0, .ref (xad g o)), (1, .ref (xad g 4)), (2, .int a2), (3, .int a3)]) hx hb dX8_behindWord_4 hl (by decide) rfl (fun ls hl => ?_)
  obtain ⟨n9, h⟩ := h
  exact s_X8_behindWord_L6 C ho hX n9 hw (lv_sub hl [2, 3, 4, 5, 1, 0] rfl) h
set_option maxHeartbeats 4000000 in
set_option maxRecDepth 100000 in
theorem m_X8_behindWord (l : Launch) {g : xG} (hD : x_D g) {o : Nat} (ho : xpT g o) (hX : xpX g) {a2 : Int32} {a3 : Int32} {u : xM} {Qf : Int32 → xM → Prop} (h : p_X8_behindWord o a2 a3 u Qf) : Met l yX8_behindWord (Cond.code yX8_behindWord cX8_behindWord 7 (some .int) :: wsL_law) (x_rm 2 48) (va_Pc [.ref (xad g o), .ref (xad g 4), .int a2, .int a3] (x_B g u)) (x_Qi g Qf) 0 0 (x_A g) := by
  refine Met.ofW (cc := cX8_behindWord) (maxL := 7) (ret := (some .int)) (by decide) rfl ?_
  intro p e s m args below meth c s₁ B hml hv
  obtain ⟨rfl, hB⟩ := hv
  obtain ⟨C, hw⟩ := x_start B hml hD hB
  have hl := lv_entry [.ref (xad g o), .ref (xad g 4), .int a2, .int a3] (n := 7) (Nat.le_of_ble_eq_true rfl)
  rw [lg_entry_eq]
  exact s_X8_behindWord C ho hX hw hl h
set_option maxHeartbeats 4000000 in
set_option maxRecDepth 100000 in
theorem s_X8_isDigit {Qf : Bool → xM → Prop} {a1 : Int32} (C : x_C p s m args meth c g RX8 cX8_isDigit 1 (some .boolean)) {u : xM} {H : Heap} {locs : List Loc} {ls : Array Slot} (hw : x_W g s.heap H locs u) (hl : lv_has ls 1 [(0, .int a1)]) (h : p_X8_isDigit a1 u Qf) : W p l e (x_rm 0 0) s m args below meth c H locs 0 0 (MQ below (x_Qz g Qf) args s 0 0 (x_A g)) (F0 m 0 ls []) := by
  unfold p_X8_isDigit at h
  have hx := C.1
  have hb := C.2.1
  refine lv_iload_n hx hb dX8_isDigit_0 rfl (lv_at hl 0 rfl) ?_
  refine lv_bipush (v := 48) hx hb dX8_isDigit_1 (by decide) ?_
  refine lv_icmp_lt (tgt := 16) hx hb dX8_isDigit_3 (by decide) (fun c1 => ?_) (fun c1 => ?_)
  · have h := h.1 c1
    refine lv_iconst (v := 0) hx hb dX8_isDigit_16 (by decide) ?_
    exact x_zret false C hw h rfl dX8_isDigit_17
  · have h := h.2 c1
    refine lv_iload_n hx hb dX8_isDigit_6 rfl (lv_at hl 0 rfl) ?_
    refine lv_bipush (v := 57) hx hb dX8_isDigit_7 (by decide) ?_
    refine lv_icmp_gt (tgt := 16) hx hb dX8_isDigit_9 (by decide) (fun c2 => ?_) (fun c2 => ?_)
    · have h := h.1 c2
      refine lv_iconst (v := 0) hx hb dX8_isDigit_16 (by decide) ?_
      exact x_zret false C hw h rfl dX8_isDigit_17
    · have h := h.2 c2
      refine lv_iconst (v := 1) hx hb dX8_isDigit_12 (by decide) ?_
      refine lv_goto (tgt := 17) hx hb dX8_isDigit_13 (by decide) ?_
      exact x_zret true C hw h rfl dX8_isDigit_17
set_option maxHeartbeats 4000000 in
set_option maxRecDepth 100000 in
theorem m_X8_isDigit (l : Launch) {g : xG} (hD : x_D g) {a1 : Int32} {u : xM} {Qf : Bool → xM → Prop} (h : p_X8_isDigit a1 u Qf) : Met l yX8_isDigit (Cond.code yX8_isDigit cX8_isDigit 1 (some .boolean) :: wsL_law) (x_rm 0 0) (va_Pc [.int a1] (x_B g u)) (x_Qz g Qf) 0 0 (x_A g) := by
  refine Met.ofW (cc := cX8_isDigit) (maxL := 1) (ret := (some .boolean)) (by decide) rfl ?_
  intro p e s m args below meth c s₁ B hml hv
  obtain ⟨rfl, hB⟩ := hv
  obtain ⟨C, hw⟩ := x_start B hml hD hB
  have hl := lv_entry [.int a1] (n := 1) (Nat.le_of_ble_eq_true rfl)
  rw [lg_entry_eq]
  exact s_X8_isDigit C hw hl h
set_option maxHeartbeats 4000000 in
set_option maxRecDepth 100000 in
theorem s_X8_behindNumber_L55 {o : Nat} {Qf : Int32 → xM → Prop} (C : x_C p s m args meth c g RX8 cX8_behindNumber 6 (some .int)) (ho : xpT g o) (hX : xpX g) {v2 : Int32} {v4 : Int32} {v5 : Int32} {u : xM} {H : Heap} {locs : List Loc} {ls : Array Slot} (hw : x_W g s.heap H locs u) (hl : lv_has ls 6 [(0, .ref (xad g o)), (2, .int v2), (4, .int v4), (5, .int v5)]) (h : p_X8_behindNumber_L55 o Qf v2 v4 v5 u) : W p l e (x_rm 2 48) s m args below meth c H locs 0 0 (MQ below (x_Qi g Qf) args s 0 0 (x_A g)) (F0 m 55 ls []) := by
  unfold p_X8_behindNumber_L55 at h
  have hx := C.1
  have hb := C.2.1
  refine lv_aload_n hx hb dX8_behindNumber_55 rfl (lv_at hl 0 rfl) ?_
  refine lv_iload hx hb dX8_behindNumber_56 (lv_at hl 3 rfl) ?_
  refine lv_iload_n hx hb dX8_behindNumber_58 rfl (lv_at hl 1 rfl) ?_
  refine lv_isub hx hb dX8_behindNumber_59 ?_
  refine lv_iconst (v := 4) hx hb dX8_behindNumber_60 (by decide) ?_
  refine lv_icmp_le (tgt := 68) hx hb dX8_behindNumber_61 (by decide) (fun c1 => ?_) (fun c1 => ?_)
  · have h := h.1 c1
    refine lv_iconst (v := 2) hx hb dX8_behindNumber_68 (by decide) ?_
    refine lv_iload_n hx hb dX8_behindNumber_69 rfl (lv_at hl 1 rfl) ?_
    refine lv_iload hx hb dX8_behindNumber_70 (lv_at hl 2 rfl) ?_
    refine lv_i2l hx hb dX8_behindNumber_72 rfl ?_
    refine x_callv hw (x_runV (ci := 8) C hw (m_X8_add l C.2.2.2.2.2.2.2.2.1 ho h) (xoT_0 ho) rfl (x_gV xw_452 xw_453 xw_454 xw_122 xw_455) rfl rfl qX8_add ⟨(Nat.le_of_ble_eq_true rfl), (Nat.le_of_ble_eq_true rfl)⟩ rfl hl.1 rfl (Nat.le_of_ble_eq_true rfl) dX8_behindNumber_73) (fun u2 H locs hw h => ?_)
    refine lv_iload hx hb dX8_behindNumber_76 (lv_at hl 3 rfl) ?_
    exact x_iret C hw h dX8_behindNumber_78
  · have h := h.2 c1
    refine lv_iconst (v := 4) hx hb dX8_behindNumber_64 (by decide) ?_
    refine lv_goto (tgt := 69) hx hb dX8_behindNumber_65 (by decide) ?_
    refine lv_iload_n hx hb dX8_behindNumber_69 rfl (lv_at hl 1 rfl) ?_
    refine lv_iload hx hb dX8_behindNumber_70 (lv_at hl 2 rfl) ?_
    refine lv_i2l hx hb dX8_behindNumber_72 rfl ?_
    refine x_callv hw (x_runV (ci := 8) C hw (m_X8_add l C.2.2.2.2.2.2.2.2.1 ho h) (xoT_0 ho) rfl (x_gV xw_452 xw_453 xw_454 xw_122 xw_455) rfl rfl qX8_add ⟨(Nat.le_of_ble_eq_true rfl), (Nat.le_of_ble_eq_true rfl)⟩ rfl hl.1 rfl (Nat.le_of_ble_eq_true rfl) dX8_behindNumber_73) (fun u3 H locs hw h => ?_)
    refine lv_iload hx hb dX8_behindNumber_76 (lv_at hl 3 rfl) ?_
    exact x_iret C hw h dX8_behindNumber_78
set_option maxHeartbeats 4000000 in
set_option maxRecDepth 100000 in
theorem s_X8_behindNumber_L6 {o : Nat} {Qf : Int32 → xM → Prop} (C : x_C p s m args meth c g RX8 cX8_behindNumber 6 (some .int)) (ho : xpT g o) (hX : xpX g) : ∀ (nn : Nat) {v2 : Int32} {v3 : Int32} {v4 : Int32} {v5 : Int32} {u : xM} {H : Heap} {locs : List Loc} {ls : Array Slot} (hw : x_W g s.heap H locs u) (hl : lv_has ls 6 [(0, .ref (xad g o)), (1, .ref (xad g 4)), (2, .int v2), (3, .int v3), (4, .int v4), (5, .int v5)]) (h : p_X8_behindNumber_L6 o Qf nn v2 v3 v4 v5 u), W p l e (x_rm 2 48) s m args below meth c H locs 0 0 (MQ below (x_Qi g Qf) args s 0 0 (x_A g)) (F0 m 6 ls []) := by
  intro nn
  induction nn with
  | zero => intro v2 v3 v4 v5 u H locs ls hw hl h; exact h.elim
  | succ nn ih =>
    intro v2 v3 v4 v5 u H locs ls hw hl h
    unfold p_X8_behindNumber_L6 at h
    have hx := C.1
    have hb := C.2.1
    refine lv_iload hx hb dX8_behindNumber_6 (lv_at hl 5 rfl) ?_
    refine lv_iload_n hx hb dX8_behindNumber_8 rfl (lv_at hl 3 rfl) ?_
    refine lv_icmp_ge (tgt := 55) hx hb dX8_behindNumber_9 (by decide) (fun c1 => ?_) (fun c1 => ?_)
    · have h := h.1 c1
      exact s_X8_behindNumber_L55 C ho hX hw (lv_sub hl [0, 2, 4, 5] rfl) h
    · have h := h.2 c1
      refine lv_aload_n hx hb dX8_behindNumber_12 rfl (lv_at hl 1 rfl) ?_
      refine lv_iload hx hb dX8_behindNumber_13 (lv_at hl 5 rfl) ?_
      have c2 := h.1
      have h := h.2
      refine x_bald C hw (xoX_4 hX) c2 dX8_behindNumber_15 ?_
      refine x_callz hw (x_runS C hw (m_X8_isDigit l C.2.2.2.2.2.2.2.2.1  h) (x_gS xw_458 xw_459 xw_122 xw_460) rfl rfl qX8_isDigit ⟨(Nat.le_of_ble_eq_true rfl), (Nat.le_of_ble_eq_true rfl)⟩ rfl hl.1 rfl (Nat.le_of_ble_eq_true rfl) dX8_behindNumber_16) (fun r4 u3 H locs hw h => ?_)
      refine lv_if_eq (tgt := 55) hx hb dX8_behindNumber_19 (by decide) (fun c5 => ?_) (fun c5 => ?_)
      · have h := h.1 (xb_f c5)
        exact s_X8_behindNumber_L55 C ho hX hw (lv_sub hl [0, 2, 4, 5] rfl) h
      · have h := h.2 (xb_t c5)
        refine lv_iload hx hb dX8_behindNumber_22 (lv_at hl 5 rfl) ?_
        refine lv_iload_n hx hb dX8_behindNumber_24 rfl (lv_at hl 2 rfl) ?_
        refine lv_isub hx hb dX8_behindNumber_25 ?_
        refine lv_iconst (v := 4) hx hb dX8_behindNumber_26 (by decide) ?_
        refine lv_icmp_ge (tgt := 46) hx hb dX8_behindNumber_27 (by decide) (fun c6 => ?_) (fun c6 => ?_)
        · have h := h.1 c6
          refine lv_iconst (v := 0) hx hb dX8_behindNumber_46 (by decide) ?_
          refine lv_istore (lv' := [(4, .int 0), (0, .ref (xad g o)), (1, .ref (xad g 4)), (2, .int v2), (3, .int v3), (5, .int v5)]) hx hb dX8_behindNumber_47 hl (by decide) rfl (fun ls hl => ?_)
          obtain ⟨x7, ex7⟩ : ∃ y : Int32, y = v5 + 1 := ⟨_, rfl⟩
          have h := h x7 ex7
          refine lv_iinc (v := x7) (lv' := [(5, .int x7), (4, .int 0), (0, .ref (xad g o)), (1, .ref (xad g 4)), (2, .int v2), (3, .int v3)]) hx hb dX8_behindNumber_49 hl (k := 5) rfl (by rw [ex7]; rfl) (by decide) rfl (fun ls hl => ?_)
          refine lv_goto (tgt := 6) hx hb dX8_behindNumber_52 (by decide) ?_
          exact ih hw (lv_sub hl [2, 3, 4, 5, 1, 0] rfl) h
        · have h := h.2 c6
          refine lv_iload hx hb dX8_behindNumber_30 (lv_at hl 4 rfl) ?_
          refine lv_bipush (v := 10) hx hb dX8_behindNumber_32 (by decide) ?_
          refine lv_imul hx hb dX8_behindNumber_34 ?_
          refine lv_aload_n hx hb dX8_behindNumber_35 rfl (lv_at hl 1 rfl) ?_
          refine lv_iload hx hb dX8_behindNumber_36 (lv_at hl 5 rfl) ?_
          have c8 := h.1
          have h := h.2
          refine x_bald C hw (xoX_4 hX) c8 dX8_behindNumber_38 ?_
          refine lv_iadd hx hb dX8_behindNumber_39 ?_
          refine lv_bipush (v := 48) hx hb dX8_behindNumber_40 (by decide) ?_
          refine lv_isub hx hb dX8_behindNumber_42 ?_
          refine lv_goto (tgt := 47) hx hb dX8_behindNumber_43 (by decide) ?_
          refine lv_topi (fun x9 ex9 => ?_)
          have h := h x9 ex9
          refine lv_istore (lv' := [(4, .int x9), (0, .ref (xad g o)), (1, .ref (xad g 4)), (2, .int v2), (3, .int v3), (5, .int v5)]) hx hb dX8_behindNumber_47 hl (by decide) rfl (fun ls hl => ?_)
          obtain ⟨x10, ex10⟩ : ∃ y : Int32, y = v5 + 1 := ⟨_, rfl⟩
          have h := h x10 ex10
          refine lv_iinc (v := x10) (lv' := [(5, .int x10), (4, .int x9), (0, .ref (xad g o)), (1, .ref (xad g 4)), (2, .int v2), (3, .int v3)]) hx hb dX8_behindNumber_49 hl (k := 5) rfl (by rw [ex10]; rfl) (by decide) rfl (fun ls hl => ?_)
          refine lv_goto (tgt := 6) hx hb dX8_behindNumber_52 (by decide) ?_
          exact ih hw (lv_sub hl [2, 3, 4, 5, 1, 0] rfl) h
set_option maxHeartbeats 4000000 in
set_option maxRecDepth 100000 in
theorem s_X8_behindNumber {o : Nat} {Qf : Int32 → xM → Prop} {a2 : Int32} {a3 : Int32} (C : x_C p s m args meth c g RX8 cX8_behindNumber 6 (some .int)) (ho : xpT g o) (hX : xpX g) {u : xM} {H : Heap} {locs : List Loc} {ls : Array Slot} (hw : x_W g s.heap H locs u) (hl : lv_has ls 6 [(0, .ref (xad g o)), (1, .ref (xad g 4)), (2, .int a2), (3, .int a3)]) (h : p_X8_behindNumber o a2 a3 u Qf) : W p l e (x_rm 2 48) s m args below meth c H locs 0 0 (MQ below (x_Qi g Qf) args s 0 0 (x_A g)) (F0 m 0 ls []) := by
  unfold p_X8_behindNumber at h
  have hx := C.1
  have hb := C.2.1
  refine lv_iconst (v := 0) hx hb dX8_behindNumber_0 (by decide) ?_
  refine lv_istore (lv' := [(4, .int 0), (0, .ref (xad g o)), (1, .ref (xad g 4)), (2, .int a2), (3, .int a3)]) hx hb dX8_behindNumber_1 hl (by decide) rfl (fun ls hl => ?_)
  refine lv_iload_n hx hb dX8_behindNumber_3 rfl (lv_at hl 3 rfl) ?_
  refine lv_istore (lv' := [(5, .int a2), (4, .int 0), (0, .ref (xad g o)), (1, .ref (xad g 4)), (2, .int a2), (3, .int a3)]) hx hb dX8_behindNumber_4 hl (by decide) rfl (fun ls hl => ?_)
  obtain ⟨n9, h⟩ := h
  exact s_X8_behindNumber_L6 C ho hX n9 hw (lv_sub hl [2, 3, 4, 5, 1, 0] rfl) h
set_option maxHeartbeats 4000000 in
set_option maxRecDepth 100000 in
theorem m_X8_behindNumber (l : Launch) {g : xG} (hD : x_D g) {o : Nat} (ho : xpT g o) (hX : xpX g) {a2 : Int32} {a3 : Int32} {u : xM} {Qf : Int32 → xM → Prop} (h : p_X8_behindNumber o a2 a3 u Qf) : Met l yX8_behindNumber (Cond.code yX8_behindNumber cX8_behindNumber 6 (some .int) :: wsL_law) (x_rm 2 48) (va_Pc [.ref (xad g o), .ref (xad g 4), .int a2, .int a3] (x_B g u)) (x_Qi g Qf) 0 0 (x_A g) := by
  refine Met.ofW (cc := cX8_behindNumber) (maxL := 6) (ret := (some .int)) (by decide) rfl ?_
  intro p e s m args below meth c s₁ B hml hv
  obtain ⟨rfl, hB⟩ := hv
  obtain ⟨C, hw⟩ := x_start B hml hD hB
  have hl := lv_entry [.ref (xad g o), .ref (xad g 4), .int a2, .int a3] (n := 6) (Nat.le_of_ble_eq_true rfl)
  rw [lg_entry_eq]
  exact s_X8_behindNumber C ho hX hw hl h
set_option maxHeartbeats 4000000 in
set_option maxRecDepth 100000 in
theorem s_X8_isSign {Qf : Bool → xM → Prop} {a1 : Int32} (C : x_C p s m args meth c g RX8 cX8_isSign 1 (some .boolean)) {u : xM} {H : Heap} {locs : List Loc} {ls : Array Slot} (hw : x_W g s.heap H locs u) (hl : lv_has ls 1 [(0, .int a1)]) (h : p_X8_isSign a1 u Qf) : W p l e (x_rm 0 0) s m args below meth c H locs 0 0 (MQ below (x_Qz g Qf) args s 0 0 (x_A g)) (F0 m 0 ls []) := by
  unfold p_X8_isSign at h
  have hx := C.1
  have hb := C.2.1
  refine lv_iload_n hx hb dX8_isSign_0 rfl (lv_at hl 0 rfl) ?_
  refine lv_bipush (v := 59) hx hb dX8_isSign_1 (by decide) ?_
  refine lv_icmp_eq (tgt := 24) hx hb dX8_isSign_3 (by decide) (fun c1 => ?_) (fun c1 => ?_)
  · have h := h.1 c1
    refine lv_iconst (v := 1) hx hb dX8_isSign_24 (by decide) ?_
    refine lv_goto (tgt := 29) hx hb dX8_isSign_25 (by decide) ?_
    exact x_zret true C hw h rfl dX8_isSign_29
  · have h := h.2 c1
    refine lv_iload_n hx hb dX8_isSign_6 rfl (lv_at hl 0 rfl) ?_
    refine lv_bipush (v := 60) hx hb dX8_isSign_7 (by decide) ?_
    refine lv_icmp_eq (tgt := 24) hx hb dX8_isSign_9 (by decide) (fun c2 => ?_) (fun c2 => ?_)
    · have h := h.1 c2
      refine lv_iconst (v := 1) hx hb dX8_isSign_24 (by decide) ?_
      refine lv_goto (tgt := 29) hx hb dX8_isSign_25 (by decide) ?_
      exact x_zret true C hw h rfl dX8_isSign_29
    · have h := h.2 c2
      refine lv_iload_n hx hb dX8_isSign_12 rfl (lv_at hl 0 rfl) ?_
      refine lv_bipush (v := 62) hx hb dX8_isSign_13 (by decide) ?_
      refine lv_icmp_eq (tgt := 24) hx hb dX8_isSign_15 (by decide) (fun c3 => ?_) (fun c3 => ?_)
      · have h := h.1 c3
        refine lv_iconst (v := 1) hx hb dX8_isSign_24 (by decide) ?_
        refine lv_goto (tgt := 29) hx hb dX8_isSign_25 (by decide) ?_
        exact x_zret true C hw h rfl dX8_isSign_29
      · have h := h.2 c3
        refine lv_iload_n hx hb dX8_isSign_18 rfl (lv_at hl 0 rfl) ?_
        refine lv_bipush (v := 61) hx hb dX8_isSign_19 (by decide) ?_
        refine lv_icmp_ne (tgt := 28) hx hb dX8_isSign_21 (by decide) (fun c4 => ?_) (fun c4 => ?_)
        · have h := h.1 c4
          refine lv_iconst (v := 0) hx hb dX8_isSign_28 (by decide) ?_
          exact x_zret false C hw h rfl dX8_isSign_29
        · have h := h.2 c4
          refine lv_iconst (v := 1) hx hb dX8_isSign_24 (by decide) ?_
          refine lv_goto (tgt := 29) hx hb dX8_isSign_25 (by decide) ?_
          exact x_zret true C hw h rfl dX8_isSign_29
set_option maxHeartbeats 4000000 in
set_option maxRecDepth 100000 in
theorem m_X8_isSign (l : Launch) {g : xG} (hD : x_D g) {a1 : Int32} {u : xM} {Qf : Bool → xM → Prop} (h : p_X8_isSign a1 u Qf) : Met l yX8_isSign (Cond.code yX8_isSign cX8_isSign 1 (some .boolean) :: wsL_law) (x_rm 0 0) (va_Pc [.int a1] (x_B g u)) (x_Qz g Qf) 0 0 (x_A g) := by
  refine Met.ofW (cc := cX8_isSign) (maxL := 1) (ret := (some .boolean)) (by decide) rfl ?_
  intro p e s m args below meth c s₁ B hml hv
  obtain ⟨rfl, hB⟩ := hv
  obtain ⟨C, hw⟩ := x_start B hml hD hB
  have hl := lv_entry [.int a1] (n := 1) (Nat.le_of_ble_eq_true rfl)
  rw [lg_entry_eq]
  exact s_X8_isSign C hw hl h
set_option maxHeartbeats 4000000 in
set_option maxRecDepth 100000 in
theorem s_X8_behindToken {o : Nat} {Qf : Int32 → xM → Prop} {a2 : Int32} {a3 : Int32} (C : x_C p s m args meth c g RX8 cX8_behindToken 4 (some .int)) (ho : xpT g o) (hX : xpX g) {u : xM} {H : Heap} {locs : List Loc} {ls : Array Slot} (hw : x_W g s.heap H locs u) (hl : lv_has ls 4 [(0, .ref (xad g o)), (1, .ref (xad g 4)), (2, .int a2), (3, .int a3)]) (h : p_X8_behindToken o a2 a3 u Qf) : W p l e (x_rm 3 74) s m args below meth c H locs 0 0 (MQ below (x_Qi g Qf) args s 0 0 (x_A g)) (F0 m 0 ls []) := by
  unfold p_X8_behindToken at h
  have hx := C.1
  have hb := C.2.1
  refine lv_aload_n hx hb dX8_behindToken_0 rfl (lv_at hl 1 rfl) ?_
  refine lv_iload_n hx hb dX8_behindToken_1 rfl (lv_at hl 2 rfl) ?_
  have c1 := h.1
  have h := h.2
  refine x_bald C hw (xoX_4 hX) c1 dX8_behindToken_2 ?_
  refine x_callz hw (x_runS C hw (m_X8_isLetter l C.2.2.2.2.2.2.2.2.1  h) (x_gS xw_445 xw_446 xw_122 xw_447) rfl rfl qX8_isLetter ⟨(Nat.le_of_ble_eq_true rfl), (Nat.le_of_ble_eq_true rfl)⟩ rfl hl.1 rfl (Nat.le_of_ble_eq_true rfl) dX8_behindToken_3) (fun r3 u2 H locs hw h => ?_)
  refine lv_if_eq (tgt := 17) hx hb dX8_behindToken_6 (by decide) (fun c4 => ?_) (fun c4 => ?_)
  · have h := h.1 (xb_f c4)
    refine lv_aload_n hx hb dX8_behindToken_17 rfl (lv_at hl 1 rfl) ?_
    refine lv_iload_n hx hb dX8_behindToken_18 rfl (lv_at hl 2 rfl) ?_
    have c5 := h.1
    have h := h.2
    refine x_bald C hw (xoX_4 hX) c5 dX8_behindToken_19 ?_
    refine x_callz hw (x_runS C hw (m_X8_isDigit l C.2.2.2.2.2.2.2.2.1  h) (x_gS xw_458 xw_459 xw_122 xw_460) rfl rfl qX8_isDigit ⟨(Nat.le_of_ble_eq_true rfl), (Nat.le_of_ble_eq_true rfl)⟩ rfl hl.1 rfl (Nat.le_of_ble_eq_true rfl) dX8_behindToken_20) (fun r7 u6 H locs hw h => ?_)
    refine lv_if_eq (tgt := 34) hx hb dX8_behindToken_23 (by decide) (fun c8 => ?_) (fun c8 => ?_)
    · have h := h.1 (xb_f c8)
      refine lv_aload_n hx hb dX8_behindToken_34 rfl (lv_at hl 1 rfl) ?_
      refine lv_iload_n hx hb dX8_behindToken_35 rfl (lv_at hl 2 rfl) ?_
      have c9 := h.1
      have h := h.2
      refine x_bald C hw (xoX_4 hX) c9 dX8_behindToken_36 ?_
      refine x_callz hw (x_runS C hw (m_X8_isSign l C.2.2.2.2.2.2.2.2.1  h) (x_gS xw_465 xw_466 xw_122 xw_467) rfl rfl qX8_isSign ⟨(Nat.le_of_ble_eq_true rfl), (Nat.le_of_ble_eq_true rfl)⟩ rfl hl.1 rfl (Nat.le_of_ble_eq_true rfl) dX8_behindToken_37) (fun r11 u10 H locs hw h => ?_)
      refine lv_if_eq (tgt := 57) hx hb dX8_behindToken_40 (by decide) (fun c12 => ?_) (fun c12 => ?_)
      · have h := h.1 (xb_f c12)
        refine lv_aload_n hx hb dX8_behindToken_57 rfl (lv_at hl 0 rfl) ?_
        refine lv_iconst (v := 4) hx hb dX8_behindToken_58 (by decide) ?_
        refine lv_iload_n hx hb dX8_behindToken_59 rfl (lv_at hl 2 rfl) ?_
        refine lv_lconst (v := 0) hx hb dX8_behindToken_60 (by decide) ?_
        refine x_callv hw (x_runV (ci := 8) C hw (m_X8_add l C.2.2.2.2.2.2.2.2.1 ho h) (xoT_0 ho) rfl (x_gV xw_452 xw_453 xw_454 xw_122 xw_455) rfl rfl qX8_add ⟨(Nat.le_of_ble_eq_true rfl), (Nat.le_of_ble_eq_true rfl)⟩ rfl hl.1 rfl (Nat.le_of_ble_eq_true rfl) dX8_behindToken_61) (fun u13 H locs hw h => ?_)
        refine lv_iload_n hx hb dX8_behindToken_64 rfl (lv_at hl 3 rfl) ?_
        exact x_iret C hw h dX8_behindToken_65
      · have h := h.2 (xb_t c12)
        refine lv_aload_n hx hb dX8_behindToken_43 rfl (lv_at hl 0 rfl) ?_
        refine lv_iconst (v := 3) hx hb dX8_behindToken_44 (by decide) ?_
        refine lv_iload_n hx hb dX8_behindToken_45 rfl (lv_at hl 2 rfl) ?_
        refine lv_aload_n hx hb dX8_behindToken_46 rfl (lv_at hl 1 rfl) ?_
        refine lv_iload_n hx hb dX8_behindToken_47 rfl (lv_at hl 2 rfl) ?_
        have c14 := h.1
        have h := h.2
        refine x_bald C hw (xoX_4 hX) c14 dX8_behindToken_48 ?_
        refine lv_i2l hx hb dX8_behindToken_49 rfl ?_
        refine x_callv hw (x_runV (ci := 8) C hw (m_X8_add l C.2.2.2.2.2.2.2.2.1 ho h) (xoT_0 ho) rfl (x_gV xw_452 xw_453 xw_454 xw_122 xw_455) rfl rfl qX8_add ⟨(Nat.le_of_ble_eq_true rfl), (Nat.le_of_ble_eq_true rfl)⟩ rfl hl.1 rfl (Nat.le_of_ble_eq_true rfl) dX8_behindToken_50) (fun u15 H locs hw h => ?_)
        refine lv_iload_n hx hb dX8_behindToken_53 rfl (lv_at hl 2 rfl) ?_
        refine lv_iconst (v := 1) hx hb dX8_behindToken_54 (by decide) ?_
        refine lv_iadd hx hb dX8_behindToken_55 ?_
        exact x_iret C hw h dX8_behindToken_56
    · have h := h.2 (xb_t c8)
      refine lv_aload_n hx hb dX8_behindToken_26 rfl (lv_at hl 0 rfl) ?_
      refine lv_aload_n hx hb dX8_behindToken_27 rfl (lv_at hl 1 rfl) ?_
      refine lv_iload_n hx hb dX8_behindToken_28 rfl (lv_at hl 2 rfl) ?_
      refine lv_iload_n hx hb dX8_behindToken_29 rfl (lv_at hl 3 rfl) ?_
      refine x_calli hw (x_runV (ci := 8) C hw (m_X8_behindNumber l C.2.2.2.2.2.2.2.2.1 ho hX h) (xoT_0 ho) rfl (x_gV xw_461 xw_462 xw_463 xw_122 xw_464) rfl rfl qX8_behindNumber ⟨(Nat.le_of_ble_eq_true rfl), (Nat.le_of_ble_eq_true rfl)⟩ rfl hl.1 rfl (Nat.le_of_ble_eq_true rfl) dX8_behindToken_30) (fun r17 u16 H locs hw h => ?_)
      exact x_iret C hw h dX8_behindToken_33
  · have h := h.2 (xb_t c4)
    refine lv_aload_n hx hb dX8_behindToken_9 rfl (lv_at hl 0 rfl) ?_
    refine lv_aload_n hx hb dX8_behindToken_10 rfl (lv_at hl 1 rfl) ?_
    refine lv_iload_n hx hb dX8_behindToken_11 rfl (lv_at hl 2 rfl) ?_
    refine lv_iload_n hx hb dX8_behindToken_12 rfl (lv_at hl 3 rfl) ?_
    refine x_calli hw (x_runV (ci := 8) C hw (m_X8_behindWord l C.2.2.2.2.2.2.2.2.1 ho hX h) (xoT_0 ho) rfl (x_gV xw_448 xw_449 xw_450 xw_122 xw_451) rfl rfl qX8_behindWord ⟨(Nat.le_of_ble_eq_true rfl), (Nat.le_of_ble_eq_true rfl)⟩ rfl hl.1 rfl (Nat.le_of_ble_eq_true rfl) dX8_behindToken_13) (fun r19 u18 H locs hw h => ?_)
    exact x_iret C hw h dX8_behindToken_16
set_option maxHeartbeats 4000000 in
set_option maxRecDepth 100000 in
theorem m_X8_behindToken (l : Launch) {g : xG} (hD : x_D g) {o : Nat} (ho : xpT g o) (hX : xpX g) {a2 : Int32} {a3 : Int32} {u : xM} {Qf : Int32 → xM → Prop} (h : p_X8_behindToken o a2 a3 u Qf) : Met l yX8_behindToken (Cond.code yX8_behindToken cX8_behindToken 4 (some .int) :: wsL_law) (x_rm 3 74) (va_Pc [.ref (xad g o), .ref (xad g 4), .int a2, .int a3] (x_B g u)) (x_Qi g Qf) 0 0 (x_A g) := by
  refine Met.ofW (cc := cX8_behindToken) (maxL := 4) (ret := (some .int)) (by decide) rfl ?_
  intro p e s m args below meth c s₁ B hml hv
  obtain ⟨rfl, hB⟩ := hv
  obtain ⟨C, hw⟩ := x_start B hml hD hB
  have hl := lv_entry [.ref (xad g o), .ref (xad g 4), .int a2, .int a3] (n := 4) (Nat.le_of_ble_eq_true rfl)
  rw [lg_entry_eq]
  exact s_X8_behindToken C ho hX hw hl h
end
