section
variable {p : Program} {l : Launch} {e : Env} {s : State} {m : MethodId} {args : Array Value} {below : List Frame} {meth : Method} {c : Code} {g : xG}
set_option maxHeartbeats 4000000 in
set_option maxRecDepth 100000 in
theorem s_X10_told {Qf : Int32 → xM → Prop} {a1 : Int32} (C : x_C p s m args meth c g RX10 cX10_told 2 (some .int)) (hX : xpX g) {u : xM} {H : Heap} {locs : List Loc} {ls : Array Slot} (hw : x_W g s.heap H locs u) (hl : lv_has ls 2 [(0, .ref (xad g 0)), (1, .int a1)]) (h : p_X10_told a1 u Qf) : W p l e (x_rm 2 43) s m args below meth c H locs 0 0 (MQ below (x_Qi g Qf) args s 0 0 (x_A g)) (F0 m 0 ls []) := by
  unfold p_X10_told at h
  have hx := C.1
  have hb := C.2.1
  refine lv_iload_n hx hb dX10_told_0 rfl (lv_at hl 1 rfl) ?_
  by_cases c1 : a1 = 0
  · refine lv_tableIn (off := 55) (tgt := 56) hx hb dX10_told_1 (by rw [c1]; decide) (by rw [c1]; decide) (by rw [c1]; rfl) (by decide) ?_
    have h := h.1 c1
    refine lv_aload_n hx hb dX10_told_56 rfl (lv_at hl 0 rfl) ?_
    refine lv_aload_n hx hb dX10_told_57 rfl (lv_at hl 0 rfl) ?_
    refine x_getr (ci := 10) C hw 0 (xoX_0 hX) rfl inlX10 (by decide) rfl rfl xrX_0_0 xw_16 dX10_told_58 ?_
    refine x_getr (ci := 1) C hw 0 (xoL_0 (xpL_83 hX)) rfl inlX1 (by decide) rfl rfl (xrL_0_0 (xpL_83 hX)) xw_858 dX10_told_61 ?_
    refine x_geti (ci := 7) C hw 0 (xoL_1 (xpL_83 hX)) rfl inlX7 (by decide) rfl rfl xw_859 dX10_told_64 ?_
    refine x_calli hw (x_runV (ci := 10) C hw (m_X10_fine l C.2.2.2.2.2.2.2.2.1 hX h) (xoX_0 hX) rfl (x_gV xw_622 xw_623 xw_624 xw_2 xw_625) rfl rfl qX10_fine ⟨(Nat.le_of_ble_eq_true rfl), (Nat.le_of_ble_eq_true rfl)⟩ rfl hl.1 rfl (Nat.le_of_ble_eq_true rfl) dX10_told_67) (fun r3 u2 H locs hw h => ?_)
    exact x_iret C hw h dX10_told_70
  by_cases c4 : a1 = 1
  · refine lv_tableIn (off := 70) (tgt := 71) hx hb dX10_told_1 (by rw [c4]; decide) (by rw [c4]; decide) (by rw [c4]; rfl) (by decide) ?_
    have h := h.2.1 c4
    refine lv_aload_n hx hb dX10_told_71 rfl (lv_at hl 0 rfl) ?_
    refine lv_aload_n hx hb dX10_told_72 rfl (lv_at hl 0 rfl) ?_
    refine x_getr (ci := 10) C hw 0 (xoX_0 hX) rfl inlX10 (by decide) rfl rfl xrX_0_0 xw_16 dX10_told_73 ?_
    refine x_getr (ci := 1) C hw 1 (xoL_0 (xpL_83 hX)) rfl inlX1 (by decide) rfl rfl (xrL_0_1 (xpL_83 hX)) xw_398 dX10_told_76 ?_
    refine x_geti (ci := 0) C hw 0 (xoL_9 (xpL_83 hX)) rfl inlX0 (by decide) rfl rfl xw_399 dX10_told_79 ?_
    refine x_calli hw (x_runV (ci := 10) C hw (m_X10_fine l C.2.2.2.2.2.2.2.2.1 hX h) (xoX_0 hX) rfl (x_gV xw_622 xw_623 xw_624 xw_2 xw_625) rfl rfl qX10_fine ⟨(Nat.le_of_ble_eq_true rfl), (Nat.le_of_ble_eq_true rfl)⟩ rfl hl.1 rfl (Nat.le_of_ble_eq_true rfl) dX10_told_82) (fun r6 u5 H locs hw h => ?_)
    exact x_iret C hw h dX10_told_85
  by_cases c7 : a1 = 2
  · refine lv_tableIn (off := 85) (tgt := 86) hx hb dX10_told_1 (by rw [c7]; decide) (by rw [c7]; decide) (by rw [c7]; rfl) (by decide) ?_
    have h := h.2.2.1 c7
    refine lv_aload_n hx hb dX10_told_86 rfl (lv_at hl 0 rfl) ?_
    refine lv_aload_n hx hb dX10_told_87 rfl (lv_at hl 0 rfl) ?_
    refine x_getr (ci := 10) C hw 0 (xoX_0 hX) rfl inlX10 (by decide) rfl rfl xrX_0_0 xw_16 dX10_told_88 ?_
    refine x_geti (ci := 1) C hw 2 (xoL_0 (xpL_83 hX)) rfl inlX1 (by decide) rfl rfl xw_860 dX10_told_91 ?_
    refine x_calli hw (x_runV (ci := 10) C hw (m_X10_fine l C.2.2.2.2.2.2.2.2.1 hX h) (xoX_0 hX) rfl (x_gV xw_622 xw_623 xw_624 xw_2 xw_625) rfl rfl qX10_fine ⟨(Nat.le_of_ble_eq_true rfl), (Nat.le_of_ble_eq_true rfl)⟩ rfl hl.1 rfl (Nat.le_of_ble_eq_true rfl) dX10_told_94) (fun r9 u8 H locs hw h => ?_)
    exact x_iret C hw h dX10_told_97
  by_cases c10 : a1 = 3
  · refine lv_tableIn (off := 97) (tgt := 98) hx hb dX10_told_1 (by rw [c10]; decide) (by rw [c10]; decide) (by rw [c10]; rfl) (by decide) ?_
    have h := h.2.2.2.1 c10
    refine lv_aload_n hx hb dX10_told_98 rfl (lv_at hl 0 rfl) ?_
    refine lv_aload_n hx hb dX10_told_99 rfl (lv_at hl 0 rfl) ?_
    refine x_getr (ci := 10) C hw 0 (xoX_0 hX) rfl inlX10 (by decide) rfl rfl xrX_0_0 xw_16 dX10_told_100 ?_
    refine x_geti (ci := 1) C hw 8 (xoL_0 (xpL_83 hX)) rfl inlX1 (by decide) rfl rfl xw_861 dX10_told_103 ?_
    refine x_calli hw (x_runV (ci := 10) C hw (m_X10_fine l C.2.2.2.2.2.2.2.2.1 hX h) (xoX_0 hX) rfl (x_gV xw_622 xw_623 xw_624 xw_2 xw_625) rfl rfl qX10_fine ⟨(Nat.le_of_ble_eq_true rfl), (Nat.le_of_ble_eq_true rfl)⟩ rfl hl.1 rfl (Nat.le_of_ble_eq_true rfl) dX10_told_106) (fun r12 u11 H locs hw h => ?_)
    exact x_iret C hw h dX10_told_109
  by_cases c13 : a1 = 4
  · refine lv_tableIn (off := 109) (tgt := 110) hx hb dX10_told_1 (by rw [c13]; decide) (by rw [c13]; decide) (by rw [c13]; rfl) (by decide) ?_
    have h := h.2.2.2.2.1 c13
    refine lv_aload_n hx hb dX10_told_110 rfl (lv_at hl 0 rfl) ?_
    refine lv_aload_n hx hb dX10_told_111 rfl (lv_at hl 0 rfl) ?_
    refine x_getr (ci := 10) C hw 0 (xoX_0 hX) rfl inlX10 (by decide) rfl rfl xrX_0_0 xw_16 dX10_told_112 ?_
    refine x_getr (ci := 1) C hw 0 (xoL_0 (xpL_83 hX)) rfl inlX1 (by decide) rfl rfl (xrL_0_0 (xpL_83 hX)) xw_858 dX10_told_115 ?_
    refine x_calli hw (x_runV (ci := 7) C hw (m_X7_allWater l C.2.2.2.2.2.2.2.2.1 (xpL_83 hX) h) (xoL_1 (xpL_83 hX)) rfl (x_gV xw_865 xw_866 xw_867 xw_57 xw_868) rfl rfl qX7_allWater ⟨(Nat.le_of_ble_eq_true rfl), (Nat.le_of_ble_eq_true rfl)⟩ rfl hl.1 rfl (Nat.le_of_ble_eq_true rfl) dX10_told_118) (fun r15 u14 H locs hw h => ?_)
    refine x_calli hw (x_runV (ci := 10) C hw (m_X10_fine l C.2.2.2.2.2.2.2.2.1 hX h) (xoX_0 hX) rfl (x_gV xw_622 xw_623 xw_624 xw_2 xw_625) rfl rfl qX10_fine ⟨(Nat.le_of_ble_eq_true rfl), (Nat.le_of_ble_eq_true rfl)⟩ rfl hl.1 rfl (Nat.le_of_ble_eq_true rfl) dX10_told_121) (fun r17 u16 H locs hw h => ?_)
    exact x_iret C hw h dX10_told_124
  by_cases c18 : a1 = 5
  · refine lv_tableIn (off := 124) (tgt := 125) hx hb dX10_told_1 (by rw [c18]; decide) (by rw [c18]; decide) (by rw [c18]; rfl) (by decide) ?_
    have h := h.2.2.2.2.2.1 c18
    refine lv_aload_n hx hb dX10_told_125 rfl (lv_at hl 0 rfl) ?_
    refine lv_aload_n hx hb dX10_told_126 rfl (lv_at hl 0 rfl) ?_
    refine x_getr (ci := 10) C hw 0 (xoX_0 hX) rfl inlX10 (by decide) rfl rfl xrX_0_0 xw_16 dX10_told_127 ?_
    refine x_getr (ci := 1) C hw 0 (xoL_0 (xpL_83 hX)) rfl inlX1 (by decide) rfl rfl (xrL_0_0 (xpL_83 hX)) xw_858 dX10_told_130 ?_
    refine x_calli hw (x_runV (ci := 7) C hw (m_X7_wetOnes l C.2.2.2.2.2.2.2.2.1 (xpL_83 hX) h) (xoL_1 (xpL_83 hX)) rfl (x_gV xw_869 xw_870 xw_871 xw_57 xw_872) rfl rfl qX7_wetOnes ⟨(Nat.le_of_ble_eq_true rfl), (Nat.le_of_ble_eq_true rfl)⟩ rfl hl.1 rfl (Nat.le_of_ble_eq_true rfl) dX10_told_133) (fun r20 u19 H locs hw h => ?_)
    refine x_calli hw (x_runV (ci := 10) C hw (m_X10_fine l C.2.2.2.2.2.2.2.2.1 hX h) (xoX_0 hX) rfl (x_gV xw_622 xw_623 xw_624 xw_2 xw_625) rfl rfl qX10_fine ⟨(Nat.le_of_ble_eq_true rfl), (Nat.le_of_ble_eq_true rfl)⟩ rfl hl.1 rfl (Nat.le_of_ble_eq_true rfl) dX10_told_136) (fun r22 u21 H locs hw h => ?_)
    exact x_iret C hw h dX10_told_139
  by_cases c23 : a1 = 6
  · refine lv_tableIn (off := 139) (tgt := 140) hx hb dX10_told_1 (by rw [c23]; decide) (by rw [c23]; decide) (by rw [c23]; rfl) (by decide) ?_
    have h := h.2.2.2.2.2.2.1 c23
    refine lv_aload_n hx hb dX10_told_140 rfl (lv_at hl 0 rfl) ?_
    refine lv_aload_n hx hb dX10_told_141 rfl (lv_at hl 0 rfl) ?_
    refine x_getr (ci := 10) C hw 0 (xoX_0 hX) rfl inlX10 (by decide) rfl rfl xrX_0_0 xw_16 dX10_told_142 ?_
    refine x_getr (ci := 1) C hw 0 (xoL_0 (xpL_83 hX)) rfl inlX1 (by decide) rfl rfl (xrL_0_0 (xpL_83 hX)) xw_858 dX10_told_145 ?_
    refine x_geti (ci := 7) C hw 1 (xoL_1 (xpL_83 hX)) rfl inlX7 (by decide) rfl rfl xw_862 dX10_told_148 ?_
    refine x_calli hw (x_runV (ci := 10) C hw (m_X10_fine l C.2.2.2.2.2.2.2.2.1 hX h) (xoX_0 hX) rfl (x_gV xw_622 xw_623 xw_624 xw_2 xw_625) rfl rfl qX10_fine ⟨(Nat.le_of_ble_eq_true rfl), (Nat.le_of_ble_eq_true rfl)⟩ rfl hl.1 rfl (Nat.le_of_ble_eq_true rfl) dX10_told_151) (fun r25 u24 H locs hw h => ?_)
    exact x_iret C hw h dX10_told_154
  by_cases c26 : a1 = 7
  · refine lv_tableIn (off := 154) (tgt := 155) hx hb dX10_told_1 (by rw [c26]; decide) (by rw [c26]; decide) (by rw [c26]; rfl) (by decide) ?_
    have h := h.2.2.2.2.2.2.2.1 c26
    refine lv_aload_n hx hb dX10_told_155 rfl (lv_at hl 0 rfl) ?_
    refine lv_aload_n hx hb dX10_told_156 rfl (lv_at hl 0 rfl) ?_
    refine x_getr (ci := 10) C hw 0 (xoX_0 hX) rfl inlX10 (by decide) rfl rfl xrX_0_0 xw_16 dX10_told_157 ?_
    refine x_calli hw (x_runV (ci := 1) C hw (m_X1_openNow l C.2.2.2.2.2.2.2.2.1 (xpL_83 hX) h) (xoL_0 (xpL_83 hX)) rfl (x_gV xw_877 xw_878 xw_879 xw_15 xw_880) rfl rfl qX1_openNow ⟨(Nat.le_of_ble_eq_true rfl), (Nat.le_of_ble_eq_true rfl)⟩ rfl hl.1 rfl (Nat.le_of_ble_eq_true rfl) dX10_told_160) (fun r28 u27 H locs hw h => ?_)
    refine x_calli hw (x_runV (ci := 10) C hw (m_X10_fine l C.2.2.2.2.2.2.2.2.1 hX h) (xoX_0 hX) rfl (x_gV xw_622 xw_623 xw_624 xw_2 xw_625) rfl rfl qX10_fine ⟨(Nat.le_of_ble_eq_true rfl), (Nat.le_of_ble_eq_true rfl)⟩ rfl hl.1 rfl (Nat.le_of_ble_eq_true rfl) dX10_told_163) (fun r30 u29 H locs hw h => ?_)
    exact x_iret C hw h dX10_told_166
  by_cases c31 : a1 = 8
  · refine lv_tableIn (off := 166) (tgt := 167) hx hb dX10_told_1 (by rw [c31]; decide) (by rw [c31]; decide) (by rw [c31]; rfl) (by decide) ?_
    have h := h.2.2.2.2.2.2.2.2.1 c31
    refine lv_aload_n hx hb dX10_told_167 rfl (lv_at hl 0 rfl) ?_
    refine lv_aload_n hx hb dX10_told_168 rfl (lv_at hl 0 rfl) ?_
    refine x_getr (ci := 10) C hw 0 (xoX_0 hX) rfl inlX10 (by decide) rfl rfl xrX_0_0 xw_16 dX10_told_169 ?_
    refine x_getr (ci := 1) C hw 1 (xoL_0 (xpL_83 hX)) rfl inlX1 (by decide) rfl rfl (xrL_0_1 (xpL_83 hX)) xw_398 dX10_told_172 ?_
    refine x_geti (ci := 0) C hw 1 (xoL_9 (xpL_83 hX)) rfl inlX0 (by decide) rfl rfl xw_863 dX10_told_175 ?_
    refine x_calli hw (x_runV (ci := 10) C hw (m_X10_fine l C.2.2.2.2.2.2.2.2.1 hX h) (xoX_0 hX) rfl (x_gV xw_622 xw_623 xw_624 xw_2 xw_625) rfl rfl qX10_fine ⟨(Nat.le_of_ble_eq_true rfl), (Nat.le_of_ble_eq_true rfl)⟩ rfl hl.1 rfl (Nat.le_of_ble_eq_true rfl) dX10_told_178) (fun r33 u32 H locs hw h => ?_)
    exact x_iret C hw h dX10_told_181
  by_cases c34 : a1 = 9
  · refine lv_tableIn (off := 181) (tgt := 182) hx hb dX10_told_1 (by rw [c34]; decide) (by rw [c34]; decide) (by rw [c34]; rfl) (by decide) ?_
    have h := h.2.2.2.2.2.2.2.2.2.1 c34
    refine lv_aload_n hx hb dX10_told_182 rfl (lv_at hl 0 rfl) ?_
    refine lv_aload_n hx hb dX10_told_183 rfl (lv_at hl 0 rfl) ?_
    refine x_getr (ci := 10) C hw 0 (xoX_0 hX) rfl inlX10 (by decide) rfl rfl xrX_0_0 xw_16 dX10_told_184 ?_
    refine x_getr (ci := 1) C hw 1 (xoL_0 (xpL_83 hX)) rfl inlX1 (by decide) rfl rfl (xrL_0_1 (xpL_83 hX)) xw_398 dX10_told_187 ?_
    refine x_geti (ci := 0) C hw 2 (xoL_9 (xpL_83 hX)) rfl inlX0 (by decide) rfl rfl xw_864 dX10_told_190 ?_
    refine x_calli hw (x_runV (ci := 10) C hw (m_X10_fine l C.2.2.2.2.2.2.2.2.1 hX h) (xoX_0 hX) rfl (x_gV xw_622 xw_623 xw_624 xw_2 xw_625) rfl rfl qX10_fine ⟨(Nat.le_of_ble_eq_true rfl), (Nat.le_of_ble_eq_true rfl)⟩ rfl hl.1 rfl (Nat.le_of_ble_eq_true rfl) dX10_told_193) (fun r36 u35 H locs hw h => ?_)
    exact x_iret C hw h dX10_told_196
  have ec1 : a1.toInt ≠ 0 := fun z => c1 (Int32.toInt_inj.mp (z.trans (by decide)))
  have ec4 : a1.toInt ≠ 1 := fun z => c4 (Int32.toInt_inj.mp (z.trans (by decide)))
  have ec7 : a1.toInt ≠ 2 := fun z => c7 (Int32.toInt_inj.mp (z.trans (by decide)))
  have ec10 : a1.toInt ≠ 3 := fun z => c10 (Int32.toInt_inj.mp (z.trans (by decide)))
  have ec13 : a1.toInt ≠ 4 := fun z => c13 (Int32.toInt_inj.mp (z.trans (by decide)))
  have ec18 : a1.toInt ≠ 5 := fun z => c18 (Int32.toInt_inj.mp (z.trans (by decide)))
  have ec23 : a1.toInt ≠ 6 := fun z => c23 (Int32.toInt_inj.mp (z.trans (by decide)))
  have ec26 : a1.toInt ≠ 7 := fun z => c26 (Int32.toInt_inj.mp (z.trans (by decide)))
  have ec31 : a1.toInt ≠ 8 := fun z => c31 (Int32.toInt_inj.mp (z.trans (by decide)))
  have ec34 : a1.toInt ≠ 9 := fun z => c34 (Int32.toInt_inj.mp (z.trans (by decide)))
  refine lv_tableOut (tgt := 197) hx hb dX10_told_1 (by omega) (by decide) ?_
  have h := h.2.2.2.2.2.2.2.2.2.2 c1 c4 c7 c10 c13 c18 c23 c26 c31 c34
  refine lv_aload_n hx hb dX10_told_197 rfl (lv_at hl 0 rfl) ?_
  refine lv_iconst (v := 1) hx hb dX10_told_198 (by decide) ?_
  refine x_calli hw (x_runV (ci := 10) C hw (m_X10_none l C.2.2.2.2.2.2.2.2.1 hX h) (xoX_0 hX) rfl (x_gV xw_343 xw_344 xw_345 xw_2 xw_346) rfl rfl qX10_none ⟨(Nat.le_of_ble_eq_true rfl), (Nat.le_of_ble_eq_true rfl)⟩ rfl hl.1 rfl (Nat.le_of_ble_eq_true rfl) dX10_told_199) (fun r38 u37 H locs hw h => ?_)
  exact x_iret C hw h dX10_told_202
set_option maxHeartbeats 4000000 in
set_option maxRecDepth 100000 in
theorem m_X10_told (l : Launch) {g : xG} (hD : x_D g) (hX : xpX g) {a1 : Int32} {u : xM} {Qf : Int32 → xM → Prop} (h : p_X10_told a1 u Qf) : Met l yX10_told (Cond.code yX10_told cX10_told 2 (some .int) :: wsL_law) (x_rm 2 43) (va_Pc [.ref (xad g 0), .int a1] (x_B g u)) (x_Qi g Qf) 0 0 (x_A g) := by
  refine Met.ofW (cc := cX10_told) (maxL := 2) (ret := (some .int)) (by decide) rfl ?_
  intro p e s m args below meth c s₁ B hml hv
  obtain ⟨rfl, hB⟩ := hv
  obtain ⟨C, hw⟩ := x_start B hml hD hB
  have hl := lv_entry [.ref (xad g 0), .int a1] (n := 2) (Nat.le_of_ble_eq_true rfl)
  rw [lg_entry_eq]
  exact s_X10_told C hX hw hl h
set_option maxHeartbeats 4000000 in
set_option maxRecDepth 100000 in
theorem s_X10_room {Qf : Int32 → xM → Prop} {a1 : Int32} {a2 : Int32} (C : x_C p s m args meth c g RX10 cX10_room 4 (some .int)) (hX : xpX g) {u : xM} {H : Heap} {locs : List Loc} {ls : Array Slot} (hw : x_W g s.heap H locs u) (hl : lv_has ls 4 [(0, .ref (xad g 0)), (1, .int a1), (2, .int a2)]) (h : p_X10_room a1 a2 u Qf) : W p l e (x_rm 1 21) s m args below meth c H locs 0 0 (MQ below (x_Qi g Qf) args s 0 0 (x_A g)) (F0 m 0 ls []) := by
  unfold p_X10_room at h
  have hx := C.1
  have hb := C.2.1
  refine lv_aload_n hx hb dX10_room_0 rfl (lv_at hl 0 rfl) ?_
  refine lv_iload_n hx hb dX10_room_1 rfl (lv_at hl 1 rfl) ?_
  refine x_callz hw (x_runV (ci := 10) C hw (m_X10_isRoom l C.2.2.2.2.2.2.2.2.1 hX h) (xoX_0 hX) rfl (x_gV xw_936 xw_937 xw_938 xw_2 xw_939) rfl rfl qX10_isRoom ⟨(Nat.le_of_ble_eq_true rfl), (Nat.le_of_ble_eq_true rfl)⟩ rfl hl.1 rfl (Nat.le_of_ble_eq_true rfl) dX10_room_2) (fun r2 u1 H locs hw h => ?_)
  refine lv_if_ne (tgt := 14) hx hb dX10_room_5 (by decide) (fun c3 => ?_) (fun c3 => ?_)
  · have h := h.1 (xb_t c3)
    refine lv_aload_n hx hb dX10_room_14 rfl (lv_at hl 0 rfl) ?_
    refine x_getr (ci := 10) C hw 0 (xoX_0 hX) rfl inlX10 (by decide) rfl rfl xrX_0_0 xw_16 dX10_room_15 ?_
    refine x_getr (ci := 1) C hw 0 (xoL_0 (xpL_83 hX)) rfl inlX1 (by decide) rfl rfl (xrL_0_0 (xpL_83 hX)) xw_858 dX10_room_18 ?_
    refine lv_astore_n (lv' := [(3, .ref (xad g 84)), (0, .ref (xad g 0)), (1, .int a1), (2, .int a2)]) hx hb dX10_room_21 rfl hl (by decide) rfl (fun ls hl => ?_)
    refine lv_iload_n hx hb dX10_room_22 rfl (lv_at hl 3 rfl) ?_
    by_cases c4 : a2 = 0
    · refine lv_tableIn (off := 45) (tgt := 68) hx hb dX10_room_23 (by rw [c4]; decide) (by rw [c4]; decide) (by rw [c4]; rfl) (by decide) ?_
      have h := h.1 c4
      refine lv_aload_n hx hb dX10_room_68 rfl (lv_at hl 1 rfl) ?_
      refine lv_aload_n hx hb dX10_room_69 rfl (lv_at hl 0 rfl) ?_
      refine x_getr (ci := 7) C hw 3 (xoL_1 (xpL_83 hX)) rfl inlX7 (by decide) rfl rfl (xrL_1_3 (xpL_83 hX)) xw_930 dX10_room_70 ?_
      refine lv_iload_n hx hb dX10_room_73 rfl (lv_at hl 2 rfl) ?_
      have c5 := h.1
      have h := h.2
      refine x_iald C hw (xoL_3 (xpL_83 hX)) c5 dX10_room_74 ?_
      refine x_calli hw (x_runV (ci := 10) C hw (m_X10_fine l C.2.2.2.2.2.2.2.2.1 hX h) (xoX_0 hX) rfl (x_gV xw_622 xw_623 xw_624 xw_2 xw_625) rfl rfl qX10_fine ⟨(Nat.le_of_ble_eq_true rfl), (Nat.le_of_ble_eq_true rfl)⟩ rfl hl.1 rfl (Nat.le_of_ble_eq_true rfl) dX10_room_75) (fun r7 u6 H locs hw h => ?_)
      exact x_iret C hw h dX10_room_78
    by_cases c8 : a2 = 1
    · refine lv_tableIn (off := 56) (tgt := 79) hx hb dX10_room_23 (by rw [c8]; decide) (by rw [c8]; decide) (by rw [c8]; rfl) (by decide) ?_
      have h := h.2.1 c8
      refine lv_aload_n hx hb dX10_room_79 rfl (lv_at hl 1 rfl) ?_
      refine lv_aload_n hx hb dX10_room_80 rfl (lv_at hl 0 rfl) ?_
      refine x_getr (ci := 7) C hw 4 (xoL_1 (xpL_83 hX)) rfl inlX7 (by decide) rfl rfl (xrL_1_4 (xpL_83 hX)) xw_931 dX10_room_81 ?_
      refine lv_iload_n hx hb dX10_room_84 rfl (lv_at hl 2 rfl) ?_
      have c9 := h.1
      have h := h.2
      refine x_iald C hw (xoL_4 (xpL_83 hX)) c9 dX10_room_85 ?_
      refine x_calli hw (x_runV (ci := 10) C hw (m_X10_fine l C.2.2.2.2.2.2.2.2.1 hX h) (xoX_0 hX) rfl (x_gV xw_622 xw_623 xw_624 xw_2 xw_625) rfl rfl qX10_fine ⟨(Nat.le_of_ble_eq_true rfl), (Nat.le_of_ble_eq_true rfl)⟩ rfl hl.1 rfl (Nat.le_of_ble_eq_true rfl) dX10_room_86) (fun r11 u10 H locs hw h => ?_)
      exact x_iret C hw h dX10_room_89
    by_cases c12 : a2 = 2
    · refine lv_tableIn (off := 67) (tgt := 90) hx hb dX10_room_23 (by rw [c12]; decide) (by rw [c12]; decide) (by rw [c12]; rfl) (by decide) ?_
      have h := h.2.2.1 c12
      refine lv_aload_n hx hb dX10_room_90 rfl (lv_at hl 1 rfl) ?_
      refine lv_aload_n hx hb dX10_room_91 rfl (lv_at hl 0 rfl) ?_
      refine x_getr (ci := 7) C hw 5 (xoL_1 (xpL_83 hX)) rfl inlX7 (by decide) rfl rfl (xrL_1_5 (xpL_83 hX)) xw_932 dX10_room_92 ?_
      refine lv_iload_n hx hb dX10_room_95 rfl (lv_at hl 2 rfl) ?_
      have c13 := h.1
      have h := h.2
      refine x_iald C hw (xoL_5 (xpL_83 hX)) c13 dX10_room_96 ?_
      refine x_calli hw (x_runV (ci := 10) C hw (m_X10_fine l C.2.2.2.2.2.2.2.2.1 hX h) (xoX_0 hX) rfl (x_gV xw_622 xw_623 xw_624 xw_2 xw_625) rfl rfl qX10_fine ⟨(Nat.le_of_ble_eq_true rfl), (Nat.le_of_ble_eq_true rfl)⟩ rfl hl.1 rfl (Nat.le_of_ble_eq_true rfl) dX10_room_97) (fun r15 u14 H locs hw h => ?_)
      exact x_iret C hw h dX10_room_100
    by_cases c16 : a2 = 3
    · refine lv_tableIn (off := 78) (tgt := 101) hx hb dX10_room_23 (by rw [c16]; decide) (by rw [c16]; decide) (by rw [c16]; rfl) (by decide) ?_
      have h := h.2.2.2.1 c16
      refine lv_aload_n hx hb dX10_room_101 rfl (lv_at hl 1 rfl) ?_
      refine lv_aload_n hx hb dX10_room_102 rfl (lv_at hl 0 rfl) ?_
      refine x_getr (ci := 7) C hw 6 (xoL_1 (xpL_83 hX)) rfl inlX7 (by decide) rfl rfl (xrL_1_6 (xpL_83 hX)) xw_933 dX10_room_103 ?_
      refine lv_iload_n hx hb dX10_room_106 rfl (lv_at hl 2 rfl) ?_
      have c17 := h.1
      have h := h.2
      refine x_iald C hw (xoL_6 (xpL_83 hX)) c17 dX10_room_107 ?_
      refine x_calli hw (x_runV (ci := 10) C hw (m_X10_fine l C.2.2.2.2.2.2.2.2.1 hX h) (xoX_0 hX) rfl (x_gV xw_622 xw_623 xw_624 xw_2 xw_625) rfl rfl qX10_fine ⟨(Nat.le_of_ble_eq_true rfl), (Nat.le_of_ble_eq_true rfl)⟩ rfl hl.1 rfl (Nat.le_of_ble_eq_true rfl) dX10_room_108) (fun r19 u18 H locs hw h => ?_)
      exact x_iret C hw h dX10_room_111
    by_cases c20 : a2 = 4
    · refine lv_tableIn (off := 89) (tgt := 112) hx hb dX10_room_23 (by rw [c20]; decide) (by rw [c20]; decide) (by rw [c20]; rfl) (by decide) ?_
      have h := h.2.2.2.2.1 c20
      refine lv_aload_n hx hb dX10_room_112 rfl (lv_at hl 1 rfl) ?_
      refine lv_aload_n hx hb dX10_room_113 rfl (lv_at hl 0 rfl) ?_
      refine x_getr (ci := 7) C hw 7 (xoL_1 (xpL_83 hX)) rfl inlX7 (by decide) rfl rfl (xrL_1_7 (xpL_83 hX)) xw_934 dX10_room_114 ?_
      refine lv_iload_n hx hb dX10_room_117 rfl (lv_at hl 2 rfl) ?_
      have c21 := h.1
      have h := h.2
      refine x_iald C hw (xoL_7 (xpL_83 hX)) c21 dX10_room_118 ?_
      refine x_calli hw (x_runV (ci := 10) C hw (m_X10_fine l C.2.2.2.2.2.2.2.2.1 hX h) (xoX_0 hX) rfl (x_gV xw_622 xw_623 xw_624 xw_2 xw_625) rfl rfl qX10_fine ⟨(Nat.le_of_ble_eq_true rfl), (Nat.le_of_ble_eq_true rfl)⟩ rfl hl.1 rfl (Nat.le_of_ble_eq_true rfl) dX10_room_119) (fun r23 u22 H locs hw h => ?_)
      exact x_iret C hw h dX10_room_122
    by_cases c24 : a2 = 5
    · refine lv_tableIn (off := 100) (tgt := 123) hx hb dX10_room_23 (by rw [c24]; decide) (by rw [c24]; decide) (by rw [c24]; rfl) (by decide) ?_
      have h := h.2.2.2.2.2.1 c24
      refine lv_aload_n hx hb dX10_room_123 rfl (lv_at hl 1 rfl) ?_
      refine lv_aload_n hx hb dX10_room_124 rfl (lv_at hl 0 rfl) ?_
      refine lv_iload_n hx hb dX10_room_125 rfl (lv_at hl 2 rfl) ?_
      refine x_calli hw (x_runV (ci := 7) C hw (m_X7_depth l C.2.2.2.2.2.2.2.2.1 (xpL_83 hX) h) (xoL_1 (xpL_83 hX)) rfl (x_gV xw_940 xw_874 xw_875 xw_57 xw_876) rfl rfl qX7_depth ⟨(Nat.le_of_ble_eq_true rfl), (Nat.le_of_ble_eq_true rfl)⟩ rfl hl.1 rfl (Nat.le_of_ble_eq_true rfl) dX10_room_126) (fun r26 u25 H locs hw h => ?_)
      refine x_calli hw (x_runV (ci := 10) C hw (m_X10_fine l C.2.2.2.2.2.2.2.2.1 hX h) (xoX_0 hX) rfl (x_gV xw_622 xw_623 xw_624 xw_2 xw_625) rfl rfl qX10_fine ⟨(Nat.le_of_ble_eq_true rfl), (Nat.le_of_ble_eq_true rfl)⟩ rfl hl.1 rfl (Nat.le_of_ble_eq_true rfl) dX10_room_129) (fun r28 u27 H locs hw h => ?_)
      exact x_iret C hw h dX10_room_132
    by_cases c29 : a2 = 6
    · refine lv_tableIn (off := 110) (tgt := 133) hx hb dX10_room_23 (by rw [c29]; decide) (by rw [c29]; decide) (by rw [c29]; rfl) (by decide) ?_
      have h := h.2.2.2.2.2.2.1 c29
      refine lv_aload_n hx hb dX10_room_133 rfl (lv_at hl 1 rfl) ?_
      refine lv_aload_n hx hb dX10_room_134 rfl (lv_at hl 0 rfl) ?_
      refine x_getr (ci := 7) C hw 3 (xoL_1 (xpL_83 hX)) rfl inlX7 (by decide) rfl rfl (xrL_1_3 (xpL_83 hX)) xw_930 dX10_room_135 ?_
      refine lv_iload_n hx hb dX10_room_138 rfl (lv_at hl 2 rfl) ?_
      have c30 := h.1
      have h := h.2
      refine x_iald C hw (xoL_3 (xpL_83 hX)) c30 dX10_room_139 ?_
      refine lv_aload_n hx hb dX10_room_140 rfl (lv_at hl 0 rfl) ?_
      refine lv_iload_n hx hb dX10_room_141 rfl (lv_at hl 2 rfl) ?_
      refine x_calli hw (x_runV (ci := 7) C hw (m_X7_depth l C.2.2.2.2.2.2.2.2.1 (xpL_83 hX) h) (xoL_1 (xpL_83 hX)) rfl (x_gV xw_940 xw_874 xw_875 xw_57 xw_876) rfl rfl qX7_depth ⟨(Nat.le_of_ble_eq_true rfl), (Nat.le_of_ble_eq_true rfl)⟩ rfl hl.1 rfl (Nat.le_of_ble_eq_true rfl) dX10_room_142) (fun r32 u31 H locs hw h => ?_)
      refine lv_iadd hx hb dX10_room_145 ?_
      refine x_calli hw (x_runV (ci := 10) C hw (m_X10_fine l C.2.2.2.2.2.2.2.2.1 hX h) (xoX_0 hX) rfl (x_gV xw_622 xw_623 xw_624 xw_2 xw_625) rfl rfl qX10_fine ⟨(Nat.le_of_ble_eq_true rfl), (Nat.le_of_ble_eq_true rfl)⟩ rfl hl.1 rfl (Nat.le_of_ble_eq_true rfl) dX10_room_146) (fun r34 u33 H locs hw h => ?_)
      exact x_iret C hw h dX10_room_149
    by_cases c35 : a2 = 7
    · refine lv_tableIn (off := 127) (tgt := 150) hx hb dX10_room_23 (by rw [c35]; decide) (by rw [c35]; decide) (by rw [c35]; rfl) (by decide) ?_
      have h := h.2.2.2.2.2.2.2.1 c35
      refine lv_aload_n hx hb dX10_room_150 rfl (lv_at hl 1 rfl) ?_
      refine lv_aload_n hx hb dX10_room_151 rfl (lv_at hl 0 rfl) ?_
      refine x_getr (ci := 7) C hw 8 (xoL_1 (xpL_83 hX)) rfl inlX7 (by decide) rfl rfl (xrL_1_8 (xpL_83 hX)) xw_935 dX10_room_152 ?_
      refine lv_iload_n hx hb dX10_room_155 rfl (lv_at hl 2 rfl) ?_
      have c36 := h.1
      have h := h.2
      refine x_iald C hw (xoL_8 (xpL_83 hX)) c36 dX10_room_156 ?_
      refine x_calli hw (x_runV (ci := 10) C hw (m_X10_fine l C.2.2.2.2.2.2.2.2.1 hX h) (xoX_0 hX) rfl (x_gV xw_622 xw_623 xw_624 xw_2 xw_625) rfl rfl qX10_fine ⟨(Nat.le_of_ble_eq_true rfl), (Nat.le_of_ble_eq_true rfl)⟩ rfl hl.1 rfl (Nat.le_of_ble_eq_true rfl) dX10_room_157) (fun r38 u37 H locs hw h => ?_)
      exact x_iret C hw h dX10_room_160
    have ec4 : a2.toInt ≠ 0 := fun z => c4 (Int32.toInt_inj.mp (z.trans (by decide)))
    have ec8 : a2.toInt ≠ 1 := fun z => c8 (Int32.toInt_inj.mp (z.trans (by decide)))
    have ec12 : a2.toInt ≠ 2 := fun z => c12 (Int32.toInt_inj.mp (z.trans (by decide)))
    have ec16 : a2.toInt ≠ 3 := fun z => c16 (Int32.toInt_inj.mp (z.trans (by decide)))
    have ec20 : a2.toInt ≠ 4 := fun z => c20 (Int32.toInt_inj.mp (z.trans (by decide)))
    have ec24 : a2.toInt ≠ 5 := fun z => c24 (Int32.toInt_inj.mp (z.trans (by decide)))
    have ec29 : a2.toInt ≠ 6 := fun z => c29 (Int32.toInt_inj.mp (z.trans (by decide)))
    have ec35 : a2.toInt ≠ 7 := fun z => c35 (Int32.toInt_inj.mp (z.trans (by decide)))
    refine lv_tableOut (tgt := 161) hx hb dX10_room_23 (by omega) (by decide) ?_
    have h := h.2.2.2.2.2.2.2.2 c4 c8 c12 c16 c20 c24 c29 c35
    refine lv_aload_n hx hb dX10_room_161 rfl (lv_at hl 1 rfl) ?_
    refine lv_iconst (v := 1) hx hb dX10_room_162 (by decide) ?_
    refine x_calli hw (x_runV (ci := 10) C hw (m_X10_none l C.2.2.2.2.2.2.2.2.1 hX h) (xoX_0 hX) rfl (x_gV xw_343 xw_344 xw_345 xw_2 xw_346) rfl rfl qX10_none ⟨(Nat.le_of_ble_eq_true rfl), (Nat.le_of_ble_eq_true rfl)⟩ rfl hl.1 rfl (Nat.le_of_ble_eq_true rfl) dX10_room_163) (fun r40 u39 H locs hw h => ?_)
    exact x_iret C hw h dX10_room_166
  · have h := h.2 (xb_f c3)
    refine lv_aload_n hx hb dX10_room_8 rfl (lv_at hl 0 rfl) ?_
    refine lv_iconst (v := 1) hx hb dX10_room_9 (by decide) ?_
    refine x_calli hw (x_runV (ci := 10) C hw (m_X10_none l C.2.2.2.2.2.2.2.2.1 hX h) (xoX_0 hX) rfl (x_gV xw_343 xw_344 xw_345 xw_2 xw_346) rfl rfl qX10_none ⟨(Nat.le_of_ble_eq_true rfl), (Nat.le_of_ble_eq_true rfl)⟩ rfl hl.1 rfl (Nat.le_of_ble_eq_true rfl) dX10_room_10) (fun r42 u41 H locs hw h => ?_)
    exact x_iret C hw h dX10_room_13
set_option maxHeartbeats 4000000 in
set_option maxRecDepth 100000 in
theorem m_X10_room (l : Launch) {g : xG} (hD : x_D g) (hX : xpX g) {a1 : Int32} {a2 : Int32} {u : xM} {Qf : Int32 → xM → Prop} (h : p_X10_room a1 a2 u Qf) : Met l yX10_room (Cond.code yX10_room cX10_room 4 (some .int) :: wsL_law) (x_rm 1 21) (va_Pc [.ref (xad g 0), .int a1, .int a2] (x_B g u)) (x_Qi g Qf) 0 0 (x_A g) := by
  refine Met.ofW (cc := cX10_room) (maxL := 4) (ret := (some .int)) (by decide) rfl ?_
  intro p e s m args below meth c s₁ B hml hv
  obtain ⟨rfl, hB⟩ := hv
  obtain ⟨C, hw⟩ := x_start B hml hD hB
  have hl := lv_entry [.ref (xad g 0), .int a1, .int a2] (n := 4) (Nat.le_of_ble_eq_true rfl)
  rw [lg_entry_eq]
  exact s_X10_room C hX hw hl h
set_option maxHeartbeats 4000000 in
set_option maxRecDepth 100000 in
theorem s_X10_endAsTold {Qf : Int32 → xM → Prop} {a1 : Int32} (C : x_C p s m args meth c g RX10 cX10_endAsTold 1 (some .int)) {u : xM} {H : Heap} {locs : List Loc} {ls : Array Slot} (hw : x_W g s.heap H locs u) (hl : lv_has ls 1 [(0, .int a1)]) (h : p_X10_endAsTold a1 u Qf) : W p l e (x_rm 0 0) s m args below meth c H locs 0 0 (MQ below (x_Qi g Qf) args s 0 0 (x_A g)) (F0 m 0 ls []) := by
  unfold p_X10_endAsTold at h
  have hx := C.1
  have hb := C.2.1
  refine lv_iload_n hx hb dX10_endAsTold_0 rfl (lv_at hl 0 rfl) ?_
  refine lv_bipush (v := 7) hx hb dX10_endAsTold_1 (by decide) ?_
  refine lv_icmp_ne (tgt := 10) hx hb dX10_endAsTold_3 (by decide) (fun c1 => ?_) (fun c1 => ?_)
  · have h := h.1 c1
    refine lv_iload_n hx hb dX10_endAsTold_10 rfl (lv_at hl 0 rfl) ?_
    exact x_iret C hw h dX10_endAsTold_11
  · have h := h.2 c1
    refine lv_iconst (v := -1) hx hb dX10_endAsTold_6 (by decide) ?_
    refine lv_goto (tgt := 11) hx hb dX10_endAsTold_7 (by decide) ?_
    exact x_iret C hw h dX10_endAsTold_11
set_option maxHeartbeats 4000000 in
set_option maxRecDepth 100000 in
theorem m_X10_endAsTold (l : Launch) {g : xG} (hD : x_D g) {a1 : Int32} {u : xM} {Qf : Int32 → xM → Prop} (h : p_X10_endAsTold a1 u Qf) : Met l yX10_endAsTold (Cond.code yX10_endAsTold cX10_endAsTold 1 (some .int) :: wsL_law) (x_rm 0 0) (va_Pc [.int a1] (x_B g u)) (x_Qi g Qf) 0 0 (x_A g) := by
  refine Met.ofW (cc := cX10_endAsTold) (maxL := 1) (ret := (some .int)) (by decide) rfl ?_
  intro p e s m args below meth c s₁ B hml hv
  obtain ⟨rfl, hB⟩ := hv
  obtain ⟨C, hw⟩ := x_start B hml hD hB
  have hl := lv_entry [.int a1] (n := 1) (Nat.le_of_ble_eq_true rfl)
  rw [lg_entry_eq]
  exact s_X10_endAsTold C hw hl h
set_option maxHeartbeats 4000000 in
set_option maxRecDepth 100000 in
theorem s_X0_hoursOnRota_L4 {o : Nat} {Qf : Int32 → xM → Prop} (C : x_C p s m args meth c g RX0 cX0_hoursOnRota 4 (some .int)) (ho : xpL g o) : ∀ (nn : Nat) {v1 : Int32} {v2 : Int32} {v3 : Int32} {u : xM} {H : Heap} {locs : List Loc} {ls : Array Slot} (hw : x_W g s.heap H locs u) (hl : lv_has ls 4 [(0, .ref (xad g (o + 9))), (1, .int v1), (2, .int v2), (3, .int v3)]) (h : p_X0_hoursOnRota_L4 o Qf nn v1 v2 v3 u), W p l e (x_rm 0 0) s m args below meth c H locs 0 0 (MQ below (x_Qi g Qf) args s 0 0 (x_A g)) (F0 m 4 ls []) := by
  intro nn
  induction nn with
  | zero => intro v1 v2 v3 u H locs ls hw hl h; exact h.elim
  | succ nn ih =>
    intro v1 v2 v3 u H locs ls hw hl h
    unfold p_X0_hoursOnRota_L4 at h
    have hx := C.1
    have hb := C.2.1
    refine lv_iload_n hx hb dX0_hoursOnRota_4 rfl (lv_at hl 3 rfl) ?_
    refine lv_bipush (v := 12) hx hb dX0_hoursOnRota_5 (by decide) ?_
    refine lv_icmp_ge (tgt := 36) hx hb dX0_hoursOnRota_7 (by decide) (fun c1 => ?_) (fun c1 => ?_)
    · have h := h.1 c1
      refine lv_iload_n hx hb dX0_hoursOnRota_36 rfl (lv_at hl 2 rfl) ?_
      exact x_iret C hw h dX0_hoursOnRota_37
    · have h := h.2 c1
      refine lv_aload_n hx hb dX0_hoursOnRota_10 rfl (lv_at hl 0 rfl) ?_
      refine x_getr (ci := 0) C hw 9 (xoL_9 ho) rfl inlX0 (by decide) rfl rfl (xrL_9_9 ho) xw_95 dX0_hoursOnRota_11 ?_
      refine lv_iload_n hx hb dX0_hoursOnRota_14 rfl (lv_at hl 3 rfl) ?_
      have c2 := h.1
      have h := h.2
      refine x_iald C hw (xoL_16 ho) c2 dX0_hoursOnRota_15 ?_
      refine lv_iload_n hx hb dX0_hoursOnRota_16 rfl (lv_at hl 1 rfl) ?_
      refine lv_ishr hx hb dX0_hoursOnRota_17 ?_
      refine lv_iconst (v := 1) hx hb dX0_hoursOnRota_18 (by decide) ?_
      refine lv_iand hx hb dX0_hoursOnRota_19 ?_
      refine lv_iconst (v := 1) hx hb dX0_hoursOnRota_20 (by decide) ?_
      refine lv_icmp_ne (tgt := 30) hx hb dX0_hoursOnRota_21 (by decide) (fun c3 => ?_) (fun c3 => ?_)
      · have h := h.1 c3
        obtain ⟨x4, ex4⟩ : ∃ y : Int32, y = v3 + 1 := ⟨_, rfl⟩
        have h := h x4 ex4
        refine lv_iinc (v := x4) (lv' := [(3, .int x4), (0, .ref (xad g (o + 9))), (1, .int v1), (2, .int v2)]) hx hb dX0_hoursOnRota_30 hl (k := 3) rfl (by rw [ex4]; rfl) (by decide) rfl (fun ls hl => ?_)
        refine lv_goto (tgt := 4) hx hb dX0_hoursOnRota_33 (by decide) ?_
        exact ih hw (lv_sub hl [1, 2, 3, 0] rfl) h
      · have h := h.2 c3
        refine lv_iload_n hx hb dX0_hoursOnRota_24 rfl (lv_at hl 2 rfl) ?_
        refine lv_iconst (v := 1) hx hb dX0_hoursOnRota_25 (by decide) ?_
        refine lv_iload_n hx hb dX0_hoursOnRota_26 rfl (lv_at hl 3 rfl) ?_
        refine lv_ishl hx hb dX0_hoursOnRota_27 ?_
        refine lv_ior hx hb dX0_hoursOnRota_28 ?_
        refine lv_topi (fun x5 ex5 => ?_)
        have h := h x5 ex5
        refine lv_istore_n (lv' := [(2, .int x5), (0, .ref (xad g (o + 9))), (1, .int v1), (3, .int v3)]) hx hb dX0_hoursOnRota_29 rfl hl (by decide) rfl (fun ls hl => ?_)
        obtain ⟨x6, ex6⟩ : ∃ y : Int32, y = v3 + 1 := ⟨_, rfl⟩
        have h := h x6 ex6
        refine lv_iinc (v := x6) (lv' := [(3, .int x6), (2, .int x5), (0, .ref (xad g (o + 9))), (1, .int v1)]) hx hb dX0_hoursOnRota_30 hl (k := 3) rfl (by rw [ex6]; rfl) (by decide) rfl (fun ls hl => ?_)
        refine lv_goto (tgt := 4) hx hb dX0_hoursOnRota_33 (by decide) ?_
        exact ih hw (lv_sub hl [2, 3, 1, 0] rfl) h
set_option maxHeartbeats 4000000 in
set_option maxRecDepth 100000 in
theorem s_X0_hoursOnRota {o : Nat} {Qf : Int32 → xM → Prop} {a1 : Int32} (C : x_C p s m args meth c g RX0 cX0_hoursOnRota 4 (some .int)) (ho : xpL g o) {u : xM} {H : Heap} {locs : List Loc} {ls : Array Slot} (hw : x_W g s.heap H locs u) (hl : lv_has ls 4 [(0, .ref (xad g (o + 9))), (1, .int a1)]) (h : p_X0_hoursOnRota o a1 u Qf) : W p l e (x_rm 0 0) s m args below meth c H locs 0 0 (MQ below (x_Qi g Qf) args s 0 0 (x_A g)) (F0 m 0 ls []) := by
  unfold p_X0_hoursOnRota at h
  have hx := C.1
  have hb := C.2.1
  refine lv_iconst (v := 0) hx hb dX0_hoursOnRota_0 (by decide) ?_
  refine lv_istore_n (lv' := [(2, .int 0), (0, .ref (xad g (o + 9))), (1, .int a1)]) hx hb dX0_hoursOnRota_1 rfl hl (by decide) rfl (fun ls hl => ?_)
  refine lv_iconst (v := 0) hx hb dX0_hoursOnRota_2 (by decide) ?_
  refine lv_istore_n (lv' := [(3, .int 0), (2, .int 0), (0, .ref (xad g (o + 9))), (1, .int a1)]) hx hb dX0_hoursOnRota_3 rfl hl (by decide) rfl (fun ls hl => ?_)
  obtain ⟨n9, h⟩ := h
  exact s_X0_hoursOnRota_L4 C ho n9 hw (lv_sub hl [2, 3, 1, 0] rfl) h
set_option maxHeartbeats 4000000 in
set_option maxRecDepth 100000 in
theorem m_X0_hoursOnRota (l : Launch) {g : xG} (hD : x_D g) {o : Nat} (ho : xpL g o) {a1 : Int32} {u : xM} {Qf : Int32 → xM → Prop} (h : p_X0_hoursOnRota o a1 u Qf) : Met l yX0_hoursOnRota (Cond.code yX0_hoursOnRota cX0_hoursOnRota 4 (some .int) :: wsL_law) (x_rm 0 0) (va_Pc [.ref (xad g (o + 9)), .int a1] (x_B g u)) (x_Qi g Qf) 0 0 (x_A g) := by
  refine Met.ofW (cc := cX0_hoursOnRota) (maxL := 4) (ret := (some .int)) (by decide) rfl ?_
  intro p e s m args below meth c s₁ B hml hv
  obtain ⟨rfl, hB⟩ := hv
  obtain ⟨C, hw⟩ := x_start B hml hD hB
  have hl := lv_entry [.ref (xad g (o + 9)), .int a1] (n := 4) (Nat.le_of_ble_eq_true rfl)
  rw [lg_entry_eq]
  exact s_X0_hoursOnRota C ho hw hl h
set_option maxHeartbeats 4000000 in
set_option maxRecDepth 100000 in
theorem s_X10_door {Qf : Int32 → xM → Prop} {a1 : Int32} {a2 : Int32} (C : x_C p s m args meth c g RX10 cX10_door 4 (some .int)) (hX : xpX g) {u : xM} {H : Heap} {locs : List Loc} {ls : Array Slot} (hw : x_W g s.heap H locs u) (hl : lv_has ls 4 [(0, .ref (xad g 0)), (1, .int a1), (2, .int a2)]) (h : p_X10_door a1 a2 u Qf) : W p l e (x_rm 1 23) s m args below meth c H locs 0 0 (MQ below (x_Qi g Qf) args s 0 0 (x_A g)) (F0 m 0 ls []) := by
  unfold p_X10_door at h
  have hx := C.1
  have hb := C.2.1
  refine lv_aload_n hx hb dX10_door_0 rfl (lv_at hl 0 rfl) ?_
  refine lv_iload_n hx hb dX10_door_1 rfl (lv_at hl 1 rfl) ?_
  refine x_callz hw (x_runV (ci := 10) C hw (m_X10_isDoor l C.2.2.2.2.2.2.2.2.1 hX h) (xoX_0 hX) rfl (x_gV xw_962 xw_963 xw_964 xw_2 xw_965) rfl rfl qX10_isDoor ⟨(Nat.le_of_ble_eq_true rfl), (Nat.le_of_ble_eq_true rfl)⟩ rfl hl.1 rfl (Nat.le_of_ble_eq_true rfl) dX10_door_2) (fun r2 u1 H locs hw h => ?_)
  refine lv_if_ne (tgt := 14) hx hb dX10_door_5 (by decide) (fun c3 => ?_) (fun c3 => ?_)
  · have h := h.1 (xb_t c3)
    refine lv_aload_n hx hb dX10_door_14 rfl (lv_at hl 0 rfl) ?_
    refine x_getr (ci := 10) C hw 0 (xoX_0 hX) rfl inlX10 (by decide) rfl rfl xrX_0_0 xw_16 dX10_door_15 ?_
    refine x_getr (ci := 1) C hw 1 (xoL_0 (xpL_83 hX)) rfl inlX1 (by decide) rfl rfl (xrL_0_1 (xpL_83 hX)) xw_398 dX10_door_18 ?_
    refine lv_astore_n (lv' := [(3, .ref (xad g 92)), (0, .ref (xad g 0)), (1, .int a1), (2, .int a2)]) hx hb dX10_door_21 rfl hl (by decide) rfl (fun ls hl => ?_)
    refine lv_iload_n hx hb dX10_door_22 rfl (lv_at hl 3 rfl) ?_
    by_cases c4 : a2 = 0
    · refine lv_tableIn (off := 37) (tgt := 60) hx hb dX10_door_23 (by rw [c4]; decide) (by rw [c4]; decide) (by rw [c4]; rfl) (by decide) ?_
      have h := h.1 c4
      refine lv_aload_n hx hb dX10_door_60 rfl (lv_at hl 1 rfl) ?_
      refine lv_aload_n hx hb dX10_door_61 rfl (lv_at hl 0 rfl) ?_
      refine x_getr (ci := 0) C hw 4 (xoL_9 (xpL_83 hX)) rfl inlX0 (by decide) rfl rfl (xrL_9_4 (xpL_83 hX)) xw_957 dX10_door_62 ?_
      refine lv_iload_n hx hb dX10_door_65 rfl (lv_at hl 2 rfl) ?_
      have c5 := h.1
      have h := h.2
      refine x_iald C hw (xoL_11 (xpL_83 hX)) c5 dX10_door_66 ?_
      refine x_calli hw (x_runS C hw (m_X10_endAsTold l C.2.2.2.2.2.2.2.2.1  h) (x_gS xw_966 xw_967 xw_2 xw_968) rfl rfl qX10_endAsTold ⟨(Nat.le_of_ble_eq_true rfl), (Nat.le_of_ble_eq_true rfl)⟩ rfl hl.1 rfl (Nat.le_of_ble_eq_true rfl) dX10_door_67) (fun r7 u6 H locs hw h => ?_)
      refine x_calli hw (x_runV (ci := 10) C hw (m_X10_fine l C.2.2.2.2.2.2.2.2.1 hX h) (xoX_0 hX) rfl (x_gV xw_622 xw_623 xw_624 xw_2 xw_625) rfl rfl qX10_fine ⟨(Nat.le_of_ble_eq_true rfl), (Nat.le_of_ble_eq_true rfl)⟩ rfl hl.1 rfl (Nat.le_of_ble_eq_true rfl) dX10_door_70) (fun r9 u8 H locs hw h => ?_)
      exact x_iret C hw h dX10_door_73
    by_cases c10 : a2 = 1
    · refine lv_tableIn (off := 51) (tgt := 74) hx hb dX10_door_23 (by rw [c10]; decide) (by rw [c10]; decide) (by rw [c10]; rfl) (by decide) ?_
      have h := h.2.1 c10
      refine lv_aload_n hx hb dX10_door_74 rfl (lv_at hl 1 rfl) ?_
      refine lv_aload_n hx hb dX10_door_75 rfl (lv_at hl 0 rfl) ?_
      refine x_getr (ci := 0) C hw 5 (xoL_9 (xpL_83 hX)) rfl inlX0 (by decide) rfl rfl (xrL_9_5 (xpL_83 hX)) xw_958 dX10_door_76 ?_
      refine lv_iload_n hx hb dX10_door_79 rfl (lv_at hl 2 rfl) ?_
      have c11 := h.1
      have h := h.2
      refine x_iald C hw (xoL_12 (xpL_83 hX)) c11 dX10_door_80 ?_
      refine x_calli hw (x_runS C hw (m_X10_endAsTold l C.2.2.2.2.2.2.2.2.1  h) (x_gS xw_966 xw_967 xw_2 xw_968) rfl rfl qX10_endAsTold ⟨(Nat.le_of_ble_eq_true rfl), (Nat.le_of_ble_eq_true rfl)⟩ rfl hl.1 rfl (Nat.le_of_ble_eq_true rfl) dX10_door_81) (fun r13 u12 H locs hw h => ?_)
      refine x_calli hw (x_runV (ci := 10) C hw (m_X10_fine l C.2.2.2.2.2.2.2.2.1 hX h) (xoX_0 hX) rfl (x_gV xw_622 xw_623 xw_624 xw_2 xw_625) rfl rfl qX10_fine ⟨(Nat.le_of_ble_eq_true rfl), (Nat.le_of_ble_eq_true rfl)⟩ rfl hl.1 rfl (Nat.le_of_ble_eq_true rfl) dX10_door_84) (fun r15 u14 H locs hw h => ?_)
      exact x_iret C hw h dX10_door_87
    by_cases c16 : a2 = 2
    · refine lv_tableIn (off := 65) (tgt := 88) hx hb dX10_door_23 (by rw [c16]; decide) (by rw [c16]; decide) (by rw [c16]; rfl) (by decide) ?_
      have h := h.2.2.1 c16
      refine lv_aload_n hx hb dX10_door_88 rfl (lv_at hl 1 rfl) ?_
      refine lv_aload_n hx hb dX10_door_89 rfl (lv_at hl 0 rfl) ?_
      refine x_getr (ci := 0) C hw 6 (xoL_9 (xpL_83 hX)) rfl inlX0 (by decide) rfl rfl (xrL_9_6 (xpL_83 hX)) xw_959 dX10_door_90 ?_
      refine lv_iload_n hx hb dX10_door_93 rfl (lv_at hl 2 rfl) ?_
      have c17 := h.1
      have h := h.2
      refine x_iald C hw (xoL_13 (xpL_83 hX)) c17 dX10_door_94 ?_
      refine x_calli hw (x_runV (ci := 10) C hw (m_X10_fine l C.2.2.2.2.2.2.2.2.1 hX h) (xoX_0 hX) rfl (x_gV xw_622 xw_623 xw_624 xw_2 xw_625) rfl rfl qX10_fine ⟨(Nat.le_of_ble_eq_true rfl), (Nat.le_of_ble_eq_true rfl)⟩ rfl hl.1 rfl (Nat.le_of_ble_eq_true rfl) dX10_door_95) (fun r19 u18 H locs hw h => ?_)
      exact x_iret C hw h dX10_door_98
    by_cases c20 : a2 = 3
    · refine lv_tableIn (off := 76) (tgt := 99) hx hb dX10_door_23 (by rw [c20]; decide) (by rw [c20]; decide) (by rw [c20]; rfl) (by decide) ?_
      have h := h.2.2.2.1 c20
      refine lv_aload_n hx hb dX10_door_99 rfl (lv_at hl 1 rfl) ?_
      refine lv_aload_n hx hb dX10_door_100 rfl (lv_at hl 0 rfl) ?_
      refine x_getr (ci := 0) C hw 7 (xoL_9 (xpL_83 hX)) rfl inlX0 (by decide) rfl rfl (xrL_9_7 (xpL_83 hX)) xw_960 dX10_door_101 ?_
      refine lv_iload_n hx hb dX10_door_104 rfl (lv_at hl 2 rfl) ?_
      have c21 := h.1
      have h := h.2
      refine x_iald C hw (xoL_14 (xpL_83 hX)) c21 dX10_door_105 ?_
      refine x_calli hw (x_runV (ci := 10) C hw (m_X10_fine l C.2.2.2.2.2.2.2.2.1 hX h) (xoX_0 hX) rfl (x_gV xw_622 xw_623 xw_624 xw_2 xw_625) rfl rfl qX10_fine ⟨(Nat.le_of_ble_eq_true rfl), (Nat.le_of_ble_eq_true rfl)⟩ rfl hl.1 rfl (Nat.le_of_ble_eq_true rfl) dX10_door_106) (fun r23 u22 H locs hw h => ?_)
      exact x_iret C hw h dX10_door_109
    by_cases c24 : a2 = 4
    · refine lv_tableIn (off := 87) (tgt := 110) hx hb dX10_door_23 (by rw [c24]; decide) (by rw [c24]; decide) (by rw [c24]; rfl) (by decide) ?_
      have h := h.2.2.2.2.1 c24
      refine lv_aload_n hx hb dX10_door_110 rfl (lv_at hl 1 rfl) ?_
      refine lv_aload_n hx hb dX10_door_111 rfl (lv_at hl 0 rfl) ?_
      refine x_getr (ci := 0) C hw 8 (xoL_9 (xpL_83 hX)) rfl inlX0 (by decide) rfl rfl (xrL_9_8 (xpL_83 hX)) xw_961 dX10_door_112 ?_
      refine lv_iload_n hx hb dX10_door_115 rfl (lv_at hl 2 rfl) ?_
      have c25 := h.1
      have h := h.2
      refine x_iald C hw (xoL_15 (xpL_83 hX)) c25 dX10_door_116 ?_
      refine x_calli hw (x_runV (ci := 10) C hw (m_X10_fine l C.2.2.2.2.2.2.2.2.1 hX h) (xoX_0 hX) rfl (x_gV xw_622 xw_623 xw_624 xw_2 xw_625) rfl rfl qX10_fine ⟨(Nat.le_of_ble_eq_true rfl), (Nat.le_of_ble_eq_true rfl)⟩ rfl hl.1 rfl (Nat.le_of_ble_eq_true rfl) dX10_door_117) (fun r27 u26 H locs hw h => ?_)
      exact x_iret C hw h dX10_door_120
    by_cases c28 : a2 = 5
    · refine lv_tableIn (off := 98) (tgt := 121) hx hb dX10_door_23 (by rw [c28]; decide) (by rw [c28]; decide) (by rw [c28]; rfl) (by decide) ?_
      have h := h.2.2.2.2.2.1 c28
      refine lv_aload_n hx hb dX10_door_121 rfl (lv_at hl 1 rfl) ?_
      refine lv_aload_n hx hb dX10_door_122 rfl (lv_at hl 0 rfl) ?_
      refine lv_iload_n hx hb dX10_door_123 rfl (lv_at hl 2 rfl) ?_
      refine x_calli hw (x_runV (ci := 0) C hw (m_X0_hoursOnRota l C.2.2.2.2.2.2.2.2.1 (xpL_83 hX) h) (xoL_9 (xpL_83 hX)) rfl (x_gV xw_969 xw_970 xw_971 xw_61 xw_972) rfl rfl qX0_hoursOnRota ⟨(Nat.le_of_ble_eq_true rfl), (Nat.le_of_ble_eq_true rfl)⟩ rfl hl.1 rfl (Nat.le_of_ble_eq_true rfl) dX10_door_124) (fun r30 u29 H locs hw h => ?_)
      refine x_calli hw (x_runV (ci := 10) C hw (m_X10_fine l C.2.2.2.2.2.2.2.2.1 hX h) (xoX_0 hX) rfl (x_gV xw_622 xw_623 xw_624 xw_2 xw_625) rfl rfl qX10_fine ⟨(Nat.le_of_ble_eq_true rfl), (Nat.le_of_ble_eq_true rfl)⟩ rfl hl.1 rfl (Nat.le_of_ble_eq_true rfl) dX10_door_127) (fun r32 u31 H locs hw h => ?_)
      exact x_iret C hw h dX10_door_130
    have ec4 : a2.toInt ≠ 0 := fun z => c4 (Int32.toInt_inj.mp (z.trans (by decide)))
    have ec10 : a2.toInt ≠ 1 := fun z => c10 (Int32.toInt_inj.mp (z.trans (by decide)))
    have ec16 : a2.toInt ≠ 2 := fun z => c16 (Int32.toInt_inj.mp (z.trans (by decide)))
    have ec20 : a2.toInt ≠ 3 := fun z => c20 (Int32.toInt_inj.mp (z.trans (by decide)))
    have ec24 : a2.toInt ≠ 4 := fun z => c24 (Int32.toInt_inj.mp (z.trans (by decide)))
    have ec28 : a2.toInt ≠ 5 := fun z => c28 (Int32.toInt_inj.mp (z.trans (by decide)))
    refine lv_tableOut (tgt := 131) hx hb dX10_door_23 (by omega) (by decide) ?_
    have h := h.2.2.2.2.2.2 c4 c10 c16 c20 c24 c28
    refine lv_aload_n hx hb dX10_door_131 rfl (lv_at hl 1 rfl) ?_
    refine lv_iconst (v := 1) hx hb dX10_door_132 (by decide) ?_
    refine x_calli hw (x_runV (ci := 10) C hw (m_X10_none l C.2.2.2.2.2.2.2.2.1 hX h) (xoX_0 hX) rfl (x_gV xw_343 xw_344 xw_345 xw_2 xw_346) rfl rfl qX10_none ⟨(Nat.le_of_ble_eq_true rfl), (Nat.le_of_ble_eq_true rfl)⟩ rfl hl.1 rfl (Nat.le_of_ble_eq_true rfl) dX10_door_133) (fun r34 u33 H locs hw h => ?_)
    exact x_iret C hw h dX10_door_136
  · have h := h.2 (xb_f c3)
    refine lv_aload_n hx hb dX10_door_8 rfl (lv_at hl 0 rfl) ?_
    refine lv_iconst (v := 1) hx hb dX10_door_9 (by decide) ?_
    refine x_calli hw (x_runV (ci := 10) C hw (m_X10_none l C.2.2.2.2.2.2.2.2.1 hX h) (xoX_0 hX) rfl (x_gV xw_343 xw_344 xw_345 xw_2 xw_346) rfl rfl qX10_none ⟨(Nat.le_of_ble_eq_true rfl), (Nat.le_of_ble_eq_true rfl)⟩ rfl hl.1 rfl (Nat.le_of_ble_eq_true rfl) dX10_door_10) (fun r36 u35 H locs hw h => ?_)
    exact x_iret C hw h dX10_door_13
set_option maxHeartbeats 4000000 in
set_option maxRecDepth 100000 in
theorem m_X10_door (l : Launch) {g : xG} (hD : x_D g) (hX : xpX g) {a1 : Int32} {a2 : Int32} {u : xM} {Qf : Int32 → xM → Prop} (h : p_X10_door a1 a2 u Qf) : Met l yX10_door (Cond.code yX10_door cX10_door 4 (some .int) :: wsL_law) (x_rm 1 23) (va_Pc [.ref (xad g 0), .int a1, .int a2] (x_B g u)) (x_Qi g Qf) 0 0 (x_A g) := by
  refine Met.ofW (cc := cX10_door) (maxL := 4) (ret := (some .int)) (by decide) rfl ?_
  intro p e s m args below meth c s₁ B hml hv
  obtain ⟨rfl, hB⟩ := hv
  obtain ⟨C, hw⟩ := x_start B hml hD hB
  have hl := lv_entry [.ref (xad g 0), .int a1, .int a2] (n := 4) (Nat.le_of_ble_eq_true rfl)
  rw [lg_entry_eq]
  exact s_X10_door C hX hw hl h
set_option maxHeartbeats 4000000 in
set_option maxRecDepth 100000 in
theorem s_X10_errand {Qf : Int32 → xM → Prop} {a1 : Int32} {a2 : Int32} (C : x_C p s m args meth c g RX10 cX10_errand 3 (some .int)) (hX : xpX g) {u : xM} {H : Heap} {locs : List Loc} {ls : Array Slot} (hw : x_W g s.heap H locs u) (hl : lv_has ls 3 [(0, .ref (xad g 0)), (1, .int a1), (2, .int a2)]) (h : p_X10_errand a1 a2 u Qf) : W p l e (x_rm 1 21) s m args below meth c H locs 0 0 (MQ below (x_Qi g Qf) args s 0 0 (x_A g)) (F0 m 0 ls []) := by
  unfold p_X10_errand at h
  have hx := C.1
  have hb := C.2.1
  refine lv_iload_n hx hb dX10_errand_0 rfl (lv_at hl 1 rfl) ?_
  refine lv_if_lt (tgt := 15) hx hb dX10_errand_1 (by decide) (fun c1 => ?_) (fun c1 => ?_)
  · have h := h.1 c1
    refine lv_aload_n hx hb dX10_errand_15 rfl (lv_at hl 0 rfl) ?_
    refine lv_iconst (v := 1) hx hb dX10_errand_16 (by decide) ?_
    refine x_calli hw (x_runV (ci := 10) C hw (m_X10_none l C.2.2.2.2.2.2.2.2.1 hX h) (xoX_0 hX) rfl (x_gV xw_343 xw_344 xw_345 xw_2 xw_346) rfl rfl qX10_none ⟨(Nat.le_of_ble_eq_true rfl), (Nat.le_of_ble_eq_true rfl)⟩ rfl hl.1 rfl (Nat.le_of_ble_eq_true rfl) dX10_errand_17) (fun r3 u2 H locs hw h => ?_)
    exact x_iret C hw h dX10_errand_20
  · have h := h.2 c1
    refine lv_iload_n hx hb dX10_errand_4 rfl (lv_at hl 1 rfl) ?_
    refine lv_aload_n hx hb dX10_errand_5 rfl (lv_at hl 0 rfl) ?_
    refine x_getr (ci := 10) C hw 0 (xoX_0 hX) rfl inlX10 (by decide) rfl rfl xrX_0_0 xw_16 dX10_errand_6 ?_
    refine x_geti (ci := 1) C hw 2 (xoL_0 (xpL_83 hX)) rfl inlX1 (by decide) rfl rfl xw_860 dX10_errand_9 ?_
    refine lv_icmp_lt (tgt := 21) hx hb dX10_errand_12 (by decide) (fun c4 => ?_) (fun c4 => ?_)
    · have h := h.1 c4
      refine lv_iload_n hx hb dX10_errand_21 rfl (lv_at hl 2 rfl) ?_
      by_cases c5 : a2 = 0
      · refine lv_tableIn (off := 26) (tgt := 48) hx hb dX10_errand_22 (by rw [c5]; decide) (by rw [c5]; decide) (by rw [c5]; rfl) (by decide) ?_
        have h := h.1 c5
        refine lv_aload_n hx hb dX10_errand_48 rfl (lv_at hl 0 rfl) ?_
        refine lv_aload_n hx hb dX10_errand_49 rfl (lv_at hl 0 rfl) ?_
        refine x_getr (ci := 10) C hw 0 (xoX_0 hX) rfl inlX10 (by decide) rfl rfl xrX_0_0 xw_16 dX10_errand_50 ?_
        refine x_getr (ci := 1) C hw 4 (xoL_0 (xpL_83 hX)) rfl inlX1 (by decide) rfl rfl (xrL_0_4 (xpL_83 hX)) xw_985 dX10_errand_53 ?_
        refine lv_iload_n hx hb dX10_errand_56 rfl (lv_at hl 1 rfl) ?_
        have c6 := h.1
        have h := h.2
        refine x_iald C hw (xoL_18 (xpL_83 hX)) c6 dX10_errand_57 ?_
        refine x_calli hw (x_runV (ci := 10) C hw (m_X10_fine l C.2.2.2.2.2.2.2.2.1 hX h) (xoX_0 hX) rfl (x_gV xw_622 xw_623 xw_624 xw_2 xw_625) rfl rfl qX10_fine ⟨(Nat.le_of_ble_eq_true rfl), (Nat.le_of_ble_eq_true rfl)⟩ rfl hl.1 rfl (Nat.le_of_ble_eq_true rfl) dX10_errand_58) (fun r8 u7 H locs hw h => ?_)
        exact x_iret C hw h dX10_errand_61
      by_cases c9 : a2 = 1
      · refine lv_tableIn (off := 40) (tgt := 62) hx hb dX10_errand_22 (by rw [c9]; decide) (by rw [c9]; decide) (by rw [c9]; rfl) (by decide) ?_
        have h := h.2.1 c9
        refine lv_aload_n hx hb dX10_errand_62 rfl (lv_at hl 0 rfl) ?_
        refine lv_aload_n hx hb dX10_errand_63 rfl (lv_at hl 0 rfl) ?_
        refine x_getr (ci := 10) C hw 0 (xoX_0 hX) rfl inlX10 (by decide) rfl rfl xrX_0_0 xw_16 dX10_errand_64 ?_
        refine x_getr (ci := 1) C hw 5 (xoL_0 (xpL_83 hX)) rfl inlX1 (by decide) rfl rfl (xrL_0_5 (xpL_83 hX)) xw_986 dX10_errand_67 ?_
        refine lv_iload_n hx hb dX10_errand_70 rfl (lv_at hl 1 rfl) ?_
        have c10 := h.1
        have h := h.2
        refine x_iald C hw (xoL_19 (xpL_83 hX)) c10 dX10_errand_71 ?_
        refine x_calli hw (x_runV (ci := 10) C hw (m_X10_fine l C.2.2.2.2.2.2.2.2.1 hX h) (xoX_0 hX) rfl (x_gV xw_622 xw_623 xw_624 xw_2 xw_625) rfl rfl qX10_fine ⟨(Nat.le_of_ble_eq_true rfl), (Nat.le_of_ble_eq_true rfl)⟩ rfl hl.1 rfl (Nat.le_of_ble_eq_true rfl) dX10_errand_72) (fun r12 u11 H locs hw h => ?_)
        exact x_iret C hw h dX10_errand_75
      by_cases c13 : a2 = 2
      · refine lv_tableIn (off := 54) (tgt := 76) hx hb dX10_errand_22 (by rw [c13]; decide) (by rw [c13]; decide) (by rw [c13]; rfl) (by decide) ?_
        have h := h.2.2.1 c13
        refine lv_aload_n hx hb dX10_errand_76 rfl (lv_at hl 0 rfl) ?_
        refine lv_aload_n hx hb dX10_errand_77 rfl (lv_at hl 0 rfl) ?_
        refine x_getr (ci := 10) C hw 0 (xoX_0 hX) rfl inlX10 (by decide) rfl rfl xrX_0_0 xw_16 dX10_errand_78 ?_
        refine x_getr (ci := 1) C hw 6 (xoL_0 (xpL_83 hX)) rfl inlX1 (by decide) rfl rfl (xrL_0_6 (xpL_83 hX)) xw_987 dX10_errand_81 ?_
        refine lv_iload_n hx hb dX10_errand_84 rfl (lv_at hl 1 rfl) ?_
        have c14 := h.1
        have h := h.2
        refine x_iald C hw (xoL_20 (xpL_83 hX)) c14 dX10_errand_85 ?_
        refine x_calli hw (x_runV (ci := 10) C hw (m_X10_fine l C.2.2.2.2.2.2.2.2.1 hX h) (xoX_0 hX) rfl (x_gV xw_622 xw_623 xw_624 xw_2 xw_625) rfl rfl qX10_fine ⟨(Nat.le_of_ble_eq_true rfl), (Nat.le_of_ble_eq_true rfl)⟩ rfl hl.1 rfl (Nat.le_of_ble_eq_true rfl) dX10_errand_86) (fun r16 u15 H locs hw h => ?_)
        exact x_iret C hw h dX10_errand_89
      have ec5 : a2.toInt ≠ 0 := fun z => c5 (Int32.toInt_inj.mp (z.trans (by decide)))
      have ec9 : a2.toInt ≠ 1 := fun z => c9 (Int32.toInt_inj.mp (z.trans (by decide)))
      have ec13 : a2.toInt ≠ 2 := fun z => c13 (Int32.toInt_inj.mp (z.trans (by decide)))
      refine lv_tableOut (tgt := 90) hx hb dX10_errand_22 (by omega) (by decide) ?_
      have h := h.2.2.2 c5 c9 c13
      refine lv_aload_n hx hb dX10_errand_90 rfl (lv_at hl 0 rfl) ?_
      refine lv_iconst (v := 1) hx hb dX10_errand_91 (by decide) ?_
      refine x_calli hw (x_runV (ci := 10) C hw (m_X10_none l C.2.2.2.2.2.2.2.2.1 hX h) (xoX_0 hX) rfl (x_gV xw_343 xw_344 xw_345 xw_2 xw_346) rfl rfl qX10_none ⟨(Nat.le_of_ble_eq_true rfl), (Nat.le_of_ble_eq_true rfl)⟩ rfl hl.1 rfl (Nat.le_of_ble_eq_true rfl) dX10_errand_92) (fun r18 u17 H locs hw h => ?_)
      exact x_iret C hw h dX10_errand_95
    · have h := h.2 c4
      refine lv_aload_n hx hb dX10_errand_15 rfl (lv_at hl 0 rfl) ?_
      refine lv_iconst (v := 1) hx hb dX10_errand_16 (by decide) ?_
      refine x_calli hw (x_runV (ci := 10) C hw (m_X10_none l C.2.2.2.2.2.2.2.2.1 hX h) (xoX_0 hX) rfl (x_gV xw_343 xw_344 xw_345 xw_2 xw_346) rfl rfl qX10_none ⟨(Nat.le_of_ble_eq_true rfl), (Nat.le_of_ble_eq_true rfl)⟩ rfl hl.1 rfl (Nat.le_of_ble_eq_true rfl) dX10_errand_17) (fun r20 u19 H locs hw h => ?_)
      exact x_iret C hw h dX10_errand_20
set_option maxHeartbeats 4000000 in
set_option maxRecDepth 100000 in
theorem m_X10_errand (l : Launch) {g : xG} (hD : x_D g) (hX : xpX g) {a1 : Int32} {a2 : Int32} {u : xM} {Qf : Int32 → xM → Prop} (h : p_X10_errand a1 a2 u Qf) : Met l yX10_errand (Cond.code yX10_errand cX10_errand 3 (some .int) :: wsL_law) (x_rm 1 21) (va_Pc [.ref (xad g 0), .int a1, .int a2] (x_B g u)) (x_Qi g Qf) 0 0 (x_A g) := by
  refine Met.ofW (cc := cX10_errand) (maxL := 3) (ret := (some .int)) (by decide) rfl ?_
  intro p e s m args below meth c s₁ B hml hv
  obtain ⟨rfl, hB⟩ := hv
  obtain ⟨C, hw⟩ := x_start B hml hD hB
  have hl := lv_entry [.ref (xad g 0), .int a1, .int a2] (n := 3) (Nat.le_of_ble_eq_true rfl)
  rw [lg_entry_eq]
  exact s_X10_errand C hX hw hl h
set_option maxHeartbeats 4000000 in
set_option maxRecDepth 100000 in
theorem s_X10_tide {Qf : Int32 → xM → Prop} {a1 : Int32} (C : x_C p s m args meth c g RX10 cX10_tide 2 (some .int)) (hX : xpX g) {u : xM} {H : Heap} {locs : List Loc} {ls : Array Slot} (hw : x_W g s.heap H locs u) (hl : lv_has ls 2 [(0, .ref (xad g 0)), (1, .int a1)]) (h : p_X10_tide a1 u Qf) : W p l e (x_rm 1 21) s m args below meth c H locs 0 0 (MQ below (x_Qi g Qf) args s 0 0 (x_A g)) (F0 m 0 ls []) := by
  unfold p_X10_tide at h
  have hx := C.1
  have hb := C.2.1
  refine lv_iload_n hx hb dX10_tide_0 rfl (lv_at hl 1 rfl) ?_
  refine x_callz hw (x_runS C hw (m_X10_isHourOfDay l C.2.2.2.2.2.2.2.2.1  h) (x_gS xw_1001 xw_1002 xw_2 xw_1003) rfl rfl qX10_isHourOfDay ⟨(Nat.le_of_ble_eq_true rfl), (Nat.le_of_ble_eq_true rfl)⟩ rfl hl.1 rfl (Nat.le_of_ble_eq_true rfl) dX10_tide_1) (fun r2 u1 H locs hw h => ?_)
  refine lv_if_eq (tgt := 23) hx hb dX10_tide_4 (by decide) (fun c3 => ?_) (fun c3 => ?_)
  · have h := h.1 (xb_f c3)
    refine lv_aload_n hx hb dX10_tide_23 rfl (lv_at hl 0 rfl) ?_
    refine lv_iconst (v := 1) hx hb dX10_tide_24 (by decide) ?_
    refine x_calli hw (x_runV (ci := 10) C hw (m_X10_none l C.2.2.2.2.2.2.2.2.1 hX h) (xoX_0 hX) rfl (x_gV xw_343 xw_344 xw_345 xw_2 xw_346) rfl rfl qX10_none ⟨(Nat.le_of_ble_eq_true rfl), (Nat.le_of_ble_eq_true rfl)⟩ rfl hl.1 rfl (Nat.le_of_ble_eq_true rfl) dX10_tide_25) (fun r5 u4 H locs hw h => ?_)
    exact x_iret C hw h dX10_tide_28
  · have h := h.2 (xb_t c3)
    refine lv_aload_n hx hb dX10_tide_7 rfl (lv_at hl 0 rfl) ?_
    refine lv_aload_n hx hb dX10_tide_8 rfl (lv_at hl 0 rfl) ?_
    refine x_getr (ci := 10) C hw 0 (xoX_0 hX) rfl inlX10 (by decide) rfl rfl xrX_0_0 xw_16 dX10_tide_9 ?_
    refine x_getr (ci := 1) C hw 7 (xoL_0 (xpL_83 hX)) rfl inlX1 (by decide) rfl rfl (xrL_0_7 (xpL_83 hX)) xw_1000 dX10_tide_12 ?_
    refine lv_iload_n hx hb dX10_tide_15 rfl (lv_at hl 1 rfl) ?_
    have c6 := h.1
    have h := h.2
    refine x_iald C hw (xoL_21 (xpL_83 hX)) c6 dX10_tide_16 ?_
    refine x_calli hw (x_runV (ci := 10) C hw (m_X10_fine l C.2.2.2.2.2.2.2.2.1 hX h) (xoX_0 hX) rfl (x_gV xw_622 xw_623 xw_624 xw_2 xw_625) rfl rfl qX10_fine ⟨(Nat.le_of_ble_eq_true rfl), (Nat.le_of_ble_eq_true rfl)⟩ rfl hl.1 rfl (Nat.le_of_ble_eq_true rfl) dX10_tide_17) (fun r8 u7 H locs hw h => ?_)
    refine lv_goto (tgt := 28) hx hb dX10_tide_20 (by decide) ?_
    exact x_iret C hw h dX10_tide_28
set_option maxHeartbeats 4000000 in
set_option maxRecDepth 100000 in
theorem m_X10_tide (l : Launch) {g : xG} (hD : x_D g) (hX : xpX g) {a1 : Int32} {u : xM} {Qf : Int32 → xM → Prop} (h : p_X10_tide a1 u Qf) : Met l yX10_tide (Cond.code yX10_tide cX10_tide 2 (some .int) :: wsL_law) (x_rm 1 21) (va_Pc [.ref (xad g 0), .int a1] (x_B g u)) (x_Qi g Qf) 0 0 (x_A g) := by
  refine Met.ofW (cc := cX10_tide) (maxL := 2) (ret := (some .int)) (by decide) rfl ?_
  intro p e s m args below meth c s₁ B hml hv
  obtain ⟨rfl, hB⟩ := hv
  obtain ⟨C, hw⟩ := x_start B hml hD hB
  have hl := lv_entry [.ref (xad g 0), .int a1] (n := 2) (Nat.le_of_ble_eq_true rfl)
  rw [lg_entry_eq]
  exact s_X10_tide C hX hw hl h
set_option maxHeartbeats 4000000 in
set_option maxRecDepth 100000 in
theorem s_X1_findSurfaces_L2 {o : Nat} {Qf : xM → Prop} (C : x_C p s m args meth c g RX1 cX1_findSurfaces 2 none) (ho : xpL g o) : ∀ (nn : Nat) {v1 : Int32} {u : xM} {H : Heap} {locs : List Loc} {ls : Array Slot} (hw : x_W g s.heap H locs u) (hl : lv_has ls 2 [(0, .ref (xad g o)), (1, .int v1)]) (h : p_X1_findSurfaces_L2 o Qf nn v1 u), W p l e (x_rm 1 21) s m args below meth c H locs 0 0 (MQ below (x_Qv g Qf) args s 0 0 (x_A g)) (F0 m 2 ls []) := by
  intro nn
  induction nn with
  | zero => intro v1 u H locs ls hw hl h; exact h.elim
  | succ nn ih =>
    intro v1 u H locs ls hw hl h
    unfold p_X1_findSurfaces_L2 at h
    have hx := C.1
    have hb := C.2.1
    refine lv_iload_n hx hb dX1_findSurfaces_2 rfl (lv_at hl 1 rfl) ?_
    refine lv_aload_n hx hb dX1_findSurfaces_3 rfl (lv_at hl 0 rfl) ?_
    refine x_getr (ci := 1) C hw 0 (xoL_0 ho) rfl inlX1 (by decide) rfl rfl (xrL_0_0 ho) xw_58 dX1_findSurfaces_4 ?_
    refine x_geti (ci := 7) C hw 0 (xoL_1 ho) rfl inlX7 (by decide) rfl rfl xw_1024 dX1_findSurfaces_7 ?_
    refine lv_icmp_ge (tgt := 43) hx hb dX1_findSurfaces_10 (by decide) (fun c1 => ?_) (fun c1 => ?_)
    · have h := h.1 c1
      refine lv_aload_n hx hb dX1_findSurfaces_43 rfl (lv_at hl 0 rfl) ?_
      refine x_getr (ci := 1) C hw 10 (xoL_0 ho) rfl inlX1 (by decide) rfl rfl (xrL_0_10 ho) xw_71 dX1_findSurfaces_44 ?_
      refine lv_bipush (v := 7) hx hb dX1_findSurfaces_47 (by decide) ?_
      refine lv_aload_n hx hb dX1_findSurfaces_49 rfl (lv_at hl 0 rfl) ?_
      refine x_getr (ci := 1) C hw 7 (xoL_0 ho) rfl inlX1 (by decide) rfl rfl (xrL_0_7 ho) xw_69 dX1_findSurfaces_50 ?_
      refine lv_aload_n hx hb dX1_findSurfaces_53 rfl (lv_at hl 0 rfl) ?_
      refine x_geti (ci := 1) C hw 8 (xoL_0 ho) rfl inlX1 (by decide) rfl rfl xw_409 dX1_findSurfaces_54 ?_
      refine lv_bipush (v := 12) hx hb dX1_findSurfaces_57 (by decide) ?_
      refine lv_irem hx hb dX1_findSurfaces_59 (by decide) ?_
      refine lv_topi (fun x2 ex2 => ?_)
      have h := h x2 ex2
      have c3 := h.1
      have h := h.2
      refine x_iald C hw (xoL_21 ho) c3 dX1_findSurfaces_60 ?_
      have c4 := h.1
      have h := h.2
      obtain ⟨u5, eu5⟩ : ∃ q : xM, q = si u (o + 22) (7 : Int32).toNatClampNeg (gi u (o + 21) x2.toNatClampNeg) := ⟨_, rfl⟩
      have h := h u5 eu5
      refine x_iast C hw (xoL_22 ho) c4 dX1_findSurfaces_61 eu5 (fun H locs hw => ?_)
      exact x_vret C hw h dX1_findSurfaces_62
    · have h := h.2 c1
      refine lv_aload_n hx hb dX1_findSurfaces_13 rfl (lv_at hl 0 rfl) ?_
      refine x_getr (ci := 1) C hw 10 (xoL_0 ho) rfl inlX1 (by decide) rfl rfl (xrL_0_10 ho) xw_71 dX1_findSurfaces_14 ?_
      refine lv_iload_n hx hb dX1_findSurfaces_17 rfl (lv_at hl 1 rfl) ?_
      refine lv_aload_n hx hb dX1_findSurfaces_18 rfl (lv_at hl 0 rfl) ?_
      refine x_getr (ci := 1) C hw 0 (xoL_0 ho) rfl inlX1 (by decide) rfl rfl (xrL_0_0 ho) xw_58 dX1_findSurfaces_19 ?_
      refine x_getr (ci := 7) C hw 3 (xoL_1 ho) rfl inlX7 (by decide) rfl rfl (xrL_1_3 ho) xw_1025 dX1_findSurfaces_22 ?_
      refine lv_iload_n hx hb dX1_findSurfaces_25 rfl (lv_at hl 1 rfl) ?_
      have c6 := h.1
      have h := h.2
      refine x_iald C hw (xoL_3 ho) c6 dX1_findSurfaces_26 ?_
      refine lv_aload_n hx hb dX1_findSurfaces_27 rfl (lv_at hl 0 rfl) ?_
      refine x_getr (ci := 1) C hw 0 (xoL_0 ho) rfl inlX1 (by decide) rfl rfl (xrL_0_0 ho) xw_58 dX1_findSurfaces_28 ?_
      refine lv_iload_n hx hb dX1_findSurfaces_31 rfl (lv_at hl 1 rfl) ?_
      refine x_calli hw (x_runV (ci := 7) C hw (m_X7_depth l C.2.2.2.2.2.2.2.2.1 ho h) (xoL_1 ho) rfl (x_gV xw_1026 xw_874 xw_875 xw_57 xw_876) rfl rfl qX7_depth ⟨(Nat.le_of_ble_eq_true rfl), (Nat.le_of_ble_eq_true rfl)⟩ rfl hl.1 rfl (Nat.le_of_ble_eq_true rfl) dX1_findSurfaces_32) (fun r8 u7 H locs hw h => ?_)
      refine lv_iadd hx hb dX1_findSurfaces_35 ?_
      have c9 := h.1
      have h := h.2
      obtain ⟨u10, eu10⟩ : ∃ q : xM, q = si u7 (o + 22) v1.toNatClampNeg ((gi u (o + 3) v1.toNatClampNeg) + r8) := ⟨_, rfl⟩
      have h := h u10 eu10
      refine x_iast C hw (xoL_22 ho) c9 dX1_findSurfaces_36 eu10 (fun H locs hw => ?_)
      obtain ⟨x11, ex11⟩ : ∃ y : Int32, y = v1 + 1 := ⟨_, rfl⟩
      have h := h x11 ex11
      refine lv_iinc (v := x11) (lv' := [(1, .int x11), (0, .ref (xad g o))]) hx hb dX1_findSurfaces_37 hl (k := 1) rfl (by rw [ex11]; rfl) (by decide) rfl (fun ls hl => ?_)
      refine lv_goto (tgt := 2) hx hb dX1_findSurfaces_40 (by decide) ?_
      exact ih hw (lv_sub hl [1, 0] rfl) h
set_option maxHeartbeats 4000000 in
set_option maxRecDepth 100000 in
theorem s_X1_findSurfaces {o : Nat} {Qf : xM → Prop} (C : x_C p s m args meth c g RX1 cX1_findSurfaces 2 none) (ho : xpL g o) {u : xM} {H : Heap} {locs : List Loc} {ls : Array Slot} (hw : x_W g s.heap H locs u) (hl : lv_has ls 2 [(0, .ref (xad g o))]) (h : p_X1_findSurfaces o u Qf) : W p l e (x_rm 1 21) s m args below meth c H locs 0 0 (MQ below (x_Qv g Qf) args s 0 0 (x_A g)) (F0 m 0 ls []) := by
  unfold p_X1_findSurfaces at h
  have hx := C.1
  have hb := C.2.1
  refine lv_iconst (v := 0) hx hb dX1_findSurfaces_0 (by decide) ?_
  refine lv_istore_n (lv' := [(1, .int 0), (0, .ref (xad g o))]) hx hb dX1_findSurfaces_1 rfl hl (by decide) rfl (fun ls hl => ?_)
  obtain ⟨n9, h⟩ := h
  exact s_X1_findSurfaces_L2 C ho n9 hw (lv_sub hl [1, 0] rfl) h
set_option maxHeartbeats 4000000 in
set_option maxRecDepth 100000 in
theorem m_X1_findSurfaces (l : Launch) {g : xG} (hD : x_D g) {o : Nat} (ho : xpL g o) {u : xM} {Qf : xM → Prop} (h : p_X1_findSurfaces o u Qf) : Met l yX1_findSurfaces (Cond.code yX1_findSurfaces cX1_findSurfaces 2 none :: wsL_law) (x_rm 1 21) (va_Pc [.ref (xad g o)] (x_B g u)) (x_Qv g Qf) 0 0 (x_A g) := by
  refine Met.ofW (cc := cX1_findSurfaces) (maxL := 2) (ret := none) (by decide) rfl ?_
  intro p e s m args below meth c s₁ B hml hv
  obtain ⟨rfl, hB⟩ := hv
  obtain ⟨C, hw⟩ := x_start B hml hD hB
  have hl := lv_entry [.ref (xad g o)] (n := 2) (Nat.le_of_ble_eq_true rfl)
  rw [lg_entry_eq]
  exact s_X1_findSurfaces C ho hw hl h
set_option maxHeartbeats 4000000 in
set_option maxRecDepth 100000 in
theorem s_X1_surfaceOf {o : Nat} {Qf : Int32 → xM → Prop} {a1 : Int32} (C : x_C p s m args meth c g RX1 cX1_surfaceOf 2 (some .int)) (ho : xpL g o) {u : xM} {H : Heap} {locs : List Loc} {ls : Array Slot} (hw : x_W g s.heap H locs u) (hl : lv_has ls 2 [(0, .ref (xad g o)), (1, .int a1)]) (h : p_X1_surfaceOf o a1 u Qf) : W p l e (x_rm 0 0) s m args below meth c H locs 0 0 (MQ below (x_Qi g Qf) args s 0 0 (x_A g)) (F0 m 0 ls []) := by
  unfold p_X1_surfaceOf at h
  have hx := C.1
  have hb := C.2.1
  refine lv_iload_n hx hb dX1_surfaceOf_0 rfl (lv_at hl 1 rfl) ?_
  refine lv_if_lt (tgt := 19) hx hb dX1_surfaceOf_1 (by decide) (fun c1 => ?_) (fun c1 => ?_)
  · have h := h.1 c1
    refine lv_iconst (v := 0) hx hb dX1_surfaceOf_19 (by decide) ?_
    exact x_iret C hw h dX1_surfaceOf_20
  · have h := h.2 c1
    refine lv_iload_n hx hb dX1_surfaceOf_4 rfl (lv_at hl 1 rfl) ?_
    refine lv_bipush (v := 7) hx hb dX1_surfaceOf_5 (by decide) ?_
    refine lv_icmp_gt (tgt := 19) hx hb dX1_surfaceOf_7 (by decide) (fun c2 => ?_) (fun c2 => ?_)
    · have h := h.1 c2
      refine lv_iconst (v := 0) hx hb dX1_surfaceOf_19 (by decide) ?_
      exact x_iret C hw h dX1_surfaceOf_20
    · have h := h.2 c2
      refine lv_aload_n hx hb dX1_surfaceOf_10 rfl (lv_at hl 0 rfl) ?_
      refine x_getr (ci := 1) C hw 10 (xoL_0 ho) rfl inlX1 (by decide) rfl rfl (xrL_0_10 ho) xw_71 dX1_surfaceOf_11 ?_
      refine lv_iload_n hx hb dX1_surfaceOf_14 rfl (lv_at hl 1 rfl) ?_
      have c3 := h.1
      have h := h.2
      refine x_iald C hw (xoL_22 ho) c3 dX1_surfaceOf_15 ?_
      refine lv_goto (tgt := 20) hx hb dX1_surfaceOf_16 (by decide) ?_
      exact x_iret C hw h dX1_surfaceOf_20
set_option maxHeartbeats 4000000 in
set_option maxRecDepth 100000 in
theorem m_X1_surfaceOf (l : Launch) {g : xG} (hD : x_D g) {o : Nat} (ho : xpL g o) {a1 : Int32} {u : xM} {Qf : Int32 → xM → Prop} (h : p_X1_surfaceOf o a1 u Qf) : Met l yX1_surfaceOf (Cond.code yX1_surfaceOf cX1_surfaceOf 2 (some .int) :: wsL_law) (x_rm 0 0) (va_Pc [.ref (xad g o), .int a1] (x_B g u)) (x_Qi g Qf) 0 0 (x_A g) := by
  refine Met.ofW (cc := cX1_surfaceOf) (maxL := 2) (ret := (some .int)) (by decide) rfl ?_
  intro p e s m args below meth c s₁ B hml hv
  obtain ⟨rfl, hB⟩ := hv
  obtain ⟨C, hw⟩ := x_start B hml hD hB
  have hl := lv_entry [.ref (xad g o), .int a1] (n := 2) (Nat.le_of_ble_eq_true rfl)
  rw [lg_entry_eq]
  exact s_X1_surfaceOf C ho hw hl h
set_option maxHeartbeats 4000000 in
set_option maxRecDepth 100000 in
theorem s_X0_isWalled {o : Nat} {Qf : Bool → xM → Prop} {a1 : Int32} (C : x_C p s m args meth c g RX0 cX0_isWalled 2 (some .boolean)) (ho : xpL g o) {u : xM} {H : Heap} {locs : List Loc} {ls : Array Slot} (hw : x_W g s.heap H locs u) (hl : lv_has ls 2 [(0, .ref (xad g (o + 9))), (1, .int a1)]) (h : p_X0_isWalled o a1 u Qf) : W p l e (x_rm 0 0) s m args below meth c H locs 0 0 (MQ below (x_Qz g Qf) args s 0 0 (x_A g)) (F0 m 0 ls []) := by
  unfold p_X0_isWalled at h
  have hx := C.1
  have hb := C.2.1
  refine lv_aload_n hx hb dX0_isWalled_0 rfl (lv_at hl 0 rfl) ?_
  refine x_geti (ci := 0) C hw 2 (xoL_9 ho) rfl inlX0 (by decide) rfl rfl xw_422 dX0_isWalled_1 ?_
  refine lv_iload_n hx hb dX0_isWalled_4 rfl (lv_at hl 1 rfl) ?_
  refine lv_ishr hx hb dX0_isWalled_5 ?_
  refine lv_iconst (v := 1) hx hb dX0_isWalled_6 (by decide) ?_
  refine lv_iand hx hb dX0_isWalled_7 ?_
  refine lv_iconst (v := 1) hx hb dX0_isWalled_8 (by decide) ?_
  refine lv_icmp_ne (tgt := 16) hx hb dX0_isWalled_9 (by decide) (fun c1 => ?_) (fun c1 => ?_)
  · have h := h.1 c1
    refine lv_iconst (v := 0) hx hb dX0_isWalled_16 (by decide) ?_
    exact x_zret false C hw h rfl dX0_isWalled_17
  · have h := h.2 c1
    refine lv_iconst (v := 1) hx hb dX0_isWalled_12 (by decide) ?_
    refine lv_goto (tgt := 17) hx hb dX0_isWalled_13 (by decide) ?_
    exact x_zret true C hw h rfl dX0_isWalled_17
set_option maxHeartbeats 4000000 in
set_option maxRecDepth 100000 in
theorem m_X0_isWalled (l : Launch) {g : xG} (hD : x_D g) {o : Nat} (ho : xpL g o) {a1 : Int32} {u : xM} {Qf : Bool → xM → Prop} (h : p_X0_isWalled o a1 u Qf) : Met l yX0_isWalled (Cond.code yX0_isWalled cX0_isWalled 2 (some .boolean) :: wsL_law) (x_rm 0 0) (va_Pc [.ref (xad g (o + 9)), .int a1] (x_B g u)) (x_Qz g Qf) 0 0 (x_A g) := by
  refine Met.ofW (cc := cX0_isWalled) (maxL := 2) (ret := (some .boolean)) (by decide) rfl ?_
  intro p e s m args below meth c s₁ B hml hv
  obtain ⟨rfl, hB⟩ := hv
  obtain ⟨C, hw⟩ := x_start B hml hD hB
  have hl := lv_entry [.ref (xad g (o + 9)), .int a1] (n := 2) (Nat.le_of_ble_eq_true rfl)
  rw [lg_entry_eq]
  exact s_X0_isWalled C ho hw hl h
set_option maxHeartbeats 4000000 in
set_option maxRecDepth 100000 in
theorem s_X1_findFlows_L183 {o : Nat} {Qf : xM → Prop} {K7 : Int32 → Int32 → xM → Prop} (C : x_C p s m args meth c g RX1 cX1_findFlows 11 none) (ho : xpL g o) (hK7 : ∀ {v1 : Int32} {v2 : Int32} {u : xM} {H : Heap} {locs : List Loc} {ls : Array Slot}, x_W g s.heap H locs u → lv_has ls 11 [(0, .ref (xad g o)), (1, .int v1), (2, .int v2)] → K7 v1 v2 u → W p l e (x_rm 1 80) s m args below meth c H locs 0 0 (MQ below (x_Qv g Qf) args s 0 0 (x_A g)) (F0 m 7 ls [])) {v1 : Int32} {v2 : Int32} {v3 : Int32} {v4 : Int32} {v10 : Int32} {w1 : Int32} {w2 : Int32} {u : xM} {H : Heap} {locs : List Loc} {ls : Array Slot} (hw : x_W g s.heap H locs u) (hl : lv_has ls 11 [(0, .ref (xad g o)), (1, .int v1), (2, .int v2), (3, .int v3), (4, .int v4), (10, .int v10)]) (h : p_X1_findFlows_L183 o Qf K7 v1 v2 v3 v4 v10 w1 w2 u) : W p l e (x_rm 1 80) s m args below meth c H locs 0 0 (MQ below (x_Qv g Qf) args s 0 0 (x_A g)) (F0 m 183 ls [.int w2, .int w1, .ref (xad g (o + 24))]) := by
  unfold p_X1_findFlows_L183 at h
  have hx := C.1
  have hb := C.2.1
  have c1 := h.1
  have h := h.2
  obtain ⟨u2, eu2⟩ : ∃ q : xM, q = si u (o + 24) w1.toNatClampNeg w2 := ⟨_, rfl⟩
  have h := h u2 eu2
  refine x_iast C hw (xoL_24 ho) c1 dX1_findFlows_183 eu2 (fun H locs hw => ?_)
  refine lv_aload_n hx hb dX1_findFlows_184 rfl (lv_at hl 0 rfl) ?_
  refine x_getr (ci := 1) C hw 13 (xoL_0 ho) rfl inlX1 (by decide) rfl rfl (xrL_0_13 ho) xw_74 dX1_findFlows_185 ?_
  refine lv_iload_n hx hb dX1_findFlows_188 rfl (lv_at hl 2 rfl) ?_
  refine lv_iload_n hx hb dX1_findFlows_189 rfl (lv_at hl 3 rfl) ?_
  refine lv_iload hx hb dX1_findFlows_190 (lv_at hl 4 rfl) ?_
  refine lv_icmp_lt (tgt := 200) hx hb dX1_findFlows_192 (by decide) (fun c3 => ?_) (fun c3 => ?_)
  · have h := h.1 c3
    refine lv_iload hx hb dX1_findFlows_200 (lv_at hl 5 rfl) ?_
    refine lv_ineg hx hb dX1_findFlows_202 ?_
    have c4 := h.1
    have h := h.2
    obtain ⟨u5, eu5⟩ : ∃ q : xM, q = si u2 (o + 25) v2.toNatClampNeg (-v10) := ⟨_, rfl⟩
    have h := h u5 eu5
    refine x_iast C hw (xoL_25 ho) c4 dX1_findFlows_203 eu5 (fun H locs hw => ?_)
    obtain ⟨x6, ex6⟩ : ∃ y : Int32, y = v2 + 1 := ⟨_, rfl⟩
    have h := h x6 ex6
    refine lv_iinc (v := x6) (lv' := [(2, .int x6), (0, .ref (xad g o)), (1, .int v1), (3, .int v3), (4, .int v4), (10, .int v10)]) hx hb dX1_findFlows_204 hl (k := 2) rfl (by rw [ex6]; rfl) (by decide) rfl (fun ls hl => ?_)
    refine lv_goto (tgt := 7) hx hb dX1_findFlows_207 (by decide) ?_
    exact hK7 hw (lv_sub hl [1, 2, 0] rfl) h
  · have h := h.2 c3
    refine lv_iload hx hb dX1_findFlows_195 (lv_at hl 5 rfl) ?_
    refine lv_goto (tgt := 203) hx hb dX1_findFlows_197 (by decide) ?_
    have c7 := h.1
    have h := h.2
    obtain ⟨u8, eu8⟩ : ∃ q : xM, q = si u2 (o + 25) v2.toNatClampNeg v10 := ⟨_, rfl⟩
    have h := h u8 eu8
    refine x_iast C hw (xoL_25 ho) c7 dX1_findFlows_203 eu8 (fun H locs hw => ?_)
    obtain ⟨x9, ex9⟩ : ∃ y : Int32, y = v2 + 1 := ⟨_, rfl⟩
    have h := h x9 ex9
    refine lv_iinc (v := x9) (lv' := [(2, .int x9), (0, .ref (xad g o)), (1, .int v1), (3, .int v3), (4, .int v4), (10, .int v10)]) hx hb dX1_findFlows_204 hl (k := 2) rfl (by rw [ex9]; rfl) (by decide) rfl (fun ls hl => ?_)
    refine lv_goto (tgt := 7) hx hb dX1_findFlows_207 (by decide) ?_
    exact hK7 hw (lv_sub hl [1, 2, 0] rfl) h
set_option maxHeartbeats 4000000 in
set_option maxRecDepth 100000 in
theorem s_X1_findFlows_L162 {o : Nat} {Qf : xM → Prop} {K7 : Int32 → Int32 → xM → Prop} (C : x_C p s m args meth c g RX1 cX1_findFlows 11 none) (ho : xpL g o) (hK7 : ∀ {v1 : Int32} {v2 : Int32} {u : xM} {H : Heap} {locs : List Loc} {ls : Array Slot}, x_W g s.heap H locs u → lv_has ls 11 [(0, .ref (xad g o)), (1, .int v1), (2, .int v2)] → K7 v1 v2 u → W p l e (x_rm 1 80) s m args below meth c H locs 0 0 (MQ below (x_Qv g Qf) args s 0 0 (x_A g)) (F0 m 7 ls [])) {v1 : Int32} {v2 : Int32} {v3 : Int32} {v4 : Int32} {v7 : Int32} {w0 : Int32} {u : xM} {H : Heap} {locs : List Loc} {ls : Array Slot} (hw : x_W g s.heap H locs u) (hl : lv_has ls 11 [(0, .ref (xad g o)), (1, .int v1), (2, .int v2), (3, .int v3), (4, .int v4), (7, .int v7)]) (h : p_X1_findFlows_L162 o Qf K7 v1 v2 v3 v4 v7 w0 u) : W p l e (x_rm 1 80) s m args below meth c H locs 0 0 (MQ below (x_Qv g Qf) args s 0 0 (x_A g)) (F0 m 162 ls [.int w0]) := by
  unfold p_X1_findFlows_L162 at h
  have hx := C.1
  have hb := C.2.1
  refine lv_istore (lv' := [(10, .int w0), (0, .ref (xad g o)), (1, .int v1), (2, .int v2), (3, .int v3), (4, .int v4), (7, .int v7)]) hx hb dX1_findFlows_162 hl (by decide) rfl (fun ls hl => ?_)
  refine lv_aload_n hx hb dX1_findFlows_164 rfl (lv_at hl 1 rfl) ?_
  refine x_getr (ci := 1) C hw 12 (xoL_0 ho) rfl inlX1 (by decide) rfl rfl (xrL_0_12 ho) xw_73 dX1_findFlows_165 ?_
  refine lv_iload_n hx hb dX1_findFlows_168 rfl (lv_at hl 3 rfl) ?_
  refine lv_iload_n hx hb dX1_findFlows_169 rfl (lv_at hl 4 rfl) ?_
  refine lv_iload hx hb dX1_findFlows_170 (lv_at hl 5 rfl) ?_
  refine lv_icmp_lt (tgt := 180) hx hb dX1_findFlows_172 (by decide) (fun c1 => ?_) (fun c1 => ?_)
  · have h := h.1 c1
    refine lv_iload hx hb dX1_findFlows_180 (lv_at hl 6 rfl) ?_
    refine lv_ineg hx hb dX1_findFlows_182 ?_
    exact s_X1_findFlows_L183 C ho hK7 hw (lv_sub hl [1, 2, 3, 4, 5, 0] rfl) h
  · have h := h.2 c1
    refine lv_iload hx hb dX1_findFlows_175 (lv_at hl 6 rfl) ?_
    refine lv_goto (tgt := 183) hx hb dX1_findFlows_177 (by decide) ?_
    exact s_X1_findFlows_L183 C ho hK7 hw (lv_sub hl [1, 2, 3, 4, 5, 0] rfl) h
set_option maxHeartbeats 4000000 in
set_option maxRecDepth 100000 in
theorem s_X1_findFlows_L144 {o : Nat} {Qf : xM → Prop} {K7 : Int32 → Int32 → xM → Prop} (C : x_C p s m args meth c g RX1 cX1_findFlows 11 none) (ho : xpL g o) (hK7 : ∀ {v1 : Int32} {v2 : Int32} {u : xM} {H : Heap} {locs : List Loc} {ls : Array Slot}, x_W g s.heap H locs u → lv_has ls 11 [(0, .ref (xad g o)), (1, .int v1), (2, .int v2)] → K7 v1 v2 u → W p l e (x_rm 1 80) s m args below meth c H locs 0 0 (MQ below (x_Qv g Qf) args s 0 0 (x_A g)) (F0 m 7 ls [])) {v1 : Int32} {v2 : Int32} {v3 : Int32} {v4 : Int32} {v7 : Int32} {w0 : Int32} {u : xM} {H : Heap} {locs : List Loc} {ls : Array Slot} (hw : x_W g s.heap H locs u) (hl : lv_has ls 11 [(0, .ref (xad g o)), (1, .int v1), (2, .int v2), (3, .int v3), (4, .int v4), (7, .int v7)]) (h : p_X1_findFlows_L144 o Qf K7 v1 v2 v3 v4 v7 w0 u) : W p l e (x_rm 1 80) s m args below meth c H locs 0 0 (MQ below (x_Qv g Qf) args s 0 0 (x_A g)) (F0 m 144 ls [.int w0]) := by
  unfold p_X1_findFlows_L144 at h
  have hx := C.1
  have hb := C.2.1
  refine lv_istore (lv' := [(9, .int w0), (0, .ref (xad g o)), (1, .int v1), (2, .int v2), (3, .int v3), (4, .int v4), (7, .int v7)]) hx hb dX1_findFlows_144 hl (by decide) rfl (fun ls hl => ?_)
  refine lv_iload_n hx hb dX1_findFlows_146 rfl (lv_at hl 2 rfl) ?_
  refine lv_iload_n hx hb dX1_findFlows_147 rfl (lv_at hl 3 rfl) ?_
  refine lv_ishr hx hb dX1_findFlows_148 ?_
  refine lv_iconst (v := 1) hx hb dX1_findFlows_149 (by decide) ?_
  refine lv_iand hx hb dX1_findFlows_150 ?_
  refine lv_iconst (v := 1) hx hb dX1_findFlows_151 (by decide) ?_
  refine lv_icmp_ne (tgt := 160) hx hb dX1_findFlows_152 (by decide) (fun c1 => ?_) (fun c1 => ?_)
  · have h := h.1 c1
    refine lv_iload hx hb dX1_findFlows_160 (lv_at hl 0 rfl) ?_
    exact s_X1_findFlows_L162 C ho hK7 hw (lv_sub hl [1, 2, 3, 4, 5, 6] rfl) h
  · have h := h.2 c1
    refine lv_iload hx hb dX1_findFlows_155 (lv_at hl 6 rfl) ?_
    refine lv_goto (tgt := 162) hx hb dX1_findFlows_157 (by decide) ?_
    exact s_X1_findFlows_L162 C ho hK7 hw (lv_sub hl [1, 2, 3, 4, 5, 6] rfl) h
set_option maxHeartbeats 4000000 in
set_option maxRecDepth 100000 in
theorem s_X1_findFlows_L7 {o : Nat} {Qf : xM → Prop} (C : x_C p s m args meth c g RX1 cX1_findFlows 11 none) (ho : xpL g o) : ∀ (nn : Nat) {v1 : Int32} {v2 : Int32} {u : xM} {H : Heap} {locs : List Loc} {ls : Array Slot} (hw : x_W g s.heap H locs u) (hl : lv_has ls 11 [(0, .ref (xad g o)), (1, .int v1), (2, .int v2)]) (h : p_X1_findFlows_L7 o Qf nn v1 v2 u), W p l e (x_rm 1 80) s m args below meth c H locs 0 0 (MQ below (x_Qv g Qf) args s 0 0 (x_A g)) (F0 m 7 ls []) := by
  intro nn
  induction nn with
  | zero => intro v1 v2 u H locs ls hw hl h; exact h.elim
  | succ nn ih =>
    intro v1 v2 u H locs ls hw hl h
    unfold p_X1_findFlows_L7 at h
    have hx := C.1
    have hb := C.2.1
    refine lv_iload_n hx hb dX1_findFlows_7 rfl (lv_at hl 2 rfl) ?_
    refine lv_aload_n hx hb dX1_findFlows_8 rfl (lv_at hl 0 rfl) ?_
    refine x_getr (ci := 1) C hw 1 (xoL_0 ho) rfl inlX1 (by decide) rfl rfl (xrL_0_1 ho) xw_62 dX1_findFlows_9 ?_
    refine x_geti (ci := 0) C hw 0 (xoL_9 ho) rfl inlX0 (by decide) rfl rfl xw_1031 dX1_findFlows_12 ?_
    refine lv_icmp_ge (tgt := 210) hx hb dX1_findFlows_15 (by decide) (fun c1 => ?_) (fun c1 => ?_)
    · have h := h.1 c1
      exact x_vret C hw h dX1_findFlows_210
    · have h := h.2 c1
      refine lv_aload_n hx hb dX1_findFlows_18 rfl (lv_at hl 0 rfl) ?_
      refine lv_aload_n hx hb dX1_findFlows_19 rfl (lv_at hl 0 rfl) ?_
      refine x_getr (ci := 1) C hw 1 (xoL_0 ho) rfl inlX1 (by decide) rfl rfl (xrL_0_1 ho) xw_62 dX1_findFlows_20 ?_
      refine x_getr (ci := 0) C hw 4 (xoL_9 ho) rfl inlX0 (by decide) rfl rfl (xrL_9_4 ho) xw_1032 dX1_findFlows_23 ?_
      refine lv_iload_n hx hb dX1_findFlows_26 rfl (lv_at hl 2 rfl) ?_
      have c2 := h.1
      have h := h.2
      refine x_iald C hw (xoL_11 ho) c2 dX1_findFlows_27 ?_
      refine x_calli hw (x_runV (ci := 1) C hw (m_X1_surfaceOf l C.2.2.2.2.2.2.2.2.1 ho h) (xoL_0 ho) rfl (x_gV xw_1040 xw_1041 xw_1042 xw_15 xw_1043) rfl rfl qX1_surfaceOf ⟨(Nat.le_of_ble_eq_true rfl), (Nat.le_of_ble_eq_true rfl)⟩ rfl hl.1 rfl (Nat.le_of_ble_eq_true rfl) dX1_findFlows_28) (fun r4 u3 H locs hw h => ?_)
      refine lv_istore_n (lv' := [(3, .int r4), (0, .ref (xad g o)), (1, .int v1), (2, .int v2)]) hx hb dX1_findFlows_31 rfl hl (by decide) rfl (fun ls hl => ?_)
      refine lv_aload_n hx hb dX1_findFlows_32 rfl (lv_at hl 1 rfl) ?_
      refine lv_aload_n hx hb dX1_findFlows_33 rfl (lv_at hl 1 rfl) ?_
      refine x_getr (ci := 1) C hw 1 (xoL_0 ho) rfl inlX1 (by decide) rfl rfl (xrL_0_1 ho) xw_62 dX1_findFlows_34 ?_
      refine x_getr (ci := 0) C hw 5 (xoL_9 ho) rfl inlX0 (by decide) rfl rfl (xrL_9_5 ho) xw_1033 dX1_findFlows_37 ?_
      refine lv_iload_n hx hb dX1_findFlows_40 rfl (lv_at hl 3 rfl) ?_
      have c5 := h.1
      have h := h.2
      refine x_iald C hw (xoL_12 ho) c5 dX1_findFlows_41 ?_
      refine x_calli hw (x_runV (ci := 1) C hw (m_X1_surfaceOf l C.2.2.2.2.2.2.2.2.1 ho h) (xoL_0 ho) rfl (x_gV xw_1040 xw_1041 xw_1042 xw_15 xw_1043) rfl rfl qX1_surfaceOf ⟨(Nat.le_of_ble_eq_true rfl), (Nat.le_of_ble_eq_true rfl)⟩ rfl hl.1 rfl (Nat.le_of_ble_eq_true rfl) dX1_findFlows_42) (fun r7 u6 H locs hw h => ?_)
      refine lv_istore (lv' := [(4, .int r7), (3, .int r4), (0, .ref (xad g o)), (1, .int v1), (2, .int v2)]) hx hb dX1_findFlows_45 hl (by decide) rfl (fun ls hl => ?_)
      refine lv_iload_n hx hb dX1_findFlows_47 rfl (lv_at hl 1 rfl) ?_
      refine lv_iload hx hb dX1_findFlows_48 (lv_at hl 0 rfl) ?_
      refine x_mmax C hl.1 xw_1034 (Nat.le_of_ble_eq_true rfl) (Nat.le_of_ble_eq_true rfl) dX1_findFlows_50 ?_
      refine lv_topi (fun x8 ex8 => ?_)
      have h := h x8 ex8
      refine lv_istore (lv' := [(5, .int x8), (4, .int r7), (3, .int r4), (0, .ref (xad g o)), (1, .int v1), (2, .int v2)]) hx hb dX1_findFlows_53 hl (by decide) rfl (fun ls hl => ?_)
      refine lv_iload hx hb dX1_findFlows_55 (lv_at hl 0 rfl) ?_
      refine lv_aload_n hx hb dX1_findFlows_57 rfl (lv_at hl 3 rfl) ?_
      refine x_getr (ci := 1) C hw 1 (xoL_0 ho) rfl inlX1 (by decide) rfl rfl (xrL_0_1 ho) xw_62 dX1_findFlows_58 ?_
      refine x_getr (ci := 0) C hw 6 (xoL_9 ho) rfl inlX0 (by decide) rfl rfl (xrL_9_6 ho) xw_1035 dX1_findFlows_61 ?_
      refine lv_iload_n hx hb dX1_findFlows_64 rfl (lv_at hl 5 rfl) ?_
      have c9 := h.1
      have h := h.2
      refine x_iald C hw (xoL_13 ho) c9 dX1_findFlows_65 ?_
      refine lv_isub hx hb dX1_findFlows_66 ?_
      refine lv_iload hx hb dX1_findFlows_67 (lv_at hl 0 rfl) ?_
      refine lv_iload_n hx hb dX1_findFlows_69 rfl (lv_at hl 2 rfl) ?_
      refine lv_iload hx hb dX1_findFlows_70 (lv_at hl 1 rfl) ?_
      refine x_mmin C hl.1 xw_1036 (Nat.le_of_ble_eq_true rfl) (Nat.le_of_ble_eq_true rfl) dX1_findFlows_72 ?_
      refine lv_topi (fun x10 ex10 => ?_)
      have h := h x10 ex10
      refine lv_isub hx hb dX1_findFlows_75 ?_
      refine x_mmin C hl.1 xw_1036 (Nat.le_of_ble_eq_true rfl) (Nat.le_of_ble_eq_true rfl) dX1_findFlows_76 ?_
      refine lv_topi (fun x11 ex11 => ?_)
      have h := h x11 ex11
      refine lv_istore (lv' := [(6, .int x11), (5, .int x8), (4, .int r7), (3, .int r4), (0, .ref (xad g o)), (1, .int v1), (2, .int v2)]) hx hb dX1_findFlows_79 hl (by decide) rfl (fun ls hl => ?_)
      refine lv_aload_n hx hb dX1_findFlows_81 rfl (lv_at hl 4 rfl) ?_
      refine x_getr (ci := 1) C hw 11 (xoL_0 ho) rfl inlX1 (by decide) rfl rfl (xrL_0_11 ho) xw_72 dX1_findFlows_82 ?_
      refine lv_iload_n hx hb dX1_findFlows_85 rfl (lv_at hl 6 rfl) ?_
      refine lv_iconst (v := 0) hx hb dX1_findFlows_86 (by decide) ?_
      refine lv_iload hx hb dX1_findFlows_87 (lv_at hl 0 rfl) ?_
      refine x_mmax C hl.1 xw_1034 (Nat.le_of_ble_eq_true rfl) (Nat.le_of_ble_eq_true rfl) dX1_findFlows_89 ?_
      refine lv_topi (fun x12 ex12 => ?_)
      have h := h x12 ex12
      have c13 := h.1
      have h := h.2
      obtain ⟨u14, eu14⟩ : ∃ q : xM, q = si u6 (o + 23) v2.toNatClampNeg x12 := ⟨_, rfl⟩
      have h := h u14 eu14
      refine x_iast C hw (xoL_23 ho) c13 dX1_findFlows_92 eu14 (fun H locs hw => ?_)
      refine lv_aload_n hx hb dX1_findFlows_93 rfl (lv_at hl 4 rfl) ?_
      refine x_getr (ci := 1) C hw 11 (xoL_0 ho) rfl inlX1 (by decide) rfl rfl (xrL_0_11 ho) xw_72 dX1_findFlows_94 ?_
      refine lv_iload_n hx hb dX1_findFlows_97 rfl (lv_at hl 6 rfl) ?_
      have c15 := h.1
      have h := h.2
      refine x_iald C hw (xoL_23 ho) c15 dX1_findFlows_98 ?_
      refine lv_aload_n hx hb dX1_findFlows_99 rfl (lv_at hl 4 rfl) ?_
      refine x_getr (ci := 1) C hw 1 (xoL_0 ho) rfl inlX1 (by decide) rfl rfl (xrL_0_1 ho) xw_62 dX1_findFlows_100 ?_
      refine x_getr (ci := 0) C hw 7 (xoL_9 ho) rfl inlX0 (by decide) rfl rfl (xrL_9_7 ho) xw_1037 dX1_findFlows_103 ?_
      refine lv_iload_n hx hb dX1_findFlows_106 rfl (lv_at hl 6 rfl) ?_
      have c16 := h.1
      have h := h.2
      refine x_iald C hw (xoL_14 ho) c16 dX1_findFlows_107 ?_
      refine lv_imul hx hb dX1_findFlows_108 ?_
      refine lv_topi (fun x17 ex17 => ?_)
      have h := h x17 ex17
      refine lv_istore (lv' := [(7, .int x17), (6, .int x11), (5, .int x8), (4, .int r7), (3, .int r4), (0, .ref (xad g o)), (1, .int v1), (2, .int v2)]) hx hb dX1_findFlows_109 hl (by decide) rfl (fun ls hl => ?_)
      refine lv_iload hx hb dX1_findFlows_111 (lv_at hl 0 rfl) ?_
      refine lv_aload_n hx hb dX1_findFlows_113 rfl (lv_at hl 5 rfl) ?_
      refine x_getr (ci := 1) C hw 1 (xoL_0 ho) rfl inlX1 (by decide) rfl rfl (xrL_0_1 ho) xw_62 dX1_findFlows_114 ?_
      refine x_getr (ci := 0) C hw 8 (xoL_9 ho) rfl inlX0 (by decide) rfl rfl (xrL_9_8 ho) xw_1038 dX1_findFlows_117 ?_
      refine lv_iload_n hx hb dX1_findFlows_120 rfl (lv_at hl 7 rfl) ?_
      have c18 := h.1
      have h := h.2
      refine x_iald C hw (xoL_15 ho) c18 dX1_findFlows_121 ?_
      refine x_mmin C hl.1 xw_1036 (Nat.le_of_ble_eq_true rfl) (Nat.le_of_ble_eq_true rfl) dX1_findFlows_122 ?_
      refine lv_topi (fun x19 ex19 => ?_)
      have h := h x19 ex19
      refine lv_istore (lv' := [(8, .int x19), (7, .int x17), (6, .int x11), (5, .int x8), (4, .int r7), (3, .int r4), (0, .ref (xad g o)), (1, .int v1), (2, .int v2)]) hx hb dX1_findFlows_125 hl (by decide) rfl (fun ls hl => ?_)
      refine lv_aload_n hx hb dX1_findFlows_127 rfl (lv_at hl 6 rfl) ?_
      refine x_getr (ci := 1) C hw 1 (xoL_0 ho) rfl inlX1 (by decide) rfl rfl (xrL_0_1 ho) xw_62 dX1_findFlows_128 ?_
      refine lv_iload_n hx hb dX1_findFlows_131 rfl (lv_at hl 8 rfl) ?_
      refine x_callz hw (x_runV (ci := 0) C hw (m_X0_isWalled l C.2.2.2.2.2.2.2.2.1 ho h) (xoL_9 ho) rfl (x_gV xw_1044 xw_1045 xw_1046 xw_61 xw_1047) rfl rfl qX0_isWalled ⟨(Nat.le_of_ble_eq_true rfl), (Nat.le_of_ble_eq_true rfl)⟩ rfl hl.1 rfl (Nat.le_of_ble_eq_true rfl) dX1_findFlows_132) (fun r21 u20 H locs hw h => ?_)
      refine lv_if_eq (tgt := 142) hx hb dX1_findFlows_135 (by decide) (fun c22 => ?_) (fun c22 => ?_)
      · have h := h.1 (xb_f c22)
        refine lv_iload hx hb dX1_findFlows_142 (lv_at hl 0 rfl) ?_
        exact s_X1_findFlows_L144 C ho (fun hw hl h => ih hw hl h) hw (lv_sub hl [6, 7, 8, 5, 4, 1] rfl) h
      · have h := h.2 (xb_t c22)
        refine lv_iconst (v := 0) hx hb dX1_findFlows_138 (by decide) ?_
        refine lv_goto (tgt := 144) hx hb dX1_findFlows_139 (by decide) ?_
        exact s_X1_findFlows_L144 C ho (fun hw hl h => ih hw hl h) hw (lv_sub hl [6, 7, 8, 5, 4, 1] rfl) h
set_option maxHeartbeats 4000000 in
set_option maxRecDepth 100000 in
theorem s_X1_findFlows {o : Nat} {Qf : xM → Prop} (C : x_C p s m args meth c g RX1 cX1_findFlows 11 none) (ho : xpL g o) {u : xM} {H : Heap} {locs : List Loc} {ls : Array Slot} (hw : x_W g s.heap H locs u) (hl : lv_has ls 11 [(0, .ref (xad g o))]) (h : p_X1_findFlows o u Qf) : W p l e (x_rm 1 80) s m args below meth c H locs 0 0 (MQ below (x_Qv g Qf) args s 0 0 (x_A g)) (F0 m 0 ls []) := by
  unfold p_X1_findFlows at h
  have hx := C.1
  have hb := C.2.1
  refine lv_aload_n hx hb dX1_findFlows_0 rfl (lv_at hl 0 rfl) ?_
  refine x_calli hw (x_runV (ci := 1) C hw (m_X1_openNow l C.2.2.2.2.2.2.2.2.1 ho h) (xoL_0 ho) rfl (x_gV xw_1039 xw_878 xw_879 xw_15 xw_880) rfl rfl qX1_openNow ⟨(Nat.le_of_ble_eq_true rfl), (Nat.le_of_ble_eq_true rfl)⟩ rfl hl.1 rfl (Nat.le_of_ble_eq_true rfl) dX1_findFlows_1) (fun r2 u1 H locs hw h => ?_)
  refine lv_istore_n (lv' := [(1, .int r2), (0, .ref (xad g o))]) hx hb dX1_findFlows_4 rfl hl (by decide) rfl (fun ls hl => ?_)
  refine lv_iconst (v := 0) hx hb dX1_findFlows_5 (by decide) ?_
  refine lv_istore_n (lv' := [(2, .int 0), (1, .int r2), (0, .ref (xad g o))]) hx hb dX1_findFlows_6 rfl hl (by decide) rfl (fun ls hl => ?_)
  obtain ⟨n9, h⟩ := h
  exact s_X1_findFlows_L7 C ho n9 hw (lv_sub hl [2, 1, 0] rfl) h
set_option maxHeartbeats 4000000 in
set_option maxRecDepth 100000 in
theorem m_X1_findFlows (l : Launch) {g : xG} (hD : x_D g) {o : Nat} (ho : xpL g o) {u : xM} {Qf : xM → Prop} (h : p_X1_findFlows o u Qf) : Met l yX1_findFlows (Cond.code yX1_findFlows cX1_findFlows 11 none :: wsL_law) (x_rm 1 80) (va_Pc [.ref (xad g o)] (x_B g u)) (x_Qv g Qf) 0 0 (x_A g) := by
  refine Met.ofW (cc := cX1_findFlows) (maxL := 11) (ret := none) (by decide) rfl ?_
  intro p e s m args below meth c s₁ B hml hv
  obtain ⟨rfl, hB⟩ := hv
  obtain ⟨C, hw⟩ := x_start B hml hD hB
  have hl := lv_entry [.ref (xad g o)] (n := 11) (Nat.le_of_ble_eq_true rfl)
  rw [lg_entry_eq]
  exact s_X1_findFlows C ho hw hl h
set_option maxHeartbeats 4000000 in
set_option maxRecDepth 100000 in
theorem s_X10_asItFlows {Qf : xM → Prop} (C : x_C p s m args meth c g RX10 cX10_asItFlows 1 (some (.object "DryDoors$Land"))) (hX : xpX g) {u : xM} {H : Heap} {locs : List Loc} {ls : Array Slot} (hw : x_W g s.heap H locs u) (hl : lv_has ls 1 [(0, .ref (xad g 0))]) (h : p_X10_asItFlows  u Qf) : W p l e (x_rm 2 110) s m args below meth c H locs 0 0 (MQ below (x_Qr g 83 Qf) args s 0 0 (x_A g)) (F0 m 0 ls []) := by
  unfold p_X10_asItFlows at h
  have hx := C.1
  have hb := C.2.1
  refine lv_aload_n hx hb dX10_asItFlows_0 rfl (lv_at hl 0 rfl) ?_
  refine x_getr (ci := 10) C hw 0 (xoX_0 hX) rfl inlX10 (by decide) rfl rfl xrX_0_0 xw_16 dX10_asItFlows_1 ?_
  refine x_callv hw (x_runV (ci := 1) C hw (m_X1_findSurfaces l C.2.2.2.2.2.2.2.2.1 (xpL_83 hX) h) (xoL_0 (xpL_83 hX)) rfl (x_gV xw_1020 xw_1021 xw_1022 xw_15 xw_1023) rfl rfl qX1_findSurfaces ⟨(Nat.le_of_ble_eq_true rfl), (Nat.le_of_ble_eq_true rfl)⟩ rfl hl.1 rfl (Nat.le_of_ble_eq_true rfl) dX10_asItFlows_4) (fun u1 H locs hw h => ?_)
  refine lv_aload_n hx hb dX10_asItFlows_7 rfl (lv_at hl 0 rfl) ?_
  refine x_getr (ci := 10) C hw 0 (xoX_0 hX) rfl inlX10 (by decide) rfl rfl xrX_0_0 xw_16 dX10_asItFlows_8 ?_
  refine x_callv hw (x_runV (ci := 1) C hw (m_X1_findFlows l C.2.2.2.2.2.2.2.2.1 (xpL_83 hX) h) (xoL_0 (xpL_83 hX)) rfl (x_gV xw_1027 xw_1028 xw_1029 xw_15 xw_1030) rfl rfl qX1_findFlows ⟨(Nat.le_of_ble_eq_true rfl), (Nat.le_of_ble_eq_true rfl)⟩ rfl hl.1 rfl (Nat.le_of_ble_eq_true rfl) dX10_asItFlows_11) (fun u2 H locs hw h => ?_)
  refine lv_aload_n hx hb dX10_asItFlows_14 rfl (lv_at hl 0 rfl) ?_
  refine x_getr (ci := 10) C hw 0 (xoX_0 hX) rfl inlX10 (by decide) rfl rfl xrX_0_0 xw_16 dX10_asItFlows_15 ?_
  exact x_rret C hw h dX10_asItFlows_18
set_option maxHeartbeats 4000000 in
set_option maxRecDepth 100000 in
theorem m_X10_asItFlows (l : Launch) {g : xG} (hD : x_D g) (hX : xpX g) {u : xM} {Qf : xM → Prop} (h : p_X10_asItFlows  u Qf) : Met l yX10_asItFlows (Cond.code yX10_asItFlows cX10_asItFlows 1 (some (.object "DryDoors$Land")) :: wsL_law) (x_rm 2 110) (va_Pc [.ref (xad g 0)] (x_B g u)) (x_Qr g 83 Qf) 0 0 (x_A g) := by
  refine Met.ofW (cc := cX10_asItFlows) (maxL := 1) (ret := (some (.object "DryDoors$Land"))) (by decide) rfl ?_
  intro p e s m args below meth c s₁ B hml hv
  obtain ⟨rfl, hB⟩ := hv
  obtain ⟨C, hw⟩ := x_start B hml hD hB
  have hl := lv_entry [.ref (xad g 0)] (n := 1) (Nat.le_of_ble_eq_true rfl)
  rw [lg_entry_eq]
  exact s_X10_asItFlows C hX hw hl h
set_option maxHeartbeats 4000000 in
set_option maxRecDepth 100000 in
theorem s_X10_drive {Qf : Int32 → xM → Prop} {a1 : Int32} (C : x_C p s m args meth c g RX10 cX10_drive 2 (some .int)) (hX : xpX g) {u : xM} {H : Heap} {locs : List Loc} {ls : Array Slot} (hw : x_W g s.heap H locs u) (hl : lv_has ls 2 [(0, .ref (xad g 0)), (1, .int a1)]) (h : p_X10_drive a1 u Qf) : W p l e (x_rm 3 130) s m args below meth c H locs 0 0 (MQ below (x_Qi g Qf) args s 0 0 (x_A g)) (F0 m 0 ls []) := by
  unfold p_X10_drive at h
  have hx := C.1
  have hb := C.2.1
  refine lv_aload_n hx hb dX10_drive_0 rfl (lv_at hl 0 rfl) ?_
  refine lv_iload_n hx hb dX10_drive_1 rfl (lv_at hl 1 rfl) ?_
  refine x_callz hw (x_runV (ci := 10) C hw (m_X10_isDoor l C.2.2.2.2.2.2.2.2.1 hX h) (xoX_0 hX) rfl (x_gV xw_962 xw_963 xw_964 xw_2 xw_965) rfl rfl qX10_isDoor ⟨(Nat.le_of_ble_eq_true rfl), (Nat.le_of_ble_eq_true rfl)⟩ rfl hl.1 rfl (Nat.le_of_ble_eq_true rfl) dX10_drive_2) (fun r2 u1 H locs hw h => ?_)
  refine lv_if_ne (tgt := 14) hx hb dX10_drive_5 (by decide) (fun c3 => ?_) (fun c3 => ?_)
  · have h := h.1 (xb_t c3)
    refine lv_aload_n hx hb dX10_drive_14 rfl (lv_at hl 0 rfl) ?_
    refine lv_aload_n hx hb dX10_drive_15 rfl (lv_at hl 0 rfl) ?_
    refine x_callr hw (x_runV (ci := 10) C hw (m_X10_asItFlows l C.2.2.2.2.2.2.2.2.1 hX h) (xoX_0 hX) rfl (x_gV xw_1016 xw_1017 xw_1018 xw_2 xw_1019) rfl rfl qX10_asItFlows ⟨(Nat.le_of_ble_eq_true rfl), (Nat.le_of_ble_eq_true rfl)⟩ rfl hl.1 rfl (Nat.le_of_ble_eq_true rfl) dX10_drive_16) (fun u4 H locs hw h => ?_)
    refine x_getr (ci := 1) C hw 11 (xoL_0 (xpL_83 hX)) rfl inlX1 (by decide) rfl rfl (xrL_0_11 (xpL_83 hX)) xw_1015 dX10_drive_19 ?_
    refine lv_iload_n hx hb dX10_drive_22 rfl (lv_at hl 1 rfl) ?_
    have c5 := h.1
    have h := h.2
    refine x_iald C hw (xoL_23 (xpL_83 hX)) c5 dX10_drive_23 ?_
    refine x_calli hw (x_runV (ci := 10) C hw (m_X10_fine l C.2.2.2.2.2.2.2.2.1 hX h) (xoX_0 hX) rfl (x_gV xw_622 xw_623 xw_624 xw_2 xw_625) rfl rfl qX10_fine ⟨(Nat.le_of_ble_eq_true rfl), (Nat.le_of_ble_eq_true rfl)⟩ rfl hl.1 rfl (Nat.le_of_ble_eq_true rfl) dX10_drive_24) (fun r7 u6 H locs hw h => ?_)
    exact x_iret C hw h dX10_drive_27
  · have h := h.2 (xb_f c3)
    refine lv_aload_n hx hb dX10_drive_8 rfl (lv_at hl 0 rfl) ?_
    refine lv_iconst (v := 1) hx hb dX10_drive_9 (by decide) ?_
    refine x_calli hw (x_runV (ci := 10) C hw (m_X10_none l C.2.2.2.2.2.2.2.2.1 hX h) (xoX_0 hX) rfl (x_gV xw_343 xw_344 xw_345 xw_2 xw_346) rfl rfl qX10_none ⟨(Nat.le_of_ble_eq_true rfl), (Nat.le_of_ble_eq_true rfl)⟩ rfl hl.1 rfl (Nat.le_of_ble_eq_true rfl) dX10_drive_10) (fun r9 u8 H locs hw h => ?_)
    exact x_iret C hw h dX10_drive_13
set_option maxHeartbeats 4000000 in
set_option maxRecDepth 100000 in
theorem m_X10_drive (l : Launch) {g : xG} (hD : x_D g) (hX : xpX g) {a1 : Int32} {u : xM} {Qf : Int32 → xM → Prop} (h : p_X10_drive a1 u Qf) : Met l yX10_drive (Cond.code yX10_drive cX10_drive 2 (some .int) :: wsL_law) (x_rm 3 130) (va_Pc [.ref (xad g 0), .int a1] (x_B g u)) (x_Qi g Qf) 0 0 (x_A g) := by
  refine Met.ofW (cc := cX10_drive) (maxL := 2) (ret := (some .int)) (by decide) rfl ?_
  intro p e s m args below meth c s₁ B hml hv
  obtain ⟨rfl, hB⟩ := hv
  obtain ⟨C, hw⟩ := x_start B hml hD hB
  have hl := lv_entry [.ref (xad g 0), .int a1] (n := 2) (Nat.le_of_ble_eq_true rfl)
  rw [lg_entry_eq]
  exact s_X10_drive C hX hw hl h
set_option maxHeartbeats 4000000 in
set_option maxRecDepth 100000 in
theorem s_X10_flow {Qf : Int32 → xM → Prop} {a1 : Int32} (C : x_C p s m args meth c g RX10 cX10_flow 2 (some .int)) (hX : xpX g) {u : xM} {H : Heap} {locs : List Loc} {ls : Array Slot} (hw : x_W g s.heap H locs u) (hl : lv_has ls 2 [(0, .ref (xad g 0)), (1, .int a1)]) (h : p_X10_flow a1 u Qf) : W p l e (x_rm 3 130) s m args below meth c H locs 0 0 (MQ below (x_Qi g Qf) args s 0 0 (x_A g)) (F0 m 0 ls []) := by
  unfold p_X10_flow at h
  have hx := C.1
  have hb := C.2.1
  refine lv_aload_n hx hb dX10_flow_0 rfl (lv_at hl 0 rfl) ?_
  refine lv_iload_n hx hb dX10_flow_1 rfl (lv_at hl 1 rfl) ?_
  refine x_callz hw (x_runV (ci := 10) C hw (m_X10_isDoor l C.2.2.2.2.2.2.2.2.1 hX h) (xoX_0 hX) rfl (x_gV xw_962 xw_963 xw_964 xw_2 xw_965) rfl rfl qX10_isDoor ⟨(Nat.le_of_ble_eq_true rfl), (Nat.le_of_ble_eq_true rfl)⟩ rfl hl.1 rfl (Nat.le_of_ble_eq_true rfl) dX10_flow_2) (fun r2 u1 H locs hw h => ?_)
  refine lv_if_ne (tgt := 14) hx hb dX10_flow_5 (by decide) (fun c3 => ?_) (fun c3 => ?_)
  · have h := h.1 (xb_t c3)
    refine lv_aload_n hx hb dX10_flow_14 rfl (lv_at hl 0 rfl) ?_
    refine lv_aload_n hx hb dX10_flow_15 rfl (lv_at hl 0 rfl) ?_
    refine x_callr hw (x_runV (ci := 10) C hw (m_X10_asItFlows l C.2.2.2.2.2.2.2.2.1 hX h) (xoX_0 hX) rfl (x_gV xw_1016 xw_1017 xw_1018 xw_2 xw_1019) rfl rfl qX10_asItFlows ⟨(Nat.le_of_ble_eq_true rfl), (Nat.le_of_ble_eq_true rfl)⟩ rfl hl.1 rfl (Nat.le_of_ble_eq_true rfl) dX10_flow_16) (fun u4 H locs hw h => ?_)
    refine x_getr (ci := 1) C hw 13 (xoL_0 (xpL_83 hX)) rfl inlX1 (by decide) rfl rfl (xrL_0_13 (xpL_83 hX)) xw_1064 dX10_flow_19 ?_
    refine lv_iload_n hx hb dX10_flow_22 rfl (lv_at hl 1 rfl) ?_
    have c5 := h.1
    have h := h.2
    refine x_iald C hw (xoL_25 (xpL_83 hX)) c5 dX10_flow_23 ?_
    refine x_calli hw (x_runV (ci := 10) C hw (m_X10_fine l C.2.2.2.2.2.2.2.2.1 hX h) (xoX_0 hX) rfl (x_gV xw_622 xw_623 xw_624 xw_2 xw_625) rfl rfl qX10_fine ⟨(Nat.le_of_ble_eq_true rfl), (Nat.le_of_ble_eq_true rfl)⟩ rfl hl.1 rfl (Nat.le_of_ble_eq_true rfl) dX10_flow_24) (fun r7 u6 H locs hw h => ?_)
    exact x_iret C hw h dX10_flow_27
  · have h := h.2 (xb_f c3)
    refine lv_aload_n hx hb dX10_flow_8 rfl (lv_at hl 0 rfl) ?_
    refine lv_iconst (v := 1) hx hb dX10_flow_9 (by decide) ?_
    refine x_calli hw (x_runV (ci := 10) C hw (m_X10_none l C.2.2.2.2.2.2.2.2.1 hX h) (xoX_0 hX) rfl (x_gV xw_343 xw_344 xw_345 xw_2 xw_346) rfl rfl qX10_none ⟨(Nat.le_of_ble_eq_true rfl), (Nat.le_of_ble_eq_true rfl)⟩ rfl hl.1 rfl (Nat.le_of_ble_eq_true rfl) dX10_flow_10) (fun r9 u8 H locs hw h => ?_)
    exact x_iret C hw h dX10_flow_13
set_option maxHeartbeats 4000000 in
set_option maxRecDepth 100000 in
theorem m_X10_flow (l : Launch) {g : xG} (hD : x_D g) (hX : xpX g) {a1 : Int32} {u : xM} {Qf : Int32 → xM → Prop} (h : p_X10_flow a1 u Qf) : Met l yX10_flow (Cond.code yX10_flow cX10_flow 2 (some .int) :: wsL_law) (x_rm 3 130) (va_Pc [.ref (xad g 0), .int a1] (x_B g u)) (x_Qi g Qf) 0 0 (x_A g) := by
  refine Met.ofW (cc := cX10_flow) (maxL := 2) (ret := (some .int)) (by decide) rfl ?_
  intro p e s m args below meth c s₁ B hml hv
  obtain ⟨rfl, hB⟩ := hv
  obtain ⟨C, hw⟩ := x_start B hml hD hB
  have hl := lv_entry [.ref (xad g 0), .int a1] (n := 2) (Nat.le_of_ble_eq_true rfl)
  rw [lg_entry_eq]
  exact s_X10_flow C hX hw hl h
set_option maxHeartbeats 4000000 in
set_option maxRecDepth 100000 in
theorem s_X10_flowOpen {Qf : Int32 → xM → Prop} {a1 : Int32} (C : x_C p s m args meth c g RX10 cX10_flowOpen 2 (some .int)) (hX : xpX g) {u : xM} {H : Heap} {locs : List Loc} {ls : Array Slot} (hw : x_W g s.heap H locs u) (hl : lv_has ls 2 [(0, .ref (xad g 0)), (1, .int a1)]) (h : p_X10_flowOpen a1 u Qf) : W p l e (x_rm 3 130) s m args below meth c H locs 0 0 (MQ below (x_Qi g Qf) args s 0 0 (x_A g)) (F0 m 0 ls []) := by
  unfold p_X10_flowOpen at h
  have hx := C.1
  have hb := C.2.1
  refine lv_aload_n hx hb dX10_flowOpen_0 rfl (lv_at hl 0 rfl) ?_
  refine lv_iload_n hx hb dX10_flowOpen_1 rfl (lv_at hl 1 rfl) ?_
  refine x_callz hw (x_runV (ci := 10) C hw (m_X10_isDoor l C.2.2.2.2.2.2.2.2.1 hX h) (xoX_0 hX) rfl (x_gV xw_962 xw_963 xw_964 xw_2 xw_965) rfl rfl qX10_isDoor ⟨(Nat.le_of_ble_eq_true rfl), (Nat.le_of_ble_eq_true rfl)⟩ rfl hl.1 rfl (Nat.le_of_ble_eq_true rfl) dX10_flowOpen_2) (fun r2 u1 H locs hw h => ?_)
  refine lv_if_ne (tgt := 14) hx hb dX10_flowOpen_5 (by decide) (fun c3 => ?_) (fun c3 => ?_)
  · have h := h.1 (xb_t c3)
    refine lv_aload_n hx hb dX10_flowOpen_14 rfl (lv_at hl 0 rfl) ?_
    refine lv_aload_n hx hb dX10_flowOpen_15 rfl (lv_at hl 0 rfl) ?_
    refine x_callr hw (x_runV (ci := 10) C hw (m_X10_asItFlows l C.2.2.2.2.2.2.2.2.1 hX h) (xoX_0 hX) rfl (x_gV xw_1016 xw_1017 xw_1018 xw_2 xw_1019) rfl rfl qX10_asItFlows ⟨(Nat.le_of_ble_eq_true rfl), (Nat.le_of_ble_eq_true rfl)⟩ rfl hl.1 rfl (Nat.le_of_ble_eq_true rfl) dX10_flowOpen_16) (fun u4 H locs hw h => ?_)
    refine x_getr (ci := 1) C hw 12 (xoL_0 (xpL_83 hX)) rfl inlX1 (by decide) rfl rfl (xrL_0_12 (xpL_83 hX)) xw_1081 dX10_flowOpen_19 ?_
    refine lv_iload_n hx hb dX10_flowOpen_22 rfl (lv_at hl 1 rfl) ?_
    have c5 := h.1
    have h := h.2
    refine x_iald C hw (xoL_24 (xpL_83 hX)) c5 dX10_flowOpen_23 ?_
    refine x_calli hw (x_runV (ci := 10) C hw (m_X10_fine l C.2.2.2.2.2.2.2.2.1 hX h) (xoX_0 hX) rfl (x_gV xw_622 xw_623 xw_624 xw_2 xw_625) rfl rfl qX10_fine ⟨(Nat.le_of_ble_eq_true rfl), (Nat.le_of_ble_eq_true rfl)⟩ rfl hl.1 rfl (Nat.le_of_ble_eq_true rfl) dX10_flowOpen_24) (fun r7 u6 H locs hw h => ?_)
    exact x_iret C hw h dX10_flowOpen_27
  · have h := h.2 (xb_f c3)
    refine lv_aload_n hx hb dX10_flowOpen_8 rfl (lv_at hl 0 rfl) ?_
    refine lv_iconst (v := 1) hx hb dX10_flowOpen_9 (by decide) ?_
    refine x_calli hw (x_runV (ci := 10) C hw (m_X10_none l C.2.2.2.2.2.2.2.2.1 hX h) (xoX_0 hX) rfl (x_gV xw_343 xw_344 xw_345 xw_2 xw_346) rfl rfl qX10_none ⟨(Nat.le_of_ble_eq_true rfl), (Nat.le_of_ble_eq_true rfl)⟩ rfl hl.1 rfl (Nat.le_of_ble_eq_true rfl) dX10_flowOpen_10) (fun r9 u8 H locs hw h => ?_)
    exact x_iret C hw h dX10_flowOpen_13
set_option maxHeartbeats 4000000 in
set_option maxRecDepth 100000 in
theorem m_X10_flowOpen (l : Launch) {g : xG} (hD : x_D g) (hX : xpX g) {a1 : Int32} {u : xM} {Qf : Int32 → xM → Prop} (h : p_X10_flowOpen a1 u Qf) : Met l yX10_flowOpen (Cond.code yX10_flowOpen cX10_flowOpen 2 (some .int) :: wsL_law) (x_rm 3 130) (va_Pc [.ref (xad g 0), .int a1] (x_B g u)) (x_Qi g Qf) 0 0 (x_A g) := by
  refine Met.ofW (cc := cX10_flowOpen) (maxL := 2) (ret := (some .int)) (by decide) rfl ?_
  intro p e s m args below meth c s₁ B hml hv
  obtain ⟨rfl, hB⟩ := hv
  obtain ⟨C, hw⟩ := x_start B hml hD hB
  have hl := lv_entry [.ref (xad g 0), .int a1] (n := 2) (Nat.le_of_ble_eq_true rfl)
  rw [lg_entry_eq]
  exact s_X10_flowOpen C hX hw hl h
set_option maxHeartbeats 4000000 in
set_option maxRecDepth 100000 in
theorem s_X10_deepest_L6 {Qf : Int32 → xM → Prop} (C : x_C p s m args meth c g RX10 cX10_deepest 4 (some .int)) (hX : xpX g) : ∀ (nn : Nat) {v1 : Int32} {v2 : Int32} {v3 : Int32} {u : xM} {H : Heap} {locs : List Loc} {ls : Array Slot} (hw : x_W g s.heap H locs u) (hl : lv_has ls 4 [(0, .ref (xad g 0)), (1, .int v1), (2, .int v2), (3, .int v3)]) (h : p_X10_deepest_L6 Qf nn v1 v2 v3 u), W p l e (x_rm 1 21) s m args below meth c H locs 0 0 (MQ below (x_Qi g Qf) args s 0 0 (x_A g)) (F0 m 6 ls []) := by
  intro nn
  induction nn with
  | zero => intro v1 v2 v3 u H locs ls hw hl h; exact h.elim
  | succ nn ih =>
    intro v1 v2 v3 u H locs ls hw hl h
    unfold p_X10_deepest_L6 at h
    have hx := C.1
    have hb := C.2.1
    refine lv_iload_n hx hb dX10_deepest_6 rfl (lv_at hl 3 rfl) ?_
    refine lv_aload_n hx hb dX10_deepest_7 rfl (lv_at hl 0 rfl) ?_
    refine x_getr (ci := 10) C hw 0 (xoX_0 hX) rfl inlX10 (by decide) rfl rfl xrX_0_0 xw_16 dX10_deepest_8 ?_
    refine x_getr (ci := 1) C hw 0 (xoL_0 (xpL_83 hX)) rfl inlX1 (by decide) rfl rfl (xrL_0_0 (xpL_83 hX)) xw_858 dX10_deepest_11 ?_
    refine x_geti (ci := 7) C hw 0 (xoL_1 (xpL_83 hX)) rfl inlX7 (by decide) rfl rfl xw_859 dX10_deepest_14 ?_
    refine lv_icmp_ge (tgt := 55) hx hb dX10_deepest_17 (by decide) (fun c1 => ?_) (fun c1 => ?_)
    · have h := h.1 c1
      refine lv_iload_n hx hb dX10_deepest_55 rfl (lv_at hl 1 rfl) ?_
      refine lv_iconst (v := -1) hx hb dX10_deepest_56 (by decide) ?_
      refine lv_icmp_ne (tgt := 69) hx hb dX10_deepest_57 (by decide) (fun c2 => ?_) (fun c2 => ?_)
      · have h := h.1 c2
        refine lv_aload_n hx hb dX10_deepest_69 rfl (lv_at hl 0 rfl) ?_
        refine lv_iload_n hx hb dX10_deepest_70 rfl (lv_at hl 1 rfl) ?_
        refine x_calli hw (x_runV (ci := 10) C hw (m_X10_fine l C.2.2.2.2.2.2.2.2.1 hX h) (xoX_0 hX) rfl (x_gV xw_622 xw_623 xw_624 xw_2 xw_625) rfl rfl qX10_fine ⟨(Nat.le_of_ble_eq_true rfl), (Nat.le_of_ble_eq_true rfl)⟩ rfl hl.1 rfl (Nat.le_of_ble_eq_true rfl) dX10_deepest_71) (fun r4 u3 H locs hw h => ?_)
        exact x_iret C hw h dX10_deepest_74
      · have h := h.2 c2
        refine lv_aload_n hx hb dX10_deepest_60 rfl (lv_at hl 0 rfl) ?_
        refine lv_bipush (v := 6) hx hb dX10_deepest_61 (by decide) ?_
        refine x_calli hw (x_runV (ci := 10) C hw (m_X10_none l C.2.2.2.2.2.2.2.2.1 hX h) (xoX_0 hX) rfl (x_gV xw_343 xw_344 xw_345 xw_2 xw_346) rfl rfl qX10_none ⟨(Nat.le_of_ble_eq_true rfl), (Nat.le_of_ble_eq_true rfl)⟩ rfl hl.1 rfl (Nat.le_of_ble_eq_true rfl) dX10_deepest_63) (fun r6 u5 H locs hw h => ?_)
        refine lv_goto (tgt := 74) hx hb dX10_deepest_66 (by decide) ?_
        exact x_iret C hw h dX10_deepest_74
    · have h := h.2 c1
      refine lv_aload_n hx hb dX10_deepest_20 rfl (lv_at hl 0 rfl) ?_
      refine x_getr (ci := 10) C hw 0 (xoX_0 hX) rfl inlX10 (by decide) rfl rfl xrX_0_0 xw_16 dX10_deepest_21 ?_
      refine x_getr (ci := 1) C hw 0 (xoL_0 (xpL_83 hX)) rfl inlX1 (by decide) rfl rfl (xrL_0_0 (xpL_83 hX)) xw_858 dX10_deepest_24 ?_
      refine lv_iload_n hx hb dX10_deepest_27 rfl (lv_at hl 3 rfl) ?_
      refine x_calli hw (x_runV (ci := 7) C hw (m_X7_depth l C.2.2.2.2.2.2.2.2.1 (xpL_83 hX) h) (xoL_1 (xpL_83 hX)) rfl (x_gV xw_940 xw_874 xw_875 xw_57 xw_876) rfl rfl qX7_depth ⟨(Nat.le_of_ble_eq_true rfl), (Nat.le_of_ble_eq_true rfl)⟩ rfl hl.1 rfl (Nat.le_of_ble_eq_true rfl) dX10_deepest_28) (fun r8 u7 H locs hw h => ?_)
      refine lv_iload_n hx hb dX10_deepest_31 rfl (lv_at hl 2 rfl) ?_
      refine lv_icmp_le (tgt := 49) hx hb dX10_deepest_32 (by decide) (fun c9 => ?_) (fun c9 => ?_)
      · have h := h.1 c9
        obtain ⟨x10, ex10⟩ : ∃ y : Int32, y = v3 + 1 := ⟨_, rfl⟩
        have h := h x10 ex10
        refine lv_iinc (v := x10) (lv' := [(3, .int x10), (0, .ref (xad g 0)), (1, .int v1), (2, .int v2)]) hx hb dX10_deepest_49 hl (k := 3) rfl (by rw [ex10]; rfl) (by decide) rfl (fun ls hl => ?_)
        refine lv_goto (tgt := 6) hx hb dX10_deepest_52 (by decide) ?_
        exact ih hw (lv_sub hl [1, 2, 3, 0] rfl) h
      · have h := h.2 c9
        refine lv_aload_n hx hb dX10_deepest_35 rfl (lv_at hl 0 rfl) ?_
        refine x_getr (ci := 10) C hw 0 (xoX_0 hX) rfl inlX10 (by decide) rfl rfl xrX_0_0 xw_16 dX10_deepest_36 ?_
        refine x_getr (ci := 1) C hw 0 (xoL_0 (xpL_83 hX)) rfl inlX1 (by decide) rfl rfl (xrL_0_0 (xpL_83 hX)) xw_858 dX10_deepest_39 ?_
        refine lv_iload_n hx hb dX10_deepest_42 rfl (lv_at hl 3 rfl) ?_
        refine x_calli hw (x_runV (ci := 7) C hw (m_X7_depth l C.2.2.2.2.2.2.2.2.1 (xpL_83 hX) h) (xoL_1 (xpL_83 hX)) rfl (x_gV xw_940 xw_874 xw_875 xw_57 xw_876) rfl rfl qX7_depth ⟨(Nat.le_of_ble_eq_true rfl), (Nat.le_of_ble_eq_true rfl)⟩ rfl hl.1 rfl (Nat.le_of_ble_eq_true rfl) dX10_deepest_43) (fun r12 u11 H locs hw h => ?_)
        refine lv_istore_n (lv' := [(2, .int r12), (0, .ref (xad g 0)), (1, .int v1), (3, .int v3)]) hx hb dX10_deepest_46 rfl hl (by decide) rfl (fun ls hl => ?_)
        refine lv_iload_n hx hb dX10_deepest_47 rfl (lv_at hl 3 rfl) ?_
        refine lv_istore_n (lv' := [(1, .int v3), (2, .int r12), (0, .ref (xad g 0)), (3, .int v3)]) hx hb dX10_deepest_48 rfl hl (by decide) rfl (fun ls hl => ?_)
        obtain ⟨x13, ex13⟩ : ∃ y : Int32, y = v3 + 1 := ⟨_, rfl⟩
        have h := h x13 ex13
        refine lv_iinc (v := x13) (lv' := [(3, .int x13), (1, .int v3), (2, .int r12), (0, .ref (xad g 0))]) hx hb dX10_deepest_49 hl (k := 3) rfl (by rw [ex13]; rfl) (by decide) rfl (fun ls hl => ?_)
        refine lv_goto (tgt := 6) hx hb dX10_deepest_52 (by decide) ?_
        exact ih hw (lv_sub hl [3, 1, 2, 0] rfl) h
set_option maxHeartbeats 4000000 in
set_option maxRecDepth 100000 in
theorem s_X10_deepest {Qf : Int32 → xM → Prop} (C : x_C p s m args meth c g RX10 cX10_deepest 4 (some .int)) (hX : xpX g) {u : xM} {H : Heap} {locs : List Loc} {ls : Array Slot} (hw : x_W g s.heap H locs u) (hl : lv_has ls 4 [(0, .ref (xad g 0))]) (h : p_X10_deepest  u Qf) : W p l e (x_rm 1 21) s m args below meth c H locs 0 0 (MQ below (x_Qi g Qf) args s 0 0 (x_A g)) (F0 m 0 ls []) := by
  unfold p_X10_deepest at h
  have hx := C.1
  have hb := C.2.1
  refine lv_iconst (v := -1) hx hb dX10_deepest_0 (by decide) ?_
  refine lv_istore_n (lv' := [(1, .int (-1)), (0, .ref (xad g 0))]) hx hb dX10_deepest_1 rfl hl (by decide) rfl (fun ls hl => ?_)
  refine lv_iconst (v := 0) hx hb dX10_deepest_2 (by decide) ?_
  refine lv_istore_n (lv' := [(2, .int 0), (1, .int (-1)), (0, .ref (xad g 0))]) hx hb dX10_deepest_3 rfl hl (by decide) rfl (fun ls hl => ?_)
  refine lv_iconst (v := 0) hx hb dX10_deepest_4 (by decide) ?_
  refine lv_istore_n (lv' := [(3, .int 0), (2, .int 0), (1, .int (-1)), (0, .ref (xad g 0))]) hx hb dX10_deepest_5 rfl hl (by decide) rfl (fun ls hl => ?_)
  obtain ⟨n9, h⟩ := h
  exact s_X10_deepest_L6 C hX n9 hw (lv_sub hl [3, 2, 1, 0] rfl) h
set_option maxHeartbeats 4000000 in
set_option maxRecDepth 100000 in
theorem m_X10_deepest (l : Launch) {g : xG} (hD : x_D g) (hX : xpX g) {u : xM} {Qf : Int32 → xM → Prop} (h : p_X10_deepest  u Qf) : Met l yX10_deepest (Cond.code yX10_deepest cX10_deepest 4 (some .int) :: wsL_law) (x_rm 1 21) (va_Pc [.ref (xad g 0)] (x_B g u)) (x_Qi g Qf) 0 0 (x_A g) := by
  refine Met.ofW (cc := cX10_deepest) (maxL := 4) (ret := (some .int)) (by decide) rfl ?_
  intro p e s m args below meth c s₁ B hml hv
  obtain ⟨rfl, hB⟩ := hv
  obtain ⟨C, hw⟩ := x_start B hml hD hB
  have hl := lv_entry [.ref (xad g 0)] (n := 4) (Nat.le_of_ble_eq_true rfl)
  rw [lg_entry_eq]
  exact s_X10_deepest C hX hw hl h
set_option maxHeartbeats 4000000 in
set_option maxRecDepth 100000 in
theorem s_X10_busiest_L15 {Qf : Int32 → xM → Prop} (C : x_C p s m args meth c g RX10 cX10_busiest 5 (some .int)) (hX : xpX g) : ∀ (nn : Nat) {v2 : Int32} {v3 : Int32} {v4 : Int32} {u : xM} {H : Heap} {locs : List Loc} {ls : Array Slot} (hw : x_W g s.heap H locs u) (hl : lv_has ls 5 [(0, .ref (xad g 0)), (1, .ref (xad g 108)), (2, .int v2), (3, .int v3), (4, .int v4)]) (h : p_X10_busiest_L15 Qf nn v2 v3 v4 u), W p l e (x_rm 3 130) s m args below meth c H locs 0 0 (MQ below (x_Qi g Qf) args s 0 0 (x_A g)) (F0 m 15 ls []) := by
  intro nn
  induction nn with
  | zero => intro v2 v3 v4 u H locs ls hw hl h; exact h.elim
  | succ nn ih =>
    intro v2 v3 v4 u H locs ls hw hl h
    unfold p_X10_busiest_L15 at h
    have hx := C.1
    have hb := C.2.1
    refine lv_iload hx hb dX10_busiest_15 (lv_at hl 4 rfl) ?_
    refine lv_aload_n hx hb dX10_busiest_17 rfl (lv_at hl 0 rfl) ?_
    refine x_getr (ci := 10) C hw 0 (xoX_0 hX) rfl inlX10 (by decide) rfl rfl xrX_0_0 xw_16 dX10_busiest_18 ?_
    refine x_getr (ci := 1) C hw 1 (xoL_0 (xpL_83 hX)) rfl inlX1 (by decide) rfl rfl (xrL_0_1 (xpL_83 hX)) xw_398 dX10_busiest_21 ?_
    refine x_geti (ci := 0) C hw 0 (xoL_9 (xpL_83 hX)) rfl inlX0 (by decide) rfl rfl xw_399 dX10_busiest_24 ?_
    refine lv_icmp_ge (tgt := 58) hx hb dX10_busiest_27 (by decide) (fun c1 => ?_) (fun c1 => ?_)
    · have h := h.1 c1
      refine lv_iload_n hx hb dX10_busiest_58 rfl (lv_at hl 2 rfl) ?_
      refine lv_iconst (v := -1) hx hb dX10_busiest_59 (by decide) ?_
      refine lv_icmp_ne (tgt := 72) hx hb dX10_busiest_60 (by decide) (fun c2 => ?_) (fun c2 => ?_)
      · have h := h.1 c2
        refine lv_aload_n hx hb dX10_busiest_72 rfl (lv_at hl 0 rfl) ?_
        refine lv_iload_n hx hb dX10_busiest_73 rfl (lv_at hl 2 rfl) ?_
        refine x_calli hw (x_runV (ci := 10) C hw (m_X10_fine l C.2.2.2.2.2.2.2.2.1 hX h) (xoX_0 hX) rfl (x_gV xw_622 xw_623 xw_624 xw_2 xw_625) rfl rfl qX10_fine ⟨(Nat.le_of_ble_eq_true rfl), (Nat.le_of_ble_eq_true rfl)⟩ rfl hl.1 rfl (Nat.le_of_ble_eq_true rfl) dX10_busiest_74) (fun r4 u3 H locs hw h => ?_)
        exact x_iret C hw h dX10_busiest_77
      · have h := h.2 c2
        refine lv_aload_n hx hb dX10_busiest_63 rfl (lv_at hl 0 rfl) ?_
        refine lv_bipush (v := 6) hx hb dX10_busiest_64 (by decide) ?_
        refine x_calli hw (x_runV (ci := 10) C hw (m_X10_none l C.2.2.2.2.2.2.2.2.1 hX h) (xoX_0 hX) rfl (x_gV xw_343 xw_344 xw_345 xw_2 xw_346) rfl rfl qX10_none ⟨(Nat.le_of_ble_eq_true rfl), (Nat.le_of_ble_eq_true rfl)⟩ rfl hl.1 rfl (Nat.le_of_ble_eq_true rfl) dX10_busiest_66) (fun r6 u5 H locs hw h => ?_)
        refine lv_goto (tgt := 77) hx hb dX10_busiest_69 (by decide) ?_
        exact x_iret C hw h dX10_busiest_77
    · have h := h.2 c1
      refine lv_aload_n hx hb dX10_busiest_30 rfl (lv_at hl 1 rfl) ?_
      refine lv_iload hx hb dX10_busiest_31 (lv_at hl 4 rfl) ?_
      have c7 := h.1
      have h := h.2
      refine x_iald C hw (xoL_25 (xpL_83 hX)) c7 dX10_busiest_33 ?_
      refine x_mabs C hl.1 xw_1102 (Nat.le_of_ble_eq_true rfl) (Nat.le_of_ble_eq_true rfl) dX10_busiest_34 ?_
      refine lv_topi (fun x8 ex8 => ?_)
      have h := h x8 ex8
      refine lv_iload_n hx hb dX10_busiest_37 rfl (lv_at hl 3 rfl) ?_
      refine lv_icmp_le (tgt := 52) hx hb dX10_busiest_38 (by decide) (fun c9 => ?_) (fun c9 => ?_)
      · have h := h.1 c9
        obtain ⟨x10, ex10⟩ : ∃ y : Int32, y = v4 + 1 := ⟨_, rfl⟩
        have h := h x10 ex10
        refine lv_iinc (v := x10) (lv' := [(4, .int x10), (0, .ref (xad g 0)), (1, .ref (xad g 108)), (2, .int v2), (3, .int v3)]) hx hb dX10_busiest_52 hl (k := 4) rfl (by rw [ex10]; rfl) (by decide) rfl (fun ls hl => ?_)
        refine lv_goto (tgt := 15) hx hb dX10_busiest_55 (by decide) ?_
        exact ih hw (lv_sub hl [1, 2, 3, 4, 0] rfl) h
      · have h := h.2 c9
        refine lv_aload_n hx hb dX10_busiest_41 rfl (lv_at hl 1 rfl) ?_
        refine lv_iload hx hb dX10_busiest_42 (lv_at hl 4 rfl) ?_
        have c11 := h.1
        have h := h.2
        refine x_iald C hw (xoL_25 (xpL_83 hX)) c11 dX10_busiest_44 ?_
        refine x_mabs C hl.1 xw_1102 (Nat.le_of_ble_eq_true rfl) (Nat.le_of_ble_eq_true rfl) dX10_busiest_45 ?_
        refine lv_topi (fun x12 ex12 => ?_)
        have h := h x12 ex12
        refine lv_istore_n (lv' := [(3, .int x12), (0, .ref (xad g 0)), (1, .ref (xad g 108)), (2, .int v2), (4, .int v4)]) hx hb dX10_busiest_48 rfl hl (by decide) rfl (fun ls hl => ?_)
        refine lv_iload hx hb dX10_busiest_49 (lv_at hl 4 rfl) ?_
        refine lv_istore_n (lv' := [(2, .int v4), (3, .int x12), (0, .ref (xad g 0)), (1, .ref (xad g 108)), (4, .int v4)]) hx hb dX10_busiest_51 rfl hl (by decide) rfl (fun ls hl => ?_)
        obtain ⟨x13, ex13⟩ : ∃ y : Int32, y = v4 + 1 := ⟨_, rfl⟩
        have h := h x13 ex13
        refine lv_iinc (v := x13) (lv' := [(4, .int x13), (2, .int v4), (3, .int x12), (0, .ref (xad g 0)), (1, .ref (xad g 108))]) hx hb dX10_busiest_52 hl (k := 4) rfl (by rw [ex13]; rfl) (by decide) rfl (fun ls hl => ?_)
        refine lv_goto (tgt := 15) hx hb dX10_busiest_55 (by decide) ?_
        exact ih hw (lv_sub hl [3, 4, 1, 2, 0] rfl) h
set_option maxHeartbeats 4000000 in
set_option maxRecDepth 100000 in
theorem s_X10_busiest {Qf : Int32 → xM → Prop} (C : x_C p s m args meth c g RX10 cX10_busiest 5 (some .int)) (hX : xpX g) {u : xM} {H : Heap} {locs : List Loc} {ls : Array Slot} (hw : x_W g s.heap H locs u) (hl : lv_has ls 5 [(0, .ref (xad g 0))]) (h : p_X10_busiest  u Qf) : W p l e (x_rm 3 130) s m args below meth c H locs 0 0 (MQ below (x_Qi g Qf) args s 0 0 (x_A g)) (F0 m 0 ls []) := by
  unfold p_X10_busiest at h
  have hx := C.1
  have hb := C.2.1
  refine lv_aload_n hx hb dX10_busiest_0 rfl (lv_at hl 0 rfl) ?_
  refine x_callr hw (x_runV (ci := 10) C hw (m_X10_asItFlows l C.2.2.2.2.2.2.2.2.1 hX h) (xoX_0 hX) rfl (x_gV xw_1016 xw_1017 xw_1018 xw_2 xw_1019) rfl rfl qX10_asItFlows ⟨(Nat.le_of_ble_eq_true rfl), (Nat.le_of_ble_eq_true rfl)⟩ rfl hl.1 rfl (Nat.le_of_ble_eq_true rfl) dX10_busiest_1) (fun u1 H locs hw h => ?_)
  refine x_getr (ci := 1) C hw 13 (xoL_0 (xpL_83 hX)) rfl inlX1 (by decide) rfl rfl (xrL_0_13 (xpL_83 hX)) xw_1064 dX10_busiest_4 ?_
  refine lv_astore_n (lv' := [(1, .ref (xad g 108)), (0, .ref (xad g 0))]) hx hb dX10_busiest_7 rfl hl (by decide) rfl (fun ls hl => ?_)
  refine lv_iconst (v := -1) hx hb dX10_busiest_8 (by decide) ?_
  refine lv_istore_n (lv' := [(2, .int (-1)), (1, .ref (xad g 108)), (0, .ref (xad g 0))]) hx hb dX10_busiest_9 rfl hl (by decide) rfl (fun ls hl => ?_)
  refine lv_iconst (v := 0) hx hb dX10_busiest_10 (by decide) ?_
  refine lv_istore_n (lv' := [(3, .int 0), (2, .int (-1)), (1, .ref (xad g 108)), (0, .ref (xad g 0))]) hx hb dX10_busiest_11 rfl hl (by decide) rfl (fun ls hl => ?_)
  refine lv_iconst (v := 0) hx hb dX10_busiest_12 (by decide) ?_
  refine lv_istore (lv' := [(4, .int 0), (3, .int 0), (2, .int (-1)), (1, .ref (xad g 108)), (0, .ref (xad g 0))]) hx hb dX10_busiest_13 hl (by decide) rfl (fun ls hl => ?_)
  obtain ⟨n9, h⟩ := h
  exact s_X10_busiest_L15 C hX n9 hw (lv_sub hl [4, 3, 2, 1, 0] rfl) h
set_option maxHeartbeats 4000000 in
set_option maxRecDepth 100000 in
theorem m_X10_busiest (l : Launch) {g : xG} (hD : x_D g) (hX : xpX g) {u : xM} {Qf : Int32 → xM → Prop} (h : p_X10_busiest  u Qf) : Met l yX10_busiest (Cond.code yX10_busiest cX10_busiest 5 (some .int) :: wsL_law) (x_rm 3 130) (va_Pc [.ref (xad g 0)] (x_B g u)) (x_Qi g Qf) 0 0 (x_A g) := by
  refine Met.ofW (cc := cX10_busiest) (maxL := 5) (ret := (some .int)) (by decide) rfl ?_
  intro p e s m args below meth c s₁ B hml hv
  obtain ⟨rfl, hB⟩ := hv
  obtain ⟨C, hw⟩ := x_start B hml hD hB
  have hl := lv_entry [.ref (xad g 0)] (n := 5) (Nat.le_of_ble_eq_true rfl)
  rw [lg_entry_eq]
  exact s_X10_busiest C hX hw hl h
set_option maxHeartbeats 4000000 in
set_option maxRecDepth 100000 in
theorem s_X10_spare {Qf : Int32 → xM → Prop} {a1 : Int32} (C : x_C p s m args meth c g RX10 cX10_spare 4 (some .int)) (hX : xpX g) {u : xM} {H : Heap} {locs : List Loc} {ls : Array Slot} (hw : x_W g s.heap H locs u) (hl : lv_has ls 4 [(0, .ref (xad g 0)), (1, .int a1)]) (h : p_X10_spare a1 u Qf) : W p l e (x_rm 1 80) s m args below meth c H locs 0 0 (MQ below (x_Qi g Qf) args s 0 0 (x_A g)) (F0 m 0 ls []) := by
  unfold p_X10_spare at h
  have hx := C.1
  have hb := C.2.1
  refine lv_aload_n hx hb dX10_spare_0 rfl (lv_at hl 0 rfl) ?_
  refine lv_iload_n hx hb dX10_spare_1 rfl (lv_at hl 1 rfl) ?_
  refine x_callz hw (x_runV (ci := 10) C hw (m_X10_isRoom l C.2.2.2.2.2.2.2.2.1 hX h) (xoX_0 hX) rfl (x_gV xw_936 xw_937 xw_938 xw_2 xw_939) rfl rfl qX10_isRoom ⟨(Nat.le_of_ble_eq_true rfl), (Nat.le_of_ble_eq_true rfl)⟩ rfl hl.1 rfl (Nat.le_of_ble_eq_true rfl) dX10_spare_2) (fun r2 u1 H locs hw h => ?_)
  refine lv_if_ne (tgt := 14) hx hb dX10_spare_5 (by decide) (fun c3 => ?_) (fun c3 => ?_)
  · have h := h.1 (xb_t c3)
    refine lv_aload_n hx hb dX10_spare_14 rfl (lv_at hl 0 rfl) ?_
    refine x_getr (ci := 10) C hw 0 (xoX_0 hX) rfl inlX10 (by decide) rfl rfl xrX_0_0 xw_16 dX10_spare_15 ?_
    refine x_getr (ci := 1) C hw 0 (xoL_0 (xpL_83 hX)) rfl inlX1 (by decide) rfl rfl (xrL_0_0 (xpL_83 hX)) xw_858 dX10_spare_18 ?_
    refine lv_astore_n (lv' := [(2, .ref (xad g 84)), (0, .ref (xad g 0)), (1, .int a1)]) hx hb dX10_spare_21 rfl hl (by decide) rfl (fun ls hl => ?_)
    refine lv_aload_n hx hb dX10_spare_22 rfl (lv_at hl 0 rfl) ?_
    refine x_getr (ci := 7) C hw 4 (xoL_1 (xpL_83 hX)) rfl inlX7 (by decide) rfl rfl (xrL_1_4 (xpL_83 hX)) xw_931 dX10_spare_23 ?_
    refine lv_iload_n hx hb dX10_spare_26 rfl (lv_at hl 2 rfl) ?_
    have c4 := h.1
    have h := h.2
    refine x_iald C hw (xoL_4 (xpL_83 hX)) c4 dX10_spare_27 ?_
    refine lv_aload_n hx hb dX10_spare_28 rfl (lv_at hl 0 rfl) ?_
    refine x_getr (ci := 7) C hw 5 (xoL_1 (xpL_83 hX)) rfl inlX7 (by decide) rfl rfl (xrL_1_5 (xpL_83 hX)) xw_932 dX10_spare_29 ?_
    refine lv_iload_n hx hb dX10_spare_32 rfl (lv_at hl 2 rfl) ?_
    have c5 := h.1
    have h := h.2
    refine x_iald C hw (xoL_5 (xpL_83 hX)) c5 dX10_spare_33 ?_
    refine lv_iconst (v := 1) hx hb dX10_spare_34 (by decide) ?_
    refine lv_iadd hx hb dX10_spare_35 ?_
    refine lv_imul hx hb dX10_spare_36 ?_
    refine lv_iconst (v := 1) hx hb dX10_spare_37 (by decide) ?_
    refine lv_isub hx hb dX10_spare_38 ?_
    refine lv_topi (fun x6 ex6 => ?_)
    have h := h x6 ex6
    refine lv_istore_n (lv' := [(3, .int x6), (2, .ref (xad g 84)), (0, .ref (xad g 0)), (1, .int a1)]) hx hb dX10_spare_39 rfl hl (by decide) rfl (fun ls hl => ?_)
    refine lv_aload_n hx hb dX10_spare_40 rfl (lv_at hl 2 rfl) ?_
    refine lv_iconst (v := 0) hx hb dX10_spare_41 (by decide) ?_
    refine lv_iload_n hx hb dX10_spare_42 rfl (lv_at hl 0 rfl) ?_
    refine lv_aload_n hx hb dX10_spare_43 rfl (lv_at hl 1 rfl) ?_
    refine x_getr (ci := 7) C hw 7 (xoL_1 (xpL_83 hX)) rfl inlX7 (by decide) rfl rfl (xrL_1_7 (xpL_83 hX)) xw_934 dX10_spare_44 ?_
    refine lv_iload_n hx hb dX10_spare_47 rfl (lv_at hl 3 rfl) ?_
    have c7 := h.1
    have h := h.2
    refine x_iald C hw (xoL_7 (xpL_83 hX)) c7 dX10_spare_48 ?_
    refine lv_isub hx hb dX10_spare_49 ?_
    refine x_mmax C hl.1 xw_1111 (Nat.le_of_ble_eq_true rfl) (Nat.le_of_ble_eq_true rfl) dX10_spare_50 ?_
    refine lv_topi (fun x8 ex8 => ?_)
    have h := h x8 ex8
    refine x_calli hw (x_runV (ci := 10) C hw (m_X10_fine l C.2.2.2.2.2.2.2.2.1 hX h) (xoX_0 hX) rfl (x_gV xw_622 xw_623 xw_624 xw_2 xw_625) rfl rfl qX10_fine ⟨(Nat.le_of_ble_eq_true rfl), (Nat.le_of_ble_eq_true rfl)⟩ rfl hl.1 rfl (Nat.le_of_ble_eq_true rfl) dX10_spare_53) (fun r10 u9 H locs hw h => ?_)
    exact x_iret C hw h dX10_spare_56
  · have h := h.2 (xb_f c3)
    refine lv_aload_n hx hb dX10_spare_8 rfl (lv_at hl 0 rfl) ?_
    refine lv_iconst (v := 1) hx hb dX10_spare_9 (by decide) ?_
    refine x_calli hw (x_runV (ci := 10) C hw (m_X10_none l C.2.2.2.2.2.2.2.2.1 hX h) (xoX_0 hX) rfl (x_gV xw_343 xw_344 xw_345 xw_2 xw_346) rfl rfl qX10_none ⟨(Nat.le_of_ble_eq_true rfl), (Nat.le_of_ble_eq_true rfl)⟩ rfl hl.1 rfl (Nat.le_of_ble_eq_true rfl) dX10_spare_10) (fun r12 u11 H locs hw h => ?_)
    exact x_iret C hw h dX10_spare_13
set_option maxHeartbeats 4000000 in
set_option maxRecDepth 100000 in
theorem m_X10_spare (l : Launch) {g : xG} (hD : x_D g) (hX : xpX g) {a1 : Int32} {u : xM} {Qf : Int32 → xM → Prop} (h : p_X10_spare a1 u Qf) : Met l yX10_spare (Cond.code yX10_spare cX10_spare 4 (some .int) :: wsL_law) (x_rm 1 80) (va_Pc [.ref (xad g 0), .int a1] (x_B g u)) (x_Qi g Qf) 0 0 (x_A g) := by
  refine Met.ofW (cc := cX10_spare) (maxL := 4) (ret := (some .int)) (by decide) rfl ?_
  intro p e s m args below meth c s₁ B hml hv
  obtain ⟨rfl, hB⟩ := hv
  obtain ⟨C, hw⟩ := x_start B hml hD hB
  have hl := lv_entry [.ref (xad g 0), .int a1] (n := 4) (Nat.le_of_ble_eq_true rfl)
  rw [lg_entry_eq]
  exact s_X10_spare C hX hw hl h
set_option maxHeartbeats 4000000 in
set_option maxRecDepth 100000 in
theorem s_X10_low_L4 {Qf : Int32 → xM → Prop} (C : x_C p s m args meth c g RX10 cX10_low 3 (some .int)) (hX : xpX g) : ∀ (nn : Nat) {v1 : Int32} {v2 : Int32} {u : xM} {H : Heap} {locs : List Loc} {ls : Array Slot} (hw : x_W g s.heap H locs u) (hl : lv_has ls 3 [(0, .ref (xad g 0)), (1, .int v1), (2, .int v2)]) (h : p_X10_low_L4 Qf nn v1 v2 u), W p l e (x_rm 1 21) s m args below meth c H locs 0 0 (MQ below (x_Qi g Qf) args s 0 0 (x_A g)) (F0 m 4 ls []) := by
  intro nn
  induction nn with
  | zero => intro v1 v2 u H locs ls hw hl h; exact h.elim
  | succ nn ih =>
    intro v1 v2 u H locs ls hw hl h
    unfold p_X10_low_L4 at h
    have hx := C.1
    have hb := C.2.1
    refine lv_iload_n hx hb dX10_low_4 rfl (lv_at hl 2 rfl) ?_
    refine lv_bipush (v := 12) hx hb dX10_low_5 (by decide) ?_
    refine lv_icmp_ge (tgt := 39) hx hb dX10_low_7 (by decide) (fun c1 => ?_) (fun c1 => ?_)
    · have h := h.1 c1
      refine lv_aload_n hx hb dX10_low_39 rfl (lv_at hl 0 rfl) ?_
      refine lv_iload_n hx hb dX10_low_40 rfl (lv_at hl 1 rfl) ?_
      refine x_calli hw (x_runV (ci := 10) C hw (m_X10_fine l C.2.2.2.2.2.2.2.2.1 hX h) (xoX_0 hX) rfl (x_gV xw_622 xw_623 xw_624 xw_2 xw_625) rfl rfl qX10_fine ⟨(Nat.le_of_ble_eq_true rfl), (Nat.le_of_ble_eq_true rfl)⟩ rfl hl.1 rfl (Nat.le_of_ble_eq_true rfl) dX10_low_41) (fun r3 u2 H locs hw h => ?_)
      exact x_iret C hw h dX10_low_44
    · have h := h.2 c1
      refine lv_aload_n hx hb dX10_low_10 rfl (lv_at hl 0 rfl) ?_
      refine x_getr (ci := 10) C hw 0 (xoX_0 hX) rfl inlX10 (by decide) rfl rfl xrX_0_0 xw_16 dX10_low_11 ?_
      refine x_getr (ci := 1) C hw 7 (xoL_0 (xpL_83 hX)) rfl inlX1 (by decide) rfl rfl (xrL_0_7 (xpL_83 hX)) xw_1000 dX10_low_14 ?_
      refine lv_iload_n hx hb dX10_low_17 rfl (lv_at hl 2 rfl) ?_
      have c4 := h.1
      have h := h.2
      refine x_iald C hw (xoL_21 (xpL_83 hX)) c4 dX10_low_18 ?_
      refine lv_aload_n hx hb dX10_low_19 rfl (lv_at hl 0 rfl) ?_
      refine x_getr (ci := 10) C hw 0 (xoX_0 hX) rfl inlX10 (by decide) rfl rfl xrX_0_0 xw_16 dX10_low_20 ?_
      refine x_getr (ci := 1) C hw 7 (xoL_0 (xpL_83 hX)) rfl inlX1 (by decide) rfl rfl (xrL_0_7 (xpL_83 hX)) xw_1000 dX10_low_23 ?_
      refine lv_iload_n hx hb dX10_low_26 rfl (lv_at hl 1 rfl) ?_
      have c5 := h.1
      have h := h.2
      refine x_iald C hw (xoL_21 (xpL_83 hX)) c5 dX10_low_27 ?_
      refine lv_icmp_ge (tgt := 33) hx hb dX10_low_28 (by decide) (fun c6 => ?_) (fun c6 => ?_)
      · have h := h.1 c6
        obtain ⟨x7, ex7⟩ : ∃ y : Int32, y = v2 + 1 := ⟨_, rfl⟩
        have h := h x7 ex7
        refine lv_iinc (v := x7) (lv' := [(2, .int x7), (0, .ref (xad g 0)), (1, .int v1)]) hx hb dX10_low_33 hl (k := 2) rfl (by rw [ex7]; rfl) (by decide) rfl (fun ls hl => ?_)
        refine lv_goto (tgt := 4) hx hb dX10_low_36 (by decide) ?_
        exact ih hw (lv_sub hl [1, 2, 0] rfl) h
      · have h := h.2 c6
        refine lv_iload_n hx hb dX10_low_31 rfl (lv_at hl 2 rfl) ?_
        refine lv_istore_n (lv' := [(1, .int v2), (0, .ref (xad g 0)), (2, .int v2)]) hx hb dX10_low_32 rfl hl (by decide) rfl (fun ls hl => ?_)
        obtain ⟨x8, ex8⟩ : ∃ y : Int32, y = v2 + 1 := ⟨_, rfl⟩
        have h := h x8 ex8
        refine lv_iinc (v := x8) (lv' := [(2, .int x8), (1, .int v2), (0, .ref (xad g 0))]) hx hb dX10_low_33 hl (k := 2) rfl (by rw [ex8]; rfl) (by decide) rfl (fun ls hl => ?_)
        refine lv_goto (tgt := 4) hx hb dX10_low_36 (by decide) ?_
        exact ih hw (lv_sub hl [2, 1, 0] rfl) h
set_option maxHeartbeats 4000000 in
set_option maxRecDepth 100000 in
theorem s_X10_low {Qf : Int32 → xM → Prop} (C : x_C p s m args meth c g RX10 cX10_low 3 (some .int)) (hX : xpX g) {u : xM} {H : Heap} {locs : List Loc} {ls : Array Slot} (hw : x_W g s.heap H locs u) (hl : lv_has ls 3 [(0, .ref (xad g 0))]) (h : p_X10_low  u Qf) : W p l e (x_rm 1 21) s m args below meth c H locs 0 0 (MQ below (x_Qi g Qf) args s 0 0 (x_A g)) (F0 m 0 ls []) := by
  unfold p_X10_low at h
  have hx := C.1
  have hb := C.2.1
  refine lv_iconst (v := 0) hx hb dX10_low_0 (by decide) ?_
  refine lv_istore_n (lv' := [(1, .int 0), (0, .ref (xad g 0))]) hx hb dX10_low_1 rfl hl (by decide) rfl (fun ls hl => ?_)
  refine lv_iconst (v := 1) hx hb dX10_low_2 (by decide) ?_
  refine lv_istore_n (lv' := [(2, .int 1), (1, .int 0), (0, .ref (xad g 0))]) hx hb dX10_low_3 rfl hl (by decide) rfl (fun ls hl => ?_)
  obtain ⟨n9, h⟩ := h
  exact s_X10_low_L4 C hX n9 hw (lv_sub hl [2, 1, 0] rfl) h
set_option maxHeartbeats 4000000 in
set_option maxRecDepth 100000 in
theorem m_X10_low (l : Launch) {g : xG} (hD : x_D g) (hX : xpX g) {u : xM} {Qf : Int32 → xM → Prop} (h : p_X10_low  u Qf) : Met l yX10_low (Cond.code yX10_low cX10_low 3 (some .int) :: wsL_law) (x_rm 1 21) (va_Pc [.ref (xad g 0)] (x_B g u)) (x_Qi g Qf) 0 0 (x_A g) := by
  refine Met.ofW (cc := cX10_low) (maxL := 3) (ret := (some .int)) (by decide) rfl ?_
  intro p e s m args below meth c s₁ B hml hv
  obtain ⟨rfl, hB⟩ := hv
  obtain ⟨C, hw⟩ := x_start B hml hD hB
  have hl := lv_entry [.ref (xad g 0)] (n := 3) (Nat.le_of_ble_eq_true rfl)
  rw [lg_entry_eq]
  exact s_X10_low C hX hw hl h
set_option maxHeartbeats 4000000 in
set_option maxRecDepth 100000 in
theorem s_X10_high_L18 {Qf : Int32 → xM → Prop} (C : x_C p s m args meth c g RX10 cX10_high 4 (some .int)) (hX : xpX g) : ∀ (nn : Nat) {v1 : Int32} {v2 : Int32} {v3 : Int32} {u : xM} {H : Heap} {locs : List Loc} {ls : Array Slot} (hw : x_W g s.heap H locs u) (hl : lv_has ls 4 [(0, .ref (xad g 0)), (1, .int v1), (2, .int v2), (3, .int v3)]) (h : p_X10_high_L18 Qf nn v1 v2 v3 u), W p l e (x_rm 1 21) s m args below meth c H locs 0 0 (MQ below (x_Qi g Qf) args s 0 0 (x_A g)) (F0 m 18 ls []) := by
  intro nn
  induction nn with
  | zero => intro v1 v2 v3 u H locs ls hw hl h; exact h.elim
  | succ nn ih =>
    intro v1 v2 v3 u H locs ls hw hl h
    unfold p_X10_high_L18 at h
    have hx := C.1
    have hb := C.2.1
    refine lv_iload_n hx hb dX10_high_18 rfl (lv_at hl 3 rfl) ?_
    refine lv_bipush (v := 12) hx hb dX10_high_19 (by decide) ?_
    refine lv_icmp_ge (tgt := 60) hx hb dX10_high_21 (by decide) (fun c1 => ?_) (fun c1 => ?_)
    · have h := h.1 c1
      refine lv_aload_n hx hb dX10_high_60 rfl (lv_at hl 0 rfl) ?_
      refine lv_iload_n hx hb dX10_high_61 rfl (lv_at hl 2 rfl) ?_
      refine x_calli hw (x_runV (ci := 10) C hw (m_X10_fine l C.2.2.2.2.2.2.2.2.1 hX h) (xoX_0 hX) rfl (x_gV xw_622 xw_623 xw_624 xw_2 xw_625) rfl rfl qX10_fine ⟨(Nat.le_of_ble_eq_true rfl), (Nat.le_of_ble_eq_true rfl)⟩ rfl hl.1 rfl (Nat.le_of_ble_eq_true rfl) dX10_high_62) (fun r3 u2 H locs hw h => ?_)
      exact x_iret C hw h dX10_high_65
    · have h := h.2 c1
      refine lv_aload_n hx hb dX10_high_24 rfl (lv_at hl 0 rfl) ?_
      refine x_getr (ci := 10) C hw 0 (xoX_0 hX) rfl inlX10 (by decide) rfl rfl xrX_0_0 xw_16 dX10_high_25 ?_
      refine x_getr (ci := 1) C hw 7 (xoL_0 (xpL_83 hX)) rfl inlX1 (by decide) rfl rfl (xrL_0_7 (xpL_83 hX)) xw_1000 dX10_high_28 ?_
      refine lv_iload_n hx hb dX10_high_31 rfl (lv_at hl 3 rfl) ?_
      have c4 := h.1
      have h := h.2
      refine x_iald C hw (xoL_21 (xpL_83 hX)) c4 dX10_high_32 ?_
      refine lv_aload_n hx hb dX10_high_33 rfl (lv_at hl 0 rfl) ?_
      refine x_getr (ci := 10) C hw 0 (xoX_0 hX) rfl inlX10 (by decide) rfl rfl xrX_0_0 xw_16 dX10_high_34 ?_
      refine x_getr (ci := 1) C hw 1 (xoL_0 (xpL_83 hX)) rfl inlX1 (by decide) rfl rfl (xrL_0_1 (xpL_83 hX)) xw_398 dX10_high_37 ?_
      refine x_getr (ci := 0) C hw 6 (xoL_9 (xpL_83 hX)) rfl inlX0 (by decide) rfl rfl (xrL_9_6 (xpL_83 hX)) xw_959 dX10_high_40 ?_
      refine lv_iload_n hx hb dX10_high_43 rfl (lv_at hl 1 rfl) ?_
      have c5 := h.1
      have h := h.2
      refine x_iald C hw (xoL_13 (xpL_83 hX)) c5 dX10_high_44 ?_
      refine lv_icmp_le (tgt := 54) hx hb dX10_high_45 (by decide) (fun c6 => ?_) (fun c6 => ?_)
      · have h := h.1 c6
        obtain ⟨x7, ex7⟩ : ∃ y : Int32, y = v3 + 1 := ⟨_, rfl⟩
        have h := h x7 ex7
        refine lv_iinc (v := x7) (lv' := [(3, .int x7), (0, .ref (xad g 0)), (1, .int v1), (2, .int v2)]) hx hb dX10_high_54 hl (k := 3) rfl (by rw [ex7]; rfl) (by decide) rfl (fun ls hl => ?_)
        refine lv_goto (tgt := 18) hx hb dX10_high_57 (by decide) ?_
        exact ih hw (lv_sub hl [1, 2, 3, 0] rfl) h
      · have h := h.2 c6
        refine lv_iload_n hx hb dX10_high_48 rfl (lv_at hl 2 rfl) ?_
        refine lv_iconst (v := 1) hx hb dX10_high_49 (by decide) ?_
        refine lv_iload_n hx hb dX10_high_50 rfl (lv_at hl 3 rfl) ?_
        refine lv_ishl hx hb dX10_high_51 ?_
        refine lv_ior hx hb dX10_high_52 ?_
        refine lv_topi (fun x8 ex8 => ?_)
        have h := h x8 ex8
        refine lv_istore_n (lv' := [(2, .int x8), (0, .ref (xad g 0)), (1, .int v1), (3, .int v3)]) hx hb dX10_high_53 rfl hl (by decide) rfl (fun ls hl => ?_)
        obtain ⟨x9, ex9⟩ : ∃ y : Int32, y = v3 + 1 := ⟨_, rfl⟩
        have h := h x9 ex9
        refine lv_iinc (v := x9) (lv' := [(3, .int x9), (2, .int x8), (0, .ref (xad g 0)), (1, .int v1)]) hx hb dX10_high_54 hl (k := 3) rfl (by rw [ex9]; rfl) (by decide) rfl (fun ls hl => ?_)
        refine lv_goto (tgt := 18) hx hb dX10_high_57 (by decide) ?_
        exact ih hw (lv_sub hl [2, 3, 1, 0] rfl) h
set_option maxHeartbeats 4000000 in
set_option maxRecDepth 100000 in
theorem s_X10_high {Qf : Int32 → xM → Prop} {a1 : Int32} (C : x_C p s m args meth c g RX10 cX10_high 4 (some .int)) (hX : xpX g) {u : xM} {H : Heap} {locs : List Loc} {ls : Array Slot} (hw : x_W g s.heap H locs u) (hl : lv_has ls 4 [(0, .ref (xad g 0)), (1, .int a1)]) (h : p_X10_high a1 u Qf) : W p l e (x_rm 1 21) s m args below meth c H locs 0 0 (MQ below (x_Qi g Qf) args s 0 0 (x_A g)) (F0 m 0 ls []) := by
  unfold p_X10_high at h
  have hx := C.1
  have hb := C.2.1
  refine lv_aload_n hx hb dX10_high_0 rfl (lv_at hl 0 rfl) ?_
  refine lv_iload_n hx hb dX10_high_1 rfl (lv_at hl 1 rfl) ?_
  refine x_callz hw (x_runV (ci := 10) C hw (m_X10_isDoor l C.2.2.2.2.2.2.2.2.1 hX h) (xoX_0 hX) rfl (x_gV xw_962 xw_963 xw_964 xw_2 xw_965) rfl rfl qX10_isDoor ⟨(Nat.le_of_ble_eq_true rfl), (Nat.le_of_ble_eq_true rfl)⟩ rfl hl.1 rfl (Nat.le_of_ble_eq_true rfl) dX10_high_2) (fun r2 u1 H locs hw h => ?_)
  refine lv_if_ne (tgt := 14) hx hb dX10_high_5 (by decide) (fun c3 => ?_) (fun c3 => ?_)
  · have h := h.1 (xb_t c3)
    refine lv_iconst (v := 0) hx hb dX10_high_14 (by decide) ?_
    refine lv_istore_n (lv' := [(2, .int 0), (0, .ref (xad g 0)), (1, .int a1)]) hx hb dX10_high_15 rfl hl (by decide) rfl (fun ls hl => ?_)
    refine lv_iconst (v := 0) hx hb dX10_high_16 (by decide) ?_
    refine lv_istore_n (lv' := [(3, .int 0), (2, .int 0), (0, .ref (xad g 0)), (1, .int a1)]) hx hb dX10_high_17 rfl hl (by decide) rfl (fun ls hl => ?_)
    obtain ⟨n9, h⟩ := h
    exact s_X10_high_L18 C hX n9 hw (lv_sub hl [2, 3, 1, 0] rfl) h
  · have h := h.2 (xb_f c3)
    refine lv_aload_n hx hb dX10_high_8 rfl (lv_at hl 0 rfl) ?_
    refine lv_iconst (v := 1) hx hb dX10_high_9 (by decide) ?_
    refine x_calli hw (x_runV (ci := 10) C hw (m_X10_none l C.2.2.2.2.2.2.2.2.1 hX h) (xoX_0 hX) rfl (x_gV xw_343 xw_344 xw_345 xw_2 xw_346) rfl rfl qX10_none ⟨(Nat.le_of_ble_eq_true rfl), (Nat.le_of_ble_eq_true rfl)⟩ rfl hl.1 rfl (Nat.le_of_ble_eq_true rfl) dX10_high_10) (fun r5 u4 H locs hw h => ?_)
    exact x_iret C hw h dX10_high_13
set_option maxHeartbeats 4000000 in
set_option maxRecDepth 100000 in
theorem m_X10_high (l : Launch) {g : xG} (hD : x_D g) (hX : xpX g) {a1 : Int32} {u : xM} {Qf : Int32 → xM → Prop} (h : p_X10_high a1 u Qf) : Met l yX10_high (Cond.code yX10_high cX10_high 4 (some .int) :: wsL_law) (x_rm 1 21) (va_Pc [.ref (xad g 0), .int a1] (x_B g u)) (x_Qi g Qf) 0 0 (x_A g) := by
  refine Met.ofW (cc := cX10_high) (maxL := 4) (ret := (some .int)) (by decide) rfl ?_
  intro p e s m args below meth c s₁ B hml hv
  obtain ⟨rfl, hB⟩ := hv
  obtain ⟨C, hw⟩ := x_start B hml hD hB
  have hl := lv_entry [.ref (xad g 0), .int a1] (n := 4) (Nat.le_of_ble_eq_true rfl)
  rw [lg_entry_eq]
  exact s_X10_high C hX hw hl h
set_option maxHeartbeats 4000000 in
set_option maxRecDepth 100000 in
theorem s_X0_all {o : Nat} {Qf : Int32 → xM → Prop} (C : x_C p s m args meth c g RX0 cX0_all 1 (some .int)) (ho : xpL g o) {u : xM} {H : Heap} {locs : List Loc} {ls : Array Slot} (hw : x_W g s.heap H locs u) (hl : lv_has ls 1 [(0, .ref (xad g (o + 9)))]) (h : p_X0_all o u Qf) : W p l e (x_rm 0 0) s m args below meth c H locs 0 0 (MQ below (x_Qi g Qf) args s 0 0 (x_A g)) (F0 m 0 ls []) := by
  unfold p_X0_all at h
  have hx := C.1
  have hb := C.2.1
  refine lv_iconst (v := 1) hx hb dX0_all_0 (by decide) ?_
  refine lv_aload_n hx hb dX0_all_1 rfl (lv_at hl 0 rfl) ?_
  refine x_geti (ci := 0) C hw 0 (xoL_9 ho) rfl inlX0 (by decide) rfl rfl xw_420 dX0_all_2 ?_
  refine lv_ishl hx hb dX0_all_5 ?_
  refine lv_iconst (v := 1) hx hb dX0_all_6 (by decide) ?_
  refine lv_isub hx hb dX0_all_7 ?_
  exact x_iret C hw h dX0_all_8
set_option maxHeartbeats 4000000 in
set_option maxRecDepth 100000 in
theorem m_X0_all (l : Launch) {g : xG} (hD : x_D g) {o : Nat} (ho : xpL g o) {u : xM} {Qf : Int32 → xM → Prop} (h : p_X0_all o u Qf) : Met l yX0_all (Cond.code yX0_all cX0_all 1 (some .int) :: wsL_law) (x_rm 0 0) (va_Pc [.ref (xad g (o + 9))] (x_B g u)) (x_Qi g Qf) 0 0 (x_A g) := by
  refine Met.ofW (cc := cX0_all) (maxL := 1) (ret := (some .int)) (by decide) rfl ?_
  intro p e s m args below meth c s₁ B hml hv
  obtain ⟨rfl, hB⟩ := hv
  obtain ⟨C, hw⟩ := x_start B hml hD hB
  have hl := lv_entry [.ref (xad g (o + 9))] (n := 1) (Nat.le_of_ble_eq_true rfl)
  rw [lg_entry_eq]
  exact s_X0_all C ho hw hl h
set_option maxHeartbeats 4000000 in
set_option maxRecDepth 100000 in
theorem s_X0_toSea_L34 {o : Nat} {Qf : Int32 → xM → Prop} {K4 : Int32 → Int32 → xM → Prop} (C : x_C p s m args meth c g RX0 cX0_toSea 3 (some .int)) (ho : xpL g o) (hK4 : ∀ {v1 : Int32} {v2 : Int32} {u : xM} {H : Heap} {locs : List Loc} {ls : Array Slot}, x_W g s.heap H locs u → lv_has ls 3 [(0, .ref (xad g (o + 9))), (1, .int v1), (2, .int v2)] → K4 v1 v2 u → W p l e (x_rm 0 0) s m args below meth c H locs 0 0 (MQ below (x_Qi g Qf) args s 0 0 (x_A g)) (F0 m 4 ls [])) {v1 : Int32} {v2 : Int32} {u : xM} {H : Heap} {locs : List Loc} {ls : Array Slot} (hw : x_W g s.heap H locs u) (hl : lv_has ls 3 [(0, .ref (xad g (o + 9))), (1, .int v1), (2, .int v2)]) (h : p_X0_toSea_L34 o Qf K4 v1 v2 u) : W p l e (x_rm 0 0) s m args below meth c H locs 0 0 (MQ below (x_Qi g Qf) args s 0 0 (x_A g)) (F0 m 34 ls []) := by
  unfold p_X0_toSea_L34 at h
  have hx := C.1
  have hb := C.2.1
  refine lv_iload_n hx hb dX0_toSea_34 rfl (lv_at hl 1 rfl) ?_
  refine lv_iconst (v := 1) hx hb dX0_toSea_35 (by decide) ?_
  refine lv_iload_n hx hb dX0_toSea_36 rfl (lv_at hl 2 rfl) ?_
  refine lv_ishl hx hb dX0_toSea_37 ?_
  refine lv_ior hx hb dX0_toSea_38 ?_
  refine lv_topi (fun x1 ex1 => ?_)
  have h := h x1 ex1
  refine lv_istore_n (lv' := [(1, .int x1), (0, .ref (xad g (o + 9))), (2, .int v2)]) hx hb dX0_toSea_39 rfl hl (by decide) rfl (fun ls hl => ?_)
  obtain ⟨x2, ex2⟩ : ∃ y : Int32, y = v2 + 1 := ⟨_, rfl⟩
  have h := h x2 ex2
  refine lv_iinc (v := x2) (lv' := [(2, .int x2), (1, .int x1), (0, .ref (xad g (o + 9)))]) hx hb dX0_toSea_40 hl (k := 2) rfl (by rw [ex2]; rfl) (by decide) rfl (fun ls hl => ?_)
  refine lv_goto (tgt := 4) hx hb dX0_toSea_43 (by decide) ?_
  exact hK4 hw (lv_sub hl [2, 1, 0] rfl) h
set_option maxHeartbeats 4000000 in
set_option maxRecDepth 100000 in
theorem s_X0_toSea_L4 {o : Nat} {Qf : Int32 → xM → Prop} (C : x_C p s m args meth c g RX0 cX0_toSea 3 (some .int)) (ho : xpL g o) : ∀ (nn : Nat) {v1 : Int32} {v2 : Int32} {u : xM} {H : Heap} {locs : List Loc} {ls : Array Slot} (hw : x_W g s.heap H locs u) (hl : lv_has ls 3 [(0, .ref (xad g (o + 9))), (1, .int v1), (2, .int v2)]) (h : p_X0_toSea_L4 o Qf nn v1 v2 u), W p l e (x_rm 0 0) s m args below meth c H locs 0 0 (MQ below (x_Qi g Qf) args s 0 0 (x_A g)) (F0 m 4 ls []) := by
  intro nn
  induction nn with
  | zero => intro v1 v2 u H locs ls hw hl h; exact h.elim
  | succ nn ih =>
    intro v1 v2 u H locs ls hw hl h
    unfold p_X0_toSea_L4 at h
    have hx := C.1
    have hb := C.2.1
    refine lv_iload_n hx hb dX0_toSea_4 rfl (lv_at hl 2 rfl) ?_
    refine lv_aload_n hx hb dX0_toSea_5 rfl (lv_at hl 0 rfl) ?_
    refine x_geti (ci := 0) C hw 0 (xoL_9 ho) rfl inlX0 (by decide) rfl rfl xw_420 dX0_toSea_6 ?_
    refine lv_icmp_ge (tgt := 46) hx hb dX0_toSea_9 (by decide) (fun c1 => ?_) (fun c1 => ?_)
    · have h := h.1 c1
      refine lv_iload_n hx hb dX0_toSea_46 rfl (lv_at hl 1 rfl) ?_
      exact x_iret C hw h dX0_toSea_47
    · have h := h.2 c1
      refine lv_aload_n hx hb dX0_toSea_12 rfl (lv_at hl 0 rfl) ?_
      refine x_getr (ci := 0) C hw 4 (xoL_9 ho) rfl inlX0 (by decide) rfl rfl (xrL_9_4 ho) xw_90 dX0_toSea_13 ?_
      refine lv_iload_n hx hb dX0_toSea_16 rfl (lv_at hl 2 rfl) ?_
      have c2 := h.1
      have h := h.2
      refine x_iald C hw (xoL_11 ho) c2 dX0_toSea_17 ?_
      refine lv_bipush (v := 7) hx hb dX0_toSea_18 (by decide) ?_
      refine lv_icmp_eq (tgt := 34) hx hb dX0_toSea_20 (by decide) (fun c3 => ?_) (fun c3 => ?_)
      · have h := h.1 c3
        exact s_X0_toSea_L34 C ho (fun hw hl h => ih hw hl h) hw (lv_sub hl [0, 1, 2] rfl) h
      · have h := h.2 c3
        refine lv_aload_n hx hb dX0_toSea_23 rfl (lv_at hl 0 rfl) ?_
        refine x_getr (ci := 0) C hw 5 (xoL_9 ho) rfl inlX0 (by decide) rfl rfl (xrL_9_5 ho) xw_91 dX0_toSea_24 ?_
        refine lv_iload_n hx hb dX0_toSea_27 rfl (lv_at hl 2 rfl) ?_
        have c4 := h.1
        have h := h.2
        refine x_iald C hw (xoL_12 ho) c4 dX0_toSea_28 ?_
        refine lv_bipush (v := 7) hx hb dX0_toSea_29 (by decide) ?_
        refine lv_icmp_ne (tgt := 40) hx hb dX0_toSea_31 (by decide) (fun c5 => ?_) (fun c5 => ?_)
        · have h := h.1 c5
          obtain ⟨x6, ex6⟩ : ∃ y : Int32, y = v2 + 1 := ⟨_, rfl⟩
          have h := h x6 ex6
          refine lv_iinc (v := x6) (lv' := [(2, .int x6), (0, .ref (xad g (o + 9))), (1, .int v1)]) hx hb dX0_toSea_40 hl (k := 2) rfl (by rw [ex6]; rfl) (by decide) rfl (fun ls hl => ?_)
          refine lv_goto (tgt := 4) hx hb dX0_toSea_43 (by decide) ?_
          exact ih hw (lv_sub hl [1, 2, 0] rfl) h
        · have h := h.2 c5
          exact s_X0_toSea_L34 C ho (fun hw hl h => ih hw hl h) hw (lv_sub hl [0, 1, 2] rfl) h
set_option maxHeartbeats 4000000 in
set_option maxRecDepth 100000 in
theorem s_X0_toSea {o : Nat} {Qf : Int32 → xM → Prop} (C : x_C p s m args meth c g RX0 cX0_toSea 3 (some .int)) (ho : xpL g o) {u : xM} {H : Heap} {locs : List Loc} {ls : Array Slot} (hw : x_W g s.heap H locs u) (hl : lv_has ls 3 [(0, .ref (xad g (o + 9)))]) (h : p_X0_toSea o u Qf) : W p l e (x_rm 0 0) s m args below meth c H locs 0 0 (MQ below (x_Qi g Qf) args s 0 0 (x_A g)) (F0 m 0 ls []) := by
  unfold p_X0_toSea at h
  have hx := C.1
  have hb := C.2.1
  refine lv_iconst (v := 0) hx hb dX0_toSea_0 (by decide) ?_
  refine lv_istore_n (lv' := [(1, .int 0), (0, .ref (xad g (o + 9)))]) hx hb dX0_toSea_1 rfl hl (by decide) rfl (fun ls hl => ?_)
  refine lv_iconst (v := 0) hx hb dX0_toSea_2 (by decide) ?_
  refine lv_istore_n (lv' := [(2, .int 0), (1, .int 0), (0, .ref (xad g (o + 9)))]) hx hb dX0_toSea_3 rfl hl (by decide) rfl (fun ls hl => ?_)
  obtain ⟨n9, h⟩ := h
  exact s_X0_toSea_L4 C ho n9 hw (lv_sub hl [2, 1, 0] rfl) h
set_option maxHeartbeats 4000000 in
set_option maxRecDepth 100000 in
theorem m_X0_toSea (l : Launch) {g : xG} (hD : x_D g) {o : Nat} (ho : xpL g o) {u : xM} {Qf : Int32 → xM → Prop} (h : p_X0_toSea o u Qf) : Met l yX0_toSea (Cond.code yX0_toSea cX0_toSea 3 (some .int) :: wsL_law) (x_rm 0 0) (va_Pc [.ref (xad g (o + 9))] (x_B g u)) (x_Qi g Qf) 0 0 (x_A g) := by
  refine Met.ofW (cc := cX0_toSea) (maxL := 3) (ret := (some .int)) (by decide) rfl ?_
  intro p e s m args below meth c s₁ B hml hv
  obtain ⟨rfl, hB⟩ := hv
  obtain ⟨C, hw⟩ := x_start B hml hD hB
  have hl := lv_entry [.ref (xad g (o + 9))] (n := 3) (Nat.le_of_ble_eq_true rfl)
  rw [lg_entry_eq]
  exact s_X0_toSea C ho hw hl h
set_option maxHeartbeats 4000000 in
set_option maxRecDepth 100000 in
theorem s_X0_reached_L15 {o : Nat} {Qf : Int32 → xM → Prop} {K5 : Int32 → Int32 → Int32 → xM → Prop} (C : x_C p s m args meth c g RX0 cX0_reached 7 (some .int)) (ho : xpL g o) (hK5 : ∀ {v2 : Int32} {v3 : Int32} {v4 : Int32} {u : xM} {H : Heap} {locs : List Loc} {ls : Array Slot}, x_W g s.heap H locs u → lv_has ls 7 [(0, .ref (xad g (o + 9))), (2, .int v2), (3, .int v3), (4, .int v4)] → K5 v2 v3 v4 u → W p l e (x_rm 0 0) s m args below meth c H locs 0 0 (MQ below (x_Qi g Qf) args s 0 0 (x_A g)) (F0 m 5 ls [])) : ∀ (nn : Nat) {v2 : Int32} {v3 : Int32} {v4 : Int32} {v5 : Int32} {u : xM} {H : Heap} {locs : List Loc} {ls : Array Slot} (hw : x_W g s.heap H locs u) (hl : lv_has ls 7 [(0, .ref (xad g (o + 9))), (2, .int v2), (3, .int v3), (4, .int v4), (5, .int v5)]) (h : p_X0_reached_L15 o Qf K5 nn v2 v3 v4 v5 u), W p l e (x_rm 0 0) s m args below meth c H locs 0 0 (MQ below (x_Qi g Qf) args s 0 0 (x_A g)) (F0 m 15 ls []) := by
  intro nn
  induction nn with
  | zero => intro v2 v3 v4 v5 u H locs ls hw hl h; exact h.elim
  | succ nn ih =>
    intro v2 v3 v4 v5 u H locs ls hw hl h
    unfold p_X0_reached_L15 at h
    have hx := C.1
    have hb := C.2.1
    refine lv_iload hx hb dX0_reached_15 (lv_at hl 4 rfl) ?_
    refine lv_aload_n hx hb dX0_reached_17 rfl (lv_at hl 0 rfl) ?_
    refine x_geti (ci := 0) C hw 0 (xoL_9 ho) rfl inlX0 (by decide) rfl rfl xw_420 dX0_reached_18 ?_
    refine lv_icmp_ge (tgt := 73) hx hb dX0_reached_21 (by decide) (fun c1 => ?_) (fun c1 => ?_)
    · have h := h.1 c1
      obtain ⟨x2, ex2⟩ : ∃ y : Int32, y = v4 + 1 := ⟨_, rfl⟩
      have h := h x2 ex2
      refine lv_iinc (v := x2) (lv' := [(4, .int x2), (0, .ref (xad g (o + 9))), (2, .int v2), (3, .int v3), (5, .int v5)]) hx hb dX0_reached_73 hl (k := 3) rfl (by rw [ex2]; rfl) (by decide) rfl (fun ls hl => ?_)
      refine lv_goto (tgt := 5) hx hb dX0_reached_76 (by decide) ?_
      exact hK5 hw (lv_sub hl [1, 2, 3, 0] rfl) h
    · have h := h.2 c1
      refine lv_iconst (v := 1) hx hb dX0_reached_24 (by decide) ?_
      refine lv_aload_n hx hb dX0_reached_25 rfl (lv_at hl 0 rfl) ?_
      refine x_getr (ci := 0) C hw 4 (xoL_9 ho) rfl inlX0 (by decide) rfl rfl (xrL_9_4 ho) xw_90 dX0_reached_26 ?_
      refine lv_iload hx hb dX0_reached_29 (lv_at hl 4 rfl) ?_
      have c3 := h.1
      have h := h.2
      refine x_iald C hw (xoL_11 ho) c3 dX0_reached_31 ?_
      refine lv_ishl hx hb dX0_reached_32 ?_
      refine lv_iconst (v := 1) hx hb dX0_reached_33 (by decide) ?_
      refine lv_aload_n hx hb dX0_reached_34 rfl (lv_at hl 0 rfl) ?_
      refine x_getr (ci := 0) C hw 5 (xoL_9 ho) rfl inlX0 (by decide) rfl rfl (xrL_9_5 ho) xw_91 dX0_reached_35 ?_
      refine lv_iload hx hb dX0_reached_38 (lv_at hl 4 rfl) ?_
      have c4 := h.1
      have h := h.2
      refine x_iald C hw (xoL_12 ho) c4 dX0_reached_40 ?_
      refine lv_ishl hx hb dX0_reached_41 ?_
      refine lv_ior hx hb dX0_reached_42 ?_
      refine lv_topi (fun x5 ex5 => ?_)
      have h := h x5 ex5
      refine lv_istore (lv' := [(6, .int x5), (0, .ref (xad g (o + 9))), (2, .int v2), (3, .int v3), (4, .int v4), (5, .int v5)]) hx hb dX0_reached_43 hl (by decide) rfl (fun ls hl => ?_)
      refine lv_iload_n hx hb dX0_reached_45 rfl (lv_at hl 2 rfl) ?_
      refine lv_iload hx hb dX0_reached_46 (lv_at hl 5 rfl) ?_
      refine lv_ishr hx hb dX0_reached_48 ?_
      refine lv_iconst (v := 1) hx hb dX0_reached_49 (by decide) ?_
      refine lv_iand hx hb dX0_reached_50 ?_
      refine lv_iconst (v := 1) hx hb dX0_reached_51 (by decide) ?_
      refine lv_icmp_ne (tgt := 67) hx hb dX0_reached_52 (by decide) (fun c6 => ?_) (fun c6 => ?_)
      · have h := h.1 c6
        obtain ⟨x7, ex7⟩ : ∃ y : Int32, y = v5 + 1 := ⟨_, rfl⟩
        have h := h x7 ex7
        refine lv_iinc (v := x7) (lv' := [(5, .int x7), (6, .int x5), (0, .ref (xad g (o + 9))), (2, .int v2), (3, .int v3), (4, .int v4)]) hx hb dX0_reached_67 hl (k := 5) rfl (by rw [ex7]; rfl) (by decide) rfl (fun ls hl => ?_)
        refine lv_goto (tgt := 15) hx hb dX0_reached_70 (by decide) ?_
        exact ih hw (lv_sub hl [2, 3, 4, 5, 0] rfl) h
      · have h := h.2 c6
        refine lv_iload_n hx hb dX0_reached_55 rfl (lv_at hl 3 rfl) ?_
        refine lv_iload hx hb dX0_reached_56 (lv_at hl 0 rfl) ?_
        refine lv_iand hx hb dX0_reached_58 ?_
        refine lv_if_eq (tgt := 67) hx hb dX0_reached_59 (by decide) (fun c8 => ?_) (fun c8 => ?_)
        · have h := h.1 c8
          obtain ⟨x9, ex9⟩ : ∃ y : Int32, y = v5 + 1 := ⟨_, rfl⟩
          have h := h x9 ex9
          refine lv_iinc (v := x9) (lv' := [(5, .int x9), (6, .int x5), (0, .ref (xad g (o + 9))), (2, .int v2), (3, .int v3), (4, .int v4)]) hx hb dX0_reached_67 hl (k := 5) rfl (by rw [ex9]; rfl) (by decide) rfl (fun ls hl => ?_)
          refine lv_goto (tgt := 15) hx hb dX0_reached_70 (by decide) ?_
          exact ih hw (lv_sub hl [2, 3, 4, 5, 0] rfl) h
        · have h := h.2 c8
          refine lv_iload_n hx hb dX0_reached_62 rfl (lv_at hl 3 rfl) ?_
          refine lv_iload hx hb dX0_reached_63 (lv_at hl 0 rfl) ?_
          refine lv_ior hx hb dX0_reached_65 ?_
          refine lv_topi (fun x10 ex10 => ?_)
          have h := h x10 ex10
          refine lv_istore_n (lv' := [(3, .int x10), (6, .int x5), (0, .ref (xad g (o + 9))), (2, .int v2), (4, .int v4), (5, .int v5)]) hx hb dX0_reached_66 rfl hl (by decide) rfl (fun ls hl => ?_)
          obtain ⟨x11, ex11⟩ : ∃ y : Int32, y = v5 + 1 := ⟨_, rfl⟩
          have h := h x11 ex11
          refine lv_iinc (v := x11) (lv' := [(5, .int x11), (3, .int x10), (6, .int x5), (0, .ref (xad g (o + 9))), (2, .int v2), (4, .int v4)]) hx hb dX0_reached_67 hl (k := 5) rfl (by rw [ex11]; rfl) (by decide) rfl (fun ls hl => ?_)
          refine lv_goto (tgt := 15) hx hb dX0_reached_70 (by decide) ?_
          exact ih hw (lv_sub hl [3, 4, 1, 5, 0] rfl) h
set_option maxHeartbeats 4000000 in
set_option maxRecDepth 100000 in
theorem s_X0_reached_L5 {o : Nat} {Qf : Int32 → xM → Prop} (C : x_C p s m args meth c g RX0 cX0_reached 7 (some .int)) (ho : xpL g o) : ∀ (nn : Nat) {v2 : Int32} {v3 : Int32} {v4 : Int32} {u : xM} {H : Heap} {locs : List Loc} {ls : Array Slot} (hw : x_W g s.heap H locs u) (hl : lv_has ls 7 [(0, .ref (xad g (o + 9))), (2, .int v2), (3, .int v3), (4, .int v4)]) (h : p_X0_reached_L5 o Qf nn v2 v3 v4 u), W p l e (x_rm 0 0) s m args below meth c H locs 0 0 (MQ below (x_Qi g Qf) args s 0 0 (x_A g)) (F0 m 5 ls []) := by
  intro nn
  induction nn with
  | zero => intro v2 v3 v4 u H locs ls hw hl h; exact h.elim
  | succ nn ih =>
    intro v2 v3 v4 u H locs ls hw hl h
    unfold p_X0_reached_L5 at h
    have hx := C.1
    have hb := C.2.1
    refine lv_iload hx hb dX0_reached_5 (lv_at hl 3 rfl) ?_
    refine lv_bipush (v := 7) hx hb dX0_reached_7 (by decide) ?_
    refine lv_icmp_gt (tgt := 79) hx hb dX0_reached_9 (by decide) (fun c1 => ?_) (fun c1 => ?_)
    · have h := h.1 c1
      refine lv_iload_n hx hb dX0_reached_79 rfl (lv_at hl 2 rfl) ?_
      exact x_iret C hw h dX0_reached_80
    · have h := h.2 c1
      refine lv_iconst (v := 0) hx hb dX0_reached_12 (by decide) ?_
      refine lv_istore (lv' := [(5, .int 0), (0, .ref (xad g (o + 9))), (2, .int v2), (3, .int v3), (4, .int v4)]) hx hb dX0_reached_13 hl (by decide) rfl (fun ls hl => ?_)
      obtain ⟨n9, h⟩ := h
      exact s_X0_reached_L15 C ho (fun hw hl h => ih hw hl h) n9 hw (lv_sub hl [1, 2, 3, 4, 0] rfl) h
set_option maxHeartbeats 4000000 in
set_option maxRecDepth 100000 in
theorem s_X0_reached {o : Nat} {Qf : Int32 → xM → Prop} {a1 : Int32} {a2 : Int32} (C : x_C p s m args meth c g RX0 cX0_reached 7 (some .int)) (ho : xpL g o) {u : xM} {H : Heap} {locs : List Loc} {ls : Array Slot} (hw : x_W g s.heap H locs u) (hl : lv_has ls 7 [(0, .ref (xad g (o + 9))), (1, .int a1), (2, .int a2)]) (h : p_X0_reached o a1 a2 u Qf) : W p l e (x_rm 0 0) s m args below meth c H locs 0 0 (MQ below (x_Qi g Qf) args s 0 0 (x_A g)) (F0 m 0 ls []) := by
  unfold p_X0_reached at h
  have hx := C.1
  have hb := C.2.1
  refine lv_iload_n hx hb dX0_reached_0 rfl (lv_at hl 1 rfl) ?_
  refine lv_istore_n (lv' := [(3, .int a1), (0, .ref (xad g (o + 9))), (1, .int a1), (2, .int a2)]) hx hb dX0_reached_1 rfl hl (by decide) rfl (fun ls hl => ?_)
  refine lv_iconst (v := 0) hx hb dX0_reached_2 (by decide) ?_
  refine lv_istore (lv' := [(4, .int 0), (3, .int a1), (0, .ref (xad g (o + 9))), (1, .int a1), (2, .int a2)]) hx hb dX0_reached_3 hl (by decide) rfl (fun ls hl => ?_)
  obtain ⟨n9, h⟩ := h
  exact s_X0_reached_L5 C ho n9 hw (lv_sub hl [2, 4, 1, 0] rfl) h
set_option maxHeartbeats 4000000 in
set_option maxRecDepth 100000 in
theorem m_X0_reached (l : Launch) {g : xG} (hD : x_D g) {o : Nat} (ho : xpL g o) {a1 : Int32} {a2 : Int32} {u : xM} {Qf : Int32 → xM → Prop} (h : p_X0_reached o a1 a2 u Qf) : Met l yX0_reached (Cond.code yX0_reached cX0_reached 7 (some .int) :: wsL_law) (x_rm 0 0) (va_Pc [.ref (xad g (o + 9)), .int a1, .int a2] (x_B g u)) (x_Qi g Qf) 0 0 (x_A g) := by
  refine Met.ofW (cc := cX0_reached) (maxL := 7) (ret := (some .int)) (by decide) rfl ?_
  intro p e s m args below meth c s₁ B hml hv
  obtain ⟨rfl, hB⟩ := hv
  obtain ⟨C, hw⟩ := x_start B hml hD hB
  have hl := lv_entry [.ref (xad g (o + 9)), .int a1, .int a2] (n := 7) (Nat.le_of_ble_eq_true rfl)
  rw [lg_entry_eq]
  exact s_X0_reached C ho hw hl h
set_option maxHeartbeats 4000000 in
set_option maxRecDepth 100000 in
theorem s_X10_linked {Qf : Int32 → xM → Prop} {a1 : Int32} (C : x_C p s m args meth c g RX10 cX10_linked 4 (some .int)) (hX : xpX g) {u : xM} {H : Heap} {locs : List Loc} {ls : Array Slot} (hw : x_W g s.heap H locs u) (hl : lv_has ls 4 [(0, .ref (xad g 0)), (1, .int a1)]) (h : p_X10_linked a1 u Qf) : W p l e (x_rm 1 26) s m args below meth c H locs 0 0 (MQ below (x_Qi g Qf) args s 0 0 (x_A g)) (F0 m 0 ls []) := by
  unfold p_X10_linked at h
  have hx := C.1
  have hb := C.2.1
  refine lv_aload_n hx hb dX10_linked_0 rfl (lv_at hl 0 rfl) ?_
  refine lv_iload_n hx hb dX10_linked_1 rfl (lv_at hl 1 rfl) ?_
  refine x_callz hw (x_runV (ci := 10) C hw (m_X10_isRoom l C.2.2.2.2.2.2.2.2.1 hX h) (xoX_0 hX) rfl (x_gV xw_936 xw_937 xw_938 xw_2 xw_939) rfl rfl qX10_isRoom ⟨(Nat.le_of_ble_eq_true rfl), (Nat.le_of_ble_eq_true rfl)⟩ rfl hl.1 rfl (Nat.le_of_ble_eq_true rfl) dX10_linked_2) (fun r2 u1 H locs hw h => ?_)
  refine lv_if_ne (tgt := 14) hx hb dX10_linked_5 (by decide) (fun c3 => ?_) (fun c3 => ?_)
  · have h := h.1 (xb_t c3)
    refine lv_aload_n hx hb dX10_linked_14 rfl (lv_at hl 0 rfl) ?_
    refine x_getr (ci := 10) C hw 0 (xoX_0 hX) rfl inlX10 (by decide) rfl rfl xrX_0_0 xw_16 dX10_linked_15 ?_
    refine x_getr (ci := 1) C hw 1 (xoL_0 (xpL_83 hX)) rfl inlX1 (by decide) rfl rfl (xrL_0_1 (xpL_83 hX)) xw_398 dX10_linked_18 ?_
    refine lv_astore_n (lv' := [(2, .ref (xad g 92)), (0, .ref (xad g 0)), (1, .int a1)]) hx hb dX10_linked_21 rfl hl (by decide) rfl (fun ls hl => ?_)
    refine lv_aload_n hx hb dX10_linked_22 rfl (lv_at hl 0 rfl) ?_
    refine x_calli hw (x_runV (ci := 0) C hw (m_X0_all l C.2.2.2.2.2.2.2.2.1 (xpL_83 hX) h) (xoL_9 (xpL_83 hX)) rfl (x_gV xw_1136 xw_1137 xw_1138 xw_61 xw_1139) rfl rfl qX0_all ⟨(Nat.le_of_ble_eq_true rfl), (Nat.le_of_ble_eq_true rfl)⟩ rfl hl.1 rfl (Nat.le_of_ble_eq_true rfl) dX10_linked_23) (fun r5 u4 H locs hw h => ?_)
    refine lv_aload_n hx hb dX10_linked_26 rfl (lv_at hl 0 rfl) ?_
    refine x_geti (ci := 0) C hw 2 (xoL_9 (xpL_83 hX)) rfl inlX0 (by decide) rfl rfl xw_864 dX10_linked_27 ?_
    refine lv_iconst (v := -1) hx hb dX10_linked_30 (by decide) ?_
    refine lv_ixor hx hb dX10_linked_31 ?_
    refine lv_iand hx hb dX10_linked_32 ?_
    refine lv_aload_n hx hb dX10_linked_33 rfl (lv_at hl 0 rfl) ?_
    refine x_calli hw (x_runV (ci := 0) C hw (m_X0_toSea l C.2.2.2.2.2.2.2.2.1 (xpL_83 hX) h) (xoL_9 (xpL_83 hX)) rfl (x_gV xw_1140 xw_1141 xw_1142 xw_61 xw_1143) rfl rfl qX0_toSea ⟨(Nat.le_of_ble_eq_true rfl), (Nat.le_of_ble_eq_true rfl)⟩ rfl hl.1 rfl (Nat.le_of_ble_eq_true rfl) dX10_linked_34) (fun r7 u6 H locs hw h => ?_)
    refine lv_iconst (v := -1) hx hb dX10_linked_37 (by decide) ?_
    refine lv_ixor hx hb dX10_linked_38 ?_
    refine lv_iand hx hb dX10_linked_39 ?_
    refine lv_topi (fun x8 ex8 => ?_)
    have h := h x8 ex8
    refine lv_istore_n (lv' := [(3, .int x8), (2, .ref (xad g 92)), (0, .ref (xad g 0)), (1, .int a1)]) hx hb dX10_linked_40 rfl hl (by decide) rfl (fun ls hl => ?_)
    refine lv_aload_n hx hb dX10_linked_41 rfl (lv_at hl 2 rfl) ?_
    refine lv_aload_n hx hb dX10_linked_42 rfl (lv_at hl 1 rfl) ?_
    refine lv_iconst (v := 1) hx hb dX10_linked_43 (by decide) ?_
    refine lv_iload_n hx hb dX10_linked_44 rfl (lv_at hl 3 rfl) ?_
    refine lv_ishl hx hb dX10_linked_45 ?_
    refine lv_iload_n hx hb dX10_linked_46 rfl (lv_at hl 0 rfl) ?_
    refine x_calli hw (x_runV (ci := 0) C hw (m_X0_reached l C.2.2.2.2.2.2.2.2.1 (xpL_83 hX) h) (xoL_9 (xpL_83 hX)) rfl (x_gV xw_1144 xw_1145 xw_1146 xw_61 xw_1147) rfl rfl qX0_reached ⟨(Nat.le_of_ble_eq_true rfl), (Nat.le_of_ble_eq_true rfl)⟩ rfl hl.1 rfl (Nat.le_of_ble_eq_true rfl) dX10_linked_47) (fun r10 u9 H locs hw h => ?_)
    refine x_calli hw (x_runV (ci := 10) C hw (m_X10_fine l C.2.2.2.2.2.2.2.2.1 hX h) (xoX_0 hX) rfl (x_gV xw_622 xw_623 xw_624 xw_2 xw_625) rfl rfl qX10_fine ⟨(Nat.le_of_ble_eq_true rfl), (Nat.le_of_ble_eq_true rfl)⟩ rfl hl.1 rfl (Nat.le_of_ble_eq_true rfl) dX10_linked_50) (fun r12 u11 H locs hw h => ?_)
    exact x_iret C hw h dX10_linked_53
  · have h := h.2 (xb_f c3)
    refine lv_aload_n hx hb dX10_linked_8 rfl (lv_at hl 0 rfl) ?_
    refine lv_iconst (v := 1) hx hb dX10_linked_9 (by decide) ?_
    refine x_calli hw (x_runV (ci := 10) C hw (m_X10_none l C.2.2.2.2.2.2.2.2.1 hX h) (xoX_0 hX) rfl (x_gV xw_343 xw_344 xw_345 xw_2 xw_346) rfl rfl qX10_none ⟨(Nat.le_of_ble_eq_true rfl), (Nat.le_of_ble_eq_true rfl)⟩ rfl hl.1 rfl (Nat.le_of_ble_eq_true rfl) dX10_linked_10) (fun r14 u13 H locs hw h => ?_)
    exact x_iret C hw h dX10_linked_13
set_option maxHeartbeats 4000000 in
set_option maxRecDepth 100000 in
theorem m_X10_linked (l : Launch) {g : xG} (hD : x_D g) (hX : xpX g) {a1 : Int32} {u : xM} {Qf : Int32 → xM → Prop} (h : p_X10_linked a1 u Qf) : Met l yX10_linked (Cond.code yX10_linked cX10_linked 4 (some .int) :: wsL_law) (x_rm 1 26) (va_Pc [.ref (xad g 0), .int a1] (x_B g u)) (x_Qi g Qf) 0 0 (x_A g) := by
  refine Met.ofW (cc := cX10_linked) (maxL := 4) (ret := (some .int)) (by decide) rfl ?_
  intro p e s m args below meth c s₁ B hml hv
  obtain ⟨rfl, hB⟩ := hv
  obtain ⟨C, hw⟩ := x_start B hml hD hB
  have hl := lv_entry [.ref (xad g 0), .int a1] (n := 4) (Nat.le_of_ble_eq_true rfl)
  rw [lg_entry_eq]
  exact s_X10_linked C hX hw hl h
set_option maxHeartbeats 4000000 in
set_option maxRecDepth 100000 in
theorem s_X1_isRoomEnd {Qf : Bool → xM → Prop} {a1 : Int32} (C : x_C p s m args meth c g RX1 cX1_isRoomEnd 1 (some .boolean)) {u : xM} {H : Heap} {locs : List Loc} {ls : Array Slot} (hw : x_W g s.heap H locs u) (hl : lv_has ls 1 [(0, .int a1)]) (h : p_X1_isRoomEnd a1 u Qf) : W p l e (x_rm 0 0) s m args below meth c H locs 0 0 (MQ below (x_Qz g Qf) args s 0 0 (x_A g)) (F0 m 0 ls []) := by
  unfold p_X1_isRoomEnd at h
  have hx := C.1
  have hb := C.2.1
  refine lv_iload_n hx hb dX1_isRoomEnd_0 rfl (lv_at hl 0 rfl) ?_
  refine lv_if_lt (tgt := 14) hx hb dX1_isRoomEnd_1 (by decide) (fun c1 => ?_) (fun c1 => ?_)
  · have h := h.1 c1
    refine lv_iconst (v := 0) hx hb dX1_isRoomEnd_14 (by decide) ?_
    exact x_zret false C hw h rfl dX1_isRoomEnd_15
  · have h := h.2 c1
    refine lv_iload_n hx hb dX1_isRoomEnd_4 rfl (lv_at hl 0 rfl) ?_
    refine lv_bipush (v := 7) hx hb dX1_isRoomEnd_5 (by decide) ?_
    refine lv_icmp_ge (tgt := 14) hx hb dX1_isRoomEnd_7 (by decide) (fun c2 => ?_) (fun c2 => ?_)
    · have h := h.1 c2
      refine lv_iconst (v := 0) hx hb dX1_isRoomEnd_14 (by decide) ?_
      exact x_zret false C hw h rfl dX1_isRoomEnd_15
    · have h := h.2 c2
      refine lv_iconst (v := 1) hx hb dX1_isRoomEnd_10 (by decide) ?_
      refine lv_goto (tgt := 15) hx hb dX1_isRoomEnd_11 (by decide) ?_
      exact x_zret true C hw h rfl dX1_isRoomEnd_15
set_option maxHeartbeats 4000000 in
set_option maxRecDepth 100000 in
theorem m_X1_isRoomEnd (l : Launch) {g : xG} (hD : x_D g) {a1 : Int32} {u : xM} {Qf : Bool → xM → Prop} (h : p_X1_isRoomEnd a1 u Qf) : Met l yX1_isRoomEnd (Cond.code yX1_isRoomEnd cX1_isRoomEnd 1 (some .boolean) :: wsL_law) (x_rm 0 0) (va_Pc [.int a1] (x_B g u)) (x_Qz g Qf) 0 0 (x_A g) := by
  refine Met.ofW (cc := cX1_isRoomEnd) (maxL := 1) (ret := (some .boolean)) (by decide) rfl ?_
  intro p e s m args below meth c s₁ B hml hv
  obtain ⟨rfl, hB⟩ := hv
  obtain ⟨C, hw⟩ := x_start B hml hD hB
  have hl := lv_entry [.int a1] (n := 1) (Nat.le_of_ble_eq_true rfl)
  rw [lg_entry_eq]
  exact s_X1_isRoomEnd C hw hl h
end
