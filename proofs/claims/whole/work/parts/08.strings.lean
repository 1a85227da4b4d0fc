section XSTR
variable {p : Program} {l : Launch} {e : Env} {R : Room} {s : State} {m : MethodId} {args : Array Value} {below : List Frame} {meth : Method} {c : Code} {H : Heap} {locs : List Loc} {Q : State → Prop}
variable {cc : ByteArray} {pc nL : Nat} {ls : Array Slot} {rest : List Value} {g : xG} {u : xM} {own : String} {ret : Option FieldType}
theorem x_bret {Qf : Int32 → xM → Prop} {v : Int32} {ty : FieldType} (C : x_C p s m args meth c g own cc nL (some ty)) (hw : x_W g s.heap H locs u) (h : Qf v u) (hn : narrow ty (.int v) = .int v) (hd : decode cc pc = .ok (.ireturn, 1)) : W p l e R s m args below meth c H locs 0 0 (MQ below (x_Qi g Qf) args s 0 0 (x_A g)) (F0 m pc ls [.int v]) :=
  W.zret C.1 C.2.1 C.2.2.2.2.2.1 hn (fun t ht hW => ⟨⟨v, u, rfl, h, by rw [ht]; exact hw.1, va_K.moved hW.alike C.2.2.2.2.2.2.2.1, x_St_moved C.2.2.2.2.2.2.2.2.2 hw.2 ht hW⟩, hw.2.F ht⟩) hw.2.2.2 hd C.2.2.2.2.2.2.1
theorem x_mabsl {index : Nat} (C : x_C p s m args meth c g own cc nL ret) (hls : ls.size = nL) (h1 : Cond.methodLink own index Lib.MathLoose.abs_long.x ∈ wsL_law) (hfr : 1 ≤ R.frames) (hlo : (rest.map fun v => v.category).sum + 13 ≤ R.locals) {x : Int64} (hd : decode cc pc = .ok (.invokestatic index, 3))
    (kk : W p l e R s m args below meth c H locs 0 0 Q (F0 m (pc + 3) ls (.long (if 0 < x then x else -x) :: rest))) : W p l e R s m args below meth c H locs 0 0 Q (F0 m pc ls (.long x :: rest)) :=
  va_mabs_long C.1 C.2.1 (C.2.2.1.trans hls.symm) C.2.2.2.1 (C.2.2.2.2.1 _ h1) (C.2.2.2.2.1 _ xw_mathAbslStatic) (C.2.2.2.2.1 _ xw_mathInit) (C.2.2.2.2.1 _ xw_mathAbslCode) hfr (by omega) (Nat.zero_le _) (Nat.zero_le _) hd kk
theorem x_runVS {y : MethodName} {bytes : ByteArray} {maxL i n index : Nat} {rt : Option FieldType} {rm : Room} {Qc : Array Value → State → Outcome → State → Prop} {As st : List Value} (C : x_C p s m args meth c g own cc nL ret) (hw : x_W g s.heap H locs u) (hi : i < 3)
    (hM : Met l y (Cond.code y bytes maxL rt :: wsL_law) rm (va_Pc (.ref (xsK g i) :: As) (x_B g u)) Qc 0 0 (x_A g)) (hG : GoodIn wsL_law (wsV own index "java/lang/String" y (Cond.code y bytes maxL rt :: wsL_law))) (hrc : rm.cells = 0) (hrs : rm.slots = 0)
    (hd : y.cls = "java/lang/String" ∧ y.cls ≠ "java/lang/invoke/MethodHandle" ∧ y.cls ≠ "java/lang/invoke/VarHandle" ∧ (parseMethodDescriptor y.desc).map (fun d => d.parameters.length) = some n) (hR : rm.frames + 1 ≤ R.frames ∧ 8 + (maxL + 11) + rm.locals ≤ R.locals) (hn : As.length = n) (hls : ls.size = nL) (hst : st = As.reverse ++ .ref (xsK g i) :: rest) (hrest : (rest.map fun v => v.category).sum ≤ 8) (hdg : decode cc pc = .ok (.invokevirtual index, 3)) :
    va_Run p l e R s m args below meth c H locs 0 0 0 0 (F0 m pc ls st) rest (Qc (Value.ref (xsK g i) :: As).toArray) (x_A g) :=
  va_runV ⟨C.1, C.2.1, C.2.2.1, C.2.2.2.1, C.2.2.2.2.1⟩ hM (cwV n C.2.2.2.2.1 hG rfl hrc hrs hd hR) ⟨x_blind, vk_recv C.2.2.2.2.2.2.2.2.2.2.2.2.1 hi hw.2, fun U hU hW => ⟨rfl, by rw [hU]; exact hw.1, va_K.moved hW.alike C.2.2.2.2.2.2.2.1, x_St_moved C.2.2.2.2.2.2.2.2.2 hw.2 hU hW⟩⟩ rfl hn hls hst (lv_room hrest) hdg ⟨Nat.zero_le _, Nat.zero_le _⟩
end XSTR
theorem qJ0_isLatin1 : yJ0_isLatin1_aae02.cls = "java/lang/String" ∧ yJ0_isLatin1_aae02.cls ≠ "java/lang/invoke/MethodHandle" ∧ yJ0_isLatin1_aae02.cls ≠ "java/lang/invoke/VarHandle" ∧ (parseMethodDescriptor yJ0_isLatin1_aae02.desc).map (fun d => d.parameters.length) = some 0 := by decide +kernel
theorem qJ0_coder : yJ0_coder_7d493.cls = "java/lang/String" ∧ yJ0_coder_7d493.cls ≠ "java/lang/invoke/MethodHandle" ∧ yJ0_coder_7d493.cls ≠ "java/lang/invoke/VarHandle" ∧ (parseMethodDescriptor yJ0_coder_7d493.desc).map (fun d => d.parameters.length) = some 0 := by decide +kernel
theorem qJ0_length : yJ0_length_8abf5.cls = "java/lang/String" ∧ yJ0_length_8abf5.cls ≠ "java/lang/invoke/MethodHandle" ∧ yJ0_length_8abf5.cls ≠ "java/lang/invoke/VarHandle" ∧ (parseMethodDescriptor yJ0_length_8abf5.desc).map (fun d => d.parameters.length) = some 0 := by decide +kernel
theorem qJ0_charAt : yJ0_charAt_5068e.cls = "java/lang/String" ∧ yJ0_charAt_5068e.cls ≠ "java/lang/invoke/MethodHandle" ∧ yJ0_charAt_5068e.cls ≠ "java/lang/invoke/VarHandle" ∧ (parseMethodDescriptor yJ0_charAt_5068e.desc).map (fun d => d.parameters.length) = some 1 := by decide +kernel
theorem qJ1_charAt : yJ1_charAt_3b067.cls ≠ "java/lang/invoke/MethodHandle" ∧ yJ1_charAt_3b067.cls ≠ "java/lang/invoke/VarHandle" ∧ (parseMethodDescriptor yJ1_charAt_3b067.desc).map (fun d => d.parameters.length) = some 2 := by decide +kernel
theorem qJ0_checkIndex : yJ0_checkIndex_df160.cls ≠ "java/lang/invoke/MethodHandle" ∧ yJ0_checkIndex_df160.cls ≠ "java/lang/invoke/VarHandle" ∧ (parseMethodDescriptor yJ0_checkIndex_df160.desc).map (fun d => d.parameters.length) = some 2 := by decide +kernel
theorem qJ3_checkIndex : yJ3_checkIndex_8e157.cls ≠ "java/lang/invoke/MethodHandle" ∧ yJ3_checkIndex_8e157.cls ≠ "java/lang/invoke/VarHandle" ∧ (parseMethodDescriptor yJ3_checkIndex_8e157.desc).map (fun d => d.parameters.length) = some 3 := by decide +kernel
theorem x_sbyte : ∀ i, i < 3 → ∀ k, k < x_lenS.getD i 0 → ((((x_bytS.getD i []).getD k 0) &&& 255).toUInt32 % 65536).toInt32 = x_ch i k ∧ narrow .char (.int (x_ch i k)) = .int (x_ch i k) := by decide +kernel
theorem x_slen : ∀ i, i < 3 → x_lenS.getD i 0 < 200 := by decide +kernel
set_option maxHeartbeats 4000000 in
set_option maxRecDepth 100000 in
theorem m_isLatin1 (l : Launch) {g : xG} (hD : x_D g) {i : Nat} (hi : i < 3) {u : xM} : Met l yJ0_isLatin1_aae02 (Cond.code yJ0_isLatin1_aae02 cJ0_isLatin1_aae02 1 (some .boolean) :: wsL_law) (x_rm 0 0) (va_Pc [.ref (xsK g i)] (x_B g u)) (x_Qi g (fun r u' => r = 1 ∧ u' = u)) 0 0 (x_A g) := by
  refine Met.ofW (cc := cJ0_isLatin1_aae02) (maxL := 1) (ret := some .boolean) (by decide) rfl ?_
  intro p e s m args below meth c s₁ B hml hv
  obtain ⟨rfl, hB⟩ := hv
  obtain ⟨C, hw⟩ := x_start B hml hD hB
  have hl := lv_entry [.ref (xsK g i)] (n := 1) (Nat.le_of_ble_eq_true rfl)
  rw [lg_entry_eq]
  have hx := C.1
  have hb := C.2.1
  refine va_gets hx hb C.2.2.2.2.2.2.2.2.2.1.2.1 hw.2 C.2.2.2.1 (C.2.2.2.2.1 _ xw_154) (fun _ h9 => h9) dJ0_isLatin1_aae02_0 ?_
  refine lv_if_eq (tgt := 17) hx hb dJ0_isLatin1_aae02_3 (by decide) (fun c => absurd c (by decide)) (fun _ => ?_)
  refine lv_aload_n hx hb dJ0_isLatin1_aae02_6 rfl (lv_at hl 0 rfl) ?_
  refine vk_getf hx hb (C.2.2.2.2.2.2.2.2.2.2.2.2.1.1 i hi).2.1 hw.2 C.2.2.2.1 (C.2.2.2.2.1 _ xw_155) (fun _ h9 => h9) dJ0_isLatin1_aae02_7 ?_
  refine lv_if_ne (tgt := 17) hx hb dJ0_isLatin1_aae02_10 (by decide) (fun c => absurd rfl c) (fun _ => ?_)
  refine lv_iconst (v := 1) hx hb dJ0_isLatin1_aae02_13 (by decide) ?_
  refine lv_goto (tgt := 18) hx hb dJ0_isLatin1_aae02_14 (by decide) ?_
  exact x_bret C hw ⟨rfl, rfl⟩ rfl dJ0_isLatin1_aae02_18
set_option maxHeartbeats 4000000 in
set_option maxRecDepth 100000 in
theorem m_coder (l : Launch) {g : xG} (hD : x_D g) {i : Nat} (hi : i < 3) {u : xM} : Met l yJ0_coder_7d493 (Cond.code yJ0_coder_7d493 cJ0_coder_7d493 1 (some .byte) :: wsL_law) (x_rm 0 0) (va_Pc [.ref (xsK g i)] (x_B g u)) (x_Qi g (fun r u' => r = 0 ∧ u' = u)) 0 0 (x_A g) := by
  refine Met.ofW (cc := cJ0_coder_7d493) (maxL := 1) (ret := some .byte) (by decide) rfl ?_
  intro p e s m args below meth c s₁ B hml hv
  obtain ⟨rfl, hB⟩ := hv
  obtain ⟨C, hw⟩ := x_start B hml hD hB
  have hl := lv_entry [.ref (xsK g i)] (n := 1) (Nat.le_of_ble_eq_true rfl)
  rw [lg_entry_eq]
  have hx := C.1
  have hb := C.2.1
  refine va_gets hx hb C.2.2.2.2.2.2.2.2.2.1.2.1 hw.2 C.2.2.2.1 (C.2.2.2.2.1 _ xw_154) (fun _ h9 => h9) dJ0_coder_7d493_0 ?_
  refine lv_if_eq (tgt := 13) hx hb dJ0_coder_7d493_3 (by decide) (fun c => absurd c (by decide)) (fun _ => ?_)
  refine lv_aload_n hx hb dJ0_coder_7d493_6 rfl (lv_at hl 0 rfl) ?_
  refine vk_getf hx hb (C.2.2.2.2.2.2.2.2.2.2.2.2.1.1 i hi).2.1 hw.2 C.2.2.2.1 (C.2.2.2.2.1 _ xw_155) (fun _ h9 => h9) dJ0_coder_7d493_7 ?_
  refine lv_goto (tgt := 14) hx hb dJ0_coder_7d493_10 (by decide) ?_
  exact x_bret C hw ⟨rfl, rfl⟩ rfl dJ0_coder_7d493_14
set_option maxHeartbeats 4000000 in
set_option maxRecDepth 100000 in
theorem m_length (l : Launch) {g : xG} (hD : x_D g) {i : Nat} (hi : i < 3) {u : xM} : Met l yJ0_length_8abf5 (Cond.code yJ0_length_8abf5 cJ0_length_8abf5 1 (some .int) :: wsL_law) (x_rm 1 60) (va_Pc [.ref (xsK g i)] (x_B g u)) (x_Qi g (fun r u' => r = nI (x_lenS.getD i 0) ∧ u' = u)) 0 0 (x_A g) := by
  refine Met.ofW (cc := cJ0_length_8abf5) (maxL := 1) (ret := some .int) (by decide) rfl ?_
  intro p e s m args below meth c s₁ B hml hv
  obtain ⟨rfl, hB⟩ := hv
  obtain ⟨C, hw⟩ := x_start B hml hD hB
  have hl := lv_entry [.ref (xsK g i)] (n := 1) (Nat.le_of_ble_eq_true rfl)
  rw [lg_entry_eq]
  have hx := C.1
  have hb := C.2.1
  refine lv_aload_n hx hb dJ0_length_8abf5_0 rfl (lv_at hl 0 rfl) ?_
  refine vk_getf hx hb (C.2.2.2.2.2.2.2.2.2.2.2.2.1.1 i hi).2.2.1 hw.2 C.2.2.2.1 (C.2.2.2.2.1 _ xw_149) (fun _ h9 => h9) dJ0_length_8abf5_1 ?_
  refine va_tlen hx hb (C.2.2.2.2.2.2.2.2.2.2.2.2.1.1 i hi).2.2.2 hw.2 rfl dJ0_length_8abf5_4 ?_
  refine lv_aload_n hx hb dJ0_length_8abf5_5 rfl (lv_at hl 0 rfl) ?_
  refine x_calli hw (x_runVS C hw hi (m_coder l C.2.2.2.2.2.2.2.2.1 hi) (x_gV xw_150 xw_JcoderInst xw_JcoderSel xw_JstrIni xw_JcoderCode) rfl rfl qJ0_coder ⟨Nat.le_of_ble_eq_true rfl, Nat.le_of_ble_eq_true rfl⟩ rfl hl.1 rfl (Nat.le_of_ble_eq_true rfl) dJ0_length_8abf5_6) (fun r u1 H locs hw h => ?_)
  obtain ⟨hr9, hu9⟩ := h
  subst hr9
  rw [hu9] at hw
  refine lv_ishr hx hb dJ0_length_8abf5_9 ?_
  exact x_iret C hw ⟨sb_shr0 _, rfl⟩ dJ0_length_8abf5_10
set_option maxHeartbeats 4000000 in
set_option maxRecDepth 100000 in
theorem m_pcheck (l : Launch) {g : xG} (hD : x_D g) {a1 a2 : Int32} {r : Option Nat} (h1 : ¬ a1 < 0) (h2 : a1 < a2) {u : xM} : Met l yJ3_checkIndex_8e157 (Cond.code yJ3_checkIndex_8e157 cJ3_checkIndex_8e157 3 (some .int) :: wsL_law) (x_rm 0 0) (va_Pc [.int a1, .int a2, va_rf r] (x_B g u)) (x_Qi g (fun r u' => r = a1 ∧ u' = u)) 0 0 (x_A g) := by
  refine Met.ofW (cc := cJ3_checkIndex_8e157) (maxL := 3) (ret := some .int) (by decide) rfl ?_
  intro p e s m args below meth c s₁ B hml hv
  obtain ⟨rfl, hB⟩ := hv
  obtain ⟨C, hw⟩ := x_start B hml hD hB
  cases r with
  | none =>
    have hl := lv_entry [.int a1, .int a2, .null] (n := 3) (Nat.le_of_ble_eq_true rfl)
    rw [show (#[Value.int a1, .int a2, va_rf none] : Array Value) = ([Value.int a1, .int a2, .null] : List Value).toArray from rfl, lg_entry_eq]
    have hx := C.1
    have hb := C.2.1
    refine lv_iload_n hx hb dJ3_checkIndex_8e157_0 rfl (lv_at hl 0 rfl) ?_
    refine lv_if_lt (tgt := 9) hx hb dJ3_checkIndex_8e157_1 (by decide) (fun c => absurd c h1) (fun _ => ?_)
    refine lv_iload_n hx hb dJ3_checkIndex_8e157_4 rfl (lv_at hl 0 rfl) ?_
    refine lv_iload_n hx hb dJ3_checkIndex_8e157_5 rfl (lv_at hl 1 rfl) ?_
    refine lv_icmp_lt (tgt := 16) hx hb dJ3_checkIndex_8e157_6 (by decide) (fun _ => ?_) (fun c => absurd h2 c)
    refine lv_iload_n hx hb dJ3_checkIndex_8e157_16 rfl (lv_at hl 0 rfl) ?_
    exact x_iret C hw ⟨rfl, rfl⟩ dJ3_checkIndex_8e157_17
  | some q =>
    have hl := lv_entry [.int a1, .int a2, .ref q] (n := 3) (Nat.le_of_ble_eq_true rfl)
    rw [show (#[Value.int a1, .int a2, va_rf (some q)] : Array Value) = ([Value.int a1, .int a2, .ref q] : List Value).toArray from rfl, lg_entry_eq]
    have hx := C.1
    have hb := C.2.1
    refine lv_iload_n hx hb dJ3_checkIndex_8e157_0 rfl (lv_at hl 0 rfl) ?_
    refine lv_if_lt (tgt := 9) hx hb dJ3_checkIndex_8e157_1 (by decide) (fun c => absurd c h1) (fun _ => ?_)
    refine lv_iload_n hx hb dJ3_checkIndex_8e157_4 rfl (lv_at hl 0 rfl) ?_
    refine lv_iload_n hx hb dJ3_checkIndex_8e157_5 rfl (lv_at hl 1 rfl) ?_
    refine lv_icmp_lt (tgt := 16) hx hb dJ3_checkIndex_8e157_6 (by decide) (fun _ => ?_) (fun c => absurd h2 c)
    refine lv_iload_n hx hb dJ3_checkIndex_8e157_16 rfl (lv_at hl 0 rfl) ?_
    exact x_iret C hw ⟨rfl, rfl⟩ dJ3_checkIndex_8e157_17
set_option maxHeartbeats 4000000 in
set_option maxRecDepth 100000 in
theorem m_scheck (l : Launch) {g : xG} (hD : x_D g) {a1 a2 : Int32} (h1 : ¬ a1 < 0) (h2 : a1 < a2) {u : xM} : Met l yJ0_checkIndex_df160 (Cond.code yJ0_checkIndex_df160 cJ0_checkIndex_df160 2 none :: wsL_law) (x_rm 1 60) (va_Pc [.int a1, .int a2] (x_B g u)) (x_Qv g (fun u' => u' = u)) 0 0 (x_A g) := by
  refine Met.ofW (cc := cJ0_checkIndex_df160) (maxL := 2) (ret := none) (by decide) rfl ?_
  intro p e s m args below meth c s₁ B hml hv
  obtain ⟨rfl, hB⟩ := hv
  obtain ⟨C, hw⟩ := x_start B hml hD hB
  have hl := lv_entry [.int a1, .int a2] (n := 2) (Nat.le_of_ble_eq_true rfl)
  rw [lg_entry_eq]
  have hx := C.1
  have hb := C.2.1
  refine lv_iload_n hx hb dJ0_checkIndex_df160_0 rfl (lv_at hl 0 rfl) ?_
  refine lv_iload_n hx hb dJ0_checkIndex_df160_1 rfl (lv_at hl 1 rfl) ?_
  obtain ⟨r, hZ⟩ : ∃ r : Option Nat, va_Z "jdk/internal/util/Preconditions" "SIOOBE_FORMATTER" "Ljava/util/function/BiFunction;" (va_rf r) (x_A g) s s.heap := by
    rcases C.2.2.2.2.2.2.2.2.2.1.2.2 with h | ⟨t, h⟩
    · exact ⟨none, h⟩
    · exact ⟨some t, h⟩
  refine va_gets hx hb hZ hw.2 C.2.2.2.1 (C.2.2.2.2.1 _ xw_171) (fun _ h9 => h9) dJ0_checkIndex_df160_2 ?_
  refine x_calli hw (x_runS C hw (m_pcheck l C.2.2.2.2.2.2.2.2.1 (r := r) h1 h2) (x_gS xw_172 xw_JpcStat xw_JpcIni xw_JpcCode) rfl rfl qJ3_checkIndex ⟨Nat.le_of_ble_eq_true rfl, Nat.le_of_ble_eq_true rfl⟩ rfl hl.1 rfl (Nat.le_of_ble_eq_true rfl) dJ0_checkIndex_df160_5) (fun r u1 H locs hw h => ?_)
  obtain ⟨hr9, hu9⟩ := h
  subst hr9
  rw [hu9] at hw
  refine lv_pop hx hb dJ0_checkIndex_df160_8 rfl ?_
  exact x_vret C hw rfl dJ0_checkIndex_df160_9
set_option maxHeartbeats 4000000 in
set_option maxRecDepth 100000 in
theorem m_lcharAt (l : Launch) {g : xG} (hD : x_D g) {i : Nat} (hi : i < 3) {a1 : Int32} (hin : vp_in a1 (x_lenS.getD i 0)) {u : xM} : Met l yJ1_charAt_3b067 (Cond.code yJ1_charAt_3b067 cJ1_charAt_3b067 2 (some .char) :: wsL_law) (x_rm 2 90) (va_Pc [.ref (xsV g i), .int a1] (x_B g u)) (x_Qi g (fun r u' => r = x_ch i a1.toNatClampNeg ∧ u' = u)) 0 0 (x_A g) := by
  refine Met.ofW (cc := cJ1_charAt_3b067) (maxL := 2) (ret := some .char) (by decide) rfl ?_
  intro p e s m args below meth c s₁ B hml hv
  obtain ⟨rfl, hB⟩ := hv
  obtain ⟨C, hw⟩ := x_start B hml hD hB
  have hl := lv_entry [.ref (xsV g i), .int a1] (n := 2) (Nat.le_of_ble_eq_true rfl)
  rw [lg_entry_eq]
  have hx := C.1
  have hb := C.2.1
  have hlen := x_slen i hi
  obtain ⟨j, hj, rfl⟩ := vp_in_of hin (by omega)
  have hjc : (nI j).toNatClampNeg = j := nI_clamp (by omega)
  refine lv_iload_n hx hb dJ1_charAt_3b067_0 rfl (lv_at hl 1 rfl) ?_
  refine lv_aload_n hx hb dJ1_charAt_3b067_1 rfl (lv_at hl 0 rfl) ?_
  refine va_tlen hx hb (C.2.2.2.2.2.2.2.2.2.2.2.2.1.1 i hi).2.2.2 hw.2 rfl dJ1_charAt_3b067_2 ?_
  refine x_callv hw (x_runS C hw (m_scheck l C.2.2.2.2.2.2.2.2.1 (nI_pos (by omega)) (nI_lt hj (by omega))) (x_gS xw_168 xw_JscStat xw_JstrIni xw_JscCode) rfl rfl qJ0_checkIndex ⟨Nat.le_of_ble_eq_true rfl, Nat.le_of_ble_eq_true rfl⟩ rfl hl.1 rfl (Nat.le_of_ble_eq_true rfl) dJ1_charAt_3b067_3) (fun u1 H locs hw h => ?_)
  rw [h] at hw
  refine lv_aload_n hx hb dJ1_charAt_3b067_6 rfl (lv_at hl 0 rfl) ?_
  refine lv_iload_n hx hb dJ1_charAt_3b067_7 rfl (lv_at hl 1 rfl) ?_
  refine va_tb hx hb (C.2.2.2.2.2.2.2.2.2.2.2.2.1.1 i hi).2.2.2 hw.2 hin rfl dJ1_charAt_3b067_8 ?_
  refine lv_sipush (v := 255) hx hb dJ1_charAt_3b067_9 (by decide) ?_
  refine lv_iand hx hb dJ1_charAt_3b067_12 ?_
  refine lv_i2c hx hb dJ1_charAt_3b067_13 rfl ?_
  have hs := x_sbyte i hi j hj
  rw [hjc, hs.1]
  exact x_bret C hw ⟨rfl, rfl⟩ hs.2 dJ1_charAt_3b067_14
set_option maxHeartbeats 4000000 in
set_option maxRecDepth 100000 in
theorem m_charAt (l : Launch) {g : xG} (hD : x_D g) {i : Nat} (hi : i < 3) {a1 : Int32} (hin : vp_in a1 (x_lenS.getD i 0)) {u : xM} : Met l yJ0_charAt_5068e (Cond.code yJ0_charAt_5068e cJ0_charAt_5068e 2 (some .char) :: wsL_law) (x_rm 4 160) (va_Pc [.ref (xsK g i), .int a1] (x_B g u)) (x_Qi g (fun r u' => r = x_ch i a1.toNatClampNeg ∧ u' = u)) 0 0 (x_A g) := by
  refine Met.ofW (cc := cJ0_charAt_5068e) (maxL := 2) (ret := some .char) (by decide) rfl ?_
  intro p e s m args below meth c s₁ B hml hv
  obtain ⟨rfl, hB⟩ := hv
  obtain ⟨C, hw⟩ := x_start B hml hD hB
  have hl := lv_entry [.ref (xsK g i), .int a1] (n := 2) (Nat.le_of_ble_eq_true rfl)
  rw [lg_entry_eq]
  have hx := C.1
  have hb := C.2.1
  refine lv_aload_n hx hb dJ0_charAt_5068e_0 rfl (lv_at hl 0 rfl) ?_
  refine x_calli hw (x_runVS C hw hi (m_isLatin1 l C.2.2.2.2.2.2.2.2.1 hi) (x_gV xw_160 xw_JlatInst xw_JlatSel xw_JstrIni xw_JlatCode) rfl rfl qJ0_isLatin1 ⟨Nat.le_of_ble_eq_true rfl, Nat.le_of_ble_eq_true rfl⟩ rfl hl.1 rfl (Nat.le_of_ble_eq_true rfl) dJ0_charAt_5068e_1) (fun r u1 H locs hw h => ?_)
  obtain ⟨hr9, hu9⟩ := h
  subst hr9
  rw [hu9] at hw
  refine lv_if_eq (tgt := 16) hx hb dJ0_charAt_5068e_4 (by decide) (fun c => absurd c (by decide)) (fun _ => ?_)
  refine lv_aload_n hx hb dJ0_charAt_5068e_7 rfl (lv_at hl 0 rfl) ?_
  refine vk_getf hx hb (C.2.2.2.2.2.2.2.2.2.2.2.2.1.1 i hi).2.2.1 hw.2 C.2.2.2.1 (C.2.2.2.2.1 _ xw_149) (fun _ h9 => h9) dJ0_charAt_5068e_8 ?_
  refine lv_iload_n hx hb dJ0_charAt_5068e_11 rfl (lv_at hl 1 rfl) ?_
  refine x_calli hw (x_runS C hw (m_lcharAt l C.2.2.2.2.2.2.2.2.1 hi hin) (x_gS xw_164 xw_JlcStat xw_JlcIni xw_JlcCode) rfl rfl qJ1_charAt ⟨Nat.le_of_ble_eq_true rfl, Nat.le_of_ble_eq_true rfl⟩ rfl hl.1 rfl (Nat.le_of_ble_eq_true rfl) dJ0_charAt_5068e_12) (fun r u1 H locs hw h => ?_)
  obtain ⟨hr9, hu9⟩ := h
  subst hr9
  rw [hu9] at hw
  have hlen := x_slen i hi
  obtain ⟨j, hj, rfl⟩ := vp_in_of hin (by omega)
  have hjc : (nI j).toNatClampNeg = j := nI_clamp (by omega)
  exact x_bret C hw ⟨rfl, rfl⟩ (by rw [hjc]; exact (x_sbyte i hi j hj).2) dJ0_charAt_5068e_15
section XSTQ
variable {p : Program} {l : Launch} {e : Env} {R : Room} {s : State} {m : MethodId} {args : Array Value} {below : List Frame} {meth : Method} {c : Code} {H : Heap} {locs : List Loc} {Q : State → Prop}
variable {cc : ByteArray} {pc nL : Nat} {ls : Array Slot} {rest : List Value} {g : xG} {u : xM} {own : String} {ret : Option FieldType}
theorem x_strlen {index i : Nat} (C : x_C p s m args meth c g own cc nL ret) (hw : x_W g s.heap H locs u) (hi : i < 3) (hls : ls.size = nL) (h1 : Cond.methodLink own index yJ0_length_8abf5 ∈ wsL_law) (hfr : 2 ≤ R.frames) (hlo : 80 ≤ R.locals) (hrest : (rest.map fun v => v.category).sum ≤ 8) (hd : decode cc pc = .ok (.invokevirtual index, 3))
    (kk : ∀ (H1 : Heap) (locs1 : List Loc), x_W g s.heap H1 locs1 u → W p l e R s m args below meth c H1 locs1 0 0 Q (F0 m (pc + 3) ls (.int (nI (x_lenS.getD i 0)) :: rest))) : W p l e R s m args below meth c H locs 0 0 Q (F0 m pc ls (.ref (xsK g i) :: rest)) := by
  refine x_calli hw (x_runVS C hw hi (m_length l C.2.2.2.2.2.2.2.2.1 hi) (x_gV h1 xw_JlenInst xw_JlenSel xw_JstrIni xw_JlenCode) rfl rfl qJ0_length ⟨hfr, hlo⟩ rfl hls rfl hrest hd) (fun r u1 H locs hw h => ?_)
  obtain ⟨hr9, hu9⟩ := h
  subst hr9
  rw [hu9] at hw
  exact kk H locs hw
theorem x_strchar {index i : Nat} {a1 : Int32} (C : x_C p s m args meth c g own cc nL ret) (hw : x_W g s.heap H locs u) (hi : i < 3) (hin : vp_in a1 (x_lenS.getD i 0)) (hls : ls.size = nL) (h1 : Cond.methodLink own index yJ0_charAt_5068e ∈ wsL_law) (hfr : 5 ≤ R.frames) (hlo : 181 ≤ R.locals) (hrest : (rest.map fun v => v.category).sum ≤ 8) (hd : decode cc pc = .ok (.invokevirtual index, 3))
    (kk : ∀ (H1 : Heap) (locs1 : List Loc), x_W g s.heap H1 locs1 u → W p l e R s m args below meth c H1 locs1 0 0 Q (F0 m (pc + 3) ls (.int (x_ch i a1.toNatClampNeg) :: rest))) : W p l e R s m args below meth c H locs 0 0 Q (F0 m pc ls (.int a1 :: .ref (xsK g i) :: rest)) := by
  refine x_calli hw (x_runVS C hw hi (m_charAt l C.2.2.2.2.2.2.2.2.1 hi hin) (x_gV h1 xw_JchInst xw_JchSel xw_JstrIni xw_JchCode) rfl rfl qJ0_charAt ⟨hfr, hlo⟩ rfl hls rfl hrest hd) (fun r u1 H locs hw h => ?_)
  obtain ⟨hr9, hu9⟩ := h
  subst hr9
  rw [hu9] at hw
  exact kk H locs hw
end XSTQ
