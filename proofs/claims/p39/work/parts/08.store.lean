set_option maxHeartbeats 4000000 in
set_option maxRecDepth 100000 in
theorem c_X6_checkKey (l : Launch) (D : va_G) (cy : ClassId) (ad : Nat → Nat) (S : cs_St) (a0 : Int32) (g0 : ¬ a0 < 0) (g1 : a0 ≤ 9999) : Met l yX6_checkKey (cs_ws yX6_checkKey cX6_checkKey 1 none) (cs_rm 0 0) (cs_Pc D cy ad [.int a0] S) (cs_Qv D cy ad (fun S1 => S1 = S)) 0 0 (cs_A ad) := by
  refine cs_of RX6 (by decide) rfl (Nat.le_of_ble_eq_true rfl) ?_
  intro p e s m below meth c hF hr hlk hw hK ls hl
  obtain ⟨hx, hb, hml, hown, hts⟩ := id hF
  have hS : va_S (cs_A ad) s.heap s.heap [] := va_S.rf
  have hl : lv_has ls 1 [(0, .int a0)] := hl
  refine lv_iload_n hx hb dX6_checkKey_0 rfl (lv_at hl 0 rfl) ?_
  refine lv_if_lt (tgt := 11) hx hb dX6_checkKey_1 (by decide) (fun c_1 => absurd c_1 (g0)) (fun c_1 => ?_)
  refine lv_iload_n hx hb dX6_checkKey_4 rfl (lv_at hl 0 rfl) ?_
  refine lv_sipush (v := 9999) hx hb dX6_checkKey_5 (by decide) ?_
  refine lv_icmp_le (tgt := 22) hx hb dX6_checkKey_8 (by decide) (fun c_2 => ?_) (fun c_2 => absurd (g1) c_2)
  exact cs_vret hF hr hlk hw hK hS dX6_checkKey_22 rfl
theorem kk_X6_checkKey : yX6_checkKey.cls ≠ "java/lang/invoke/MethodHandle" ∧ yX6_checkKey.cls ≠ "java/lang/invoke/VarHandle" ∧ (parseMethodDescriptor yX6_checkKey.desc).map (fun d => d.parameters.length) = some 1 := by decide +kernel
set_option maxHeartbeats 4000000 in
set_option maxRecDepth 100000 in
theorem c_X6_checkKeys (l : Launch) (D : va_G) (cy : ClassId) (ad : Nat → Nat) (S : cs_St) (a0 : Int32) (a1 : Int32) (g0 : ¬ a0 < 0) (g1 : ¬ 9999 < a0) (g2 : ¬ a1 < a0) (g3 : a1 ≤ 9999) : Met l yX6_checkKeys (cs_ws yX6_checkKeys cX6_checkKeys 2 none) (cs_rm 0 0) (cs_Pc D cy ad [.int a0, .int a1] S) (cs_Qv D cy ad (fun S1 => S1 = S)) 0 0 (cs_A ad) := by
  refine cs_of RX6 (by decide) rfl (Nat.le_of_ble_eq_true rfl) ?_
  intro p e s m below meth c hF hr hlk hw hK ls hl
  obtain ⟨hx, hb, hml, hown, hts⟩ := id hF
  have hS : va_S (cs_A ad) s.heap s.heap [] := va_S.rf
  have hl : lv_has ls 2 [(0, .int a0), (1, .int a1)] := hl
  refine lv_iload_n hx hb dX6_checkKeys_0 rfl (lv_at hl 0 rfl) ?_
  refine lv_if_lt (tgt := 23) hx hb dX6_checkKeys_1 (by decide) (fun c_1 => absurd c_1 (g0)) (fun c_1 => ?_)
  refine lv_iload_n hx hb dX6_checkKeys_4 rfl (lv_at hl 0 rfl) ?_
  refine lv_sipush (v := 9999) hx hb dX6_checkKeys_5 (by decide) ?_
  refine lv_icmp_gt (tgt := 23) hx hb dX6_checkKeys_8 (by decide) (fun c_2 => absurd c_2 (g1)) (fun c_2 => ?_)
  refine lv_iload_n hx hb dX6_checkKeys_11 rfl (lv_at hl 1 rfl) ?_
  refine lv_iload_n hx hb dX6_checkKeys_12 rfl (lv_at hl 0 rfl) ?_
  refine lv_icmp_lt (tgt := 23) hx hb dX6_checkKeys_13 (by decide) (fun c_3 => absurd c_3 (g2)) (fun c_3 => ?_)
  refine lv_iload_n hx hb dX6_checkKeys_16 rfl (lv_at hl 1 rfl) ?_
  refine lv_sipush (v := 9999) hx hb dX6_checkKeys_17 (by decide) ?_
  refine lv_icmp_le (tgt := 34) hx hb dX6_checkKeys_20 (by decide) (fun c_4 => ?_) (fun c_4 => absurd (g3) c_4)
  exact cs_vret hF hr hlk hw hK hS dX6_checkKeys_34 rfl
theorem kk_X6_checkKeys : yX6_checkKeys.cls ≠ "java/lang/invoke/MethodHandle" ∧ yX6_checkKeys.cls ≠ "java/lang/invoke/VarHandle" ∧ (parseMethodDescriptor yX6_checkKeys.desc).map (fun d => d.parameters.length) = some 2 := by decide +kernel
set_option maxHeartbeats 4000000 in
set_option maxRecDepth 100000 in
theorem c_X6_checkLevel (l : Launch) (D : va_G) (cy : ClassId) (ad : Nat → Nat) (S : cs_St) (a0 : Int32) (g0 : ¬ a0 < 0) (g1 : a0 < 4) : Met l yX6_checkLevel (cs_ws yX6_checkLevel cX6_checkLevel 1 none) (cs_rm 0 0) (cs_Pc D cy ad [.int a0] S) (cs_Qv D cy ad (fun S1 => S1 = S)) 0 0 (cs_A ad) := by
  refine cs_of RX6 (by decide) rfl (Nat.le_of_ble_eq_true rfl) ?_
  intro p e s m below meth c hF hr hlk hw hK ls hl
  obtain ⟨hx, hb, hml, hown, hts⟩ := id hF
  have hS : va_S (cs_A ad) s.heap s.heap [] := va_S.rf
  have hl : lv_has ls 1 [(0, .int a0)] := hl
  refine lv_iload_n hx hb dX6_checkLevel_0 rfl (lv_at hl 0 rfl) ?_
  refine lv_if_lt (tgt := 9) hx hb dX6_checkLevel_1 (by decide) (fun c_1 => absurd c_1 (g0)) (fun c_1 => ?_)
  refine lv_iload_n hx hb dX6_checkLevel_4 rfl (lv_at hl 0 rfl) ?_
  refine lv_iconst (v := 4) hx hb dX6_checkLevel_5 (by decide) ?_
  refine lv_icmp_lt (tgt := 20) hx hb dX6_checkLevel_6 (by decide) (fun c_2 => ?_) (fun c_2 => absurd (g1) c_2)
  exact cs_vret hF hr hlk hw hK hS dX6_checkLevel_20 rfl
theorem kk_X6_checkLevel : yX6_checkLevel.cls ≠ "java/lang/invoke/MethodHandle" ∧ yX6_checkLevel.cls ≠ "java/lang/invoke/VarHandle" ∧ (parseMethodDescriptor yX6_checkLevel.desc).map (fun d => d.parameters.length) = some 1 := by decide +kernel
theorem g_X6_143 : GoodIn cs_WS (va_wsS RX6 143 yX6_checkLevel (cs_ws yX6_checkLevel cX6_checkLevel 1 none)) := cs_goodS q_379 q_380 q_299 q_370
theorem g_X6_153 : GoodIn cs_WS (wsV RX6 153 RX4 yX4_first (cs_ws yX4_first cX4_first 4 (some .int))) := cs_goodV q_315 q_142 q_143 q_139 q_133
theorem g_X6_156 : GoodIn cs_WS (wsV RX6 156 RX4 yX4_count (cs_ws yX4_count cX4_count 2 (some .int))) := cs_goodV q_304 q_305 q_306 q_139 q_131
def m_X6_numberOf (S : cs_St) (a1 : Int32) (a2 : Int32) : Int32 := cs_let (m_X4_count S a1) (fun r_2 => cs_let (m_X4_first S a1) (fun r_4 => (r_4 + a2)))
set_option maxHeartbeats 4000000 in
set_option maxRecDepth 100000 in
theorem c_X6_numberOf (l : Launch) (D : va_G) (cy : ClassId) (ad : Nat → Nat) (S : cs_St) (a1 : Int32) (a2 : Int32) (g0 : ¬ a1 < 0) (g1 : a1 < 4) (g2 : ¬ a2 < 0) (g3 : a2 < m_X4_count S a1) : Met l yX6_numberOf (cs_ws yX6_numberOf cX6_numberOf 3 (some .int)) (cs_rm 2 44) (cs_Pc D cy ad [.ref (ad 0), .int a1, .int a2] S) (cs_Qi D cy ad (fun r S1 => r = m_X6_numberOf S a1 a2 ∧ S1 = S)) 0 0 (cs_A ad) := by
  refine cs_of RX6 (by decide) rfl (Nat.le_of_ble_eq_true rfl) ?_
  intro p e s m below meth c hF hr hlk hw hK ls hl
  obtain ⟨hx, hb, hml, hown, hts⟩ := id hF
  have hS : va_S (cs_A ad) s.heap s.heap [] := va_S.rf
  have hl : lv_has ls 3 [(0, .ref (ad 0)), (1, .int a1), (2, .int a2)] := hl
  generalize hRes : m_X6_numberOf S a1 a2 = Res
  unfold m_X6_numberOf at hRes
  refine lv_iload_n hx hb dX6_numberOf_0 rfl (lv_at hl 1 rfl) ?_
  refine cs_svr hF (c_X6_checkLevel l D cy ad S a1 (g0) (g1)) (va_cwS 1 hts g_X6_143 rfl rfl rfl kk_X6_checkLevel ⟨Nat.le_of_ble_eq_true rfl, Nat.le_of_ble_eq_true rfl⟩) hw hK hS rfl hl.1 [] rfl (Nat.le_of_ble_eq_true rfl) dX6_numberOf_1 (fun H locs hw hS => ?_)
  refine lv_iload_n hx hb dX6_numberOf_4 rfl (lv_at hl 2 rfl) ?_
  refine lv_if_lt (tgt := 20) hx hb dX6_numberOf_5 (by decide) (fun c_1 => absurd c_1 (g2)) (fun c_1 => ?_)
  refine lv_iload_n hx hb dX6_numberOf_8 rfl (lv_at hl 2 rfl) ?_
  refine lv_aload_n hx hb dX6_numberOf_9 rfl (lv_at hl 0 rfl) ?_
  refine cs_get (C := RX6) (T := TX6) (N := 15) hF in_X6 hw hK 0 rfl rfl 13 (by decide) q_237 rfl dX6_numberOf_10 ?_
  refine lv_iload_n hx hb dX6_numberOf_13 rfl (lv_at hl 1 rfl) ?_
  refine cs_vir hF (c_X4_count l D cy ad S a1) (cwV 1 hts g_X6_156 rfl rfl rfl kk_X4_count ⟨Nat.le_of_ble_eq_true rfl, Nat.le_of_ble_eq_true rfl⟩) (cs_recv hK hw (ci := 4) 4 rfl rfl) hw hK hS rfl hl.1 [.int a2] rfl (Nat.le_of_ble_eq_true rfl) dX6_numberOf_14 (fun r_2 H locs hq hw hS => ?_)
  replace hRes := cs_letE hq hRes
  have g4 : a2 < r_2 := by rw [hq]; exact g3
  clear hq
  refine lv_icmp_lt (tgt := 31) hx hb dX6_numberOf_17 (by decide) (fun c_3 => ?_) (fun c_3 => absurd (g4) c_3)
  refine lv_aload_n hx hb dX6_numberOf_31 rfl (lv_at hl 0 rfl) ?_
  refine cs_get (C := RX6) (T := TX6) (N := 15) hF in_X6 hw hK 0 rfl rfl 13 (by decide) q_237 rfl dX6_numberOf_32 ?_
  refine lv_iload_n hx hb dX6_numberOf_35 rfl (lv_at hl 1 rfl) ?_
  refine cs_vir hF (c_X4_first l D cy ad S a1) (cwV 1 hts g_X6_153 rfl rfl rfl kk_X4_first ⟨Nat.le_of_ble_eq_true rfl, Nat.le_of_ble_eq_true rfl⟩) (cs_recv hK hw (ci := 4) 4 rfl rfl) hw hK hS rfl hl.1 [] rfl (Nat.le_of_ble_eq_true rfl) dX6_numberOf_36 (fun r_4 H locs hq hw hS => ?_)
  replace hRes := cs_letE hq hRes
  clear hq
  refine lv_iload_n hx hb dX6_numberOf_39 rfl (lv_at hl 2 rfl) ?_
  refine lv_iadd hx hb dX6_numberOf_40 ?_
  exact cs_iret hF hr hlk hw hK hS dX6_numberOf_41 ⟨hRes, rfl⟩
theorem kk_X6_numberOf : yX6_numberOf.cls = RX6 ∧ yX6_numberOf.cls ≠ "java/lang/invoke/MethodHandle" ∧ yX6_numberOf.cls ≠ "java/lang/invoke/VarHandle" ∧ (parseMethodDescriptor yX6_numberOf.desc).map (fun d => d.parameters.length) = some 2 := by decide +kernel
theorem g_X6_305 : GoodIn cs_WS (wsV RX6 305 RX5 yX5_placeOf (cs_ws yX5_placeOf cX5_placeOf 3 (some .int))) := cs_goodV q_403 q_404 q_405 q_95 q_207
def m_X6_placeOfSnapshot (S : cs_St) (a1 : Int32) : Int32 := cs_let (m_X5_placeOf S a1) (fun r_1 => r_1)
set_option maxHeartbeats 4000000 in
set_option maxRecDepth 100000 in
theorem c_X6_placeOfSnapshot (l : Launch) (D : va_G) (cy : ClassId) (ad : Nat → Nat) (S : cs_St) (a1 : Int32) (g0 : 0 ≤ m_X5_placeOf S a1) : Met l yX6_placeOfSnapshot (cs_ws yX6_placeOfSnapshot cX6_placeOfSnapshot 3 (some .int)) (cs_rm 2 43) (cs_Pc D cy ad [.ref (ad 0), .int a1] S) (cs_Qi D cy ad (fun r S1 => r = m_X6_placeOfSnapshot S a1 ∧ S1 = S)) 0 0 (cs_A ad) := by
  refine cs_of RX6 (by decide) rfl (Nat.le_of_ble_eq_true rfl) ?_
  intro p e s m below meth c hF hr hlk hw hK ls hl
  obtain ⟨hx, hb, hml, hown, hts⟩ := id hF
  have hS : va_S (cs_A ad) s.heap s.heap [] := va_S.rf
  have hl : lv_has ls 3 [(0, .ref (ad 0)), (1, .int a1)] := hl
  generalize hRes : m_X6_placeOfSnapshot S a1 = Res
  unfold m_X6_placeOfSnapshot at hRes
  refine lv_aload_n hx hb dX6_placeOfSnapshot_0 rfl (lv_at hl 0 rfl) ?_
  refine cs_get (C := RX6) (T := TX6) (N := 15) hF in_X6 hw hK 0 rfl rfl 12 (by decide) q_234 rfl dX6_placeOfSnapshot_1 ?_
  refine lv_iload_n hx hb dX6_placeOfSnapshot_4 rfl (lv_at hl 1 rfl) ?_
  refine cs_vir hF (c_X5_placeOf l D cy ad S a1) (cwV 1 hts g_X6_305 rfl rfl rfl kk_X5_placeOf ⟨Nat.le_of_ble_eq_true rfl, Nat.le_of_ble_eq_true rfl⟩) (cs_recv hK hw (ci := 5) 3 rfl rfl) hw hK hS rfl hl.1 [] rfl (Nat.le_of_ble_eq_true rfl) dX6_placeOfSnapshot_5 (fun r_1 H locs hq hw hS => ?_)
  replace hRes := cs_letE hq hRes
  have g1 : 0 ≤ r_1 := by rw [hq]; exact g0
  clear hq
  refine lv_istore_n (lv' := [(2, .int r_1), (0, .ref (ad 0)), (1, .int a1)]) hx hb dX6_placeOfSnapshot_8 rfl hl (by decide) rfl (fun ls hl => ?_)
  refine lv_iload_n hx hb dX6_placeOfSnapshot_9 rfl (lv_at hl 0 rfl) ?_
  refine lv_if_ge (tgt := 24) hx hb dX6_placeOfSnapshot_10 (by decide) (fun c_2 => ?_) (fun c_2 => absurd (g1) c_2)
  refine lv_iload_n hx hb dX6_placeOfSnapshot_24 rfl (lv_at hl 0 rfl) ?_
  exact cs_iret hF hr hlk hw hK hS dX6_placeOfSnapshot_25 ⟨hRes, rfl⟩
theorem kk_X6_placeOfSnapshot : yX6_placeOfSnapshot.cls = RX6 ∧ yX6_placeOfSnapshot.cls ≠ "java/lang/invoke/MethodHandle" ∧ yX6_placeOfSnapshot.cls ≠ "java/lang/invoke/VarHandle" ∧ (parseMethodDescriptor yX6_placeOfSnapshot.desc).map (fun d => d.parameters.length) = some 1 := by decide +kernel
def m_X6_setRoom (S : cs_St) (a1 : Int32) : Int32 × cs_St := cs_let (cs_sS S 0 a1) (fun S_3 => (S.2 0, S_3))
set_option maxHeartbeats 4000000 in
set_option maxRecDepth 100000 in
theorem c_X6_setRoom (l : Launch) (D : va_G) (cy : ClassId) (ad : Nat → Nat) (S : cs_St) (a1 : Int32) (g0 : ¬ a1 < 1) (g1 : a1 ≤ 16) : Met l yX6_setRoom (cs_ws yX6_setRoom cX6_setRoom 3 (some .int)) (cs_rm 0 0) (cs_Pc D cy ad [.ref (ad 0), .int a1] S) (cs_Qi D cy ad (fun r S1 => r = (m_X6_setRoom S a1).1 ∧ S1 = (m_X6_setRoom S a1).2)) 0 0 (cs_A ad) := by
  refine cs_of RX6 (by decide) rfl (Nat.le_of_ble_eq_true rfl) ?_
  intro p e s m below meth c hF hr hlk hw hK ls hl
  obtain ⟨hx, hb, hml, hown, hts⟩ := id hF
  have hS : va_S (cs_A ad) s.heap s.heap [] := va_S.rf
  have hl : lv_has ls 3 [(0, .ref (ad 0)), (1, .int a1)] := hl
  generalize hRes : m_X6_setRoom S a1 = Res
  unfold m_X6_setRoom at hRes
  refine lv_iload_n hx hb dX6_setRoom_0 rfl (lv_at hl 1 rfl) ?_
  refine lv_iconst (v := 1) hx hb dX6_setRoom_1 (by decide) ?_
  refine lv_icmp_lt (tgt := 11) hx hb dX6_setRoom_2 (by decide) (fun c_1 => absurd c_1 (g0)) (fun c_1 => ?_)
  refine lv_iload_n hx hb dX6_setRoom_5 rfl (lv_at hl 1 rfl) ?_
  refine lv_bipush (v := 16) hx hb dX6_setRoom_6 (by decide) ?_
  refine lv_icmp_le (tgt := 21) hx hb dX6_setRoom_8 (by decide) (fun c_2 => ?_) (fun c_2 => absurd (g1) c_2)
  refine lv_aload_n hx hb dX6_setRoom_21 rfl (lv_at hl 0 rfl) ?_
  refine cs_get (C := RX6) (T := TX6) (N := 15) hF in_X6 hw hK 0 rfl rfl 0 (by decide) q_214 rfl dX6_setRoom_22 ?_
  refine lv_istore_n (lv' := [(2, .int (S.2 0)), (0, .ref (ad 0)), (1, .int a1)]) hx hb dX6_setRoom_25 rfl hl (by decide) rfl (fun ls hl => ?_)
  refine lv_aload_n hx hb dX6_setRoom_26 rfl (lv_at hl 1 rfl) ?_
  refine lv_iload_n hx hb dX6_setRoom_27 rfl (lv_at hl 2 rfl) ?_
  refine cs_put (C := RX6) (T := TX6) (N := 15) hF in_X6 tyX6 tyX6_ok nmX6 hw hK hS 0 rfl rfl 0 (by decide) q_214 rfl (by decide +kernel) (Nat.le_of_ble_eq_true rfl) (cs_sS S 0 a1) rfl (cs_sS_ok hw.1 (fun h => absurd h (by decide))) dX6_setRoom_28 (fun H locs hw hS => ?_)
  obtain ⟨S_3, hq⟩ : ∃ z, z = cs_sS S 0 a1 := ⟨_, rfl⟩
  rw [← hq] at hw
  replace hRes := cs_letE hq hRes
  clear hq
  refine lv_iload_n hx hb dX6_setRoom_31 rfl (lv_at hl 0 rfl) ?_
  exact cs_iret hF hr hlk hw hK hS dX6_setRoom_32 ⟨cs_eq1 hRes, cs_eq2 hRes⟩
theorem kk_X6_setRoom : yX6_setRoom.cls = RX6 ∧ yX6_setRoom.cls ≠ "java/lang/invoke/MethodHandle" ∧ yX6_setRoom.cls ≠ "java/lang/invoke/VarHandle" ∧ (parseMethodDescriptor yX6_setRoom.desc).map (fun d => d.parameters.length) = some 1 := by decide +kernel
theorem g_X6_102 : GoodIn cs_WS (wsV RX6 102 RX4 yX4_total (cs_ws yX4_total cX4_total 1 (some .int))) := cs_goodV q_257 q_258 q_259 q_139 q_129
def m_X6_setWay (S : cs_St) (a1 : Int32) (a2 : Int32) (a3 : Int32) : Int32 × cs_St := cs_let (m_X4_total S) (fun r_7 => cs_let (cs_sS S 1 a1) (fun S_9 => cs_let (cs_sS S_9 2 a2) (fun S_10 => cs_let (cs_sS S_10 3 a3) (fun S_11 => (S.2 1, S_11)))))
set_option maxHeartbeats 4000000 in
set_option maxRecDepth 100000 in
theorem c_X6_setWay (l : Launch) (D : va_G) (cy : ClassId) (ad : Nat → Nat) (S : cs_St) (a1 : Int32) (a2 : Int32) (a3 : Int32) (g0 : ¬ a1 < 0) (g1 : a1 ≤ 1) (g2 : ¬ a2 < 2) (g3 : a2 ≤ 4) (g4 : ¬ a3 < 1) (g5 : a3 ≤ 20) (g6 : m_X4_total S ≤ 0) : Met l yX6_setWay (cs_ws yX6_setWay cX6_setWay 5 (some .int)) (cs_rm 2 40) (cs_Pc D cy ad [.ref (ad 0), .int a1, .int a2, .int a3] S) (cs_Qi D cy ad (fun r S1 => r = (m_X6_setWay S a1 a2 a3).1 ∧ S1 = (m_X6_setWay S a1 a2 a3).2)) 0 0 (cs_A ad) := by
  refine cs_of RX6 (by decide) rfl (Nat.le_of_ble_eq_true rfl) ?_
  intro p e s m below meth c hF hr hlk hw hK ls hl
  obtain ⟨hx, hb, hml, hown, hts⟩ := id hF
  have hS : va_S (cs_A ad) s.heap s.heap [] := va_S.rf
  have hl : lv_has ls 5 [(0, .ref (ad 0)), (1, .int a1), (2, .int a2), (3, .int a3)] := hl
  generalize hRes : m_X6_setWay S a1 a2 a3 = Res
  unfold m_X6_setWay at hRes
  refine lv_iload_n hx hb dX6_setWay_0 rfl (lv_at hl 1 rfl) ?_
  refine lv_if_lt (tgt := 9) hx hb dX6_setWay_1 (by decide) (fun c_1 => absurd c_1 (g0)) (fun c_1 => ?_)
  refine lv_iload_n hx hb dX6_setWay_4 rfl (lv_at hl 1 rfl) ?_
  refine lv_iconst (v := 1) hx hb dX6_setWay_5 (by decide) ?_
  refine lv_icmp_le (tgt := 19) hx hb dX6_setWay_6 (by decide) (fun c_2 => ?_) (fun c_2 => absurd (g1) c_2)
  refine lv_iload_n hx hb dX6_setWay_19 rfl (lv_at hl 2 rfl) ?_
  refine lv_iconst (v := 2) hx hb dX6_setWay_20 (by decide) ?_
  refine lv_icmp_lt (tgt := 29) hx hb dX6_setWay_21 (by decide) (fun c_3 => absurd c_3 (g2)) (fun c_3 => ?_)
  refine lv_iload_n hx hb dX6_setWay_24 rfl (lv_at hl 2 rfl) ?_
  refine lv_iconst (v := 4) hx hb dX6_setWay_25 (by decide) ?_
  refine lv_icmp_le (tgt := 39) hx hb dX6_setWay_26 (by decide) (fun c_4 => ?_) (fun c_4 => absurd (g3) c_4)
  refine lv_iload_n hx hb dX6_setWay_39 rfl (lv_at hl 3 rfl) ?_
  refine lv_iconst (v := 1) hx hb dX6_setWay_40 (by decide) ?_
  refine lv_icmp_lt (tgt := 50) hx hb dX6_setWay_41 (by decide) (fun c_5 => absurd c_5 (g4)) (fun c_5 => ?_)
  refine lv_iload_n hx hb dX6_setWay_44 rfl (lv_at hl 3 rfl) ?_
  refine lv_bipush (v := 20) hx hb dX6_setWay_45 (by decide) ?_
  refine lv_icmp_le (tgt := 60) hx hb dX6_setWay_47 (by decide) (fun c_6 => ?_) (fun c_6 => absurd (g5) c_6)
  refine lv_aload_n hx hb dX6_setWay_60 rfl (lv_at hl 0 rfl) ?_
  refine cs_get (C := RX6) (T := TX6) (N := 15) hF in_X6 hw hK 0 rfl rfl 13 (by decide) q_237 rfl dX6_setWay_61 ?_
  refine cs_vir hF (c_X4_total l D cy ad S) (cwV 0 hts g_X6_102 rfl rfl rfl kk_X4_total ⟨Nat.le_of_ble_eq_true rfl, Nat.le_of_ble_eq_true rfl⟩) (cs_recv hK hw (ci := 4) 4 rfl rfl) hw hK hS rfl hl.1 [] rfl (Nat.le_of_ble_eq_true rfl) dX6_setWay_64 (fun r_7 H locs hq hw hS => ?_)
  replace hRes := cs_letE hq hRes
  have g7 : r_7 ≤ 0 := by rw [hq]; exact g6
  clear hq
  refine lv_if_le (tgt := 80) hx hb dX6_setWay_67 (by decide) (fun c_8 => ?_) (fun c_8 => absurd (g7) c_8)
  refine lv_aload_n hx hb dX6_setWay_80 rfl (lv_at hl 0 rfl) ?_
  refine cs_get (C := RX6) (T := TX6) (N := 15) hF in_X6 hw hK 0 rfl rfl 1 (by decide) q_215 rfl dX6_setWay_81 ?_
  refine lv_istore (lv' := [(4, .int (S.2 1)), (0, .ref (ad 0)), (1, .int a1), (2, .int a2), (3, .int a3)]) hx hb dX6_setWay_84 hl (by decide) rfl (fun ls hl => ?_)
  refine lv_aload_n hx hb dX6_setWay_86 rfl (lv_at hl 1 rfl) ?_
  refine lv_iload_n hx hb dX6_setWay_87 rfl (lv_at hl 2 rfl) ?_
  refine cs_put (C := RX6) (T := TX6) (N := 15) hF in_X6 tyX6 tyX6_ok nmX6 hw hK hS 0 rfl rfl 1 (by decide) q_215 rfl (by decide +kernel) (Nat.le_of_ble_eq_true rfl) (cs_sS S 1 a1) rfl (cs_sS_ok hw.1 (fun h => absurd h (by decide))) dX6_setWay_88 (fun H locs hw hS => ?_)
  obtain ⟨S_9, hq⟩ : ∃ z, z = cs_sS S 1 a1 := ⟨_, rfl⟩
  rw [← hq] at hw
  replace hRes := cs_letE hq hRes
  clear hq
  refine lv_aload_n hx hb dX6_setWay_91 rfl (lv_at hl 1 rfl) ?_
  refine lv_iload_n hx hb dX6_setWay_92 rfl (lv_at hl 3 rfl) ?_
  refine cs_put (C := RX6) (T := TX6) (N := 15) hF in_X6 tyX6 tyX6_ok nmX6 hw hK hS 0 rfl rfl 2 (by decide) q_216 rfl (by decide +kernel) (Nat.le_of_ble_eq_true rfl) (cs_sS S_9 2 a2) rfl (cs_sS_ok hw.1 (fun h => absurd h (by decide))) dX6_setWay_93 (fun H locs hw hS => ?_)
  obtain ⟨S_10, hq⟩ : ∃ z, z = cs_sS S_9 2 a2 := ⟨_, rfl⟩
  rw [← hq] at hw
  replace hRes := cs_letE hq hRes
  clear hq
  refine lv_aload_n hx hb dX6_setWay_96 rfl (lv_at hl 1 rfl) ?_
  refine lv_iload_n hx hb dX6_setWay_97 rfl (lv_at hl 4 rfl) ?_
  refine cs_put (C := RX6) (T := TX6) (N := 15) hF in_X6 tyX6 tyX6_ok nmX6 hw hK hS 0 rfl rfl 3 (by decide) q_217 rfl (by decide +kernel) (Nat.le_of_ble_eq_true rfl) (cs_sS S_10 3 a3) rfl (cs_sS_ok hw.1 (fun h => absurd h (by decide))) dX6_setWay_98 (fun H locs hw hS => ?_)
  obtain ⟨S_11, hq⟩ : ∃ z, z = cs_sS S_10 3 a3 := ⟨_, rfl⟩
  rw [← hq] at hw
  replace hRes := cs_letE hq hRes
  clear hq
  refine lv_iload hx hb dX6_setWay_101 (lv_at hl 0 rfl) ?_
  exact cs_iret hF hr hlk hw hK hS dX6_setWay_103 ⟨cs_eq1 hRes, cs_eq2 hRes⟩
theorem kk_X6_setWay : yX6_setWay.cls = RX6 ∧ yX6_setWay.cls ≠ "java/lang/invoke/MethodHandle" ∧ yX6_setWay.cls ≠ "java/lang/invoke/VarHandle" ∧ (parseMethodDescriptor yX6_setWay.desc).map (fun d => d.parameters.length) = some 3 := by decide +kernel
def m_X6_setFilter (S : cs_St) (a1 : Int32) (a2 : Int32) : Int32 × cs_St := (if a1 = 0 then cs_let (cs_sS S 4 a1) (fun S_4 => cs_let (cs_sS S_4 5 a2) (fun S_5 => (S.2 4, S_5))) else cs_let (cs_sS S 4 a1) (fun S_10 => cs_let (cs_sS S_10 5 a2) (fun S_11 => (S.2 4, S_11))))
set_option maxHeartbeats 4000000 in
set_option maxRecDepth 100000 in
theorem c_X6_setFilter (l : Launch) (D : va_G) (cy : ClassId) (ad : Nat → Nat) (S : cs_St) (a1 : Int32) (a2 : Int32) (g0 : a1 = 0 ∨ (¬ a1 < 4 ∧ a1 ≤ 64)) (g1 : ¬ a2 < 1) (g2 : a2 ≤ 3) : Met l yX6_setFilter (cs_ws yX6_setFilter cX6_setFilter 4 (some .int)) (cs_rm 0 0) (cs_Pc D cy ad [.ref (ad 0), .int a1, .int a2] S) (cs_Qi D cy ad (fun r S1 => r = (m_X6_setFilter S a1 a2).1 ∧ S1 = (m_X6_setFilter S a1 a2).2)) 0 0 (cs_A ad) := by
  refine cs_of RX6 (by decide) rfl (Nat.le_of_ble_eq_true rfl) ?_
  intro p e s m below meth c hF hr hlk hw hK ls hl
  obtain ⟨hx, hb, hml, hown, hts⟩ := id hF
  have hS : va_S (cs_A ad) s.heap s.heap [] := va_S.rf
  have hl : lv_has ls 4 [(0, .ref (ad 0)), (1, .int a1), (2, .int a2)] := hl
  generalize hRes : m_X6_setFilter S a1 a2 = Res
  unfold m_X6_setFilter at hRes
  refine lv_iload_n hx hb dX6_setFilter_0 rfl (lv_at hl 1 rfl) ?_
  refine lv_if_eq (tgt := 25) hx hb dX6_setFilter_1 (by decide) (fun c_1 => ?_) (fun c_1 => ?_)
  · replace hRes := cs_T c_1 hRes
    refine lv_iload_n hx hb dX6_setFilter_25 rfl (lv_at hl 2 rfl) ?_
    refine lv_iconst (v := 1) hx hb dX6_setFilter_26 (by decide) ?_
    refine lv_icmp_lt (tgt := 35) hx hb dX6_setFilter_27 (by decide) (fun c_2 => absurd c_2 (g1)) (fun c_2 => ?_)
    refine lv_iload_n hx hb dX6_setFilter_30 rfl (lv_at hl 2 rfl) ?_
    refine lv_iconst (v := 3) hx hb dX6_setFilter_31 (by decide) ?_
    refine lv_icmp_le (tgt := 45) hx hb dX6_setFilter_32 (by decide) (fun c_3 => ?_) (fun c_3 => absurd (g2) c_3)
    refine lv_aload_n hx hb dX6_setFilter_45 rfl (lv_at hl 0 rfl) ?_
    refine cs_get (C := RX6) (T := TX6) (N := 15) hF in_X6 hw hK 0 rfl rfl 4 (by decide) q_218 rfl dX6_setFilter_46 ?_
    refine lv_istore_n (lv' := [(3, .int (S.2 4)), (0, .ref (ad 0)), (1, .int a1), (2, .int a2)]) hx hb dX6_setFilter_49 rfl hl (by decide) rfl (fun ls hl => ?_)
    refine lv_aload_n hx hb dX6_setFilter_50 rfl (lv_at hl 1 rfl) ?_
    refine lv_iload_n hx hb dX6_setFilter_51 rfl (lv_at hl 2 rfl) ?_
    refine cs_put (C := RX6) (T := TX6) (N := 15) hF in_X6 tyX6 tyX6_ok nmX6 hw hK hS 0 rfl rfl 4 (by decide) q_218 rfl (by decide +kernel) (Nat.le_of_ble_eq_true rfl) (cs_sS S 4 a1) rfl (cs_sS_ok hw.1 (fun h => absurd h (by decide))) dX6_setFilter_52 (fun H locs hw hS => ?_)
    obtain ⟨S_4, hq⟩ : ∃ z, z = cs_sS S 4 a1 := ⟨_, rfl⟩
    rw [← hq] at hw
    replace hRes := cs_letE hq hRes
    clear hq
    refine lv_aload_n hx hb dX6_setFilter_55 rfl (lv_at hl 1 rfl) ?_
    refine lv_iload_n hx hb dX6_setFilter_56 rfl (lv_at hl 3 rfl) ?_
    refine cs_put (C := RX6) (T := TX6) (N := 15) hF in_X6 tyX6 tyX6_ok nmX6 hw hK hS 0 rfl rfl 5 (by decide) q_219 rfl (by decide +kernel) (Nat.le_of_ble_eq_true rfl) (cs_sS S_4 5 a2) rfl (cs_sS_ok hw.1 (fun _ => g2)) dX6_setFilter_57 (fun H locs hw hS => ?_)
    obtain ⟨S_5, hq⟩ : ∃ z, z = cs_sS S_4 5 a2 := ⟨_, rfl⟩
    rw [← hq] at hw
    replace hRes := cs_letE hq hRes
    clear hq
    refine lv_iload_n hx hb dX6_setFilter_60 rfl (lv_at hl 0 rfl) ?_
    exact cs_iret hF hr hlk hw hK hS dX6_setFilter_61 ⟨cs_eq1 hRes, cs_eq2 hRes⟩
  · replace hRes := cs_F c_1 hRes
    refine lv_iload_n hx hb dX6_setFilter_4 rfl (lv_at hl 1 rfl) ?_
    refine lv_iconst (v := 4) hx hb dX6_setFilter_5 (by decide) ?_
    refine lv_icmp_lt (tgt := 15) hx hb dX6_setFilter_6 (by decide) (fun c_6 => absurd c_6 ((g0.resolve_left c_1).1)) (fun c_6 => ?_)
    refine lv_iload_n hx hb dX6_setFilter_9 rfl (lv_at hl 1 rfl) ?_
    refine lv_bipush (v := 64) hx hb dX6_setFilter_10 (by decide) ?_
    refine lv_icmp_le (tgt := 25) hx hb dX6_setFilter_12 (by decide) (fun c_7 => ?_) (fun c_7 => absurd ((g0.resolve_left c_1).2) c_7)
    refine lv_iload_n hx hb dX6_setFilter_25 rfl (lv_at hl 2 rfl) ?_
    refine lv_iconst (v := 1) hx hb dX6_setFilter_26 (by decide) ?_
    refine lv_icmp_lt (tgt := 35) hx hb dX6_setFilter_27 (by decide) (fun c_8 => absurd c_8 (g1)) (fun c_8 => ?_)
    refine lv_iload_n hx hb dX6_setFilter_30 rfl (lv_at hl 2 rfl) ?_
    refine lv_iconst (v := 3) hx hb dX6_setFilter_31 (by decide) ?_
    refine lv_icmp_le (tgt := 45) hx hb dX6_setFilter_32 (by decide) (fun c_9 => ?_) (fun c_9 => absurd (g2) c_9)
    refine lv_aload_n hx hb dX6_setFilter_45 rfl (lv_at hl 0 rfl) ?_
    refine cs_get (C := RX6) (T := TX6) (N := 15) hF in_X6 hw hK 0 rfl rfl 4 (by decide) q_218 rfl dX6_setFilter_46 ?_
    refine lv_istore_n (lv' := [(3, .int (S.2 4)), (0, .ref (ad 0)), (1, .int a1), (2, .int a2)]) hx hb dX6_setFilter_49 rfl hl (by decide) rfl (fun ls hl => ?_)
    refine lv_aload_n hx hb dX6_setFilter_50 rfl (lv_at hl 1 rfl) ?_
    refine lv_iload_n hx hb dX6_setFilter_51 rfl (lv_at hl 2 rfl) ?_
    refine cs_put (C := RX6) (T := TX6) (N := 15) hF in_X6 tyX6 tyX6_ok nmX6 hw hK hS 0 rfl rfl 4 (by decide) q_218 rfl (by decide +kernel) (Nat.le_of_ble_eq_true rfl) (cs_sS S 4 a1) rfl (cs_sS_ok hw.1 (fun h => absurd h (by decide))) dX6_setFilter_52 (fun H locs hw hS => ?_)
    obtain ⟨S_10, hq⟩ : ∃ z, z = cs_sS S 4 a1 := ⟨_, rfl⟩
    rw [← hq] at hw
    replace hRes := cs_letE hq hRes
    clear hq
    refine lv_aload_n hx hb dX6_setFilter_55 rfl (lv_at hl 1 rfl) ?_
    refine lv_iload_n hx hb dX6_setFilter_56 rfl (lv_at hl 3 rfl) ?_
    refine cs_put (C := RX6) (T := TX6) (N := 15) hF in_X6 tyX6 tyX6_ok nmX6 hw hK hS 0 rfl rfl 5 (by decide) q_219 rfl (by decide +kernel) (Nat.le_of_ble_eq_true rfl) (cs_sS S_10 5 a2) rfl (cs_sS_ok hw.1 (fun _ => g2)) dX6_setFilter_57 (fun H locs hw hS => ?_)
    obtain ⟨S_11, hq⟩ : ∃ z, z = cs_sS S_10 5 a2 := ⟨_, rfl⟩
    rw [← hq] at hw
    replace hRes := cs_letE hq hRes
    clear hq
    refine lv_iload_n hx hb dX6_setFilter_60 rfl (lv_at hl 0 rfl) ?_
    exact cs_iret hF hr hlk hw hK hS dX6_setFilter_61 ⟨cs_eq1 hRes, cs_eq2 hRes⟩
theorem kk_X6_setFilter : yX6_setFilter.cls = RX6 ∧ yX6_setFilter.cls ≠ "java/lang/invoke/MethodHandle" ∧ yX6_setFilter.cls ≠ "java/lang/invoke/VarHandle" ∧ (parseMethodDescriptor yX6_setFilter.desc).map (fun d => d.parameters.length) = some 2 := by decide +kernel
def m_X6_setEvery (S : cs_St) (a1 : Int32) : Int32 × cs_St := cs_let (cs_sS S 6 a1) (fun S_3 => (S.2 6, S_3))
set_option maxHeartbeats 4000000 in
set_option maxRecDepth 100000 in
theorem c_X6_setEvery (l : Launch) (D : va_G) (cy : ClassId) (ad : Nat → Nat) (S : cs_St) (a1 : Int32) (g0 : ¬ a1 < 0) (g1 : a1 ≤ 20) : Met l yX6_setEvery (cs_ws yX6_setEvery cX6_setEvery 3 (some .int)) (cs_rm 0 0) (cs_Pc D cy ad [.ref (ad 0), .int a1] S) (cs_Qi D cy ad (fun r S1 => r = (m_X6_setEvery S a1).1 ∧ S1 = (m_X6_setEvery S a1).2)) 0 0 (cs_A ad) := by
  refine cs_of RX6 (by decide) rfl (Nat.le_of_ble_eq_true rfl) ?_
  intro p e s m below meth c hF hr hlk hw hK ls hl
  obtain ⟨hx, hb, hml, hown, hts⟩ := id hF
  have hS : va_S (cs_A ad) s.heap s.heap [] := va_S.rf
  have hl : lv_has ls 3 [(0, .ref (ad 0)), (1, .int a1)] := hl
  generalize hRes : m_X6_setEvery S a1 = Res
  unfold m_X6_setEvery at hRes
  refine lv_iload_n hx hb dX6_setEvery_0 rfl (lv_at hl 1 rfl) ?_
  refine lv_if_lt (tgt := 10) hx hb dX6_setEvery_1 (by decide) (fun c_1 => absurd c_1 (g0)) (fun c_1 => ?_)
  refine lv_iload_n hx hb dX6_setEvery_4 rfl (lv_at hl 1 rfl) ?_
  refine lv_bipush (v := 20) hx hb dX6_setEvery_5 (by decide) ?_
  refine lv_icmp_le (tgt := 20) hx hb dX6_setEvery_7 (by decide) (fun c_2 => ?_) (fun c_2 => absurd (g1) c_2)
  refine lv_aload_n hx hb dX6_setEvery_20 rfl (lv_at hl 0 rfl) ?_
  refine cs_get (C := RX6) (T := TX6) (N := 15) hF in_X6 hw hK 0 rfl rfl 6 (by decide) q_220 rfl dX6_setEvery_21 ?_
  refine lv_istore_n (lv' := [(2, .int (S.2 6)), (0, .ref (ad 0)), (1, .int a1)]) hx hb dX6_setEvery_24 rfl hl (by decide) rfl (fun ls hl => ?_)
  refine lv_aload_n hx hb dX6_setEvery_25 rfl (lv_at hl 1 rfl) ?_
  refine lv_iload_n hx hb dX6_setEvery_26 rfl (lv_at hl 2 rfl) ?_
  refine cs_put (C := RX6) (T := TX6) (N := 15) hF in_X6 tyX6 tyX6_ok nmX6 hw hK hS 0 rfl rfl 6 (by decide) q_220 rfl (by decide +kernel) (Nat.le_of_ble_eq_true rfl) (cs_sS S 6 a1) rfl (cs_sS_ok hw.1 (fun h => absurd h (by decide))) dX6_setEvery_27 (fun H locs hw hS => ?_)
  obtain ⟨S_3, hq⟩ : ∃ z, z = cs_sS S 6 a1 := ⟨_, rfl⟩
  rw [← hq] at hw
  replace hRes := cs_letE hq hRes
  clear hq
  refine lv_iload_n hx hb dX6_setEvery_30 rfl (lv_at hl 0 rfl) ?_
  exact cs_iret hF hr hlk hw hK hS dX6_setEvery_31 ⟨cs_eq1 hRes, cs_eq2 hRes⟩
theorem kk_X6_setEvery : yX6_setEvery.cls = RX6 ∧ yX6_setEvery.cls ≠ "java/lang/invoke/MethodHandle" ∧ yX6_setEvery.cls ≠ "java/lang/invoke/VarHandle" ∧ (parseMethodDescriptor yX6_setEvery.desc).map (fun d => d.parameters.length) = some 1 := by decide +kernel
theorem g_X6_137 : GoodIn cs_WS (wsV RX6 137 RX3 yX3_length (cs_ws yX3_length cX3_length 1 (some .int))) := cs_goodV q_267 q_20 q_21 q_10 q_15
theorem g_X6_320 : GoodIn cs_WS (wsV RX6 320 RX2 yX2_begin (cs_ws yX2_begin cX2_begin 1 none)) := cs_goodV q_264 q_265 q_266 q_240 q_73
theorem g_X6_323 : GoodIn cs_WS (wsV RX6 323 RX2 yX2_gather (cs_ws yX2_gather cX2_gather 5 none)) := cs_goodV q_268 q_269 q_270 q_240 q_78
theorem g_X6_327 : GoodIn cs_WS (wsV RX6 327 RX2 yX2_keepNeeded (cs_ws yX2_keepNeeded cX2_keepNeeded 5 none)) := cs_goodV q_271 q_272 q_273 q_240 q_86
theorem g_X6_333 : GoodIn cs_WS (wsV RX6 333 RX3 yX3_copy (cs_ws yX3_copy cX3_copy 3 none)) := cs_goodV q_274 q_275 q_276 q_10 q_113
def m_X6_fillHand (S : cs_St) : cs_St := cs_let (m_X2_begin S) (fun S_1 => cs_let (m_X3_length S_1 4) (fun r_2 => cs_let (m_X2_gather S_1 4 0 r_2) (fun S_3 => cs_let (m_X2_keepNeeded S_3) (fun S_4 => cs_let (m_X3_copy S_4 3 18) (fun S_5 => S_5)))))
set_option maxHeartbeats 4000000 in
set_option maxRecDepth 100000 in
theorem c_X6_fillHand (l : Launch) (D : va_G) (cy : ClassId) (ad : Nat → Nat) (S : cs_St) : Met l yX6_fillHand (cs_ws yX6_fillHand cX6_fillHand 1 none) (cs_rm 3 68) (cs_Pc D cy ad [.ref (ad 0)] S) (cs_Qv D cy ad (fun S1 => S1 = m_X6_fillHand S)) 0 0 (cs_A ad) := by
  refine cs_of RX6 (by decide) rfl (Nat.le_of_ble_eq_true rfl) ?_
  intro p e s m below meth c hF hr hlk hw hK ls hl
  obtain ⟨hx, hb, hml, hown, hts⟩ := id hF
  have hS : va_S (cs_A ad) s.heap s.heap [] := va_S.rf
  have hl : lv_has ls 1 [(0, .ref (ad 0))] := hl
  generalize hRes : m_X6_fillHand S = Res
  unfold m_X6_fillHand at hRes
  refine lv_aload_n hx hb dX6_fillHand_0 rfl (lv_at hl 0 rfl) ?_
  refine cs_get (C := RX6) (T := TX6) (N := 15) hF in_X6 hw hK 0 rfl rfl 14 (by decide) q_241 rfl dX6_fillHand_1 ?_
  refine cs_vv hF (c_X2_begin l D cy ad S) (cwV 0 hts g_X6_320 rfl rfl rfl kk_X2_begin ⟨Nat.le_of_ble_eq_true rfl, Nat.le_of_ble_eq_true rfl⟩) (cs_recv hK hw (ci := 2) 5 rfl rfl) hw hK hS rfl hl.1 [] rfl (Nat.le_of_ble_eq_true rfl) dX6_fillHand_4 (fun S_1 H locs hq hw hS => ?_)
  replace hRes := cs_letE hq hRes
  clear hq
  refine lv_aload_n hx hb dX6_fillHand_7 rfl (lv_at hl 0 rfl) ?_
  refine cs_get (C := RX6) (T := TX6) (N := 15) hF in_X6 hw hK 0 rfl rfl 14 (by decide) q_241 rfl dX6_fillHand_8 ?_
  refine lv_aload_n hx hb dX6_fillHand_11 rfl (lv_at hl 0 rfl) ?_
  refine cs_get (C := RX6) (T := TX6) (N := 15) hF in_X6 hw hK 0 rfl rfl 10 (by decide) q_228 rfl dX6_fillHand_12 ?_
  refine cs_getN (C := RX0) (T := TX0) (N := 3) hF in_X0 hw hK 1 rfl rfl 1 (by decide) (List.mem_of_getElem? (i := 1) rfl) rfl dX6_fillHand_15 ?_
  refine lv_iconst (v := 0) hx hb dX6_fillHand_18 (by decide) ?_
  refine lv_aload_n hx hb dX6_fillHand_19 rfl (lv_at hl 0 rfl) ?_
  refine cs_get (C := RX6) (T := TX6) (N := 15) hF in_X6 hw hK 0 rfl rfl 10 (by decide) q_228 rfl dX6_fillHand_20 ?_
  refine cs_getN (C := RX0) (T := TX0) (N := 3) hF in_X0 hw hK 1 rfl rfl 1 (by decide) (List.mem_of_getElem? (i := 1) rfl) rfl dX6_fillHand_23 ?_
  refine cs_vir hF (c_X3_length l D cy ad S_1 4 (by decide)) (cwV 0 hts g_X6_137 rfl rfl rfl kk_X3_length ⟨Nat.le_of_ble_eq_true rfl, Nat.le_of_ble_eq_true rfl⟩) (cs_recvR hK hw (by decide)) hw hK hS rfl hl.1 [.int 0, .ref (ad 14), .ref (ad 5)] rfl (Nat.le_of_ble_eq_true rfl) dX6_fillHand_26 (fun r_2 H locs hq hw hS => ?_)
  replace hRes := cs_letE hq hRes
  clear hq
  refine cs_vv hF (c_X2_gather l D cy ad S_1 4 0 r_2 (by decide)) (cwV 3 hts g_X6_323 rfl rfl rfl kk_X2_gather ⟨Nat.le_of_ble_eq_true rfl, Nat.le_of_ble_eq_true rfl⟩) (cs_recv hK hw (ci := 2) 5 rfl rfl) hw hK hS rfl hl.1 [] rfl (Nat.le_of_ble_eq_true rfl) dX6_fillHand_29 (fun S_3 H locs hq hw hS => ?_)
  replace hRes := cs_letE hq hRes
  clear hq
  refine lv_aload_n hx hb dX6_fillHand_32 rfl (lv_at hl 0 rfl) ?_
  refine cs_get (C := RX6) (T := TX6) (N := 15) hF in_X6 hw hK 0 rfl rfl 14 (by decide) q_241 rfl dX6_fillHand_33 ?_
  refine cs_vv hF (c_X2_keepNeeded l D cy ad S_3) (cwV 0 hts g_X6_327 rfl rfl rfl kk_X2_keepNeeded ⟨Nat.le_of_ble_eq_true rfl, Nat.le_of_ble_eq_true rfl⟩) (cs_recv hK hw (ci := 2) 5 rfl rfl) hw hK hS rfl hl.1 [] rfl (Nat.le_of_ble_eq_true rfl) dX6_fillHand_36 (fun S_4 H locs hq hw hS => ?_)
  replace hRes := cs_letE hq hRes
  clear hq
  refine lv_aload_n hx hb dX6_fillHand_39 rfl (lv_at hl 0 rfl) ?_
  refine cs_get (C := RX6) (T := TX6) (N := 15) hF in_X6 hw hK 0 rfl rfl 10 (by decide) q_228 rfl dX6_fillHand_40 ?_
  refine cs_getN (C := RX0) (T := TX0) (N := 3) hF in_X0 hw hK 1 rfl rfl 0 (by decide) (List.mem_of_getElem? (i := 0) rfl) rfl dX6_fillHand_43 ?_
  refine lv_aload_n hx hb dX6_fillHand_46 rfl (lv_at hl 0 rfl) ?_
  refine cs_get (C := RX6) (T := TX6) (N := 15) hF in_X6 hw hK 0 rfl rfl 14 (by decide) q_241 rfl dX6_fillHand_47 ?_
  refine cs_getN (C := RX2) (T := TX2) (N := 4) hF in_X2 hw hK 5 rfl rfl 3 (by decide) (List.mem_of_getElem? (i := 5) rfl) rfl dX6_fillHand_50 ?_
  refine cs_vv hF (c_X3_copy l D cy ad S_4 3 18 (by decide) (by decide) (by decide)) (cwV 1 hts g_X6_333 rfl rfl rfl kk_X3_copy ⟨Nat.le_of_ble_eq_true rfl, Nat.le_of_ble_eq_true rfl⟩) (cs_recvR hK hw (by decide)) hw hK hS rfl hl.1 [] rfl (Nat.le_of_ble_eq_true rfl) dX6_fillHand_53 (fun S_5 H locs hq hw hS => ?_)
  replace hRes := cs_letE hq hRes
  clear hq
  exact cs_vret hF hr hlk hw hK hS dX6_fillHand_56 hRes
theorem kk_X6_fillHand : yX6_fillHand.cls = RX6 ∧ yX6_fillHand.cls ≠ "java/lang/invoke/MethodHandle" ∧ yX6_fillHand.cls ≠ "java/lang/invoke/VarHandle" ∧ (parseMethodDescriptor yX6_fillHand.desc).map (fun d => d.parameters.length) = some 0 := by decide +kernel
theorem g_X6_163 : GoodIn cs_WS (wsV RX6 163 RX3 yX3_raise (cs_ws yX3_raise cX3_raise 3 none)) := cs_goodV q_281 q_179 q_180 q_10 q_112
theorem g_X6_337 : GoodIn cs_WS (wsV RX6 337 RX4 yX4_insert (cs_ws yX4_insert cX4_insert 15 none)) := cs_goodV q_278 q_279 q_280 q_139 q_171
theorem g_X6_341 : GoodIn cs_WS (wsV RX6 341 RX0 yX0_empty (cs_ws yX0_empty cX0_empty 1 none)) := cs_goodV q_282 q_283 q_284 q_227 q_33
def m_X6_layHand (S : cs_St) : cs_St := cs_let (m_X3_length S 3) (fun r_1 => (if r_1 ≤ 0 then cs_let (m_X0_empty S) (fun S_3 => S_3) else cs_let (m_X4_insert S 0 0 3 0 r_1 (S.2 4) (S.2 5)) (fun S_4 => cs_let (m_X3_raise S_4 0 5 r_1) (fun S_5 => cs_let (m_X0_empty S_5) (fun S_6 => S_6)))))
set_option maxHeartbeats 4000000 in
set_option maxRecDepth 100000 in
theorem c_X6_layHand (l : Launch) (D : va_G) (cy : ClassId) (ad : Nat → Nat) (S : cs_St) : Met l yX6_layHand (cs_ws yX6_layHand cX6_layHand 2 none) (cs_rm 4 137) (cs_Pc D cy ad [.ref (ad 0)] S) (cs_Qv D cy ad (fun S1 => S1 = m_X6_layHand S)) 0 0 (cs_A ad) := by
  refine cs_of RX6 (by decide) rfl (Nat.le_of_ble_eq_true rfl) ?_
  intro p e s m below meth c hF hr hlk hw hK ls hl
  obtain ⟨hx, hb, hml, hown, hts⟩ := id hF
  have hS : va_S (cs_A ad) s.heap s.heap [] := va_S.rf
  have hl : lv_has ls 2 [(0, .ref (ad 0))] := hl
  generalize hRes : m_X6_layHand S = Res
  unfold m_X6_layHand at hRes
  refine lv_aload_n hx hb dX6_layHand_0 rfl (lv_at hl 0 rfl) ?_
  refine cs_get (C := RX6) (T := TX6) (N := 15) hF in_X6 hw hK 0 rfl rfl 10 (by decide) q_228 rfl dX6_layHand_1 ?_
  refine cs_getN (C := RX0) (T := TX0) (N := 3) hF in_X0 hw hK 1 rfl rfl 0 (by decide) (List.mem_of_getElem? (i := 0) rfl) rfl dX6_layHand_4 ?_
  refine cs_vir hF (c_X3_length l D cy ad S 3 (by decide)) (cwV 0 hts g_X6_137 rfl rfl rfl kk_X3_length ⟨Nat.le_of_ble_eq_true rfl, Nat.le_of_ble_eq_true rfl⟩) (cs_recvR hK hw (by decide)) hw hK hS rfl hl.1 [] rfl (Nat.le_of_ble_eq_true rfl) dX6_layHand_7 (fun r_1 H locs hq hw hS => ?_)
  replace hRes := cs_letE hq hRes
  clear hq
  refine lv_istore_n (lv' := [(1, .int r_1), (0, .ref (ad 0))]) hx hb dX6_layHand_10 rfl hl (by decide) rfl (fun ls hl => ?_)
  refine lv_iload_n hx hb dX6_layHand_11 rfl (lv_at hl 0 rfl) ?_
  refine lv_if_le (tgt := 50) hx hb dX6_layHand_12 (by decide) (fun c_2 => ?_) (fun c_2 => ?_)
  · replace hRes := cs_T c_2 hRes
    refine lv_aload_n hx hb dX6_layHand_50 rfl (lv_at hl 1 rfl) ?_
    refine cs_get (C := RX6) (T := TX6) (N := 15) hF in_X6 hw hK 0 rfl rfl 10 (by decide) q_228 rfl dX6_layHand_51 ?_
    refine cs_vv hF (c_X0_empty l D cy ad S) (cwV 0 hts g_X6_341 rfl rfl rfl kk_X0_empty ⟨Nat.le_of_ble_eq_true rfl, Nat.le_of_ble_eq_true rfl⟩) (cs_recv hK hw (ci := 0) 1 rfl rfl) hw hK hS rfl hl.1 [] rfl (Nat.le_of_ble_eq_true rfl) dX6_layHand_54 (fun S_3 H locs hq hw hS => ?_)
    replace hRes := cs_letE hq hRes
    clear hq
    exact cs_vret hF hr hlk hw hK hS dX6_layHand_57 hRes
  · replace hRes := cs_F c_2 hRes
    refine lv_aload_n hx hb dX6_layHand_15 rfl (lv_at hl 1 rfl) ?_
    refine cs_get (C := RX6) (T := TX6) (N := 15) hF in_X6 hw hK 0 rfl rfl 13 (by decide) q_237 rfl dX6_layHand_16 ?_
    refine lv_iconst (v := 0) hx hb dX6_layHand_19 (by decide) ?_
    refine lv_iconst (v := 0) hx hb dX6_layHand_20 (by decide) ?_
    refine lv_aload_n hx hb dX6_layHand_21 rfl (lv_at hl 1 rfl) ?_
    refine cs_get (C := RX6) (T := TX6) (N := 15) hF in_X6 hw hK 0 rfl rfl 10 (by decide) q_228 rfl dX6_layHand_22 ?_
    refine cs_getN (C := RX0) (T := TX0) (N := 3) hF in_X0 hw hK 1 rfl rfl 0 (by decide) (List.mem_of_getElem? (i := 0) rfl) rfl dX6_layHand_25 ?_
    refine lv_iconst (v := 0) hx hb dX6_layHand_28 (by decide) ?_
    refine lv_iload_n hx hb dX6_layHand_29 rfl (lv_at hl 0 rfl) ?_
    refine lv_aload_n hx hb dX6_layHand_30 rfl (lv_at hl 1 rfl) ?_
    refine cs_get (C := RX6) (T := TX6) (N := 15) hF in_X6 hw hK 0 rfl rfl 4 (by decide) q_218 rfl dX6_layHand_31 ?_
    refine lv_aload_n hx hb dX6_layHand_34 rfl (lv_at hl 1 rfl) ?_
    refine cs_get (C := RX6) (T := TX6) (N := 15) hF in_X6 hw hK 0 rfl rfl 5 (by decide) q_219 rfl dX6_layHand_35 ?_
    refine cs_vv hF (c_X4_insert l D cy ad S 0 0 3 0 r_1 (S.2 4) (S.2 5) (by decide) (hw.1.2.2)) (cwV 7 hts g_X6_337 rfl rfl rfl kk_X4_insert ⟨Nat.le_of_ble_eq_true rfl, Nat.le_of_ble_eq_true rfl⟩) (cs_recv hK hw (ci := 4) 4 rfl rfl) hw hK hS rfl hl.1 [] rfl (Nat.le_of_ble_eq_true rfl) dX6_layHand_38 (fun S_4 H locs hq hw hS => ?_)
    replace hRes := cs_letE hq hRes
    clear hq
    refine lv_aload_n hx hb dX6_layHand_41 rfl (lv_at hl 1 rfl) ?_
    refine cs_get (C := RX6) (T := TX6) (N := 15) hF in_X6 hw hK 0 rfl rfl 7 (by decide) q_222 rfl dX6_layHand_42 ?_
    refine lv_iconst (v := 5) hx hb dX6_layHand_45 (by decide) ?_
    refine lv_iload_n hx hb dX6_layHand_46 rfl (lv_at hl 0 rfl) ?_
    refine cs_vv hF (c_X3_raise l D cy ad S_4 0 5 r_1 (by decide) (by decide)) (cwV 2 hts g_X6_163 rfl rfl rfl kk_X3_raise ⟨Nat.le_of_ble_eq_true rfl, Nat.le_of_ble_eq_true rfl⟩) (cs_recvR hK hw (by decide)) hw hK hS rfl hl.1 [] rfl (Nat.le_of_ble_eq_true rfl) dX6_layHand_47 (fun S_5 H locs hq hw hS => ?_)
    replace hRes := cs_letE hq hRes
    clear hq
    refine lv_aload_n hx hb dX6_layHand_50 rfl (lv_at hl 1 rfl) ?_
    refine cs_get (C := RX6) (T := TX6) (N := 15) hF in_X6 hw hK 0 rfl rfl 10 (by decide) q_228 rfl dX6_layHand_51 ?_
    refine cs_vv hF (c_X0_empty l D cy ad S_5) (cwV 0 hts g_X6_341 rfl rfl rfl kk_X0_empty ⟨Nat.le_of_ble_eq_true rfl, Nat.le_of_ble_eq_true rfl⟩) (cs_recv hK hw (ci := 0) 1 rfl rfl) hw hK hS rfl hl.1 [] rfl (Nat.le_of_ble_eq_true rfl) dX6_layHand_54 (fun S_6 H locs hq hw hS => ?_)
    replace hRes := cs_letE hq hRes
    clear hq
    exact cs_vret hF hr hlk hw hK hS dX6_layHand_57 hRes
theorem kk_X6_layHand : yX6_layHand.cls = RX6 ∧ yX6_layHand.cls ≠ "java/lang/invoke/MethodHandle" ∧ yX6_layHand.cls ≠ "java/lang/invoke/VarHandle" ∧ (parseMethodDescriptor yX6_layHand.desc).map (fun d => d.parameters.length) = some 0 := by decide +kernel
theorem g_X6_131 : GoodIn cs_WS (wsV RX6 131 RX0 yX0_makeSafe (cs_ws yX0_makeSafe cX0_makeSafe 1 none)) := cs_goodV q_293 q_294 q_295 q_227 q_22
theorem g_X6_140 : GoodIn cs_WS (wsV RX6 140 RX6 yX6_layHand (cs_ws yX6_layHand cX6_layHand 2 none)) := cs_goodV q_300 q_301 q_302 q_299 q_277
theorem g_X6_175 : GoodIn cs_WS (wsV RX6 175 RX6 yX6_fillHand (cs_ws yX6_fillHand cX6_fillHand 1 none)) := cs_goodV q_296 q_297 q_298 q_299 q_263
theorem g_X6_310 : GoodIn cs_WS (wsV RX6 310 RX1 yX1_isFull (cs_ws yX1_isFull cX1_isFull 1 (some .boolean))) := cs_goodV q_286 q_287 q_288 q_91 q_44
theorem g_X6_314 : GoodIn cs_WS (wsV RX6 314 RX1 yX1_note (cs_ws yX1_note cX1_note 5 (some .int))) := cs_goodV q_289 q_290 q_291 q_91 q_56
theorem g_X6_317 : GoodIn cs_WS (wsV RX6 317 RX3 yX3_append (cs_ws yX3_append cX3_append 2 none)) := cs_goodV q_292 q_97 q_98 q_10 q_85
def m_X6_write (S : cs_St) (a1 : Int32) (a2 : Int32) : Int32 × cs_St := cs_let (m_X1_isFull S) (fun r_1 => (if r_1 = 0 then cs_let (m_X1_note S a1 a2).1 (fun r_4 => cs_let (m_X1_note S a1 a2).2 (fun S_3 => cs_let (m_X3_raise S_3 0 3 1) (fun S_5 => cs_let (m_X3_append S_5 4 r_4) (fun S_6 => (if (S_6.2 6) ≤ 0 then cs_let (m_X6_fillHand S_6) (fun S_8 => cs_let (m_X3_length S_8 3) (fun r_9 => (if (S_8.2 0) ≤ r_9 then cs_let (m_X6_layHand S_8) (fun S_11 => (r_4, S_11)) else cs_let (m_X3_length S_8 4) (fun r_12 => (if r_12 < 40 then (r_4, S_8) else cs_let (m_X6_layHand S_8) (fun S_14 => (r_4, S_14))))))) else (if (r_4 - r_4 / (S_6.2 6) * (S_6.2 6)) = 0 then cs_let (m_X0_makeSafe S_6) (fun S_23 => cs_let (m_X6_fillHand S_23) (fun S_24 => cs_let (m_X3_length S_24 3) (fun r_25 => (if (S_24.2 0) ≤ r_25 then cs_let (m_X6_layHand S_24) (fun S_27 => (r_4, S_27)) else cs_let (m_X3_length S_24 4) (fun r_28 => (if r_28 < 40 then (r_4, S_24) else cs_let (m_X6_layHand S_24) (fun S_30 => (r_4, S_30)))))))) else cs_let (m_X6_fillHand S_6) (fun S_16 => cs_let (m_X3_length S_16 3) (fun r_17 => (if (S_16.2 0) ≤ r_17 then cs_let (m_X6_layHand S_16) (fun S_19 => (r_4, S_19)) else cs_let (m_X3_length S_16 4) (fun r_20 => (if r_20 < 40 then (r_4, S_16) else cs_let (m_X6_layHand S_16) (fun S_22 => (r_4, S_22))))))))))))) else ((-1), S)))
set_option maxHeartbeats 4000000 in
set_option maxRecDepth 100000 in
theorem c_X6_write (l : Launch) (D : va_G) (cy : ClassId) (ad : Nat → Nat) (S : cs_St) (a1 : Int32) (a2 : Int32) : Met l yX6_write (cs_ws yX6_write cX6_write 4 (some .int)) (cs_rm 5 158) (cs_Pc D cy ad [.ref (ad 0), .int a1, .int a2] S) (cs_Qi D cy ad (fun r S1 => r = (m_X6_write S a1 a2).1 ∧ S1 = (m_X6_write S a1 a2).2)) 0 0 (cs_A ad) := by
  refine cs_of RX6 (by decide) rfl (Nat.le_of_ble_eq_true rfl) ?_
  intro p e s m below meth c hF hr hlk hw hK ls hl
  obtain ⟨hx, hb, hml, hown, hts⟩ := id hF
  have hS : va_S (cs_A ad) s.heap s.heap [] := va_S.rf
  have hl : lv_has ls 4 [(0, .ref (ad 0)), (1, .int a1), (2, .int a2)] := hl
  generalize hRes : m_X6_write S a1 a2 = Res
  unfold m_X6_write at hRes
  refine lv_aload_n hx hb dX6_write_0 rfl (lv_at hl 0 rfl) ?_
  refine cs_get (C := RX6) (T := TX6) (N := 15) hF in_X6 hw hK 0 rfl rfl 11 (by decide) q_233 rfl dX6_write_1 ?_
  refine cs_vir hF (c_X1_isFull l D cy ad S) (cwV 0 hts g_X6_310 rfl rfl rfl kk_X1_isFull ⟨Nat.le_of_ble_eq_true rfl, Nat.le_of_ble_eq_true rfl⟩) (cs_recv hK hw (ci := 1) 2 rfl rfl) hw hK hS rfl hl.1 [] rfl (Nat.le_of_ble_eq_true rfl) dX6_write_4 (fun r_1 H locs hq hw hS => ?_)
  replace hRes := cs_letE hq hRes
  clear hq
  refine lv_if_eq (tgt := 12) hx hb dX6_write_7 (by decide) (fun c_2 => ?_) (fun c_2 => ?_)
  · replace hRes := cs_T c_2 hRes
    refine lv_aload_n hx hb dX6_write_12 rfl (lv_at hl 0 rfl) ?_
    refine cs_get (C := RX6) (T := TX6) (N := 15) hF in_X6 hw hK 0 rfl rfl 11 (by decide) q_233 rfl dX6_write_13 ?_
    refine lv_iload_n hx hb dX6_write_16 rfl (lv_at hl 1 rfl) ?_
    refine lv_iload_n hx hb dX6_write_17 rfl (lv_at hl 2 rfl) ?_
    refine cs_vi hF (c_X1_note l D cy ad S a1 a2) (cwV 2 hts g_X6_314 rfl rfl rfl kk_X1_note ⟨Nat.le_of_ble_eq_true rfl, Nat.le_of_ble_eq_true rfl⟩) (cs_recv hK hw (ci := 1) 2 rfl rfl) hw hK hS rfl hl.1 [] rfl (Nat.le_of_ble_eq_true rfl) dX6_write_18 (fun r_4 S_3 H locs hq hq2 hw hS => ?_)
    replace hRes := cs_letE hq hRes
    replace hRes := cs_letE hq2 hRes
    clear hq hq2
    refine lv_istore_n (lv' := [(3, .int r_4), (0, .ref (ad 0)), (1, .int a1), (2, .int a2)]) hx hb dX6_write_21 rfl hl (by decide) rfl (fun ls hl => ?_)
    refine lv_aload_n hx hb dX6_write_22 rfl (lv_at hl 1 rfl) ?_
    refine cs_get (C := RX6) (T := TX6) (N := 15) hF in_X6 hw hK 0 rfl rfl 7 (by decide) q_222 rfl dX6_write_23 ?_
    refine lv_iconst (v := 3) hx hb dX6_write_26 (by decide) ?_
    refine lv_iconst (v := 1) hx hb dX6_write_27 (by decide) ?_
    refine cs_vv hF (c_X3_raise l D cy ad S_3 0 3 1 (by decide) (by decide)) (cwV 2 hts g_X6_163 rfl rfl rfl kk_X3_raise ⟨Nat.le_of_ble_eq_true rfl, Nat.le_of_ble_eq_true rfl⟩) (cs_recvR hK hw (by decide)) hw hK hS rfl hl.1 [] rfl (Nat.le_of_ble_eq_true rfl) dX6_write_28 (fun S_5 H locs hq hw hS => ?_)
    replace hRes := cs_letE hq hRes
    clear hq
    refine lv_aload_n hx hb dX6_write_31 rfl (lv_at hl 1 rfl) ?_
    refine cs_get (C := RX6) (T := TX6) (N := 15) hF in_X6 hw hK 0 rfl rfl 10 (by decide) q_228 rfl dX6_write_32 ?_
    refine cs_getN (C := RX0) (T := TX0) (N := 3) hF in_X0 hw hK 1 rfl rfl 1 (by decide) (List.mem_of_getElem? (i := 1) rfl) rfl dX6_write_35 ?_
    refine lv_iload_n hx hb dX6_write_38 rfl (lv_at hl 0 rfl) ?_
    refine cs_vv hF (c_X3_append l D cy ad S_5 4 r_4 (by decide) (by decide)) (cwV 1 hts g_X6_317 rfl rfl rfl kk_X3_append ⟨Nat.le_of_ble_eq_true rfl, Nat.le_of_ble_eq_true rfl⟩) (cs_recvR hK hw (by decide)) hw hK hS rfl hl.1 [] rfl (Nat.le_of_ble_eq_true rfl) dX6_write_39 (fun S_6 H locs hq hw hS => ?_)
    replace hRes := cs_letE hq hRes
    clear hq
    refine lv_aload_n hx hb dX6_write_42 rfl (lv_at hl 1 rfl) ?_
    refine cs_get (C := RX6) (T := TX6) (N := 15) hF in_X6 hw hK 0 rfl rfl 6 (by decide) q_220 rfl dX6_write_43 ?_
    refine lv_if_le (tgt := 65) hx hb dX6_write_46 (by decide) (fun c_7 => ?_) (fun c_7 => ?_)
    · replace hRes := cs_T c_7 hRes
      refine lv_aload_n hx hb dX6_write_65 rfl (lv_at hl 1 rfl) ?_
      refine cs_vv hF (c_X6_fillHand l D cy ad S_6) (cwV 0 hts g_X6_175 rfl rfl rfl kk_X6_fillHand ⟨Nat.le_of_ble_eq_true rfl, Nat.le_of_ble_eq_true rfl⟩) (cs_recv hK hw (ci := 6) 0 rfl rfl) hw hK hS rfl hl.1 [] rfl (Nat.le_of_ble_eq_true rfl) dX6_write_66 (fun S_8 H locs hq hw hS => ?_)
      replace hRes := cs_letE hq hRes
      clear hq
      refine lv_aload_n hx hb dX6_write_69 rfl (lv_at hl 1 rfl) ?_
      refine cs_get (C := RX6) (T := TX6) (N := 15) hF in_X6 hw hK 0 rfl rfl 10 (by decide) q_228 rfl dX6_write_70 ?_
      refine cs_getN (C := RX0) (T := TX0) (N := 3) hF in_X0 hw hK 1 rfl rfl 0 (by decide) (List.mem_of_getElem? (i := 0) rfl) rfl dX6_write_73 ?_
      refine cs_vir hF (c_X3_length l D cy ad S_8 3 (by decide)) (cwV 0 hts g_X6_137 rfl rfl rfl kk_X3_length ⟨Nat.le_of_ble_eq_true rfl, Nat.le_of_ble_eq_true rfl⟩) (cs_recvR hK hw (by decide)) hw hK hS rfl hl.1 [] rfl (Nat.le_of_ble_eq_true rfl) dX6_write_76 (fun r_9 H locs hq hw hS => ?_)
      replace hRes := cs_letE hq hRes
      clear hq
      refine lv_aload_n hx hb dX6_write_79 rfl (lv_at hl 1 rfl) ?_
      refine cs_get (C := RX6) (T := TX6) (N := 15) hF in_X6 hw hK 0 rfl rfl 0 (by decide) q_214 rfl dX6_write_80 ?_
      refine lv_icmp_ge (tgt := 101) hx hb dX6_write_83 (by decide) (fun c_10 => ?_) (fun c_10 => ?_)
      · replace hRes := cs_T c_10 hRes
        refine lv_aload_n hx hb dX6_write_101 rfl (lv_at hl 1 rfl) ?_
        refine cs_vv hF (c_X6_layHand l D cy ad S_8) (cwV 0 hts g_X6_140 rfl rfl rfl kk_X6_layHand ⟨Nat.le_of_ble_eq_true rfl, Nat.le_of_ble_eq_true rfl⟩) (cs_recv hK hw (ci := 6) 0 rfl rfl) hw hK hS rfl hl.1 [] rfl (Nat.le_of_ble_eq_true rfl) dX6_write_102 (fun S_11 H locs hq hw hS => ?_)
        replace hRes := cs_letE hq hRes
        clear hq
        refine lv_iload_n hx hb dX6_write_105 rfl (lv_at hl 0 rfl) ?_
        exact cs_iret hF hr hlk hw hK hS dX6_write_106 ⟨cs_eq1 hRes, cs_eq2 hRes⟩
      · replace hRes := cs_F c_10 hRes
        refine lv_aload_n hx hb dX6_write_86 rfl (lv_at hl 1 rfl) ?_
        refine cs_get (C := RX6) (T := TX6) (N := 15) hF in_X6 hw hK 0 rfl rfl 10 (by decide) q_228 rfl dX6_write_87 ?_
        refine cs_getN (C := RX0) (T := TX0) (N := 3) hF in_X0 hw hK 1 rfl rfl 1 (by decide) (List.mem_of_getElem? (i := 1) rfl) rfl dX6_write_90 ?_
        refine cs_vir hF (c_X3_length l D cy ad S_8 4 (by decide)) (cwV 0 hts g_X6_137 rfl rfl rfl kk_X3_length ⟨Nat.le_of_ble_eq_true rfl, Nat.le_of_ble_eq_true rfl⟩) (cs_recvR hK hw (by decide)) hw hK hS rfl hl.1 [] rfl (Nat.le_of_ble_eq_true rfl) dX6_write_93 (fun r_12 H locs hq hw hS => ?_)
        replace hRes := cs_letE hq hRes
        clear hq
        refine lv_bipush (v := 40) hx hb dX6_write_96 (by decide) ?_
        refine lv_icmp_lt (tgt := 105) hx hb dX6_write_98 (by decide) (fun c_13 => ?_) (fun c_13 => ?_)
        · replace hRes := cs_T c_13 hRes
          refine lv_iload_n hx hb dX6_write_105 rfl (lv_at hl 0 rfl) ?_
          exact cs_iret hF hr hlk hw hK hS dX6_write_106 ⟨cs_eq1 hRes, cs_eq2 hRes⟩
        · replace hRes := cs_F c_13 hRes
          refine lv_aload_n hx hb dX6_write_101 rfl (lv_at hl 1 rfl) ?_
          refine cs_vv hF (c_X6_layHand l D cy ad S_8) (cwV 0 hts g_X6_140 rfl rfl rfl kk_X6_layHand ⟨Nat.le_of_ble_eq_true rfl, Nat.le_of_ble_eq_true rfl⟩) (cs_recv hK hw (ci := 6) 0 rfl rfl) hw hK hS rfl hl.1 [] rfl (Nat.le_of_ble_eq_true rfl) dX6_write_102 (fun S_14 H locs hq hw hS => ?_)
          replace hRes := cs_letE hq hRes
          clear hq
          refine lv_iload_n hx hb dX6_write_105 rfl (lv_at hl 0 rfl) ?_
          exact cs_iret hF hr hlk hw hK hS dX6_write_106 ⟨cs_eq1 hRes, cs_eq2 hRes⟩
    · replace hRes := cs_F c_7 hRes
      refine lv_iload_n hx hb dX6_write_49 rfl (lv_at hl 0 rfl) ?_
      refine lv_aload_n hx hb dX6_write_50 rfl (lv_at hl 1 rfl) ?_
      refine cs_get (C := RX6) (T := TX6) (N := 15) hF in_X6 hw hK 0 rfl rfl 6 (by decide) q_220 rfl dX6_write_51 ?_
      refine lv_irem hx hb dX6_write_54 (fun h => c_7 (by rw [h]; decide)) ?_
      refine lv_if_ne (tgt := 65) hx hb dX6_write_55 (by decide) (fun c_15 => ?_) (fun c_15 => ?_)
      · replace hRes := cs_F c_15 hRes
        refine lv_aload_n hx hb dX6_write_65 rfl (lv_at hl 1 rfl) ?_
        refine cs_vv hF (c_X6_fillHand l D cy ad S_6) (cwV 0 hts g_X6_175 rfl rfl rfl kk_X6_fillHand ⟨Nat.le_of_ble_eq_true rfl, Nat.le_of_ble_eq_true rfl⟩) (cs_recv hK hw (ci := 6) 0 rfl rfl) hw hK hS rfl hl.1 [] rfl (Nat.le_of_ble_eq_true rfl) dX6_write_66 (fun S_16 H locs hq hw hS => ?_)
        replace hRes := cs_letE hq hRes
        clear hq
        refine lv_aload_n hx hb dX6_write_69 rfl (lv_at hl 1 rfl) ?_
        refine cs_get (C := RX6) (T := TX6) (N := 15) hF in_X6 hw hK 0 rfl rfl 10 (by decide) q_228 rfl dX6_write_70 ?_
        refine cs_getN (C := RX0) (T := TX0) (N := 3) hF in_X0 hw hK 1 rfl rfl 0 (by decide) (List.mem_of_getElem? (i := 0) rfl) rfl dX6_write_73 ?_
        refine cs_vir hF (c_X3_length l D cy ad S_16 3 (by decide)) (cwV 0 hts g_X6_137 rfl rfl rfl kk_X3_length ⟨Nat.le_of_ble_eq_true rfl, Nat.le_of_ble_eq_true rfl⟩) (cs_recvR hK hw (by decide)) hw hK hS rfl hl.1 [] rfl (Nat.le_of_ble_eq_true rfl) dX6_write_76 (fun r_17 H locs hq hw hS => ?_)
        replace hRes := cs_letE hq hRes
        clear hq
        refine lv_aload_n hx hb dX6_write_79 rfl (lv_at hl 1 rfl) ?_
        refine cs_get (C := RX6) (T := TX6) (N := 15) hF in_X6 hw hK 0 rfl rfl 0 (by decide) q_214 rfl dX6_write_80 ?_
        refine lv_icmp_ge (tgt := 101) hx hb dX6_write_83 (by decide) (fun c_18 => ?_) (fun c_18 => ?_)
        · replace hRes := cs_T c_18 hRes
          refine lv_aload_n hx hb dX6_write_101 rfl (lv_at hl 1 rfl) ?_
          refine cs_vv hF (c_X6_layHand l D cy ad S_16) (cwV 0 hts g_X6_140 rfl rfl rfl kk_X6_layHand ⟨Nat.le_of_ble_eq_true rfl, Nat.le_of_ble_eq_true rfl⟩) (cs_recv hK hw (ci := 6) 0 rfl rfl) hw hK hS rfl hl.1 [] rfl (Nat.le_of_ble_eq_true rfl) dX6_write_102 (fun S_19 H locs hq hw hS => ?_)
          replace hRes := cs_letE hq hRes
          clear hq
          refine lv_iload_n hx hb dX6_write_105 rfl (lv_at hl 0 rfl) ?_
          exact cs_iret hF hr hlk hw hK hS dX6_write_106 ⟨cs_eq1 hRes, cs_eq2 hRes⟩
        · replace hRes := cs_F c_18 hRes
          refine lv_aload_n hx hb dX6_write_86 rfl (lv_at hl 1 rfl) ?_
          refine cs_get (C := RX6) (T := TX6) (N := 15) hF in_X6 hw hK 0 rfl rfl 10 (by decide) q_228 rfl dX6_write_87 ?_
          refine cs_getN (C := RX0) (T := TX0) (N := 3) hF in_X0 hw hK 1 rfl rfl 1 (by decide) (List.mem_of_getElem? (i := 1) rfl) rfl dX6_write_90 ?_
          refine cs_vir hF (c_X3_length l D cy ad S_16 4 (by decide)) (cwV 0 hts g_X6_137 rfl rfl rfl kk_X3_length ⟨Nat.le_of_ble_eq_true rfl, Nat.le_of_ble_eq_true rfl⟩) (cs_recvR hK hw (by decide)) hw hK hS rfl hl.1 [] rfl (Nat.le_of_ble_eq_true rfl) dX6_write_93 (fun r_20 H locs hq hw hS => ?_)
          replace hRes := cs_letE hq hRes
          clear hq
          refine lv_bipush (v := 40) hx hb dX6_write_96 (by decide) ?_
          refine lv_icmp_lt (tgt := 105) hx hb dX6_write_98 (by decide) (fun c_21 => ?_) (fun c_21 => ?_)
          · replace hRes := cs_T c_21 hRes
            refine lv_iload_n hx hb dX6_write_105 rfl (lv_at hl 0 rfl) ?_
            exact cs_iret hF hr hlk hw hK hS dX6_write_106 ⟨cs_eq1 hRes, cs_eq2 hRes⟩
          · replace hRes := cs_F c_21 hRes
            refine lv_aload_n hx hb dX6_write_101 rfl (lv_at hl 1 rfl) ?_
            refine cs_vv hF (c_X6_layHand l D cy ad S_16) (cwV 0 hts g_X6_140 rfl rfl rfl kk_X6_layHand ⟨Nat.le_of_ble_eq_true rfl, Nat.le_of_ble_eq_true rfl⟩) (cs_recv hK hw (ci := 6) 0 rfl rfl) hw hK hS rfl hl.1 [] rfl (Nat.le_of_ble_eq_true rfl) dX6_write_102 (fun S_22 H locs hq hw hS => ?_)
            replace hRes := cs_letE hq hRes
            clear hq
            refine lv_iload_n hx hb dX6_write_105 rfl (lv_at hl 0 rfl) ?_
            exact cs_iret hF hr hlk hw hK hS dX6_write_106 ⟨cs_eq1 hRes, cs_eq2 hRes⟩
      · replace hRes := cs_T c_15 hRes
        refine lv_aload_n hx hb dX6_write_58 rfl (lv_at hl 1 rfl) ?_
        refine cs_get (C := RX6) (T := TX6) (N := 15) hF in_X6 hw hK 0 rfl rfl 10 (by decide) q_228 rfl dX6_write_59 ?_
        refine cs_vv hF (c_X0_makeSafe l D cy ad S_6) (cwV 0 hts g_X6_131 rfl rfl rfl kk_X0_makeSafe ⟨Nat.le_of_ble_eq_true rfl, Nat.le_of_ble_eq_true rfl⟩) (cs_recv hK hw (ci := 0) 1 rfl rfl) hw hK hS rfl hl.1 [] rfl (Nat.le_of_ble_eq_true rfl) dX6_write_62 (fun S_23 H locs hq hw hS => ?_)
        replace hRes := cs_letE hq hRes
        clear hq
        refine lv_aload_n hx hb dX6_write_65 rfl (lv_at hl 1 rfl) ?_
        refine cs_vv hF (c_X6_fillHand l D cy ad S_23) (cwV 0 hts g_X6_175 rfl rfl rfl kk_X6_fillHand ⟨Nat.le_of_ble_eq_true rfl, Nat.le_of_ble_eq_true rfl⟩) (cs_recv hK hw (ci := 6) 0 rfl rfl) hw hK hS rfl hl.1 [] rfl (Nat.le_of_ble_eq_true rfl) dX6_write_66 (fun S_24 H locs hq hw hS => ?_)
        replace hRes := cs_letE hq hRes
        clear hq
        refine lv_aload_n hx hb dX6_write_69 rfl (lv_at hl 1 rfl) ?_
        refine cs_get (C := RX6) (T := TX6) (N := 15) hF in_X6 hw hK 0 rfl rfl 10 (by decide) q_228 rfl dX6_write_70 ?_
        refine cs_getN (C := RX0) (T := TX0) (N := 3) hF in_X0 hw hK 1 rfl rfl 0 (by decide) (List.mem_of_getElem? (i := 0) rfl) rfl dX6_write_73 ?_
        refine cs_vir hF (c_X3_length l D cy ad S_24 3 (by decide)) (cwV 0 hts g_X6_137 rfl rfl rfl kk_X3_length ⟨Nat.le_of_ble_eq_true rfl, Nat.le_of_ble_eq_true rfl⟩) (cs_recvR hK hw (by decide)) hw hK hS rfl hl.1 [] rfl (Nat.le_of_ble_eq_true rfl) dX6_write_76 (fun r_25 H locs hq hw hS => ?_)
        replace hRes := cs_letE hq hRes
        clear hq
        refine lv_aload_n hx hb dX6_write_79 rfl (lv_at hl 1 rfl) ?_
        refine cs_get (C := RX6) (T := TX6) (N := 15) hF in_X6 hw hK 0 rfl rfl 0 (by decide) q_214 rfl dX6_write_80 ?_
        refine lv_icmp_ge (tgt := 101) hx hb dX6_write_83 (by decide) (fun c_26 => ?_) (fun c_26 => ?_)
        · replace hRes := cs_T c_26 hRes
          refine lv_aload_n hx hb dX6_write_101 rfl (lv_at hl 1 rfl) ?_
          refine cs_vv hF (c_X6_layHand l D cy ad S_24) (cwV 0 hts g_X6_140 rfl rfl rfl kk_X6_layHand ⟨Nat.le_of_ble_eq_true rfl, Nat.le_of_ble_eq_true rfl⟩) (cs_recv hK hw (ci := 6) 0 rfl rfl) hw hK hS rfl hl.1 [] rfl (Nat.le_of_ble_eq_true rfl) dX6_write_102 (fun S_27 H locs hq hw hS => ?_)
          replace hRes := cs_letE hq hRes
          clear hq
          refine lv_iload_n hx hb dX6_write_105 rfl (lv_at hl 0 rfl) ?_
          exact cs_iret hF hr hlk hw hK hS dX6_write_106 ⟨cs_eq1 hRes, cs_eq2 hRes⟩
        · replace hRes := cs_F c_26 hRes
          refine lv_aload_n hx hb dX6_write_86 rfl (lv_at hl 1 rfl) ?_
          refine cs_get (C := RX6) (T := TX6) (N := 15) hF in_X6 hw hK 0 rfl rfl 10 (by decide) q_228 rfl dX6_write_87 ?_
          refine cs_getN (C := RX0) (T := TX0) (N := 3) hF in_X0 hw hK 1 rfl rfl 1 (by decide) (List.mem_of_getElem? (i := 1) rfl) rfl dX6_write_90 ?_
          refine cs_vir hF (c_X3_length l D cy ad S_24 4 (by decide)) (cwV 0 hts g_X6_137 rfl rfl rfl kk_X3_length ⟨Nat.le_of_ble_eq_true rfl, Nat.le_of_ble_eq_true rfl⟩) (cs_recvR hK hw (by decide)) hw hK hS rfl hl.1 [] rfl (Nat.le_of_ble_eq_true rfl) dX6_write_93 (fun r_28 H locs hq hw hS => ?_)
          replace hRes := cs_letE hq hRes
          clear hq
          refine lv_bipush (v := 40) hx hb dX6_write_96 (by decide) ?_
          refine lv_icmp_lt (tgt := 105) hx hb dX6_write_98 (by decide) (fun c_29 => ?_) (fun c_29 => ?_)
          · replace hRes := cs_T c_29 hRes
            refine lv_iload_n hx hb dX6_write_105 rfl (lv_at hl 0 rfl) ?_
            exact cs_iret hF hr hlk hw hK hS dX6_write_106 ⟨cs_eq1 hRes, cs_eq2 hRes⟩
          · replace hRes := cs_F c_29 hRes
            refine lv_aload_n hx hb dX6_write_101 rfl (lv_at hl 1 rfl) ?_
            refine cs_vv hF (c_X6_layHand l D cy ad S_24) (cwV 0 hts g_X6_140 rfl rfl rfl kk_X6_layHand ⟨Nat.le_of_ble_eq_true rfl, Nat.le_of_ble_eq_true rfl⟩) (cs_recv hK hw (ci := 6) 0 rfl rfl) hw hK hS rfl hl.1 [] rfl (Nat.le_of_ble_eq_true rfl) dX6_write_102 (fun S_30 H locs hq hw hS => ?_)
            replace hRes := cs_letE hq hRes
            clear hq
            refine lv_iload_n hx hb dX6_write_105 rfl (lv_at hl 0 rfl) ?_
            exact cs_iret hF hr hlk hw hK hS dX6_write_106 ⟨cs_eq1 hRes, cs_eq2 hRes⟩
  · replace hRes := cs_F c_2 hRes
    refine lv_iconst (v := -1) hx hb dX6_write_10 (by decide) ?_
    exact cs_iret hF hr hlk hw hK hS dX6_write_11 ⟨cs_eq1 hRes, cs_eq2 hRes⟩
theorem kk_X6_write : yX6_write.cls = RX6 ∧ yX6_write.cls ≠ "java/lang/invoke/MethodHandle" ∧ yX6_write.cls ≠ "java/lang/invoke/VarHandle" ∧ (parseMethodDescriptor yX6_write.desc).map (fun d => d.parameters.length) = some 2 := by decide +kernel
def m_X6_firstPacked (S : cs_St) (a1 : Int32) : Int32 := (if (S.2 1) = 0 then a1 else 0)
set_option maxHeartbeats 4000000 in
set_option maxRecDepth 100000 in
theorem c_X6_firstPacked (l : Launch) (D : va_G) (cy : ClassId) (ad : Nat → Nat) (S : cs_St) (a1 : Int32) : Met l yX6_firstPacked (cs_ws yX6_firstPacked cX6_firstPacked 2 (some .int)) (cs_rm 0 0) (cs_Pc D cy ad [.ref (ad 0), .int a1] S) (cs_Qi D cy ad (fun r S1 => r = m_X6_firstPacked S a1 ∧ S1 = S)) 0 0 (cs_A ad) := by
  refine cs_of RX6 (by decide) rfl (Nat.le_of_ble_eq_true rfl) ?_
  intro p e s m below meth c hF hr hlk hw hK ls hl
  obtain ⟨hx, hb, hml, hown, hts⟩ := id hF
  have hS : va_S (cs_A ad) s.heap s.heap [] := va_S.rf
  have hl : lv_has ls 2 [(0, .ref (ad 0)), (1, .int a1)] := hl
  generalize hRes : m_X6_firstPacked S a1 = Res
  unfold m_X6_firstPacked at hRes
  refine lv_aload_n hx hb dX6_firstPacked_0 rfl (lv_at hl 0 rfl) ?_
  refine cs_get (C := RX6) (T := TX6) (N := 15) hF in_X6 hw hK 0 rfl rfl 1 (by decide) q_215 rfl dX6_firstPacked_1 ?_
  refine lv_if_ne (tgt := 11) hx hb dX6_firstPacked_4 (by decide) (fun c_1 => ?_) (fun c_1 => ?_)
  · replace hRes := cs_F c_1 hRes
    refine lv_iconst (v := 0) hx hb dX6_firstPacked_11 (by decide) ?_
    exact cs_iret hF hr hlk hw hK hS dX6_firstPacked_12 ⟨hRes, rfl⟩
  · replace hRes := cs_T c_1 hRes
    refine lv_iload_n hx hb dX6_firstPacked_7 rfl (lv_at hl 1 rfl) ?_
    refine lv_goto (tgt := 12) hx hb dX6_firstPacked_8 (by decide) ?_
    exact cs_iret hF hr hlk hw hK hS dX6_firstPacked_12 ⟨hRes, rfl⟩
theorem kk_X6_firstPacked : yX6_firstPacked.cls = RX6 ∧ yX6_firstPacked.cls ≠ "java/lang/invoke/MethodHandle" ∧ yX6_firstPacked.cls ≠ "java/lang/invoke/VarHandle" ∧ (parseMethodDescriptor yX6_firstPacked.desc).map (fun d => d.parameters.length) = some 1 := by decide +kernel
theorem g_X6_150 : GoodIn cs_WS (wsV RX6 150 RX6 yX6_firstPacked (cs_ws yX6_firstPacked cX6_firstPacked 2 (some .int))) := cs_goodV q_375 q_376 q_377 q_299 q_373
theorem g_X6_354 : GoodIn cs_WS (wsV RX6 354 RX4 yX4_begin (cs_ws yX4_begin cX4_begin 2 (some .int))) := cs_goodV q_316 q_137 q_138 q_139 q_134
theorem g_X6_356 : GoodIn cs_WS (wsV RX6 356 RX2 yX2_dropStones (cs_ws yX2_dropStones cX2_dropStones 8 none)) := cs_goodV q_353 q_354 q_355 q_240 q_103
def m_X6_planPack (S : cs_St) (a1 : Int32) : Int32 × cs_St := cs_let (m_X6_firstPacked S a1) (fun r_1 => cs_let (m_X4_first S r_1) (fun r_2 => cs_let (m_X4_begin S r_2) (fun r_3 => cs_let (m_X3_length S 10) (fun r_4 => cs_let (m_X2_begin S) (fun S_5 => cs_let (m_X2_gather S_5 10 r_3 r_4) (fun S_6 => cs_let (m_X2_keepNeeded S_6) (fun S_7 => cs_let (m_X2_dropStones S_7 10 r_4) (fun S_8 => cs_let (m_X3_length S_8 18) (fun r_9 => ((r_4 - r_3) - r_9, S_8))))))))))
set_option maxHeartbeats 4000000 in
set_option maxRecDepth 100000 in
theorem c_X6_planPack (l : Launch) (D : va_G) (cy : ClassId) (ad : Nat → Nat) (S : cs_St) (a1 : Int32) : Met l yX6_planPack (cs_ws yX6_planPack cX6_planPack 4 (some .int)) (cs_rm 3 109) (cs_Pc D cy ad [.ref (ad 0), .int a1] S) (cs_Qi D cy ad (fun r S1 => r = (m_X6_planPack S a1).1 ∧ S1 = (m_X6_planPack S a1).2)) 0 0 (cs_A ad) := by
  refine cs_of RX6 (by decide) rfl (Nat.le_of_ble_eq_true rfl) ?_
  intro p e s m below meth c hF hr hlk hw hK ls hl
  obtain ⟨hx, hb, hml, hown, hts⟩ := id hF
  have hS : va_S (cs_A ad) s.heap s.heap [] := va_S.rf
  have hl : lv_has ls 4 [(0, .ref (ad 0)), (1, .int a1)] := hl
  generalize hRes : m_X6_planPack S a1 = Res
  unfold m_X6_planPack at hRes
  refine lv_aload_n hx hb dX6_planPack_0 rfl (lv_at hl 0 rfl) ?_
  refine cs_get (C := RX6) (T := TX6) (N := 15) hF in_X6 hw hK 0 rfl rfl 13 (by decide) q_237 rfl dX6_planPack_1 ?_
  refine lv_aload_n hx hb dX6_planPack_4 rfl (lv_at hl 0 rfl) ?_
  refine cs_get (C := RX6) (T := TX6) (N := 15) hF in_X6 hw hK 0 rfl rfl 13 (by decide) q_237 rfl dX6_planPack_5 ?_
  refine lv_aload_n hx hb dX6_planPack_8 rfl (lv_at hl 0 rfl) ?_
  refine lv_iload_n hx hb dX6_planPack_9 rfl (lv_at hl 1 rfl) ?_
  refine cs_vir hF (c_X6_firstPacked l D cy ad S a1) (cwV 1 hts g_X6_150 rfl rfl rfl kk_X6_firstPacked ⟨Nat.le_of_ble_eq_true rfl, Nat.le_of_ble_eq_true rfl⟩) (cs_recv hK hw (ci := 6) 0 rfl rfl) hw hK hS rfl hl.1 [.ref (ad 4), .ref (ad 4)] rfl (Nat.le_of_ble_eq_true rfl) dX6_planPack_10 (fun r_1 H locs hq hw hS => ?_)
  replace hRes := cs_letE hq hRes
  clear hq
  refine cs_vir hF (c_X4_first l D cy ad S r_1) (cwV 1 hts g_X6_153 rfl rfl rfl kk_X4_first ⟨Nat.le_of_ble_eq_true rfl, Nat.le_of_ble_eq_true rfl⟩) (cs_recv hK hw (ci := 4) 4 rfl rfl) hw hK hS rfl hl.1 [.ref (ad 4)] rfl (Nat.le_of_ble_eq_true rfl) dX6_planPack_13 (fun r_2 H locs hq hw hS => ?_)
  replace hRes := cs_letE hq hRes
  clear hq
  refine cs_vir hF (c_X4_begin l D cy ad S r_2) (cwV 1 hts g_X6_354 rfl rfl rfl kk_X4_begin ⟨Nat.le_of_ble_eq_true rfl, Nat.le_of_ble_eq_true rfl⟩) (cs_recv hK hw (ci := 4) 4 rfl rfl) hw hK hS rfl hl.1 [] rfl (Nat.le_of_ble_eq_true rfl) dX6_planPack_16 (fun r_3 H locs hq hw hS => ?_)
  replace hRes := cs_letE hq hRes
  clear hq
  refine lv_istore_n (lv' := [(2, .int r_3), (0, .ref (ad 0)), (1, .int a1)]) hx hb dX6_planPack_19 rfl hl (by decide) rfl (fun ls hl => ?_)
  refine lv_aload_n hx hb dX6_planPack_20 rfl (lv_at hl 1 rfl) ?_
  refine cs_get (C := RX6) (T := TX6) (N := 15) hF in_X6 hw hK 0 rfl rfl 13 (by decide) q_237 rfl dX6_planPack_21 ?_
  refine cs_getN (C := RX4) (T := TX4) (N := 8) hF in_X4 hw hK 4 rfl rfl 1 (by decide) (List.mem_of_getElem? (i := 4) rfl) rfl dX6_planPack_24 ?_
  refine cs_vir hF (c_X3_length l D cy ad S 10 (by decide)) (cwV 0 hts g_X6_137 rfl rfl rfl kk_X3_length ⟨Nat.le_of_ble_eq_true rfl, Nat.le_of_ble_eq_true rfl⟩) (cs_recvR hK hw (by decide)) hw hK hS rfl hl.1 [] rfl (Nat.le_of_ble_eq_true rfl) dX6_planPack_27 (fun r_4 H locs hq hw hS => ?_)
  replace hRes := cs_letE hq hRes
  clear hq
  refine lv_istore_n (lv' := [(3, .int r_4), (2, .int r_3), (0, .ref (ad 0)), (1, .int a1)]) hx hb dX6_planPack_30 rfl hl (by decide) rfl (fun ls hl => ?_)
  refine lv_aload_n hx hb dX6_planPack_31 rfl (lv_at hl 2 rfl) ?_
  refine cs_get (C := RX6) (T := TX6) (N := 15) hF in_X6 hw hK 0 rfl rfl 14 (by decide) q_241 rfl dX6_planPack_32 ?_
  refine cs_vv hF (c_X2_begin l D cy ad S) (cwV 0 hts g_X6_320 rfl rfl rfl kk_X2_begin ⟨Nat.le_of_ble_eq_true rfl, Nat.le_of_ble_eq_true rfl⟩) (cs_recv hK hw (ci := 2) 5 rfl rfl) hw hK hS rfl hl.1 [] rfl (Nat.le_of_ble_eq_true rfl) dX6_planPack_35 (fun S_5 H locs hq hw hS => ?_)
  replace hRes := cs_letE hq hRes
  clear hq
  refine lv_aload_n hx hb dX6_planPack_38 rfl (lv_at hl 2 rfl) ?_
  refine cs_get (C := RX6) (T := TX6) (N := 15) hF in_X6 hw hK 0 rfl rfl 14 (by decide) q_241 rfl dX6_planPack_39 ?_
  refine lv_aload_n hx hb dX6_planPack_42 rfl (lv_at hl 2 rfl) ?_
  refine cs_get (C := RX6) (T := TX6) (N := 15) hF in_X6 hw hK 0 rfl rfl 13 (by decide) q_237 rfl dX6_planPack_43 ?_
  refine cs_getN (C := RX4) (T := TX4) (N := 8) hF in_X4 hw hK 4 rfl rfl 1 (by decide) (List.mem_of_getElem? (i := 4) rfl) rfl dX6_planPack_46 ?_
  refine lv_iload_n hx hb dX6_planPack_49 rfl (lv_at hl 1 rfl) ?_
  refine lv_iload_n hx hb dX6_planPack_50 rfl (lv_at hl 0 rfl) ?_
  refine cs_vv hF (c_X2_gather l D cy ad S_5 10 r_3 r_4 (by decide)) (cwV 3 hts g_X6_323 rfl rfl rfl kk_X2_gather ⟨Nat.le_of_ble_eq_true rfl, Nat.le_of_ble_eq_true rfl⟩) (cs_recv hK hw (ci := 2) 5 rfl rfl) hw hK hS rfl hl.1 [] rfl (Nat.le_of_ble_eq_true rfl) dX6_planPack_51 (fun S_6 H locs hq hw hS => ?_)
  replace hRes := cs_letE hq hRes
  clear hq
  refine lv_aload_n hx hb dX6_planPack_54 rfl (lv_at hl 2 rfl) ?_
  refine cs_get (C := RX6) (T := TX6) (N := 15) hF in_X6 hw hK 0 rfl rfl 14 (by decide) q_241 rfl dX6_planPack_55 ?_
  refine cs_vv hF (c_X2_keepNeeded l D cy ad S_6) (cwV 0 hts g_X6_327 rfl rfl rfl kk_X2_keepNeeded ⟨Nat.le_of_ble_eq_true rfl, Nat.le_of_ble_eq_true rfl⟩) (cs_recv hK hw (ci := 2) 5 rfl rfl) hw hK hS rfl hl.1 [] rfl (Nat.le_of_ble_eq_true rfl) dX6_planPack_58 (fun S_7 H locs hq hw hS => ?_)
  replace hRes := cs_letE hq hRes
  clear hq
  refine lv_aload_n hx hb dX6_planPack_61 rfl (lv_at hl 2 rfl) ?_
  refine cs_get (C := RX6) (T := TX6) (N := 15) hF in_X6 hw hK 0 rfl rfl 14 (by decide) q_241 rfl dX6_planPack_62 ?_
  refine lv_aload_n hx hb dX6_planPack_65 rfl (lv_at hl 2 rfl) ?_
  refine cs_get (C := RX6) (T := TX6) (N := 15) hF in_X6 hw hK 0 rfl rfl 13 (by decide) q_237 rfl dX6_planPack_66 ?_
  refine cs_getN (C := RX4) (T := TX4) (N := 8) hF in_X4 hw hK 4 rfl rfl 1 (by decide) (List.mem_of_getElem? (i := 4) rfl) rfl dX6_planPack_69 ?_
  refine lv_iload_n hx hb dX6_planPack_72 rfl (lv_at hl 0 rfl) ?_
  refine cs_vv hF (c_X2_dropStones l D cy ad S_7 10 r_4 (by decide)) (cwV 2 hts g_X6_356 rfl rfl rfl kk_X2_dropStones ⟨Nat.le_of_ble_eq_true rfl, Nat.le_of_ble_eq_true rfl⟩) (cs_recv hK hw (ci := 2) 5 rfl rfl) hw hK hS rfl hl.1 [] rfl (Nat.le_of_ble_eq_true rfl) dX6_planPack_73 (fun S_8 H locs hq hw hS => ?_)
  replace hRes := cs_letE hq hRes
  clear hq
  refine lv_iload_n hx hb dX6_planPack_76 rfl (lv_at hl 0 rfl) ?_
  refine lv_iload_n hx hb dX6_planPack_77 rfl (lv_at hl 1 rfl) ?_
  refine lv_isub hx hb dX6_planPack_78 ?_
  refine lv_aload_n hx hb dX6_planPack_79 rfl (lv_at hl 2 rfl) ?_
  refine cs_get (C := RX6) (T := TX6) (N := 15) hF in_X6 hw hK 0 rfl rfl 14 (by decide) q_241 rfl dX6_planPack_80 ?_
  refine cs_getN (C := RX2) (T := TX2) (N := 4) hF in_X2 hw hK 5 rfl rfl 3 (by decide) (List.mem_of_getElem? (i := 5) rfl) rfl dX6_planPack_83 ?_
  refine cs_vir hF (c_X3_length l D cy ad S_8 18 (by decide)) (cwV 0 hts g_X6_137 rfl rfl rfl kk_X3_length ⟨Nat.le_of_ble_eq_true rfl, Nat.le_of_ble_eq_true rfl⟩) (cs_recvR hK hw (by decide)) hw hK hS rfl hl.1 [.int (r_4 - r_3)] rfl (Nat.le_of_ble_eq_true rfl) dX6_planPack_86 (fun r_9 H locs hq hw hS => ?_)
  replace hRes := cs_letE hq hRes
  clear hq
  refine lv_isub hx hb dX6_planPack_89 ?_
  exact cs_iret hF hr hlk hw hK hS dX6_planPack_90 ⟨cs_eq1 hRes, cs_eq2 hRes⟩
theorem kk_X6_planPack : yX6_planPack.cls = RX6 ∧ yX6_planPack.cls ≠ "java/lang/invoke/MethodHandle" ∧ yX6_planPack.cls ≠ "java/lang/invoke/VarHandle" ∧ (parseMethodDescriptor yX6_planPack.desc).map (fun d => d.parameters.length) = some 1 := by decide +kernel
theorem g_X6_362 : GoodIn cs_WS (wsV RX6 362 RX4 yX4_entriesOn (cs_ws yX4_entriesOn cX4_entriesOn 2 (some .int))) := cs_goodV q_307 q_308 q_309 q_139 q_140
def m_X6_isFull (S : cs_St) (a1 : Int32) : Int32 := (if (S.2 1) = 0 then cs_let (m_X4_count S a1) (fun r_2 => (if r_2 < (S.2 2) then 0 else 1)) else (if a1 = 0 then cs_let (m_X4_count S a1) (fun r_10 => (if r_10 < (S.2 2) then 0 else 1)) else (if a1 = 3 then 0 else cs_let (m_X4_entriesOn S a1) (fun r_6 => (if a1 = 1 then (if r_6 ≤ ((S.2 3) * (S.2 2)) then 0 else 1) else (if r_6 ≤ ((S.2 3) * ((S.2 2) * (S.2 2))) then 0 else 1))))))
set_option maxHeartbeats 4000000 in
set_option maxRecDepth 100000 in
theorem c_X6_isFull (l : Launch) (D : va_G) (cy : ClassId) (ad : Nat → Nat) (S : cs_St) (a1 : Int32) : Met l yX6_isFull (cs_ws yX6_isFull cX6_isFull 2 (some .boolean)) (cs_rm 3 65) (cs_Pc D cy ad [.ref (ad 0), .int a1] S) (cs_Qi D cy ad (fun r S1 => r = m_X6_isFull S a1 ∧ S1 = S)) 0 0 (cs_A ad) := by
  refine cs_of RX6 (by decide) rfl (Nat.le_of_ble_eq_true rfl) ?_
  intro p e s m below meth c hF hr hlk hw hK ls hl
  obtain ⟨hx, hb, hml, hown, hts⟩ := id hF
  have hS : va_S (cs_A ad) s.heap s.heap [] := va_S.rf
  have hl : lv_has ls 2 [(0, .ref (ad 0)), (1, .int a1)] := hl
  generalize hRes : m_X6_isFull S a1 = Res
  unfold m_X6_isFull at hRes
  refine lv_aload_n hx hb dX6_isFull_0 rfl (lv_at hl 0 rfl) ?_
  refine cs_get (C := RX6) (T := TX6) (N := 15) hF in_X6 hw hK 0 rfl rfl 1 (by decide) q_215 rfl dX6_isFull_1 ?_
  refine lv_if_eq (tgt := 11) hx hb dX6_isFull_4 (by decide) (fun c_1 => ?_) (fun c_1 => ?_)
  · replace hRes := cs_T c_1 hRes
    refine lv_aload_n hx hb dX6_isFull_11 rfl (lv_at hl 0 rfl) ?_
    refine cs_get (C := RX6) (T := TX6) (N := 15) hF in_X6 hw hK 0 rfl rfl 13 (by decide) q_237 rfl dX6_isFull_12 ?_
    refine lv_iload_n hx hb dX6_isFull_15 rfl (lv_at hl 1 rfl) ?_
    refine cs_vir hF (c_X4_count l D cy ad S a1) (cwV 1 hts g_X6_156 rfl rfl rfl kk_X4_count ⟨Nat.le_of_ble_eq_true rfl, Nat.le_of_ble_eq_true rfl⟩) (cs_recv hK hw (ci := 4) 4 rfl rfl) hw hK hS rfl hl.1 [] rfl (Nat.le_of_ble_eq_true rfl) dX6_isFull_16 (fun r_2 H locs hq hw hS => ?_)
    replace hRes := cs_letE hq hRes
    clear hq
    refine lv_aload_n hx hb dX6_isFull_19 rfl (lv_at hl 0 rfl) ?_
    refine cs_get (C := RX6) (T := TX6) (N := 15) hF in_X6 hw hK 0 rfl rfl 2 (by decide) q_216 rfl dX6_isFull_20 ?_
    refine lv_icmp_lt (tgt := 30) hx hb dX6_isFull_23 (by decide) (fun c_3 => ?_) (fun c_3 => ?_)
    · replace hRes := cs_T c_3 hRes
      refine lv_iconst (v := 0) hx hb dX6_isFull_30 (by decide) ?_
      exact cs_zret hF hr hlk hw hK hS dX6_isFull_31 ⟨hRes, rfl⟩
    · replace hRes := cs_F c_3 hRes
      refine lv_iconst (v := 1) hx hb dX6_isFull_26 (by decide) ?_
      refine lv_goto (tgt := 31) hx hb dX6_isFull_27 (by decide) ?_
      exact cs_zret hF hr hlk hw hK hS dX6_isFull_31 ⟨hRes, rfl⟩
  · replace hRes := cs_F c_1 hRes
    refine lv_iload_n hx hb dX6_isFull_7 rfl (lv_at hl 1 rfl) ?_
    refine lv_if_ne (tgt := 32) hx hb dX6_isFull_8 (by decide) (fun c_4 => ?_) (fun c_4 => ?_)
    · replace hRes := cs_F c_4 hRes
      refine lv_iload_n hx hb dX6_isFull_32 rfl (lv_at hl 1 rfl) ?_
      refine lv_iconst (v := 3) hx hb dX6_isFull_33 (by decide) ?_
      refine lv_icmp_ne (tgt := 39) hx hb dX6_isFull_34 (by decide) (fun c_5 => ?_) (fun c_5 => ?_)
      · replace hRes := cs_F c_5 hRes
        refine lv_aload_n hx hb dX6_isFull_39 rfl (lv_at hl 0 rfl) ?_
        refine cs_get (C := RX6) (T := TX6) (N := 15) hF in_X6 hw hK 0 rfl rfl 13 (by decide) q_237 rfl dX6_isFull_40 ?_
        refine lv_iload_n hx hb dX6_isFull_43 rfl (lv_at hl 1 rfl) ?_
        refine cs_vir hF (c_X4_entriesOn l D cy ad S a1) (cwV 1 hts g_X6_362 rfl rfl rfl kk_X4_entriesOn ⟨Nat.le_of_ble_eq_true rfl, Nat.le_of_ble_eq_true rfl⟩) (cs_recv hK hw (ci := 4) 4 rfl rfl) hw hK hS rfl hl.1 [] rfl (Nat.le_of_ble_eq_true rfl) dX6_isFull_44 (fun r_6 H locs hq hw hS => ?_)
        replace hRes := cs_letE hq hRes
        clear hq
        refine lv_aload_n hx hb dX6_isFull_47 rfl (lv_at hl 0 rfl) ?_
        refine cs_get (C := RX6) (T := TX6) (N := 15) hF in_X6 hw hK 0 rfl rfl 3 (by decide) q_217 rfl dX6_isFull_48 ?_
        refine lv_iload_n hx hb dX6_isFull_51 rfl (lv_at hl 1 rfl) ?_
        refine lv_iconst (v := 1) hx hb dX6_isFull_52 (by decide) ?_
        refine lv_icmp_ne (tgt := 63) hx hb dX6_isFull_53 (by decide) (fun c_7 => ?_) (fun c_7 => ?_)
        · replace hRes := cs_F c_7 hRes
          refine lv_aload_n hx hb dX6_isFull_63 rfl (lv_at hl 0 rfl) ?_
          refine cs_get (C := RX6) (T := TX6) (N := 15) hF in_X6 hw hK 0 rfl rfl 2 (by decide) q_216 rfl dX6_isFull_64 ?_
          refine lv_aload_n hx hb dX6_isFull_67 rfl (lv_at hl 0 rfl) ?_
          refine cs_get (C := RX6) (T := TX6) (N := 15) hF in_X6 hw hK 0 rfl rfl 2 (by decide) q_216 rfl dX6_isFull_68 ?_
          refine lv_imul hx hb dX6_isFull_71 ?_
          refine lv_imul hx hb dX6_isFull_72 ?_
          refine lv_icmp_le (tgt := 80) hx hb dX6_isFull_73 (by decide) (fun c_8 => ?_) (fun c_8 => ?_)
          · replace hRes := cs_T c_8 hRes
            refine lv_iconst (v := 0) hx hb dX6_isFull_80 (by decide) ?_
            exact cs_zret hF hr hlk hw hK hS dX6_isFull_81 ⟨hRes, rfl⟩
          · replace hRes := cs_F c_8 hRes
            refine lv_iconst (v := 1) hx hb dX6_isFull_76 (by decide) ?_
            refine lv_goto (tgt := 81) hx hb dX6_isFull_77 (by decide) ?_
            exact cs_zret hF hr hlk hw hK hS dX6_isFull_81 ⟨hRes, rfl⟩
        · replace hRes := cs_T c_7 hRes
          refine lv_aload_n hx hb dX6_isFull_56 rfl (lv_at hl 0 rfl) ?_
          refine cs_get (C := RX6) (T := TX6) (N := 15) hF in_X6 hw hK 0 rfl rfl 2 (by decide) q_216 rfl dX6_isFull_57 ?_
          refine lv_goto (tgt := 72) hx hb dX6_isFull_60 (by decide) ?_
          refine lv_imul hx hb dX6_isFull_72 ?_
          refine lv_icmp_le (tgt := 80) hx hb dX6_isFull_73 (by decide) (fun c_9 => ?_) (fun c_9 => ?_)
          · replace hRes := cs_T c_9 hRes
            refine lv_iconst (v := 0) hx hb dX6_isFull_80 (by decide) ?_
            exact cs_zret hF hr hlk hw hK hS dX6_isFull_81 ⟨hRes, rfl⟩
          · replace hRes := cs_F c_9 hRes
            refine lv_iconst (v := 1) hx hb dX6_isFull_76 (by decide) ?_
            refine lv_goto (tgt := 81) hx hb dX6_isFull_77 (by decide) ?_
            exact cs_zret hF hr hlk hw hK hS dX6_isFull_81 ⟨hRes, rfl⟩
      · replace hRes := cs_T c_5 hRes
        refine lv_iconst (v := 0) hx hb dX6_isFull_37 (by decide) ?_
        exact cs_zret hF hr hlk hw hK hS dX6_isFull_38 ⟨hRes, rfl⟩
    · replace hRes := cs_T c_4 hRes
      refine lv_aload_n hx hb dX6_isFull_11 rfl (lv_at hl 0 rfl) ?_
      refine cs_get (C := RX6) (T := TX6) (N := 15) hF in_X6 hw hK 0 rfl rfl 13 (by decide) q_237 rfl dX6_isFull_12 ?_
      refine lv_iload_n hx hb dX6_isFull_15 rfl (lv_at hl 1 rfl) ?_
      refine cs_vir hF (c_X4_count l D cy ad S a1) (cwV 1 hts g_X6_156 rfl rfl rfl kk_X4_count ⟨Nat.le_of_ble_eq_true rfl, Nat.le_of_ble_eq_true rfl⟩) (cs_recv hK hw (ci := 4) 4 rfl rfl) hw hK hS rfl hl.1 [] rfl (Nat.le_of_ble_eq_true rfl) dX6_isFull_16 (fun r_10 H locs hq hw hS => ?_)
      replace hRes := cs_letE hq hRes
      clear hq
      refine lv_aload_n hx hb dX6_isFull_19 rfl (lv_at hl 0 rfl) ?_
      refine cs_get (C := RX6) (T := TX6) (N := 15) hF in_X6 hw hK 0 rfl rfl 2 (by decide) q_216 rfl dX6_isFull_20 ?_
      refine lv_icmp_lt (tgt := 30) hx hb dX6_isFull_23 (by decide) (fun c_11 => ?_) (fun c_11 => ?_)
      · replace hRes := cs_T c_11 hRes
        refine lv_iconst (v := 0) hx hb dX6_isFull_30 (by decide) ?_
        exact cs_zret hF hr hlk hw hK hS dX6_isFull_31 ⟨hRes, rfl⟩
      · replace hRes := cs_F c_11 hRes
        refine lv_iconst (v := 1) hx hb dX6_isFull_26 (by decide) ?_
        refine lv_goto (tgt := 31) hx hb dX6_isFull_27 (by decide) ?_
        exact cs_zret hF hr hlk hw hK hS dX6_isFull_31 ⟨hRes, rfl⟩
theorem kk_X6_isFull : yX6_isFull.cls = RX6 ∧ yX6_isFull.cls ≠ "java/lang/invoke/MethodHandle" ∧ yX6_isFull.cls ≠ "java/lang/invoke/VarHandle" ∧ (parseMethodDescriptor yX6_isFull.desc).map (fun d => d.parameters.length) = some 1 := by decide +kernel
theorem g_X6_360 : GoodIn cs_WS (wsV RX6 360 RX6 yX6_isFull (cs_ws yX6_isFull cX6_isFull 2 (some .boolean))) := cs_goodV q_311 q_312 q_313 q_299 q_303
def m_X6_firstFull_L2 (S : cs_St) : Nat → Int32 → Int32
  | 0, _ => 0
  | n + 1, v1 => (if 4 ≤ v1 then (-1) else cs_let (m_X6_isFull S v1) (fun r_2 => (if r_2 = 0 then m_X6_firstFull_L2 S n (v1 + 1) else v1)))
theorem m_X6_firstFull_L2_s {S : cs_St} {n : Nat} {v1 : Int32} : m_X6_firstFull_L2 S (n + 1) v1 = (if 4 ≤ v1 then (-1) else cs_let (m_X6_isFull S v1) (fun r_2 => (if r_2 = 0 then m_X6_firstFull_L2 S n (v1 + 1) else v1))) := rfl
def m_X6_firstFull (S : cs_St) : Int32 := m_X6_firstFull_L2 S cs_N 0
set_option maxHeartbeats 4000000 in
set_option maxRecDepth 100000 in
theorem c_X6_firstFull (l : Launch) (D : va_G) (cy : ClassId) (ad : Nat → Nat) (S : cs_St) : Met l yX6_firstFull (cs_ws yX6_firstFull cX6_firstFull 2 (some .int)) (cs_rm 4 86) (cs_Pc D cy ad [.ref (ad 0)] S) (cs_Qi D cy ad (fun r S1 => r = m_X6_firstFull S ∧ S1 = S)) 0 0 (cs_A ad) := by
  refine cs_of RX6 (by decide) rfl (Nat.le_of_ble_eq_true rfl) ?_
  intro p e s m below meth c hF hr hlk hw hK ls hl
  obtain ⟨hx, hb, hml, hown, hts⟩ := id hF
  have hS : va_S (cs_A ad) s.heap s.heap [] := va_S.rf
  have hl : lv_has ls 2 [(0, .ref (ad 0))] := hl
  generalize hRes : m_X6_firstFull S = Res
  unfold m_X6_firstFull at hRes
  refine lv_iconst (v := 0) hx hb dX6_firstFull_0 (by decide) ?_
  refine lv_istore_n (lv' := [(1, .int 0), (0, .ref (ad 0))]) hx hb dX6_firstFull_1 rfl hl (by decide) rfl (fun ls hl => ?_)
  -- the loop at 2
  have lp : ∀ (n : Nat) (v1 : Int32) (H : Heap) (locs : List Loc), cs_w D cy ad S H → va_S (cs_A ad) s.heap H locs → ∀ (ls : Array Slot), lv_has ls 2 [(1, .int v1), (0, .ref (ad 0))] → (2147483647 - v1.toInt < (n : Int) ∧ 0 < n) → m_X6_firstFull_L2 S n v1 = Res → W p l e (cs_rm 4 86) s m ([.ref (ad 0)]).toArray below meth c H locs 0 0 (MQ below (cs_Qi D cy ad (fun r S1 => r = Res ∧ S1 = S)) ([.ref (ad 0)]).toArray s 0 0 (cs_A ad)) (F0 m 2 ls []) := by
    intro n
    induction n with
    | zero => intro v1 H locs hw hS ls hl hm; exact absurd hm.2 (Nat.lt_irrefl 0)
    | succ n ih =>
      intro v1 H locs hw hS ls hl hm hRes
      replace hRes := m_X6_firstFull_L2_s.symm.trans hRes
      refine lv_iload_n hx hb dX6_firstFull_2 rfl (lv_at hl 0 rfl) ?_
      refine lv_iconst (v := 4) hx hb dX6_firstFull_3 (by decide) ?_
      refine lv_icmp_ge (tgt := 23) hx hb dX6_firstFull_4 (by decide) (fun c_1 => ?_) (fun c_1 => ?_)
      · replace hRes := cs_T c_1 hRes
        refine lv_iconst (v := -1) hx hb dX6_firstFull_23 (by decide) ?_
        exact cs_iret hF hr hlk hw hK hS dX6_firstFull_24 ⟨hRes, rfl⟩
      · replace hRes := cs_F c_1 hRes
        refine lv_aload_n hx hb dX6_firstFull_7 rfl (lv_at hl 1 rfl) ?_
        refine lv_iload_n hx hb dX6_firstFull_8 rfl (lv_at hl 0 rfl) ?_
        refine cs_vir hF (c_X6_isFull l D cy ad S v1) (cwV 1 hts g_X6_360 rfl rfl rfl kk_X6_isFull ⟨Nat.le_of_ble_eq_true rfl, Nat.le_of_ble_eq_true rfl⟩) (cs_recv hK hw (ci := 6) 0 rfl rfl) hw hK hS rfl hl.1 [] rfl (Nat.le_of_ble_eq_true rfl) dX6_firstFull_9 (fun r_2 H locs hq hw hS => ?_)
        replace hRes := cs_letE hq hRes
        clear hq
        refine lv_if_eq (tgt := 17) hx hb dX6_firstFull_12 (by decide) (fun c_3 => ?_) (fun c_3 => ?_)
        · replace hRes := cs_T c_3 hRes
          refine lv_iinc (v := v1 + 1) (lv' := [(1, .int (v1 + 1)), (0, .ref (ad 0))]) hx hb dX6_firstFull_17 hl (k := 0) rfl rfl (by decide) rfl (fun ls hl => ?_)
          refine lv_goto (tgt := 2) hx hb dX6_firstFull_20 (by decide) ?_
          exact ih (v1 + 1) _ _ hw hS _ (lv_sub hl [0, 1] rfl) (cs_up hm.1 c_1) hRes
        · replace hRes := cs_F c_3 hRes
          refine lv_iload_n hx hb dX6_firstFull_15 rfl (lv_at hl 0 rfl) ?_
          exact cs_iret hF hr hlk hw hK hS dX6_firstFull_16 ⟨hRes, rfl⟩
  exact lp cs_N 0 _ _ hw hS _ (lv_sub hl [0, 1] rfl) (cs_up0 0) hRes
theorem kk_X6_firstFull : yX6_firstFull.cls = RX6 ∧ yX6_firstFull.cls ≠ "java/lang/invoke/MethodHandle" ∧ yX6_firstFull.cls ≠ "java/lang/invoke/VarHandle" ∧ (parseMethodDescriptor yX6_firstFull.desc).map (fun d => d.parameters.length) = some 0 := by decide +kernel
theorem g_X6_159 : GoodIn cs_WS (wsV RX6 159 RX4 yX4_cut (cs_ws yX4_cut cX4_cut 10 none)) := cs_goodV q_317 q_318 q_319 q_139 q_181
def m_X6_takeRuns (S : cs_St) (a1 : Int32) (a2 : Int32) (a3 : Int32) : cs_St := cs_let (m_X4_first S a1) (fun r_1 => cs_let (m_X4_begin S (r_1 + a2)) (fun r_2 => cs_let (m_X4_begin S (r_1 + a3)) (fun r_3 => cs_let (m_X2_gather S 10 r_2 r_3) (fun S_4 => cs_let (m_X4_cut S_4 a1 a2 a3) (fun S_5 => S_5)))))
set_option maxHeartbeats 4000000 in
set_option maxRecDepth 100000 in
theorem c_X6_takeRuns (l : Launch) (D : va_G) (cy : ClassId) (ad : Nat → Nat) (S : cs_St) (a1 : Int32) (a2 : Int32) (a3 : Int32) : Met l yX6_takeRuns (cs_ws yX6_takeRuns cX6_takeRuns 5 none) (cs_rm 3 111) (cs_Pc D cy ad [.ref (ad 0), .int a1, .int a2, .int a3] S) (cs_Qv D cy ad (fun S1 => S1 = m_X6_takeRuns S a1 a2 a3)) 0 0 (cs_A ad) := by
  refine cs_of RX6 (by decide) rfl (Nat.le_of_ble_eq_true rfl) ?_
  intro p e s m below meth c hF hr hlk hw hK ls hl
  obtain ⟨hx, hb, hml, hown, hts⟩ := id hF
  have hS : va_S (cs_A ad) s.heap s.heap [] := va_S.rf
  have hl : lv_has ls 5 [(0, .ref (ad 0)), (1, .int a1), (2, .int a2), (3, .int a3)] := hl
  generalize hRes : m_X6_takeRuns S a1 a2 a3 = Res
  unfold m_X6_takeRuns at hRes
  refine lv_aload_n hx hb dX6_takeRuns_0 rfl (lv_at hl 0 rfl) ?_
  refine cs_get (C := RX6) (T := TX6) (N := 15) hF in_X6 hw hK 0 rfl rfl 13 (by decide) q_237 rfl dX6_takeRuns_1 ?_
  refine lv_iload_n hx hb dX6_takeRuns_4 rfl (lv_at hl 1 rfl) ?_
  refine cs_vir hF (c_X4_first l D cy ad S a1) (cwV 1 hts g_X6_153 rfl rfl rfl kk_X4_first ⟨Nat.le_of_ble_eq_true rfl, Nat.le_of_ble_eq_true rfl⟩) (cs_recv hK hw (ci := 4) 4 rfl rfl) hw hK hS rfl hl.1 [] rfl (Nat.le_of_ble_eq_true rfl) dX6_takeRuns_5 (fun r_1 H locs hq hw hS => ?_)
  replace hRes := cs_letE hq hRes
  clear hq
  refine lv_istore (lv' := [(4, .int r_1), (0, .ref (ad 0)), (1, .int a1), (2, .int a2), (3, .int a3)]) hx hb dX6_takeRuns_8 hl (by decide) rfl (fun ls hl => ?_)
  refine lv_aload_n hx hb dX6_takeRuns_10 rfl (lv_at hl 1 rfl) ?_
  refine cs_get (C := RX6) (T := TX6) (N := 15) hF in_X6 hw hK 0 rfl rfl 14 (by decide) q_241 rfl dX6_takeRuns_11 ?_
  refine lv_aload_n hx hb dX6_takeRuns_14 rfl (lv_at hl 1 rfl) ?_
  refine cs_get (C := RX6) (T := TX6) (N := 15) hF in_X6 hw hK 0 rfl rfl 13 (by decide) q_237 rfl dX6_takeRuns_15 ?_
  refine cs_getN (C := RX4) (T := TX4) (N := 8) hF in_X4 hw hK 4 rfl rfl 1 (by decide) (List.mem_of_getElem? (i := 4) rfl) rfl dX6_takeRuns_18 ?_
  refine lv_aload_n hx hb dX6_takeRuns_21 rfl (lv_at hl 1 rfl) ?_
  refine cs_get (C := RX6) (T := TX6) (N := 15) hF in_X6 hw hK 0 rfl rfl 13 (by decide) q_237 rfl dX6_takeRuns_22 ?_
  refine lv_iload hx hb dX6_takeRuns_25 (lv_at hl 0 rfl) ?_
  refine lv_iload_n hx hb dX6_takeRuns_27 rfl (lv_at hl 3 rfl) ?_
  refine lv_iadd hx hb dX6_takeRuns_28 ?_
  refine cs_vir hF (c_X4_begin l D cy ad S (r_1 + a2)) (cwV 1 hts g_X6_354 rfl rfl rfl kk_X4_begin ⟨Nat.le_of_ble_eq_true rfl, Nat.le_of_ble_eq_true rfl⟩) (cs_recv hK hw (ci := 4) 4 rfl rfl) hw hK hS rfl hl.1 [.ref (ad 26), .ref (ad 5)] rfl (Nat.le_of_ble_eq_true rfl) dX6_takeRuns_29 (fun r_2 H locs hq hw hS => ?_)
  replace hRes := cs_letE hq hRes
  clear hq
  refine lv_aload_n hx hb dX6_takeRuns_32 rfl (lv_at hl 1 rfl) ?_
  refine cs_get (C := RX6) (T := TX6) (N := 15) hF in_X6 hw hK 0 rfl rfl 13 (by decide) q_237 rfl dX6_takeRuns_33 ?_
  refine lv_iload hx hb dX6_takeRuns_36 (lv_at hl 0 rfl) ?_
  refine lv_iload_n hx hb dX6_takeRuns_38 rfl (lv_at hl 4 rfl) ?_
  refine lv_iadd hx hb dX6_takeRuns_39 ?_
  refine cs_vir hF (c_X4_begin l D cy ad S (r_1 + a3)) (cwV 1 hts g_X6_354 rfl rfl rfl kk_X4_begin ⟨Nat.le_of_ble_eq_true rfl, Nat.le_of_ble_eq_true rfl⟩) (cs_recv hK hw (ci := 4) 4 rfl rfl) hw hK hS rfl hl.1 [.int r_2, .ref (ad 26), .ref (ad 5)] rfl (Nat.le_of_ble_eq_true rfl) dX6_takeRuns_40 (fun r_3 H locs hq hw hS => ?_)
  replace hRes := cs_letE hq hRes
  clear hq
  refine cs_vv hF (c_X2_gather l D cy ad S 10 r_2 r_3 (by decide)) (cwV 3 hts g_X6_323 rfl rfl rfl kk_X2_gather ⟨Nat.le_of_ble_eq_true rfl, Nat.le_of_ble_eq_true rfl⟩) (cs_recv hK hw (ci := 2) 5 rfl rfl) hw hK hS rfl hl.1 [] rfl (Nat.le_of_ble_eq_true rfl) dX6_takeRuns_43 (fun S_4 H locs hq hw hS => ?_)
  replace hRes := cs_letE hq hRes
  clear hq
  refine lv_aload_n hx hb dX6_takeRuns_46 rfl (lv_at hl 1 rfl) ?_
  refine cs_get (C := RX6) (T := TX6) (N := 15) hF in_X6 hw hK 0 rfl rfl 13 (by decide) q_237 rfl dX6_takeRuns_47 ?_
  refine lv_iload_n hx hb dX6_takeRuns_50 rfl (lv_at hl 2 rfl) ?_
  refine lv_iload_n hx hb dX6_takeRuns_51 rfl (lv_at hl 3 rfl) ?_
  refine lv_iload_n hx hb dX6_takeRuns_52 rfl (lv_at hl 4 rfl) ?_
  refine cs_vv hF (c_X4_cut l D cy ad S_4 a1 a2 a3) (cwV 3 hts g_X6_159 rfl rfl rfl kk_X4_cut ⟨Nat.le_of_ble_eq_true rfl, Nat.le_of_ble_eq_true rfl⟩) (cs_recv hK hw (ci := 4) 4 rfl rfl) hw hK hS rfl hl.1 [] rfl (Nat.le_of_ble_eq_true rfl) dX6_takeRuns_53 (fun S_5 H locs hq hw hS => ?_)
  replace hRes := cs_letE hq hRes
  clear hq
  exact cs_vret hF hr hlk hw hK hS dX6_takeRuns_56 hRes
theorem kk_X6_takeRuns : yX6_takeRuns.cls = RX6 ∧ yX6_takeRuns.cls ≠ "java/lang/invoke/MethodHandle" ∧ yX6_takeRuns.cls ≠ "java/lang/invoke/VarHandle" ∧ (parseMethodDescriptor yX6_takeRuns.desc).map (fun d => d.parameters.length) = some 3 := by decide +kernel
theorem g_X6_365 : GoodIn cs_WS (wsV RX6 365 RX6 yX6_takeRuns (cs_ws yX6_takeRuns cX6_takeRuns 5 none)) := cs_goodV q_321 q_322 q_323 q_299 q_314
def m_X6_takeLevel (S : cs_St) (a1 : Int32) : Int32 × cs_St := cs_let (m_X4_count S a1) (fun r_1 => cs_let (m_X6_takeRuns S a1 0 r_1) (fun S_2 => (0, S_2)))
set_option maxHeartbeats 4000000 in
set_option maxRecDepth 100000 in
theorem c_X6_takeLevel (l : Launch) (D : va_G) (cy : ClassId) (ad : Nat → Nat) (S : cs_St) (a1 : Int32) : Met l yX6_takeLevel (cs_ws yX6_takeLevel cX6_takeLevel 2 (some .int)) (cs_rm 4 135) (cs_Pc D cy ad [.ref (ad 0), .int a1] S) (cs_Qi D cy ad (fun r S1 => r = (m_X6_takeLevel S a1).1 ∧ S1 = (m_X6_takeLevel S a1).2)) 0 0 (cs_A ad) := by
  refine cs_of RX6 (by decide) rfl (Nat.le_of_ble_eq_true rfl) ?_
  intro p e s m below meth c hF hr hlk hw hK ls hl
  obtain ⟨hx, hb, hml, hown, hts⟩ := id hF
  have hS : va_S (cs_A ad) s.heap s.heap [] := va_S.rf
  have hl : lv_has ls 2 [(0, .ref (ad 0)), (1, .int a1)] := hl
  generalize hRes : m_X6_takeLevel S a1 = Res
  unfold m_X6_takeLevel at hRes
  refine lv_aload_n hx hb dX6_takeLevel_0 rfl (lv_at hl 0 rfl) ?_
  refine lv_iload_n hx hb dX6_takeLevel_1 rfl (lv_at hl 1 rfl) ?_
  refine lv_iconst (v := 0) hx hb dX6_takeLevel_2 (by decide) ?_
  refine lv_aload_n hx hb dX6_takeLevel_3 rfl (lv_at hl 0 rfl) ?_
  refine cs_get (C := RX6) (T := TX6) (N := 15) hF in_X6 hw hK 0 rfl rfl 13 (by decide) q_237 rfl dX6_takeLevel_4 ?_
  refine lv_iload_n hx hb dX6_takeLevel_7 rfl (lv_at hl 1 rfl) ?_
  refine cs_vir hF (c_X4_count l D cy ad S a1) (cwV 1 hts g_X6_156 rfl rfl rfl kk_X4_count ⟨Nat.le_of_ble_eq_true rfl, Nat.le_of_ble_eq_true rfl⟩) (cs_recv hK hw (ci := 4) 4 rfl rfl) hw hK hS rfl hl.1 [.int 0, .int a1, .ref (ad 0)] rfl (Nat.le_of_ble_eq_true rfl) dX6_takeLevel_8 (fun r_1 H locs hq hw hS => ?_)
  replace hRes := cs_letE hq hRes
  clear hq
  refine cs_vv hF (c_X6_takeRuns l D cy ad S a1 0 r_1) (cwV 3 hts g_X6_365 rfl rfl rfl kk_X6_takeRuns ⟨Nat.le_of_ble_eq_true rfl, Nat.le_of_ble_eq_true rfl⟩) (cs_recv hK hw (ci := 6) 0 rfl rfl) hw hK hS rfl hl.1 [] rfl (Nat.le_of_ble_eq_true rfl) dX6_takeLevel_11 (fun S_2 H locs hq hw hS => ?_)
  replace hRes := cs_letE hq hRes
  clear hq
  refine lv_iconst (v := 0) hx hb dX6_takeLevel_14 (by decide) ?_
  exact cs_iret hF hr hlk hw hK hS dX6_takeLevel_15 ⟨cs_eq1 hRes, cs_eq2 hRes⟩
theorem kk_X6_takeLevel : yX6_takeLevel.cls = RX6 ∧ yX6_takeLevel.cls ≠ "java/lang/invoke/MethodHandle" ∧ yX6_takeLevel.cls ≠ "java/lang/invoke/VarHandle" ∧ (parseMethodDescriptor yX6_takeLevel.desc).map (fun d => d.parameters.length) = some 1 := by decide +kernel
theorem g_X6_85 : GoodIn cs_WS (wsV RX6 85 RX3 yX3_write (cs_ws yX3_write cX3_write 3 none)) := cs_goodV q_250 q_58 q_59 q_10 q_54
theorem g_X6_211 : GoodIn cs_WS (wsV RX6 211 RX3 yX3_at (cs_ws yX3_at cX3_at 2 (some .int))) := cs_goodV q_325 q_50 q_51 q_10 q_47
theorem g_X6_368 : GoodIn cs_WS (wsV RX6 368 RX4 yX4_firstBeyond (cs_ws yX4_firstBeyond cX4_firstBeyond 5 (some .int))) := cs_goodV q_326 q_327 q_328 q_139 q_166
theorem g_X6_371 : GoodIn cs_WS (wsV RX6 371 RX4 yX4_leastOf (cs_ws yX4_leastOf cX4_leastOf 5 (some .int))) := cs_goodV q_329 q_330 q_331 q_139 q_157
theorem g_X6_374 : GoodIn cs_WS (wsV RX6 374 RX4 yX4_greatestOf (cs_ws yX4_greatestOf cX4_greatestOf 5 (some .int))) := cs_goodV q_332 q_333 q_334 q_139 q_162
theorem g_X6_377 : GoodIn cs_WS (wsV RX6 377 RX4 yX4_firstReaching (cs_ws yX4_firstReaching cX4_firstReaching 5 (some .int))) := cs_goodV q_335 q_336 q_337 q_139 q_167
def m_X6_takePart (S : cs_St) (a1 : Int32) : Int32 × cs_St := cs_let (m_X4_count S a1) (fun r_1 => (if a1 ≤ 0 then cs_let (m_X4_first S a1) (fun r_3 => cs_let (m_X4_leastOf S (r_3 + 0) (r_3 + r_1)) (fun r_4 => cs_let (m_X4_greatestOf S (r_3 + 0) (r_3 + r_1)) (fun r_5 => (if a1 ≤ 0 then cs_let (m_X4_firstReaching S (a1 + 1) r_4) (fun r_7 => cs_let (m_X4_firstBeyond S (a1 + 1) r_5) (fun r_8 => cs_let (m_X6_takeRuns S a1 0 r_1) (fun S_9 => cs_let (m_X6_takeRuns S_9 (a1 + 1) r_7 r_8) (fun S_10 => (r_7, S_10))))) else cs_let (m_X3_write S 2 a1 r_5) (fun S_11 => cs_let (m_X4_firstReaching S_11 (a1 + 1) r_4) (fun r_12 => cs_let (m_X4_firstBeyond S_11 (a1 + 1) r_5) (fun r_13 => cs_let (m_X6_takeRuns S_11 a1 0 r_1) (fun S_14 => cs_let (m_X6_takeRuns S_14 (a1 + 1) r_12 r_13) (fun S_15 => (r_12, S_15)))))))))) else cs_let (m_X3_at S 2 a1) (fun r_16 => cs_let (m_X4_firstBeyond S a1 r_16) (fun r_17 => (if r_1 ≤ r_17 then cs_let (m_X4_first S a1) (fun r_19 => cs_let (m_X4_leastOf S (r_19 + 0) (r_19 + (0 + 1))) (fun r_20 => cs_let (m_X4_greatestOf S (r_19 + 0) (r_19 + (0 + 1))) (fun r_21 => (if a1 ≤ 0 then cs_let (m_X4_firstReaching S (a1 + 1) r_20) (fun r_23 => cs_let (m_X4_firstBeyond S (a1 + 1) r_21) (fun r_24 => cs_let (m_X6_takeRuns S a1 0 (0 + 1)) (fun S_25 => cs_let (m_X6_takeRuns S_25 (a1 + 1) r_23 r_24) (fun S_26 => (r_23, S_26))))) else cs_let (m_X3_write S 2 a1 r_21) (fun S_27 => cs_let (m_X4_firstReaching S_27 (a1 + 1) r_20) (fun r_28 => cs_let (m_X4_firstBeyond S_27 (a1 + 1) r_21) (fun r_29 => cs_let (m_X6_takeRuns S_27 a1 0 (0 + 1)) (fun S_30 => cs_let (m_X6_takeRuns S_30 (a1 + 1) r_28 r_29) (fun S_31 => (r_28, S_31)))))))))) else cs_let (m_X4_first S a1) (fun r_32 => cs_let (m_X4_leastOf S (r_32 + r_17) (r_32 + (r_17 + 1))) (fun r_33 => cs_let (m_X4_greatestOf S (r_32 + r_17) (r_32 + (r_17 + 1))) (fun r_34 => (if a1 ≤ 0 then cs_let (m_X4_firstReaching S (a1 + 1) r_33) (fun r_36 => cs_let (m_X4_firstBeyond S (a1 + 1) r_34) (fun r_37 => cs_let (m_X6_takeRuns S a1 r_17 (r_17 + 1)) (fun S_38 => cs_let (m_X6_takeRuns S_38 (a1 + 1) r_36 r_37) (fun S_39 => (r_36, S_39))))) else cs_let (m_X3_write S 2 a1 r_34) (fun S_40 => cs_let (m_X4_firstReaching S_40 (a1 + 1) r_33) (fun r_41 => cs_let (m_X4_firstBeyond S_40 (a1 + 1) r_34) (fun r_42 => cs_let (m_X6_takeRuns S_40 a1 r_17 (r_17 + 1)) (fun S_43 => cs_let (m_X6_takeRuns S_43 (a1 + 1) r_41 r_42) (fun S_44 => (r_41, S_44)))))))))))))))
set_option maxHeartbeats 4000000 in
set_option maxRecDepth 100000 in
theorem c_X6_takePart (l : Launch) (D : va_G) (cy : ClassId) (ad : Nat → Nat) (S : cs_St) (a1 : Int32) : Met l yX6_takePart (cs_ws yX6_takePart cX6_takePart 9 (some .int)) (cs_rm 4 135) (cs_Pc D cy ad [.ref (ad 0), .int a1] S) (cs_Qi D cy ad (fun r S1 => r = (m_X6_takePart S a1).1 ∧ S1 = (m_X6_takePart S a1).2)) 0 0 (cs_A ad) := by
  refine cs_of RX6 (by decide) rfl (Nat.le_of_ble_eq_true rfl) ?_
  intro p e s m below meth c hF hr hlk hw hK ls hl
  obtain ⟨hx, hb, hml, hown, hts⟩ := id hF
  have hS : va_S (cs_A ad) s.heap s.heap [] := va_S.rf
  have hl : lv_has ls 9 [(0, .ref (ad 0)), (1, .int a1)] := hl
  generalize hRes : m_X6_takePart S a1 = Res
  unfold m_X6_takePart at hRes
  refine lv_iconst (v := 0) hx hb dX6_takePart_0 (by decide) ?_
  refine lv_istore_n (lv' := [(2, .int 0), (0, .ref (ad 0)), (1, .int a1)]) hx hb dX6_takePart_1 rfl hl (by decide) rfl (fun ls hl => ?_)
  refine lv_aload_n hx hb dX6_takePart_2 rfl (lv_at hl 1 rfl) ?_
  refine cs_get (C := RX6) (T := TX6) (N := 15) hF in_X6 hw hK 0 rfl rfl 13 (by decide) q_237 rfl dX6_takePart_3 ?_
  refine lv_iload_n hx hb dX6_takePart_6 rfl (lv_at hl 2 rfl) ?_
  refine cs_vir hF (c_X4_count l D cy ad S a1) (cwV 1 hts g_X6_156 rfl rfl rfl kk_X4_count ⟨Nat.le_of_ble_eq_true rfl, Nat.le_of_ble_eq_true rfl⟩) (cs_recv hK hw (ci := 4) 4 rfl rfl) hw hK hS rfl hl.1 [] rfl (Nat.le_of_ble_eq_true rfl) dX6_takePart_7 (fun r_1 H locs hq hw hS => ?_)
  replace hRes := cs_letE hq hRes
  clear hq
  refine lv_istore_n (lv' := [(3, .int r_1), (2, .int 0), (0, .ref (ad 0)), (1, .int a1)]) hx hb dX6_takePart_10 rfl hl (by decide) rfl (fun ls hl => ?_)
  refine lv_iload_n hx hb dX6_takePart_11 rfl (lv_at hl 3 rfl) ?_
  refine lv_if_le (tgt := 50) hx hb dX6_takePart_12 (by decide) (fun c_2 => ?_) (fun c_2 => ?_)
  · replace hRes := cs_T c_2 hRes
    refine lv_aload_n hx hb dX6_takePart_50 rfl (lv_at hl 2 rfl) ?_
    refine cs_get (C := RX6) (T := TX6) (N := 15) hF in_X6 hw hK 0 rfl rfl 13 (by decide) q_237 rfl dX6_takePart_51 ?_
    refine lv_iload_n hx hb dX6_takePart_54 rfl (lv_at hl 3 rfl) ?_
    refine cs_vir hF (c_X4_first l D cy ad S a1) (cwV 1 hts g_X6_153 rfl rfl rfl kk_X4_first ⟨Nat.le_of_ble_eq_true rfl, Nat.le_of_ble_eq_true rfl⟩) (cs_recv hK hw (ci := 4) 4 rfl rfl) hw hK hS rfl hl.1 [] rfl (Nat.le_of_ble_eq_true rfl) dX6_takePart_55 (fun r_3 H locs hq hw hS => ?_)
    replace hRes := cs_letE hq hRes
    clear hq
    refine lv_istore (lv' := [(4, .int r_3), (3, .int r_1), (2, .int 0), (0, .ref (ad 0)), (1, .int a1)]) hx hb dX6_takePart_58 hl (by decide) rfl (fun ls hl => ?_)
    refine lv_aload_n hx hb dX6_takePart_60 rfl (lv_at hl 3 rfl) ?_
    refine cs_get (C := RX6) (T := TX6) (N := 15) hF in_X6 hw hK 0 rfl rfl 13 (by decide) q_237 rfl dX6_takePart_61 ?_
    refine lv_iload hx hb dX6_takePart_64 (lv_at hl 0 rfl) ?_
    refine lv_iload_n hx hb dX6_takePart_66 rfl (lv_at hl 2 rfl) ?_
    refine lv_iadd hx hb dX6_takePart_67 ?_
    refine lv_iload hx hb dX6_takePart_68 (lv_at hl 0 rfl) ?_
    refine lv_iload_n hx hb dX6_takePart_70 rfl (lv_at hl 1 rfl) ?_
    refine lv_iadd hx hb dX6_takePart_71 ?_
    refine cs_vir hF (c_X4_leastOf l D cy ad S (r_3 + 0) (r_3 + r_1)) (cwV 2 hts g_X6_371 rfl rfl rfl kk_X4_leastOf ⟨Nat.le_of_ble_eq_true rfl, Nat.le_of_ble_eq_true rfl⟩) (cs_recv hK hw (ci := 4) 4 rfl rfl) hw hK hS rfl hl.1 [] rfl (Nat.le_of_ble_eq_true rfl) dX6_takePart_72 (fun r_4 H locs hq hw hS => ?_)
    replace hRes := cs_letE hq hRes
    clear hq
    refine lv_istore (lv' := [(5, .int r_4), (4, .int r_3), (3, .int r_1), (2, .int 0), (0, .ref (ad 0)), (1, .int a1)]) hx hb dX6_takePart_75 hl (by decide) rfl (fun ls hl => ?_)
    refine lv_aload_n hx hb dX6_takePart_77 rfl (lv_at hl 4 rfl) ?_
    refine cs_get (C := RX6) (T := TX6) (N := 15) hF in_X6 hw hK 0 rfl rfl 13 (by decide) q_237 rfl dX6_takePart_78 ?_
    refine lv_iload hx hb dX6_takePart_81 (lv_at hl 1 rfl) ?_
    refine lv_iload_n hx hb dX6_takePart_83 rfl (lv_at hl 3 rfl) ?_
    refine lv_iadd hx hb dX6_takePart_84 ?_
    refine lv_iload hx hb dX6_takePart_85 (lv_at hl 1 rfl) ?_
    refine lv_iload_n hx hb dX6_takePart_87 rfl (lv_at hl 2 rfl) ?_
    refine lv_iadd hx hb dX6_takePart_88 ?_
    refine cs_vir hF (c_X4_greatestOf l D cy ad S (r_3 + 0) (r_3 + r_1)) (cwV 2 hts g_X6_374 rfl rfl rfl kk_X4_greatestOf ⟨Nat.le_of_ble_eq_true rfl, Nat.le_of_ble_eq_true rfl⟩) (cs_recv hK hw (ci := 4) 4 rfl rfl) hw hK hS rfl hl.1 [] rfl (Nat.le_of_ble_eq_true rfl) dX6_takePart_89 (fun r_5 H locs hq hw hS => ?_)
    replace hRes := cs_letE hq hRes
    clear hq
    refine lv_istore (lv' := [(6, .int r_5), (5, .int r_4), (4, .int r_3), (3, .int r_1), (2, .int 0), (0, .ref (ad 0)), (1, .int a1)]) hx hb dX6_takePart_92 hl (by decide) rfl (fun ls hl => ?_)
    refine lv_iload_n hx hb dX6_takePart_94 rfl (lv_at hl 6 rfl) ?_
    refine lv_if_le (tgt := 108) hx hb dX6_takePart_95 (by decide) (fun c_6 => ?_) (fun c_6 => ?_)
    · replace hRes := cs_T c_6 hRes
      refine lv_aload_n hx hb dX6_takePart_108 rfl (lv_at hl 5 rfl) ?_
      refine cs_get (C := RX6) (T := TX6) (N := 15) hF in_X6 hw hK 0 rfl rfl 13 (by decide) q_237 rfl dX6_takePart_109 ?_
      refine lv_iload_n hx hb dX6_takePart_112 rfl (lv_at hl 6 rfl) ?_
      refine lv_iconst (v := 1) hx hb dX6_takePart_113 (by decide) ?_
      refine lv_iadd hx hb dX6_takePart_114 ?_
      refine lv_iload hx hb dX6_takePart_115 (lv_at hl 1 rfl) ?_
      refine cs_vir hF (c_X4_firstReaching l D cy ad S (a1 + 1) r_4) (cwV 2 hts g_X6_377 rfl rfl rfl kk_X4_firstReaching ⟨Nat.le_of_ble_eq_true rfl, Nat.le_of_ble_eq_true rfl⟩) (cs_recv hK hw (ci := 4) 4 rfl rfl) hw hK hS rfl hl.1 [] rfl (Nat.le_of_ble_eq_true rfl) dX6_takePart_117 (fun r_7 H locs hq hw hS => ?_)
      replace hRes := cs_letE hq hRes
      clear hq
      refine lv_istore (lv' := [(7, .int r_7), (6, .int r_5), (5, .int r_4), (4, .int r_3), (3, .int r_1), (2, .int 0), (0, .ref (ad 0)), (1, .int a1)]) hx hb dX6_takePart_120 hl (by decide) rfl (fun ls hl => ?_)
      refine lv_aload_n hx hb dX6_takePart_122 rfl (lv_at hl 6 rfl) ?_
      refine cs_get (C := RX6) (T := TX6) (N := 15) hF in_X6 hw hK 0 rfl rfl 13 (by decide) q_237 rfl dX6_takePart_123 ?_
      refine lv_iload_n hx hb dX6_takePart_126 rfl (lv_at hl 7 rfl) ?_
      refine lv_iconst (v := 1) hx hb dX6_takePart_127 (by decide) ?_
      refine lv_iadd hx hb dX6_takePart_128 ?_
      refine lv_iload hx hb dX6_takePart_129 (lv_at hl 1 rfl) ?_
      refine cs_vir hF (c_X4_firstBeyond l D cy ad S (a1 + 1) r_5) (cwV 2 hts g_X6_368 rfl rfl rfl kk_X4_firstBeyond ⟨Nat.le_of_ble_eq_true rfl, Nat.le_of_ble_eq_true rfl⟩) (cs_recv hK hw (ci := 4) 4 rfl rfl) hw hK hS rfl hl.1 [] rfl (Nat.le_of_ble_eq_true rfl) dX6_takePart_131 (fun r_8 H locs hq hw hS => ?_)
      replace hRes := cs_letE hq hRes
      clear hq
      refine lv_istore (lv' := [(8, .int r_8), (7, .int r_7), (6, .int r_5), (5, .int r_4), (4, .int r_3), (3, .int r_1), (2, .int 0), (0, .ref (ad 0)), (1, .int a1)]) hx hb dX6_takePart_134 hl (by decide) rfl (fun ls hl => ?_)
      refine lv_aload_n hx hb dX6_takePart_136 rfl (lv_at hl 7 rfl) ?_
      refine lv_iload_n hx hb dX6_takePart_137 rfl (lv_at hl 8 rfl) ?_
      refine lv_iload_n hx hb dX6_takePart_138 rfl (lv_at hl 6 rfl) ?_
      refine lv_iload_n hx hb dX6_takePart_139 rfl (lv_at hl 5 rfl) ?_
      refine cs_vv hF (c_X6_takeRuns l D cy ad S a1 0 r_1) (cwV 3 hts g_X6_365 rfl rfl rfl kk_X6_takeRuns ⟨Nat.le_of_ble_eq_true rfl, Nat.le_of_ble_eq_true rfl⟩) (cs_recv hK hw (ci := 6) 0 rfl rfl) hw hK hS rfl hl.1 [] rfl (Nat.le_of_ble_eq_true rfl) dX6_takePart_140 (fun S_9 H locs hq hw hS => ?_)
      replace hRes := cs_letE hq hRes
      clear hq
      refine lv_aload_n hx hb dX6_takePart_143 rfl (lv_at hl 7 rfl) ?_
      refine lv_iload_n hx hb dX6_takePart_144 rfl (lv_at hl 8 rfl) ?_
      refine lv_iconst (v := 1) hx hb dX6_takePart_145 (by decide) ?_
      refine lv_iadd hx hb dX6_takePart_146 ?_
      refine lv_iload hx hb dX6_takePart_147 (lv_at hl 1 rfl) ?_
      refine lv_iload hx hb dX6_takePart_149 (lv_at hl 0 rfl) ?_
      refine cs_vv hF (c_X6_takeRuns l D cy ad S_9 (a1 + 1) r_7 r_8) (cwV 3 hts g_X6_365 rfl rfl rfl kk_X6_takeRuns ⟨Nat.le_of_ble_eq_true rfl, Nat.le_of_ble_eq_true rfl⟩) (cs_recv hK hw (ci := 6) 0 rfl rfl) hw hK hS rfl hl.1 [] rfl (Nat.le_of_ble_eq_true rfl) dX6_takePart_151 (fun S_10 H locs hq hw hS => ?_)
      replace hRes := cs_letE hq hRes
      clear hq
      refine lv_iload hx hb dX6_takePart_154 (lv_at hl 1 rfl) ?_
      exact cs_iret hF hr hlk hw hK hS dX6_takePart_156 ⟨cs_eq1 hRes, cs_eq2 hRes⟩
    · replace hRes := cs_F c_6 hRes
      refine lv_aload_n hx hb dX6_takePart_98 rfl (lv_at hl 5 rfl) ?_
      refine cs_get (C := RX6) (T := TX6) (N := 15) hF in_X6 hw hK 0 rfl rfl 9 (by decide) q_224 rfl dX6_takePart_99 ?_
      refine lv_iload_n hx hb dX6_takePart_102 rfl (lv_at hl 6 rfl) ?_
      refine lv_iload hx hb dX6_takePart_103 (lv_at hl 0 rfl) ?_
      refine cs_vv hF (c_X3_write l D cy ad S 2 a1 r_5 (by decide) (fun h => absurd h (by decide))) (cwV 2 hts g_X6_85 rfl rfl rfl kk_X3_write ⟨Nat.le_of_ble_eq_true rfl, Nat.le_of_ble_eq_true rfl⟩) (cs_recvR hK hw (by decide)) hw hK hS rfl hl.1 [] rfl (Nat.le_of_ble_eq_true rfl) dX6_takePart_105 (fun S_11 H locs hq hw hS => ?_)
      replace hRes := cs_letE hq hRes
      clear hq
      refine lv_aload_n hx hb dX6_takePart_108 rfl (lv_at hl 5 rfl) ?_
      refine cs_get (C := RX6) (T := TX6) (N := 15) hF in_X6 hw hK 0 rfl rfl 13 (by decide) q_237 rfl dX6_takePart_109 ?_
      refine lv_iload_n hx hb dX6_takePart_112 rfl (lv_at hl 6 rfl) ?_
      refine lv_iconst (v := 1) hx hb dX6_takePart_113 (by decide) ?_
      refine lv_iadd hx hb dX6_takePart_114 ?_
      refine lv_iload hx hb dX6_takePart_115 (lv_at hl 1 rfl) ?_
      refine cs_vir hF (c_X4_firstReaching l D cy ad S_11 (a1 + 1) r_4) (cwV 2 hts g_X6_377 rfl rfl rfl kk_X4_firstReaching ⟨Nat.le_of_ble_eq_true rfl, Nat.le_of_ble_eq_true rfl⟩) (cs_recv hK hw (ci := 4) 4 rfl rfl) hw hK hS rfl hl.1 [] rfl (Nat.le_of_ble_eq_true rfl) dX6_takePart_117 (fun r_12 H locs hq hw hS => ?_)
      replace hRes := cs_letE hq hRes
      clear hq
      refine lv_istore (lv' := [(7, .int r_12), (6, .int r_5), (5, .int r_4), (4, .int r_3), (3, .int r_1), (2, .int 0), (0, .ref (ad 0)), (1, .int a1)]) hx hb dX6_takePart_120 hl (by decide) rfl (fun ls hl => ?_)
      refine lv_aload_n hx hb dX6_takePart_122 rfl (lv_at hl 6 rfl) ?_
      refine cs_get (C := RX6) (T := TX6) (N := 15) hF in_X6 hw hK 0 rfl rfl 13 (by decide) q_237 rfl dX6_takePart_123 ?_
      refine lv_iload_n hx hb dX6_takePart_126 rfl (lv_at hl 7 rfl) ?_
      refine lv_iconst (v := 1) hx hb dX6_takePart_127 (by decide) ?_
      refine lv_iadd hx hb dX6_takePart_128 ?_
      refine lv_iload hx hb dX6_takePart_129 (lv_at hl 1 rfl) ?_
      refine cs_vir hF (c_X4_firstBeyond l D cy ad S_11 (a1 + 1) r_5) (cwV 2 hts g_X6_368 rfl rfl rfl kk_X4_firstBeyond ⟨Nat.le_of_ble_eq_true rfl, Nat.le_of_ble_eq_true rfl⟩) (cs_recv hK hw (ci := 4) 4 rfl rfl) hw hK hS rfl hl.1 [] rfl (Nat.le_of_ble_eq_true rfl) dX6_takePart_131 (fun r_13 H locs hq hw hS => ?_)
      replace hRes := cs_letE hq hRes
      clear hq
      refine lv_istore (lv' := [(8, .int r_13), (7, .int r_12), (6, .int r_5), (5, .int r_4), (4, .int r_3), (3, .int r_1), (2, .int 0), (0, .ref (ad 0)), (1, .int a1)]) hx hb dX6_takePart_134 hl (by decide) rfl (fun ls hl => ?_)
      refine lv_aload_n hx hb dX6_takePart_136 rfl (lv_at hl 7 rfl) ?_
      refine lv_iload_n hx hb dX6_takePart_137 rfl (lv_at hl 8 rfl) ?_
      refine lv_iload_n hx hb dX6_takePart_138 rfl (lv_at hl 6 rfl) ?_
      refine lv_iload_n hx hb dX6_takePart_139 rfl (lv_at hl 5 rfl) ?_
      refine cs_vv hF (c_X6_takeRuns l D cy ad S_11 a1 0 r_1) (cwV 3 hts g_X6_365 rfl rfl rfl kk_X6_takeRuns ⟨Nat.le_of_ble_eq_true rfl, Nat.le_of_ble_eq_true rfl⟩) (cs_recv hK hw (ci := 6) 0 rfl rfl) hw hK hS rfl hl.1 [] rfl (Nat.le_of_ble_eq_true rfl) dX6_takePart_140 (fun S_14 H locs hq hw hS => ?_)
      replace hRes := cs_letE hq hRes
      clear hq
      refine lv_aload_n hx hb dX6_takePart_143 rfl (lv_at hl 7 rfl) ?_
      refine lv_iload_n hx hb dX6_takePart_144 rfl (lv_at hl 8 rfl) ?_
      refine lv_iconst (v := 1) hx hb dX6_takePart_145 (by decide) ?_
      refine lv_iadd hx hb dX6_takePart_146 ?_
      refine lv_iload hx hb dX6_takePart_147 (lv_at hl 1 rfl) ?_
      refine lv_iload hx hb dX6_takePart_149 (lv_at hl 0 rfl) ?_
      refine cs_vv hF (c_X6_takeRuns l D cy ad S_14 (a1 + 1) r_12 r_13) (cwV 3 hts g_X6_365 rfl rfl rfl kk_X6_takeRuns ⟨Nat.le_of_ble_eq_true rfl, Nat.le_of_ble_eq_true rfl⟩) (cs_recv hK hw (ci := 6) 0 rfl rfl) hw hK hS rfl hl.1 [] rfl (Nat.le_of_ble_eq_true rfl) dX6_takePart_151 (fun S_15 H locs hq hw hS => ?_)
      replace hRes := cs_letE hq hRes
      clear hq
      refine lv_iload hx hb dX6_takePart_154 (lv_at hl 1 rfl) ?_
      exact cs_iret hF hr hlk hw hK hS dX6_takePart_156 ⟨cs_eq1 hRes, cs_eq2 hRes⟩
  · replace hRes := cs_F c_2 hRes
    refine lv_aload_n hx hb dX6_takePart_15 rfl (lv_at hl 2 rfl) ?_
    refine cs_get (C := RX6) (T := TX6) (N := 15) hF in_X6 hw hK 0 rfl rfl 13 (by decide) q_237 rfl dX6_takePart_16 ?_
    refine lv_iload_n hx hb dX6_takePart_19 rfl (lv_at hl 3 rfl) ?_
    refine lv_aload_n hx hb dX6_takePart_20 rfl (lv_at hl 2 rfl) ?_
    refine cs_get (C := RX6) (T := TX6) (N := 15) hF in_X6 hw hK 0 rfl rfl 9 (by decide) q_224 rfl dX6_takePart_21 ?_
    refine lv_iload_n hx hb dX6_takePart_24 rfl (lv_at hl 3 rfl) ?_
    refine cs_vir hF (c_X3_at l D cy ad S 2 a1 (by decide)) (cwV 1 hts g_X6_211 rfl rfl rfl kk_X3_at ⟨Nat.le_of_ble_eq_true rfl, Nat.le_of_ble_eq_true rfl⟩) (cs_recvR hK hw (by decide)) hw hK hS rfl hl.1 [.int a1, .ref (ad 4)] rfl (Nat.le_of_ble_eq_true rfl) dX6_takePart_25 (fun r_16 H locs hq hw hS => ?_)
    replace hRes := cs_letE hq hRes
    clear hq
    refine cs_vir hF (c_X4_firstBeyond l D cy ad S a1 r_16) (cwV 2 hts g_X6_368 rfl rfl rfl kk_X4_firstBeyond ⟨Nat.le_of_ble_eq_true rfl, Nat.le_of_ble_eq_true rfl⟩) (cs_recv hK hw (ci := 4) 4 rfl rfl) hw hK hS rfl hl.1 [] rfl (Nat.le_of_ble_eq_true rfl) dX6_takePart_28 (fun r_17 H locs hq hw hS => ?_)
    replace hRes := cs_letE hq hRes
    clear hq
    refine lv_istore (lv' := [(4, .int r_17), (3, .int r_1), (2, .int 0), (0, .ref (ad 0)), (1, .int a1)]) hx hb dX6_takePart_31 hl (by decide) rfl (fun ls hl => ?_)
    refine lv_iload hx hb dX6_takePart_33 (lv_at hl 0 rfl) ?_
    refine lv_iload_n hx hb dX6_takePart_35 rfl (lv_at hl 1 rfl) ?_
    refine lv_icmp_ge (tgt := 44) hx hb dX6_takePart_36 (by decide) (fun c_18 => ?_) (fun c_18 => ?_)
    · replace hRes := cs_T c_18 hRes
      refine lv_iconst (v := 0) hx hb dX6_takePart_44 (by decide) ?_
      refine lv_istore_n (lv' := [(2, .int 0), (4, .int r_17), (3, .int r_1), (0, .ref (ad 0)), (1, .int a1)]) hx hb dX6_takePart_45 rfl hl (by decide) rfl (fun ls hl => ?_)
      refine lv_iload_n hx hb dX6_takePart_46 rfl (lv_at hl 0 rfl) ?_
      refine lv_iconst (v := 1) hx hb dX6_takePart_47 (by decide) ?_
      refine lv_iadd hx hb dX6_takePart_48 ?_
      refine lv_istore_n (lv' := [(3, .int (0 + 1)), (2, .int 0), (4, .int r_17), (0, .ref (ad 0)), (1, .int a1)]) hx hb dX6_takePart_49 rfl hl (by decide) rfl (fun ls hl => ?_)
      refine lv_aload_n hx hb dX6_takePart_50 rfl (lv_at hl 3 rfl) ?_
      refine cs_get (C := RX6) (T := TX6) (N := 15) hF in_X6 hw hK 0 rfl rfl 13 (by decide) q_237 rfl dX6_takePart_51 ?_
      refine lv_iload_n hx hb dX6_takePart_54 rfl (lv_at hl 4 rfl) ?_
      refine cs_vir hF (c_X4_first l D cy ad S a1) (cwV 1 hts g_X6_153 rfl rfl rfl kk_X4_first ⟨Nat.le_of_ble_eq_true rfl, Nat.le_of_ble_eq_true rfl⟩) (cs_recv hK hw (ci := 4) 4 rfl rfl) hw hK hS rfl hl.1 [] rfl (Nat.le_of_ble_eq_true rfl) dX6_takePart_55 (fun r_19 H locs hq hw hS => ?_)
      replace hRes := cs_letE hq hRes
      clear hq
      refine lv_istore (lv' := [(4, .int r_19), (3, .int (0 + 1)), (2, .int 0), (0, .ref (ad 0)), (1, .int a1)]) hx hb dX6_takePart_58 hl (by decide) rfl (fun ls hl => ?_)
      refine lv_aload_n hx hb dX6_takePart_60 rfl (lv_at hl 3 rfl) ?_
      refine cs_get (C := RX6) (T := TX6) (N := 15) hF in_X6 hw hK 0 rfl rfl 13 (by decide) q_237 rfl dX6_takePart_61 ?_
      refine lv_iload hx hb dX6_takePart_64 (lv_at hl 0 rfl) ?_
      refine lv_iload_n hx hb dX6_takePart_66 rfl (lv_at hl 2 rfl) ?_
      refine lv_iadd hx hb dX6_takePart_67 ?_
      refine lv_iload hx hb dX6_takePart_68 (lv_at hl 0 rfl) ?_
      refine lv_iload_n hx hb dX6_takePart_70 rfl (lv_at hl 1 rfl) ?_
      refine lv_iadd hx hb dX6_takePart_71 ?_
      refine cs_vir hF (c_X4_leastOf l D cy ad S (r_19 + 0) (r_19 + (0 + 1))) (cwV 2 hts g_X6_371 rfl rfl rfl kk_X4_leastOf ⟨Nat.le_of_ble_eq_true rfl, Nat.le_of_ble_eq_true rfl⟩) (cs_recv hK hw (ci := 4) 4 rfl rfl) hw hK hS rfl hl.1 [] rfl (Nat.le_of_ble_eq_true rfl) dX6_takePart_72 (fun r_20 H locs hq hw hS => ?_)
      replace hRes := cs_letE hq hRes
      clear hq
      refine lv_istore (lv' := [(5, .int r_20), (4, .int r_19), (3, .int (0 + 1)), (2, .int 0), (0, .ref (ad 0)), (1, .int a1)]) hx hb dX6_takePart_75 hl (by decide) rfl (fun ls hl => ?_)
      refine lv_aload_n hx hb dX6_takePart_77 rfl (lv_at hl 4 rfl) ?_
      refine cs_get (C := RX6) (T := TX6) (N := 15) hF in_X6 hw hK 0 rfl rfl 13 (by decide) q_237 rfl dX6_takePart_78 ?_
      refine lv_iload hx hb dX6_takePart_81 (lv_at hl 1 rfl) ?_
      refine lv_iload_n hx hb dX6_takePart_83 rfl (lv_at hl 3 rfl) ?_
      refine lv_iadd hx hb dX6_takePart_84 ?_
      refine lv_iload hx hb dX6_takePart_85 (lv_at hl 1 rfl) ?_
      refine lv_iload_n hx hb dX6_takePart_87 rfl (lv_at hl 2 rfl) ?_
      refine lv_iadd hx hb dX6_takePart_88 ?_
      refine cs_vir hF (c_X4_greatestOf l D cy ad S (r_19 + 0) (r_19 + (0 + 1))) (cwV 2 hts g_X6_374 rfl rfl rfl kk_X4_greatestOf ⟨Nat.le_of_ble_eq_true rfl, Nat.le_of_ble_eq_true rfl⟩) (cs_recv hK hw (ci := 4) 4 rfl rfl) hw hK hS rfl hl.1 [] rfl (Nat.le_of_ble_eq_true rfl) dX6_takePart_89 (fun r_21 H locs hq hw hS => ?_)
      replace hRes := cs_letE hq hRes
      clear hq
      refine lv_istore (lv' := [(6, .int r_21), (5, .int r_20), (4, .int r_19), (3, .int (0 + 1)), (2, .int 0), (0, .ref (ad 0)), (1, .int a1)]) hx hb dX6_takePart_92 hl (by decide) rfl (fun ls hl => ?_)
      refine lv_iload_n hx hb dX6_takePart_94 rfl (lv_at hl 6 rfl) ?_
      refine lv_if_le (tgt := 108) hx hb dX6_takePart_95 (by decide) (fun c_22 => ?_) (fun c_22 => ?_)
      · replace hRes := cs_T c_22 hRes
        refine lv_aload_n hx hb dX6_takePart_108 rfl (lv_at hl 5 rfl) ?_
        refine cs_get (C := RX6) (T := TX6) (N := 15) hF in_X6 hw hK 0 rfl rfl 13 (by decide) q_237 rfl dX6_takePart_109 ?_
        refine lv_iload_n hx hb dX6_takePart_112 rfl (lv_at hl 6 rfl) ?_
        refine lv_iconst (v := 1) hx hb dX6_takePart_113 (by decide) ?_
        refine lv_iadd hx hb dX6_takePart_114 ?_
        refine lv_iload hx hb dX6_takePart_115 (lv_at hl 1 rfl) ?_
        refine cs_vir hF (c_X4_firstReaching l D cy ad S (a1 + 1) r_20) (cwV 2 hts g_X6_377 rfl rfl rfl kk_X4_firstReaching ⟨Nat.le_of_ble_eq_true rfl, Nat.le_of_ble_eq_true rfl⟩) (cs_recv hK hw (ci := 4) 4 rfl rfl) hw hK hS rfl hl.1 [] rfl (Nat.le_of_ble_eq_true rfl) dX6_takePart_117 (fun r_23 H locs hq hw hS => ?_)
        replace hRes := cs_letE hq hRes
        clear hq
        refine lv_istore (lv' := [(7, .int r_23), (6, .int r_21), (5, .int r_20), (4, .int r_19), (3, .int (0 + 1)), (2, .int 0), (0, .ref (ad 0)), (1, .int a1)]) hx hb dX6_takePart_120 hl (by decide) rfl (fun ls hl => ?_)
        refine lv_aload_n hx hb dX6_takePart_122 rfl (lv_at hl 6 rfl) ?_
        refine cs_get (C := RX6) (T := TX6) (N := 15) hF in_X6 hw hK 0 rfl rfl 13 (by decide) q_237 rfl dX6_takePart_123 ?_
        refine lv_iload_n hx hb dX6_takePart_126 rfl (lv_at hl 7 rfl) ?_
        refine lv_iconst (v := 1) hx hb dX6_takePart_127 (by decide) ?_
        refine lv_iadd hx hb dX6_takePart_128 ?_
        refine lv_iload hx hb dX6_takePart_129 (lv_at hl 1 rfl) ?_
        refine cs_vir hF (c_X4_firstBeyond l D cy ad S (a1 + 1) r_21) (cwV 2 hts g_X6_368 rfl rfl rfl kk_X4_firstBeyond ⟨Nat.le_of_ble_eq_true rfl, Nat.le_of_ble_eq_true rfl⟩) (cs_recv hK hw (ci := 4) 4 rfl rfl) hw hK hS rfl hl.1 [] rfl (Nat.le_of_ble_eq_true rfl) dX6_takePart_131 (fun r_24 H locs hq hw hS => ?_)
        replace hRes := cs_letE hq hRes
        clear hq
        refine lv_istore (lv' := [(8, .int r_24), (7, .int r_23), (6, .int r_21), (5, .int r_20), (4, .int r_19), (3, .int (0 + 1)), (2, .int 0), (0, .ref (ad 0)), (1, .int a1)]) hx hb dX6_takePart_134 hl (by decide) rfl (fun ls hl => ?_)
        refine lv_aload_n hx hb dX6_takePart_136 rfl (lv_at hl 7 rfl) ?_
        refine lv_iload_n hx hb dX6_takePart_137 rfl (lv_at hl 8 rfl) ?_
        refine lv_iload_n hx hb dX6_takePart_138 rfl (lv_at hl 6 rfl) ?_
        refine lv_iload_n hx hb dX6_takePart_139 rfl (lv_at hl 5 rfl) ?_
        refine cs_vv hF (c_X6_takeRuns l D cy ad S a1 0 (0 + 1)) (cwV 3 hts g_X6_365 rfl rfl rfl kk_X6_takeRuns ⟨Nat.le_of_ble_eq_true rfl, Nat.le_of_ble_eq_true rfl⟩) (cs_recv hK hw (ci := 6) 0 rfl rfl) hw hK hS rfl hl.1 [] rfl (Nat.le_of_ble_eq_true rfl) dX6_takePart_140 (fun S_25 H locs hq hw hS => ?_)
        replace hRes := cs_letE hq hRes
        clear hq
        refine lv_aload_n hx hb dX6_takePart_143 rfl (lv_at hl 7 rfl) ?_
        refine lv_iload_n hx hb dX6_takePart_144 rfl (lv_at hl 8 rfl) ?_
        refine lv_iconst (v := 1) hx hb dX6_takePart_145 (by decide) ?_
        refine lv_iadd hx hb dX6_takePart_146 ?_
        refine lv_iload hx hb dX6_takePart_147 (lv_at hl 1 rfl) ?_
        refine lv_iload hx hb dX6_takePart_149 (lv_at hl 0 rfl) ?_
        refine cs_vv hF (c_X6_takeRuns l D cy ad S_25 (a1 + 1) r_23 r_24) (cwV 3 hts g_X6_365 rfl rfl rfl kk_X6_takeRuns ⟨Nat.le_of_ble_eq_true rfl, Nat.le_of_ble_eq_true rfl⟩) (cs_recv hK hw (ci := 6) 0 rfl rfl) hw hK hS rfl hl.1 [] rfl (Nat.le_of_ble_eq_true rfl) dX6_takePart_151 (fun S_26 H locs hq hw hS => ?_)
        replace hRes := cs_letE hq hRes
        clear hq
        refine lv_iload hx hb dX6_takePart_154 (lv_at hl 1 rfl) ?_
        exact cs_iret hF hr hlk hw hK hS dX6_takePart_156 ⟨cs_eq1 hRes, cs_eq2 hRes⟩
      · replace hRes := cs_F c_22 hRes
        refine lv_aload_n hx hb dX6_takePart_98 rfl (lv_at hl 5 rfl) ?_
        refine cs_get (C := RX6) (T := TX6) (N := 15) hF in_X6 hw hK 0 rfl rfl 9 (by decide) q_224 rfl dX6_takePart_99 ?_
        refine lv_iload_n hx hb dX6_takePart_102 rfl (lv_at hl 6 rfl) ?_
        refine lv_iload hx hb dX6_takePart_103 (lv_at hl 0 rfl) ?_
        refine cs_vv hF (c_X3_write l D cy ad S 2 a1 r_21 (by decide) (fun h => absurd h (by decide))) (cwV 2 hts g_X6_85 rfl rfl rfl kk_X3_write ⟨Nat.le_of_ble_eq_true rfl, Nat.le_of_ble_eq_true rfl⟩) (cs_recvR hK hw (by decide)) hw hK hS rfl hl.1 [] rfl (Nat.le_of_ble_eq_true rfl) dX6_takePart_105 (fun S_27 H locs hq hw hS => ?_)
        replace hRes := cs_letE hq hRes
        clear hq
        refine lv_aload_n hx hb dX6_takePart_108 rfl (lv_at hl 5 rfl) ?_
        refine cs_get (C := RX6) (T := TX6) (N := 15) hF in_X6 hw hK 0 rfl rfl 13 (by decide) q_237 rfl dX6_takePart_109 ?_
        refine lv_iload_n hx hb dX6_takePart_112 rfl (lv_at hl 6 rfl) ?_
        refine lv_iconst (v := 1) hx hb dX6_takePart_113 (by decide) ?_
        refine lv_iadd hx hb dX6_takePart_114 ?_
        refine lv_iload hx hb dX6_takePart_115 (lv_at hl 1 rfl) ?_
        refine cs_vir hF (c_X4_firstReaching l D cy ad S_27 (a1 + 1) r_20) (cwV 2 hts g_X6_377 rfl rfl rfl kk_X4_firstReaching ⟨Nat.le_of_ble_eq_true rfl, Nat.le_of_ble_eq_true rfl⟩) (cs_recv hK hw (ci := 4) 4 rfl rfl) hw hK hS rfl hl.1 [] rfl (Nat.le_of_ble_eq_true rfl) dX6_takePart_117 (fun r_28 H locs hq hw hS => ?_)
        replace hRes := cs_letE hq hRes
        clear hq
        refine lv_istore (lv' := [(7, .int r_28), (6, .int r_21), (5, .int r_20), (4, .int r_19), (3, .int (0 + 1)), (2, .int 0), (0, .ref (ad 0)), (1, .int a1)]) hx hb dX6_takePart_120 hl (by decide) rfl (fun ls hl => ?_)
        refine lv_aload_n hx hb dX6_takePart_122 rfl (lv_at hl 6 rfl) ?_
        refine cs_get (C := RX6) (T := TX6) (N := 15) hF in_X6 hw hK 0 rfl rfl 13 (by decide) q_237 rfl dX6_takePart_123 ?_
        refine lv_iload_n hx hb dX6_takePart_126 rfl (lv_at hl 7 rfl) ?_
        refine lv_iconst (v := 1) hx hb dX6_takePart_127 (by decide) ?_
        refine lv_iadd hx hb dX6_takePart_128 ?_
        refine lv_iload hx hb dX6_takePart_129 (lv_at hl 1 rfl) ?_
        refine cs_vir hF (c_X4_firstBeyond l D cy ad S_27 (a1 + 1) r_21) (cwV 2 hts g_X6_368 rfl rfl rfl kk_X4_firstBeyond ⟨Nat.le_of_ble_eq_true rfl, Nat.le_of_ble_eq_true rfl⟩) (cs_recv hK hw (ci := 4) 4 rfl rfl) hw hK hS rfl hl.1 [] rfl (Nat.le_of_ble_eq_true rfl) dX6_takePart_131 (fun r_29 H locs hq hw hS => ?_)
        replace hRes := cs_letE hq hRes
        clear hq
        refine lv_istore (lv' := [(8, .int r_29), (7, .int r_28), (6, .int r_21), (5, .int r_20), (4, .int r_19), (3, .int (0 + 1)), (2, .int 0), (0, .ref (ad 0)), (1, .int a1)]) hx hb dX6_takePart_134 hl (by decide) rfl (fun ls hl => ?_)
        refine lv_aload_n hx hb dX6_takePart_136 rfl (lv_at hl 7 rfl) ?_
        refine lv_iload_n hx hb dX6_takePart_137 rfl (lv_at hl 8 rfl) ?_
        refine lv_iload_n hx hb dX6_takePart_138 rfl (lv_at hl 6 rfl) ?_
        refine lv_iload_n hx hb dX6_takePart_139 rfl (lv_at hl 5 rfl) ?_
        refine cs_vv hF (c_X6_takeRuns l D cy ad S_27 a1 0 (0 + 1)) (cwV 3 hts g_X6_365 rfl rfl rfl kk_X6_takeRuns ⟨Nat.le_of_ble_eq_true rfl, Nat.le_of_ble_eq_true rfl⟩) (cs_recv hK hw (ci := 6) 0 rfl rfl) hw hK hS rfl hl.1 [] rfl (Nat.le_of_ble_eq_true rfl) dX6_takePart_140 (fun S_30 H locs hq hw hS => ?_)
        replace hRes := cs_letE hq hRes
        clear hq
        refine lv_aload_n hx hb dX6_takePart_143 rfl (lv_at hl 7 rfl) ?_
        refine lv_iload_n hx hb dX6_takePart_144 rfl (lv_at hl 8 rfl) ?_
        refine lv_iconst (v := 1) hx hb dX6_takePart_145 (by decide) ?_
        refine lv_iadd hx hb dX6_takePart_146 ?_
        refine lv_iload hx hb dX6_takePart_147 (lv_at hl 1 rfl) ?_
        refine lv_iload hx hb dX6_takePart_149 (lv_at hl 0 rfl) ?_
        refine cs_vv hF (c_X6_takeRuns l D cy ad S_30 (a1 + 1) r_28 r_29) (cwV 3 hts g_X6_365 rfl rfl rfl kk_X6_takeRuns ⟨Nat.le_of_ble_eq_true rfl, Nat.le_of_ble_eq_true rfl⟩) (cs_recv hK hw (ci := 6) 0 rfl rfl) hw hK hS rfl hl.1 [] rfl (Nat.le_of_ble_eq_true rfl) dX6_takePart_151 (fun S_31 H locs hq hw hS => ?_)
        replace hRes := cs_letE hq hRes
        clear hq
        refine lv_iload hx hb dX6_takePart_154 (lv_at hl 1 rfl) ?_
        exact cs_iret hF hr hlk hw hK hS dX6_takePart_156 ⟨cs_eq1 hRes, cs_eq2 hRes⟩
    · replace hRes := cs_F c_18 hRes
      refine lv_iload hx hb dX6_takePart_39 (lv_at hl 0 rfl) ?_
      refine lv_goto (tgt := 45) hx hb dX6_takePart_41 (by decide) ?_
      refine lv_istore_n (lv' := [(2, .int r_17), (4, .int r_17), (3, .int r_1), (0, .ref (ad 0)), (1, .int a1)]) hx hb dX6_takePart_45 rfl hl (by decide) rfl (fun ls hl => ?_)
      refine lv_iload_n hx hb dX6_takePart_46 rfl (lv_at hl 0 rfl) ?_
      refine lv_iconst (v := 1) hx hb dX6_takePart_47 (by decide) ?_
      refine lv_iadd hx hb dX6_takePart_48 ?_
      refine lv_istore_n (lv' := [(3, .int (r_17 + 1)), (2, .int r_17), (4, .int r_17), (0, .ref (ad 0)), (1, .int a1)]) hx hb dX6_takePart_49 rfl hl (by decide) rfl (fun ls hl => ?_)
      refine lv_aload_n hx hb dX6_takePart_50 rfl (lv_at hl 3 rfl) ?_
      refine cs_get (C := RX6) (T := TX6) (N := 15) hF in_X6 hw hK 0 rfl rfl 13 (by decide) q_237 rfl dX6_takePart_51 ?_
      refine lv_iload_n hx hb dX6_takePart_54 rfl (lv_at hl 4 rfl) ?_
      refine cs_vir hF (c_X4_first l D cy ad S a1) (cwV 1 hts g_X6_153 rfl rfl rfl kk_X4_first ⟨Nat.le_of_ble_eq_true rfl, Nat.le_of_ble_eq_true rfl⟩) (cs_recv hK hw (ci := 4) 4 rfl rfl) hw hK hS rfl hl.1 [] rfl (Nat.le_of_ble_eq_true rfl) dX6_takePart_55 (fun r_32 H locs hq hw hS => ?_)
      replace hRes := cs_letE hq hRes
      clear hq
      refine lv_istore (lv' := [(4, .int r_32), (3, .int (r_17 + 1)), (2, .int r_17), (0, .ref (ad 0)), (1, .int a1)]) hx hb dX6_takePart_58 hl (by decide) rfl (fun ls hl => ?_)
      refine lv_aload_n hx hb dX6_takePart_60 rfl (lv_at hl 3 rfl) ?_
      refine cs_get (C := RX6) (T := TX6) (N := 15) hF in_X6 hw hK 0 rfl rfl 13 (by decide) q_237 rfl dX6_takePart_61 ?_
      refine lv_iload hx hb dX6_takePart_64 (lv_at hl 0 rfl) ?_
      refine lv_iload_n hx hb dX6_takePart_66 rfl (lv_at hl 2 rfl) ?_
      refine lv_iadd hx hb dX6_takePart_67 ?_
      refine lv_iload hx hb dX6_takePart_68 (lv_at hl 0 rfl) ?_
      refine lv_iload_n hx hb dX6_takePart_70 rfl (lv_at hl 1 rfl) ?_
      refine lv_iadd hx hb dX6_takePart_71 ?_
      refine cs_vir hF (c_X4_leastOf l D cy ad S (r_32 + r_17) (r_32 + (r_17 + 1))) (cwV 2 hts g_X6_371 rfl rfl rfl kk_X4_leastOf ⟨Nat.le_of_ble_eq_true rfl, Nat.le_of_ble_eq_true rfl⟩) (cs_recv hK hw (ci := 4) 4 rfl rfl) hw hK hS rfl hl.1 [] rfl (Nat.le_of_ble_eq_true rfl) dX6_takePart_72 (fun r_33 H locs hq hw hS => ?_)
      replace hRes := cs_letE hq hRes
      clear hq
      refine lv_istore (lv' := [(5, .int r_33), (4, .int r_32), (3, .int (r_17 + 1)), (2, .int r_17), (0, .ref (ad 0)), (1, .int a1)]) hx hb dX6_takePart_75 hl (by decide) rfl (fun ls hl => ?_)
      refine lv_aload_n hx hb dX6_takePart_77 rfl (lv_at hl 4 rfl) ?_
      refine cs_get (C := RX6) (T := TX6) (N := 15) hF in_X6 hw hK 0 rfl rfl 13 (by decide) q_237 rfl dX6_takePart_78 ?_
      refine lv_iload hx hb dX6_takePart_81 (lv_at hl 1 rfl) ?_
      refine lv_iload_n hx hb dX6_takePart_83 rfl (lv_at hl 3 rfl) ?_
      refine lv_iadd hx hb dX6_takePart_84 ?_
      refine lv_iload hx hb dX6_takePart_85 (lv_at hl 1 rfl) ?_
      refine lv_iload_n hx hb dX6_takePart_87 rfl (lv_at hl 2 rfl) ?_
      refine lv_iadd hx hb dX6_takePart_88 ?_
      refine cs_vir hF (c_X4_greatestOf l D cy ad S (r_32 + r_17) (r_32 + (r_17 + 1))) (cwV 2 hts g_X6_374 rfl rfl rfl kk_X4_greatestOf ⟨Nat.le_of_ble_eq_true rfl, Nat.le_of_ble_eq_true rfl⟩) (cs_recv hK hw (ci := 4) 4 rfl rfl) hw hK hS rfl hl.1 [] rfl (Nat.le_of_ble_eq_true rfl) dX6_takePart_89 (fun r_34 H locs hq hw hS => ?_)
      replace hRes := cs_letE hq hRes
      clear hq
      refine lv_istore (lv' := [(6, .int r_34), (5, .int r_33), (4, .int r_32), (3, .int (r_17 + 1)), (2, .int r_17), (0, .ref (ad 0)), (1, .int a1)]) hx hb dX6_takePart_92 hl (by decide) rfl (fun ls hl => ?_)
      refine lv_iload_n hx hb dX6_takePart_94 rfl (lv_at hl 6 rfl) ?_
      refine lv_if_le (tgt := 108) hx hb dX6_takePart_95 (by decide) (fun c_35 => ?_) (fun c_35 => ?_)
      · replace hRes := cs_T c_35 hRes
        refine lv_aload_n hx hb dX6_takePart_108 rfl (lv_at hl 5 rfl) ?_
        refine cs_get (C := RX6) (T := TX6) (N := 15) hF in_X6 hw hK 0 rfl rfl 13 (by decide) q_237 rfl dX6_takePart_109 ?_
        refine lv_iload_n hx hb dX6_takePart_112 rfl (lv_at hl 6 rfl) ?_
        refine lv_iconst (v := 1) hx hb dX6_takePart_113 (by decide) ?_
        refine lv_iadd hx hb dX6_takePart_114 ?_
        refine lv_iload hx hb dX6_takePart_115 (lv_at hl 1 rfl) ?_
        refine cs_vir hF (c_X4_firstReaching l D cy ad S (a1 + 1) r_33) (cwV 2 hts g_X6_377 rfl rfl rfl kk_X4_firstReaching ⟨Nat.le_of_ble_eq_true rfl, Nat.le_of_ble_eq_true rfl⟩) (cs_recv hK hw (ci := 4) 4 rfl rfl) hw hK hS rfl hl.1 [] rfl (Nat.le_of_ble_eq_true rfl) dX6_takePart_117 (fun r_36 H locs hq hw hS => ?_)
        replace hRes := cs_letE hq hRes
        clear hq
        refine lv_istore (lv' := [(7, .int r_36), (6, .int r_34), (5, .int r_33), (4, .int r_32), (3, .int (r_17 + 1)), (2, .int r_17), (0, .ref (ad 0)), (1, .int a1)]) hx hb dX6_takePart_120 hl (by decide) rfl (fun ls hl => ?_)
        refine lv_aload_n hx hb dX6_takePart_122 rfl (lv_at hl 6 rfl) ?_
        refine cs_get (C := RX6) (T := TX6) (N := 15) hF in_X6 hw hK 0 rfl rfl 13 (by decide) q_237 rfl dX6_takePart_123 ?_
        refine lv_iload_n hx hb dX6_takePart_126 rfl (lv_at hl 7 rfl) ?_
        refine lv_iconst (v := 1) hx hb dX6_takePart_127 (by decide) ?_
        refine lv_iadd hx hb dX6_takePart_128 ?_
        refine lv_iload hx hb dX6_takePart_129 (lv_at hl 1 rfl) ?_
        refine cs_vir hF (c_X4_firstBeyond l D cy ad S (a1 + 1) r_34) (cwV 2 hts g_X6_368 rfl rfl rfl kk_X4_firstBeyond ⟨Nat.le_of_ble_eq_true rfl, Nat.le_of_ble_eq_true rfl⟩) (cs_recv hK hw (ci := 4) 4 rfl rfl) hw hK hS rfl hl.1 [] rfl (Nat.le_of_ble_eq_true rfl) dX6_takePart_131 (fun r_37 H locs hq hw hS => ?_)
        replace hRes := cs_letE hq hRes
        clear hq
        refine lv_istore (lv' := [(8, .int r_37), (7, .int r_36), (6, .int r_34), (5, .int r_33), (4, .int r_32), (3, .int (r_17 + 1)), (2, .int r_17), (0, .ref (ad 0)), (1, .int a1)]) hx hb dX6_takePart_134 hl (by decide) rfl (fun ls hl => ?_)
        refine lv_aload_n hx hb dX6_takePart_136 rfl (lv_at hl 7 rfl) ?_
        refine lv_iload_n hx hb dX6_takePart_137 rfl (lv_at hl 8 rfl) ?_
        refine lv_iload_n hx hb dX6_takePart_138 rfl (lv_at hl 6 rfl) ?_
        refine lv_iload_n hx hb dX6_takePart_139 rfl (lv_at hl 5 rfl) ?_
        refine cs_vv hF (c_X6_takeRuns l D cy ad S a1 r_17 (r_17 + 1)) (cwV 3 hts g_X6_365 rfl rfl rfl kk_X6_takeRuns ⟨Nat.le_of_ble_eq_true rfl, Nat.le_of_ble_eq_true rfl⟩) (cs_recv hK hw (ci := 6) 0 rfl rfl) hw hK hS rfl hl.1 [] rfl (Nat.le_of_ble_eq_true rfl) dX6_takePart_140 (fun S_38 H locs hq hw hS => ?_)
        replace hRes := cs_letE hq hRes
        clear hq
        refine lv_aload_n hx hb dX6_takePart_143 rfl (lv_at hl 7 rfl) ?_
        refine lv_iload_n hx hb dX6_takePart_144 rfl (lv_at hl 8 rfl) ?_
        refine lv_iconst (v := 1) hx hb dX6_takePart_145 (by decide) ?_
        refine lv_iadd hx hb dX6_takePart_146 ?_
        refine lv_iload hx hb dX6_takePart_147 (lv_at hl 1 rfl) ?_
        refine lv_iload hx hb dX6_takePart_149 (lv_at hl 0 rfl) ?_
        refine cs_vv hF (c_X6_takeRuns l D cy ad S_38 (a1 + 1) r_36 r_37) (cwV 3 hts g_X6_365 rfl rfl rfl kk_X6_takeRuns ⟨Nat.le_of_ble_eq_true rfl, Nat.le_of_ble_eq_true rfl⟩) (cs_recv hK hw (ci := 6) 0 rfl rfl) hw hK hS rfl hl.1 [] rfl (Nat.le_of_ble_eq_true rfl) dX6_takePart_151 (fun S_39 H locs hq hw hS => ?_)
        replace hRes := cs_letE hq hRes
        clear hq
        refine lv_iload hx hb dX6_takePart_154 (lv_at hl 1 rfl) ?_
        exact cs_iret hF hr hlk hw hK hS dX6_takePart_156 ⟨cs_eq1 hRes, cs_eq2 hRes⟩
      · replace hRes := cs_F c_35 hRes
        refine lv_aload_n hx hb dX6_takePart_98 rfl (lv_at hl 5 rfl) ?_
        refine cs_get (C := RX6) (T := TX6) (N := 15) hF in_X6 hw hK 0 rfl rfl 9 (by decide) q_224 rfl dX6_takePart_99 ?_
        refine lv_iload_n hx hb dX6_takePart_102 rfl (lv_at hl 6 rfl) ?_
        refine lv_iload hx hb dX6_takePart_103 (lv_at hl 0 rfl) ?_
        refine cs_vv hF (c_X3_write l D cy ad S 2 a1 r_34 (by decide) (fun h => absurd h (by decide))) (cwV 2 hts g_X6_85 rfl rfl rfl kk_X3_write ⟨Nat.le_of_ble_eq_true rfl, Nat.le_of_ble_eq_true rfl⟩) (cs_recvR hK hw (by decide)) hw hK hS rfl hl.1 [] rfl (Nat.le_of_ble_eq_true rfl) dX6_takePart_105 (fun S_40 H locs hq hw hS => ?_)
        replace hRes := cs_letE hq hRes
        clear hq
        refine lv_aload_n hx hb dX6_takePart_108 rfl (lv_at hl 5 rfl) ?_
        refine cs_get (C := RX6) (T := TX6) (N := 15) hF in_X6 hw hK 0 rfl rfl 13 (by decide) q_237 rfl dX6_takePart_109 ?_
        refine lv_iload_n hx hb dX6_takePart_112 rfl (lv_at hl 6 rfl) ?_
        refine lv_iconst (v := 1) hx hb dX6_takePart_113 (by decide) ?_
        refine lv_iadd hx hb dX6_takePart_114 ?_
        refine lv_iload hx hb dX6_takePart_115 (lv_at hl 1 rfl) ?_
        refine cs_vir hF (c_X4_firstReaching l D cy ad S_40 (a1 + 1) r_33) (cwV 2 hts g_X6_377 rfl rfl rfl kk_X4_firstReaching ⟨Nat.le_of_ble_eq_true rfl, Nat.le_of_ble_eq_true rfl⟩) (cs_recv hK hw (ci := 4) 4 rfl rfl) hw hK hS rfl hl.1 [] rfl (Nat.le_of_ble_eq_true rfl) dX6_takePart_117 (fun r_41 H locs hq hw hS => ?_)
        replace hRes := cs_letE hq hRes
        clear hq
        refine lv_istore (lv' := [(7, .int r_41), (6, .int r_34), (5, .int r_33), (4, .int r_32), (3, .int (r_17 + 1)), (2, .int r_17), (0, .ref (ad 0)), (1, .int a1)]) hx hb dX6_takePart_120 hl (by decide) rfl (fun ls hl => ?_)
        refine lv_aload_n hx hb dX6_takePart_122 rfl (lv_at hl 6 rfl) ?_
        refine cs_get (C := RX6) (T := TX6) (N := 15) hF in_X6 hw hK 0 rfl rfl 13 (by decide) q_237 rfl dX6_takePart_123 ?_
        refine lv_iload_n hx hb dX6_takePart_126 rfl (lv_at hl 7 rfl) ?_
        refine lv_iconst (v := 1) hx hb dX6_takePart_127 (by decide) ?_
        refine lv_iadd hx hb dX6_takePart_128 ?_
        refine lv_iload hx hb dX6_takePart_129 (lv_at hl 1 rfl) ?_
        refine cs_vir hF (c_X4_firstBeyond l D cy ad S_40 (a1 + 1) r_34) (cwV 2 hts g_X6_368 rfl rfl rfl kk_X4_firstBeyond ⟨Nat.le_of_ble_eq_true rfl, Nat.le_of_ble_eq_true rfl⟩) (cs_recv hK hw (ci := 4) 4 rfl rfl) hw hK hS rfl hl.1 [] rfl (Nat.le_of_ble_eq_true rfl) dX6_takePart_131 (fun r_42 H locs hq hw hS => ?_)
        replace hRes := cs_letE hq hRes
        clear hq
        refine lv_istore (lv' := [(8, .int r_42), (7, .int r_41), (6, .int r_34), (5, .int r_33), (4, .int r_32), (3, .int (r_17 + 1)), (2, .int r_17), (0, .ref (ad 0)), (1, .int a1)]) hx hb dX6_takePart_134 hl (by decide) rfl (fun ls hl => ?_)
        refine lv_aload_n hx hb dX6_takePart_136 rfl (lv_at hl 7 rfl) ?_
        refine lv_iload_n hx hb dX6_takePart_137 rfl (lv_at hl 8 rfl) ?_
        refine lv_iload_n hx hb dX6_takePart_138 rfl (lv_at hl 6 rfl) ?_
        refine lv_iload_n hx hb dX6_takePart_139 rfl (lv_at hl 5 rfl) ?_
        refine cs_vv hF (c_X6_takeRuns l D cy ad S_40 a1 r_17 (r_17 + 1)) (cwV 3 hts g_X6_365 rfl rfl rfl kk_X6_takeRuns ⟨Nat.le_of_ble_eq_true rfl, Nat.le_of_ble_eq_true rfl⟩) (cs_recv hK hw (ci := 6) 0 rfl rfl) hw hK hS rfl hl.1 [] rfl (Nat.le_of_ble_eq_true rfl) dX6_takePart_140 (fun S_43 H locs hq hw hS => ?_)
        replace hRes := cs_letE hq hRes
        clear hq
        refine lv_aload_n hx hb dX6_takePart_143 rfl (lv_at hl 7 rfl) ?_
        refine lv_iload_n hx hb dX6_takePart_144 rfl (lv_at hl 8 rfl) ?_
        refine lv_iconst (v := 1) hx hb dX6_takePart_145 (by decide) ?_
        refine lv_iadd hx hb dX6_takePart_146 ?_
        refine lv_iload hx hb dX6_takePart_147 (lv_at hl 1 rfl) ?_
        refine lv_iload hx hb dX6_takePart_149 (lv_at hl 0 rfl) ?_
        refine cs_vv hF (c_X6_takeRuns l D cy ad S_43 (a1 + 1) r_41 r_42) (cwV 3 hts g_X6_365 rfl rfl rfl kk_X6_takeRuns ⟨Nat.le_of_ble_eq_true rfl, Nat.le_of_ble_eq_true rfl⟩) (cs_recv hK hw (ci := 6) 0 rfl rfl) hw hK hS rfl hl.1 [] rfl (Nat.le_of_ble_eq_true rfl) dX6_takePart_151 (fun S_44 H locs hq hw hS => ?_)
        replace hRes := cs_letE hq hRes
        clear hq
        refine lv_iload hx hb dX6_takePart_154 (lv_at hl 1 rfl) ?_
        exact cs_iret hF hr hlk hw hK hS dX6_takePart_156 ⟨cs_eq1 hRes, cs_eq2 hRes⟩
theorem kk_X6_takePart : yX6_takePart.cls = RX6 ∧ yX6_takePart.cls ≠ "java/lang/invoke/MethodHandle" ∧ yX6_takePart.cls ≠ "java/lang/invoke/VarHandle" ∧ (parseMethodDescriptor yX6_takePart.desc).map (fun d => d.parameters.length) = some 1 := by decide +kernel
theorem g_X6_380 : GoodIn cs_WS (wsV RX6 380 RX2 yX2_pieceEnd (cs_ws yX2_pieceEnd cX2_pieceEnd 6 (some .int))) := cs_goodV q_339 q_340 q_341 q_240 q_111
def m_X6_layPile_L14 (u1 : Int32) (u2 : Int32) : Nat → Int32 → Int32 → cs_St → Int32 × Int32 × cs_St
  | 0, _, _, S => (0, 0, S)
  | n + 1, v4, v5, S => (if 512 ≤ v5 then (v4, v5, S) else cs_let (m_X3_length S 18) (fun r_2 => (if r_2 ≤ v4 then (v4, v5, S) else (if (S.2 1) = 0 then cs_let (m_X3_length S 18) (fun r_7 => cs_let (m_X4_insert S u1 (u2 + v5) 18 v4 r_7 (S.2 4) (S.2 5)) (fun S_8 => m_X6_layPile_L14 u1 u2 n r_7 (v5 + 1) S_8)) else cs_let (m_X2_pieceEnd S v4 (S.2 3)) (fun r_5 => cs_let (m_X4_insert S u1 (u2 + v5) 18 v4 r_5 (S.2 4) (S.2 5)) (fun S_6 => m_X6_layPile_L14 u1 u2 n r_5 (v5 + 1) S_6))))))
theorem m_X6_layPile_L14_s {u1 : Int32} {u2 : Int32} {n : Nat} {v4 : Int32} {v5 : Int32} {S : cs_St} : m_X6_layPile_L14 u1 u2 (n + 1) v4 v5 S = (if 512 ≤ v5 then (v4, v5, S) else cs_let (m_X3_length S 18) (fun r_2 => (if r_2 ≤ v4 then (v4, v5, S) else (if (S.2 1) = 0 then cs_let (m_X3_length S 18) (fun r_7 => cs_let (m_X4_insert S u1 (u2 + v5) 18 v4 r_7 (S.2 4) (S.2 5)) (fun S_8 => m_X6_layPile_L14 u1 u2 n r_7 (v5 + 1) S_8)) else cs_let (m_X2_pieceEnd S v4 (S.2 3)) (fun r_5 => cs_let (m_X4_insert S u1 (u2 + v5) 18 v4 r_5 (S.2 4) (S.2 5)) (fun S_6 => m_X6_layPile_L14 u1 u2 n r_5 (v5 + 1) S_6)))))) := rfl
def m_X6_layPile (S : cs_St) (a1 : Int32) (a2 : Int32) : cs_St := cs_let (m_X6_layPile_L14 a1 a2 cs_N 0 0 S) (fun T_9 => cs_let (m_X3_length T_9.2.2 18) (fun r_10 => cs_let (m_X3_raise T_9.2.2 0 5 r_10) (fun S_11 => S_11)))
set_option maxHeartbeats 4000000 in
set_option maxRecDepth 100000 in
theorem c_X6_layPile (l : Launch) (D : va_G) (cy : ClassId) (ad : Nat → Nat) (S : cs_St) (a1 : Int32) (a2 : Int32) : Met l yX6_layPile (cs_ws yX6_layPile cX6_layPile 7 none) (cs_rm 4 137) (cs_Pc D cy ad [.ref (ad 0), .int a1, .int a2] S) (cs_Qv D cy ad (fun S1 => S1 = m_X6_layPile S a1 a2)) 0 0 (cs_A ad) := by
  refine cs_of RX6 (by decide) rfl (Nat.le_of_ble_eq_true rfl) ?_
  intro p e s m below meth c hF hr hlk hw hK ls hl
  obtain ⟨hx, hb, hml, hown, hts⟩ := id hF
  have hS : va_S (cs_A ad) s.heap s.heap [] := va_S.rf
  have hl : lv_has ls 7 [(0, .ref (ad 0)), (1, .int a1), (2, .int a2)] := hl
  generalize hRes : m_X6_layPile S a1 a2 = Res
  unfold m_X6_layPile at hRes
  refine lv_aload_n hx hb dX6_layPile_0 rfl (lv_at hl 0 rfl) ?_
  refine cs_get (C := RX6) (T := TX6) (N := 15) hF in_X6 hw hK 0 rfl rfl 14 (by decide) q_241 rfl dX6_layPile_1 ?_
  refine cs_getN (C := RX2) (T := TX2) (N := 4) hF in_X2 hw hK 5 rfl rfl 3 (by decide) (List.mem_of_getElem? (i := 5) rfl) rfl dX6_layPile_4 ?_
  refine lv_astore_n (lv' := [(3, .ref (ad 42)), (0, .ref (ad 0)), (1, .int a1), (2, .int a2)]) hx hb dX6_layPile_7 rfl hl (by decide) rfl (fun ls hl => ?_)
  refine lv_iconst (v := 0) hx hb dX6_layPile_8 (by decide) ?_
  refine lv_istore (lv' := [(4, .int 0), (3, .ref (ad 42)), (0, .ref (ad 0)), (1, .int a1), (2, .int a2)]) hx hb dX6_layPile_9 hl (by decide) rfl (fun ls hl => ?_)
  refine lv_iconst (v := 0) hx hb dX6_layPile_11 (by decide) ?_
  refine lv_istore (lv' := [(5, .int 0), (4, .int 0), (3, .ref (ad 42)), (0, .ref (ad 0)), (1, .int a1), (2, .int a2)]) hx hb dX6_layPile_12 hl (by decide) rfl (fun ls hl => ?_)
  -- the loop at 14
  obtain ⟨T_9, hq⟩ : ∃ z, z = m_X6_layPile_L14 a1 a2 cs_N 0 0 S := ⟨_, rfl⟩
  replace hRes := cs_letE hq hRes
  have hk : ∀ (H : Heap) (locs : List Loc) (ls : Array Slot), cs_w D cy ad T_9.2.2 H → va_S (cs_A ad) s.heap H locs → lv_has ls 7 [(5, .int T_9.2.1), (4, .int T_9.1), (3, .ref (ad 42)), (0, .ref (ad 0)), (1, .int a1), (2, .int a2)] → W p l e (cs_rm 4 137) s m ([.ref (ad 0), .int a1, .int a2]).toArray below meth c H locs 0 0 (MQ below (cs_Qv D cy ad (fun S1 => S1 = Res)) ([.ref (ad 0), .int a1, .int a2]).toArray s 0 0 (cs_A ad)) (F0 m 95 ls []) := by
    intro H locs ls hw hS hl
    refine lv_aload_n hx hb dX6_layPile_95 rfl (lv_at hl 3 rfl) ?_
    refine cs_get (C := RX6) (T := TX6) (N := 15) hF in_X6 hw hK 0 rfl rfl 7 (by decide) q_222 rfl dX6_layPile_96 ?_
    refine lv_iconst (v := 5) hx hb dX6_layPile_99 (by decide) ?_
    refine lv_aload_n hx hb dX6_layPile_100 rfl (lv_at hl 2 rfl) ?_
    refine cs_vir hF (c_X3_length l D cy ad T_9.2.2 18 (by decide)) (cwV 0 hts g_X6_137 rfl rfl rfl kk_X3_length ⟨Nat.le_of_ble_eq_true rfl, Nat.le_of_ble_eq_true rfl⟩) (cs_recvR hK hw (by decide)) hw hK hS rfl hl.1 [.int 5, .ref (ad 6)] rfl (Nat.le_of_ble_eq_true rfl) dX6_layPile_101 (fun r_10 H locs hq hw hS => ?_)
    replace hRes := cs_letE hq hRes
    clear hq
    refine cs_vv hF (c_X3_raise l D cy ad T_9.2.2 0 5 r_10 (by decide) (by decide)) (cwV 2 hts g_X6_163 rfl rfl rfl kk_X3_raise ⟨Nat.le_of_ble_eq_true rfl, Nat.le_of_ble_eq_true rfl⟩) (cs_recvR hK hw (by decide)) hw hK hS rfl hl.1 [] rfl (Nat.le_of_ble_eq_true rfl) dX6_layPile_104 (fun S_11 H locs hq hw hS => ?_)
    replace hRes := cs_letE hq hRes
    clear hq
    exact cs_vret hF hr hlk hw hK hS dX6_layPile_107 hRes
  have lp : ∀ (n : Nat) (v4 : Int32) (v5 : Int32) (S : cs_St) (H : Heap) (locs : List Loc), cs_w D cy ad S H → va_S (cs_A ad) s.heap H locs → ∀ (ls : Array Slot), lv_has ls 7 [(5, .int v5), (4, .int v4), (3, .ref (ad 42)), (0, .ref (ad 0)), (1, .int a1), (2, .int a2)] → (2147483647 - v5.toInt < (n : Int) ∧ 0 < n) → m_X6_layPile_L14 a1 a2 n v4 v5 S = T_9 → W p l e (cs_rm 4 137) s m ([.ref (ad 0), .int a1, .int a2]).toArray below meth c H locs 0 0 (MQ below (cs_Qv D cy ad (fun S1 => S1 = Res)) ([.ref (ad 0), .int a1, .int a2]).toArray s 0 0 (cs_A ad)) (F0 m 14 ls []) := by
    intro n
    induction n with
    | zero => intro v4 v5 S H locs hw hS ls hl hm; exact absurd hm.2 (Nat.lt_irrefl 0)
    | succ n ih =>
      intro v4 v5 S H locs hw hS ls hl hm hE
      replace hE := m_X6_layPile_L14_s.symm.trans hE
      refine lv_iload hx hb dX6_layPile_14 (lv_at hl 0 rfl) ?_
      refine lv_sipush (v := 512) hx hb dX6_layPile_16 (by decide) ?_
      refine lv_icmp_ge (tgt := 95) hx hb dX6_layPile_19 (by decide) (fun c_1 => ?_) (fun c_1 => ?_)
      · replace hE := cs_T c_1 hE
        subst hE
        exact hk _ _ _ hw hS (lv_sub hl [0, 1, 2, 3, 4, 5] rfl)
      · replace hE := cs_F c_1 hE
        refine lv_iload hx hb dX6_layPile_22 (lv_at hl 1 rfl) ?_
        refine lv_aload_n hx hb dX6_layPile_24 rfl (lv_at hl 2 rfl) ?_
        refine cs_vir hF (c_X3_length l D cy ad S 18 (by decide)) (cwV 0 hts g_X6_137 rfl rfl rfl kk_X3_length ⟨Nat.le_of_ble_eq_true rfl, Nat.le_of_ble_eq_true rfl⟩) (cs_recvR hK hw (by decide)) hw hK hS rfl hl.1 [.int v4] rfl (Nat.le_of_ble_eq_true rfl) dX6_layPile_25 (fun r_2 H locs hq hw hS => ?_)
        replace hE := cs_letE hq hE
        clear hq
        refine lv_icmp_ge (tgt := 95) hx hb dX6_layPile_28 (by decide) (fun c_3 => ?_) (fun c_3 => ?_)
        · replace hE := cs_T c_3 hE
          subst hE
          exact hk _ _ _ hw hS (lv_sub hl [0, 1, 2, 3, 4, 5] rfl)
        · replace hE := cs_F c_3 hE
          refine lv_aload_n hx hb dX6_layPile_31 rfl (lv_at hl 3 rfl) ?_
          refine cs_get (C := RX6) (T := TX6) (N := 15) hF in_X6 hw hK 0 rfl rfl 1 (by decide) q_215 rfl dX6_layPile_32 ?_
          refine lv_if_ne (tgt := 45) hx hb dX6_layPile_35 (by decide) (fun c_4 => ?_) (fun c_4 => ?_)
          · replace hE := cs_F c_4 hE
            refine lv_aload_n hx hb dX6_layPile_45 rfl (lv_at hl 3 rfl) ?_
            refine cs_get (C := RX6) (T := TX6) (N := 15) hF in_X6 hw hK 0 rfl rfl 14 (by decide) q_241 rfl dX6_layPile_46 ?_
            refine lv_iload hx hb dX6_layPile_49 (lv_at hl 1 rfl) ?_
            refine lv_aload_n hx hb dX6_layPile_51 rfl (lv_at hl 3 rfl) ?_
            refine cs_get (C := RX6) (T := TX6) (N := 15) hF in_X6 hw hK 0 rfl rfl 3 (by decide) q_217 rfl dX6_layPile_52 ?_
            refine cs_vir hF (c_X2_pieceEnd l D cy ad S v4 (S.2 3)) (cwV 2 hts g_X6_380 rfl rfl rfl kk_X2_pieceEnd ⟨Nat.le_of_ble_eq_true rfl, Nat.le_of_ble_eq_true rfl⟩) (cs_recv hK hw (ci := 2) 5 rfl rfl) hw hK hS rfl hl.1 [] rfl (Nat.le_of_ble_eq_true rfl) dX6_layPile_55 (fun r_5 H locs hq hw hS => ?_)
            replace hE := cs_letE hq hE
            clear hq
            refine lv_istore (lv' := [(6, .int r_5), (5, .int v5), (4, .int v4), (3, .ref (ad 42)), (0, .ref (ad 0)), (1, .int a1), (2, .int a2)]) hx hb dX6_layPile_58 hl (by decide) rfl (fun ls hl => ?_)
            refine lv_aload_n hx hb dX6_layPile_60 rfl (lv_at hl 4 rfl) ?_
            refine cs_get (C := RX6) (T := TX6) (N := 15) hF in_X6 hw hK 0 rfl rfl 13 (by decide) q_237 rfl dX6_layPile_61 ?_
            refine lv_iload_n hx hb dX6_layPile_64 rfl (lv_at hl 5 rfl) ?_
            refine lv_iload_n hx hb dX6_layPile_65 rfl (lv_at hl 6 rfl) ?_
            refine lv_iload hx hb dX6_layPile_66 (lv_at hl 1 rfl) ?_
            refine lv_iadd hx hb dX6_layPile_68 ?_
            refine lv_aload_n hx hb dX6_layPile_69 rfl (lv_at hl 3 rfl) ?_
            refine lv_iload hx hb dX6_layPile_70 (lv_at hl 2 rfl) ?_
            refine lv_iload hx hb dX6_layPile_72 (lv_at hl 0 rfl) ?_
            refine lv_aload_n hx hb dX6_layPile_74 rfl (lv_at hl 4 rfl) ?_
            refine cs_get (C := RX6) (T := TX6) (N := 15) hF in_X6 hw hK 0 rfl rfl 4 (by decide) q_218 rfl dX6_layPile_75 ?_
            refine lv_aload_n hx hb dX6_layPile_78 rfl (lv_at hl 4 rfl) ?_
            refine cs_get (C := RX6) (T := TX6) (N := 15) hF in_X6 hw hK 0 rfl rfl 5 (by decide) q_219 rfl dX6_layPile_79 ?_
            refine cs_vv hF (c_X4_insert l D cy ad S a1 (a2 + v5) 18 v4 r_5 (S.2 4) (S.2 5) (by decide) (hw.1.2.2)) (cwV 7 hts g_X6_337 rfl rfl rfl kk_X4_insert ⟨Nat.le_of_ble_eq_true rfl, Nat.le_of_ble_eq_true rfl⟩) (cs_recv hK hw (ci := 4) 4 rfl rfl) hw hK hS rfl hl.1 [] rfl (Nat.le_of_ble_eq_true rfl) dX6_layPile_82 (fun S_6 H locs hq hw hS => ?_)
            replace hE := cs_letE hq hE
            clear hq
            refine lv_iload hx hb dX6_layPile_85 (lv_at hl 0 rfl) ?_
            refine lv_istore (lv' := [(4, .int r_5), (6, .int r_5), (5, .int v5), (3, .ref (ad 42)), (0, .ref (ad 0)), (1, .int a1), (2, .int a2)]) hx hb dX6_layPile_87 hl (by decide) rfl (fun ls hl => ?_)
            refine lv_iinc (v := v5 + 1) (lv' := [(5, .int (v5 + 1)), (4, .int r_5), (6, .int r_5), (3, .ref (ad 42)), (0, .ref (ad 0)), (1, .int a1), (2, .int a2)]) hx hb dX6_layPile_89 hl (k := 2) rfl rfl (by decide) rfl (fun ls hl => ?_)
            refine lv_goto (tgt := 14) hx hb dX6_layPile_92 (by decide) ?_
            exact ih r_5 (v5 + 1) S_6 _ _ hw hS _ (lv_sub hl [0, 1, 3, 4, 5, 6] rfl) (cs_up hm.1 c_1) hE
          · replace hE := cs_T c_4 hE
            refine lv_aload_n hx hb dX6_layPile_38 rfl (lv_at hl 2 rfl) ?_
            refine cs_vir hF (c_X3_length l D cy ad S 18 (by decide)) (cwV 0 hts g_X6_137 rfl rfl rfl kk_X3_length ⟨Nat.le_of_ble_eq_true rfl, Nat.le_of_ble_eq_true rfl⟩) (cs_recvR hK hw (by decide)) hw hK hS rfl hl.1 [] rfl (Nat.le_of_ble_eq_true rfl) dX6_layPile_39 (fun r_7 H locs hq hw hS => ?_)
            replace hE := cs_letE hq hE
            clear hq
            refine lv_goto (tgt := 58) hx hb dX6_layPile_42 (by decide) ?_
            refine lv_istore (lv' := [(6, .int r_7), (5, .int v5), (4, .int v4), (3, .ref (ad 42)), (0, .ref (ad 0)), (1, .int a1), (2, .int a2)]) hx hb dX6_layPile_58 hl (by decide) rfl (fun ls hl => ?_)
            refine lv_aload_n hx hb dX6_layPile_60 rfl (lv_at hl 4 rfl) ?_
            refine cs_get (C := RX6) (T := TX6) (N := 15) hF in_X6 hw hK 0 rfl rfl 13 (by decide) q_237 rfl dX6_layPile_61 ?_
            refine lv_iload_n hx hb dX6_layPile_64 rfl (lv_at hl 5 rfl) ?_
            refine lv_iload_n hx hb dX6_layPile_65 rfl (lv_at hl 6 rfl) ?_
            refine lv_iload hx hb dX6_layPile_66 (lv_at hl 1 rfl) ?_
            refine lv_iadd hx hb dX6_layPile_68 ?_
            refine lv_aload_n hx hb dX6_layPile_69 rfl (lv_at hl 3 rfl) ?_
            refine lv_iload hx hb dX6_layPile_70 (lv_at hl 2 rfl) ?_
            refine lv_iload hx hb dX6_layPile_72 (lv_at hl 0 rfl) ?_
            refine lv_aload_n hx hb dX6_layPile_74 rfl (lv_at hl 4 rfl) ?_
            refine cs_get (C := RX6) (T := TX6) (N := 15) hF in_X6 hw hK 0 rfl rfl 4 (by decide) q_218 rfl dX6_layPile_75 ?_
            refine lv_aload_n hx hb dX6_layPile_78 rfl (lv_at hl 4 rfl) ?_
            refine cs_get (C := RX6) (T := TX6) (N := 15) hF in_X6 hw hK 0 rfl rfl 5 (by decide) q_219 rfl dX6_layPile_79 ?_
            refine cs_vv hF (c_X4_insert l D cy ad S a1 (a2 + v5) 18 v4 r_7 (S.2 4) (S.2 5) (by decide) (hw.1.2.2)) (cwV 7 hts g_X6_337 rfl rfl rfl kk_X4_insert ⟨Nat.le_of_ble_eq_true rfl, Nat.le_of_ble_eq_true rfl⟩) (cs_recv hK hw (ci := 4) 4 rfl rfl) hw hK hS rfl hl.1 [] rfl (Nat.le_of_ble_eq_true rfl) dX6_layPile_82 (fun S_8 H locs hq hw hS => ?_)
            replace hE := cs_letE hq hE
            clear hq
            refine lv_iload hx hb dX6_layPile_85 (lv_at hl 0 rfl) ?_
            refine lv_istore (lv' := [(4, .int r_7), (6, .int r_7), (5, .int v5), (3, .ref (ad 42)), (0, .ref (ad 0)), (1, .int a1), (2, .int a2)]) hx hb dX6_layPile_87 hl (by decide) rfl (fun ls hl => ?_)
            refine lv_iinc (v := v5 + 1) (lv' := [(5, .int (v5 + 1)), (4, .int r_7), (6, .int r_7), (3, .ref (ad 42)), (0, .ref (ad 0)), (1, .int a1), (2, .int a2)]) hx hb dX6_layPile_89 hl (k := 2) rfl rfl (by decide) rfl (fun ls hl => ?_)
            refine lv_goto (tgt := 14) hx hb dX6_layPile_92 (by decide) ?_
            exact ih r_7 (v5 + 1) S_8 _ _ hw hS _ (lv_sub hl [0, 1, 3, 4, 5, 6] rfl) (cs_up hm.1 c_1) hE
  exact lp cs_N 0 0 S _ _ hw hS _ (lv_sub hl [0, 1, 2, 3, 4, 5] rfl) (cs_up0 0) hq.symm
theorem kk_X6_layPile : yX6_layPile.cls = RX6 ∧ yX6_layPile.cls ≠ "java/lang/invoke/MethodHandle" ∧ yX6_layPile.cls ≠ "java/lang/invoke/VarHandle" ∧ (parseMethodDescriptor yX6_layPile.desc).map (fun d => d.parameters.length) = some 2 := by decide +kernel
theorem g_X6_166 : GoodIn cs_WS (wsV RX6 166 RX6 yX6_layPile (cs_ws yX6_layPile cX6_layPile 7 none)) := cs_goodV q_356 q_357 q_358 q_299 q_338
theorem g_X6_345 : GoodIn cs_WS (wsV RX6 345 RX6 yX6_firstFull (cs_ws yX6_firstFull cX6_firstFull 2 (some .int))) := cs_goodV q_344 q_345 q_346 q_299 q_310
theorem g_X6_348 : GoodIn cs_WS (wsV RX6 348 RX6 yX6_takeLevel (cs_ws yX6_takeLevel cX6_takeLevel 2 (some .int))) := cs_goodV q_347 q_348 q_349 q_299 q_320
theorem g_X6_351 : GoodIn cs_WS (wsV RX6 351 RX6 yX6_takePart (cs_ws yX6_takePart cX6_takePart 9 (some .int))) := cs_goodV q_350 q_351 q_352 q_299 q_324
def m_X6_settle_L2 : Nat → Int32 → cs_St → cs_St
  | 0, _, S => S
  | n + 1, v1, S => (if 1000000 ≤ v1 then S else cs_let (m_X6_firstFull S) (fun r_2 => (if 0 ≤ r_2 then cs_let (m_X2_begin S) (fun S_4 => (if (S_4.2 1) = 0 then cs_let (m_X6_takeLevel S_4 r_2).1 (fun r_17 => cs_let (m_X6_takeLevel S_4 r_2).2 (fun S_16 => cs_let (m_X2_keepNeeded S_16) (fun S_18 => cs_let (m_X4_first S_18 (r_2 + 1)) (fun r_19 => cs_let (m_X4_begin S_18 r_19) (fun r_20 => cs_let (m_X2_dropStones S_18 10 r_20) (fun S_21 => cs_let (m_X3_raise S_21 0 4 1) (fun S_22 => (if 3 ≤ r_2 then cs_let (m_X6_layPile S_22 3 r_17) (fun S_24 => m_X6_settle_L2 n (v1 + 1) S_24) else cs_let (m_X6_layPile S_22 (r_2 + 1) r_17) (fun S_25 => m_X6_settle_L2 n (v1 + 1) S_25))))))))) else cs_let (m_X6_takePart S_4 r_2).1 (fun r_7 => cs_let (m_X6_takePart S_4 r_2).2 (fun S_6 => cs_let (m_X2_keepNeeded S_6) (fun S_8 => cs_let (m_X4_first S_8 (r_2 + 1)) (fun r_9 => cs_let (m_X4_begin S_8 r_9) (fun r_10 => cs_let (m_X2_dropStones S_8 10 r_10) (fun S_11 => cs_let (m_X3_raise S_11 0 4 1) (fun S_12 => (if 3 ≤ r_2 then cs_let (m_X6_layPile S_12 3 r_7) (fun S_14 => m_X6_settle_L2 n (v1 + 1) S_14) else cs_let (m_X6_layPile S_12 (r_2 + 1) r_7) (fun S_15 => m_X6_settle_L2 n (v1 + 1) S_15))))))))))) else S)))
theorem m_X6_settle_L2_s {n : Nat} {v1 : Int32} {S : cs_St} : m_X6_settle_L2 (n + 1) v1 S = (if 1000000 ≤ v1 then S else cs_let (m_X6_firstFull S) (fun r_2 => (if 0 ≤ r_2 then cs_let (m_X2_begin S) (fun S_4 => (if (S_4.2 1) = 0 then cs_let (m_X6_takeLevel S_4 r_2).1 (fun r_17 => cs_let (m_X6_takeLevel S_4 r_2).2 (fun S_16 => cs_let (m_X2_keepNeeded S_16) (fun S_18 => cs_let (m_X4_first S_18 (r_2 + 1)) (fun r_19 => cs_let (m_X4_begin S_18 r_19) (fun r_20 => cs_let (m_X2_dropStones S_18 10 r_20) (fun S_21 => cs_let (m_X3_raise S_21 0 4 1) (fun S_22 => (if 3 ≤ r_2 then cs_let (m_X6_layPile S_22 3 r_17) (fun S_24 => m_X6_settle_L2 n (v1 + 1) S_24) else cs_let (m_X6_layPile S_22 (r_2 + 1) r_17) (fun S_25 => m_X6_settle_L2 n (v1 + 1) S_25))))))))) else cs_let (m_X6_takePart S_4 r_2).1 (fun r_7 => cs_let (m_X6_takePart S_4 r_2).2 (fun S_6 => cs_let (m_X2_keepNeeded S_6) (fun S_8 => cs_let (m_X4_first S_8 (r_2 + 1)) (fun r_9 => cs_let (m_X4_begin S_8 r_9) (fun r_10 => cs_let (m_X2_dropStones S_8 10 r_10) (fun S_11 => cs_let (m_X3_raise S_11 0 4 1) (fun S_12 => (if 3 ≤ r_2 then cs_let (m_X6_layPile S_12 3 r_7) (fun S_14 => m_X6_settle_L2 n (v1 + 1) S_14) else cs_let (m_X6_layPile S_12 (r_2 + 1) r_7) (fun S_15 => m_X6_settle_L2 n (v1 + 1) S_15))))))))))) else S))) := rfl
def m_X6_settle (S : cs_St) : cs_St := m_X6_settle_L2 cs_N 0 S
set_option maxHeartbeats 4000000 in
set_option maxRecDepth 100000 in
theorem c_X6_settle (l : Launch) (D : va_G) (cy : ClassId) (ad : Nat → Nat) (S : cs_St) : Met l yX6_settle (cs_ws yX6_settle cX6_settle 4 none) (cs_rm 5 163) (cs_Pc D cy ad [.ref (ad 0)] S) (cs_Qv D cy ad (fun S1 => S1 = m_X6_settle S)) 0 0 (cs_A ad) := by
  refine cs_of RX6 (by decide) rfl (Nat.le_of_ble_eq_true rfl) ?_
  intro p e s m below meth c hF hr hlk hw hK ls hl
  obtain ⟨hx, hb, hml, hown, hts⟩ := id hF
  have hS : va_S (cs_A ad) s.heap s.heap [] := va_S.rf
  have hl : lv_has ls 4 [(0, .ref (ad 0))] := hl
  generalize hRes : m_X6_settle S = Res
  unfold m_X6_settle at hRes
  refine lv_iconst (v := 0) hx hb dX6_settle_0 (by decide) ?_
  refine lv_istore_n (lv' := [(1, .int 0), (0, .ref (ad 0))]) hx hb dX6_settle_1 rfl hl (by decide) rfl (fun ls hl => ?_)
  -- the loop at 2
  have lp : ∀ (n : Nat) (v1 : Int32) (S : cs_St) (H : Heap) (locs : List Loc), cs_w D cy ad S H → va_S (cs_A ad) s.heap H locs → ∀ (ls : Array Slot), lv_has ls 4 [(1, .int v1), (0, .ref (ad 0))] → (2147483647 - v1.toInt < (n : Int) ∧ 0 < n) → m_X6_settle_L2 n v1 S = Res → W p l e (cs_rm 5 163) s m ([.ref (ad 0)]).toArray below meth c H locs 0 0 (MQ below (cs_Qv D cy ad (fun S1 => S1 = Res)) ([.ref (ad 0)]).toArray s 0 0 (cs_A ad)) (F0 m 2 ls []) := by
    intro n
    induction n with
    | zero => intro v1 S H locs hw hS ls hl hm; exact absurd hm.2 (Nat.lt_irrefl 0)
    | succ n ih =>
      intro v1 S H locs hw hS ls hl hm hRes
      replace hRes := m_X6_settle_L2_s.symm.trans hRes
      refine lv_iload_n hx hb dX6_settle_2 rfl (lv_at hl 0 rfl) ?_
      refine lv_ldcw (v := 1000000) hx hb hown (hts _ q_343) dX6_settle_3 ?_
      refine lv_icmp_ge (tgt := 117) hx hb dX6_settle_6 (by decide) (fun c_1 => ?_) (fun c_1 => ?_)
      · replace hRes := cs_T c_1 hRes
        exact cs_vret hF hr hlk hw hK hS dX6_settle_117 hRes
      · replace hRes := cs_F c_1 hRes
        refine lv_aload_n hx hb dX6_settle_9 rfl (lv_at hl 1 rfl) ?_
        refine cs_vir hF (c_X6_firstFull l D cy ad S) (cwV 0 hts g_X6_345 rfl rfl rfl kk_X6_firstFull ⟨Nat.le_of_ble_eq_true rfl, Nat.le_of_ble_eq_true rfl⟩) (cs_recv hK hw (ci := 6) 0 rfl rfl) hw hK hS rfl hl.1 [] rfl (Nat.le_of_ble_eq_true rfl) dX6_settle_10 (fun r_2 H locs hq hw hS => ?_)
        replace hRes := cs_letE hq hRes
        clear hq
        refine lv_istore_n (lv' := [(2, .int r_2), (1, .int v1), (0, .ref (ad 0))]) hx hb dX6_settle_13 rfl hl (by decide) rfl (fun ls hl => ?_)
        refine lv_iload_n hx hb dX6_settle_14 rfl (lv_at hl 0 rfl) ?_
        refine lv_if_ge (tgt := 19) hx hb dX6_settle_15 (by decide) (fun c_3 => ?_) (fun c_3 => ?_)
        · replace hRes := cs_T c_3 hRes
          refine lv_aload_n hx hb dX6_settle_19 rfl (lv_at hl 2 rfl) ?_
          refine cs_get (C := RX6) (T := TX6) (N := 15) hF in_X6 hw hK 0 rfl rfl 14 (by decide) q_241 rfl dX6_settle_20 ?_
          refine cs_vv hF (c_X2_begin l D cy ad S) (cwV 0 hts g_X6_320 rfl rfl rfl kk_X2_begin ⟨Nat.le_of_ble_eq_true rfl, Nat.le_of_ble_eq_true rfl⟩) (cs_recv hK hw (ci := 2) 5 rfl rfl) hw hK hS rfl hl.1 [] rfl (Nat.le_of_ble_eq_true rfl) dX6_settle_23 (fun S_4 H locs hq hw hS => ?_)
          replace hRes := cs_letE hq hRes
          clear hq
          refine lv_aload_n hx hb dX6_settle_26 rfl (lv_at hl 2 rfl) ?_
          refine cs_get (C := RX6) (T := TX6) (N := 15) hF in_X6 hw hK 0 rfl rfl 1 (by decide) q_215 rfl dX6_settle_27 ?_
          refine lv_if_ne (tgt := 41) hx hb dX6_settle_30 (by decide) (fun c_5 => ?_) (fun c_5 => ?_)
          · replace hRes := cs_F c_5 hRes
            refine lv_aload_n hx hb dX6_settle_41 rfl (lv_at hl 2 rfl) ?_
            refine lv_iload_n hx hb dX6_settle_42 rfl (lv_at hl 0 rfl) ?_
            refine cs_vi hF (c_X6_takePart l D cy ad S_4 r_2) (cwV 1 hts g_X6_351 rfl rfl rfl kk_X6_takePart ⟨Nat.le_of_ble_eq_true rfl, Nat.le_of_ble_eq_true rfl⟩) (cs_recv hK hw (ci := 6) 0 rfl rfl) hw hK hS rfl hl.1 [] rfl (Nat.le_of_ble_eq_true rfl) dX6_settle_43 (fun r_7 S_6 H locs hq hq2 hw hS => ?_)
            replace hRes := cs_letE hq hRes
            replace hRes := cs_letE hq2 hRes
            clear hq hq2
            refine lv_istore_n (lv' := [(3, .int r_7), (2, .int r_2), (1, .int v1), (0, .ref (ad 0))]) hx hb dX6_settle_46 rfl hl (by decide) rfl (fun ls hl => ?_)
            refine lv_aload_n hx hb dX6_settle_47 rfl (lv_at hl 3 rfl) ?_
            refine cs_get (C := RX6) (T := TX6) (N := 15) hF in_X6 hw hK 0 rfl rfl 14 (by decide) q_241 rfl dX6_settle_48 ?_
            refine cs_vv hF (c_X2_keepNeeded l D cy ad S_6) (cwV 0 hts g_X6_327 rfl rfl rfl kk_X2_keepNeeded ⟨Nat.le_of_ble_eq_true rfl, Nat.le_of_ble_eq_true rfl⟩) (cs_recv hK hw (ci := 2) 5 rfl rfl) hw hK hS rfl hl.1 [] rfl (Nat.le_of_ble_eq_true rfl) dX6_settle_51 (fun S_8 H locs hq hw hS => ?_)
            replace hRes := cs_letE hq hRes
            clear hq
            refine lv_aload_n hx hb dX6_settle_54 rfl (lv_at hl 3 rfl) ?_
            refine cs_get (C := RX6) (T := TX6) (N := 15) hF in_X6 hw hK 0 rfl rfl 14 (by decide) q_241 rfl dX6_settle_55 ?_
            refine lv_aload_n hx hb dX6_settle_58 rfl (lv_at hl 3 rfl) ?_
            refine cs_get (C := RX6) (T := TX6) (N := 15) hF in_X6 hw hK 0 rfl rfl 13 (by decide) q_237 rfl dX6_settle_59 ?_
            refine cs_getN (C := RX4) (T := TX4) (N := 8) hF in_X4 hw hK 4 rfl rfl 1 (by decide) (List.mem_of_getElem? (i := 4) rfl) rfl dX6_settle_62 ?_
            refine lv_aload_n hx hb dX6_settle_65 rfl (lv_at hl 3 rfl) ?_
            refine cs_get (C := RX6) (T := TX6) (N := 15) hF in_X6 hw hK 0 rfl rfl 13 (by decide) q_237 rfl dX6_settle_66 ?_
            refine lv_aload_n hx hb dX6_settle_69 rfl (lv_at hl 3 rfl) ?_
            refine cs_get (C := RX6) (T := TX6) (N := 15) hF in_X6 hw hK 0 rfl rfl 13 (by decide) q_237 rfl dX6_settle_70 ?_
            refine lv_iload_n hx hb dX6_settle_73 rfl (lv_at hl 1 rfl) ?_
            refine lv_iconst (v := 1) hx hb dX6_settle_74 (by decide) ?_
            refine lv_iadd hx hb dX6_settle_75 ?_
            refine cs_vir hF (c_X4_first l D cy ad S_8 (r_2 + 1)) (cwV 1 hts g_X6_153 rfl rfl rfl kk_X4_first ⟨Nat.le_of_ble_eq_true rfl, Nat.le_of_ble_eq_true rfl⟩) (cs_recv hK hw (ci := 4) 4 rfl rfl) hw hK hS rfl hl.1 [.ref (ad 4), .ref (ad 26), .ref (ad 5)] rfl (Nat.le_of_ble_eq_true rfl) dX6_settle_76 (fun r_9 H locs hq hw hS => ?_)
            replace hRes := cs_letE hq hRes
            clear hq
            refine cs_vir hF (c_X4_begin l D cy ad S_8 r_9) (cwV 1 hts g_X6_354 rfl rfl rfl kk_X4_begin ⟨Nat.le_of_ble_eq_true rfl, Nat.le_of_ble_eq_true rfl⟩) (cs_recv hK hw (ci := 4) 4 rfl rfl) hw hK hS rfl hl.1 [.ref (ad 26), .ref (ad 5)] rfl (Nat.le_of_ble_eq_true rfl) dX6_settle_79 (fun r_10 H locs hq hw hS => ?_)
            replace hRes := cs_letE hq hRes
            clear hq
            refine cs_vv hF (c_X2_dropStones l D cy ad S_8 10 r_10 (by decide)) (cwV 2 hts g_X6_356 rfl rfl rfl kk_X2_dropStones ⟨Nat.le_of_ble_eq_true rfl, Nat.le_of_ble_eq_true rfl⟩) (cs_recv hK hw (ci := 2) 5 rfl rfl) hw hK hS rfl hl.1 [] rfl (Nat.le_of_ble_eq_true rfl) dX6_settle_82 (fun S_11 H locs hq hw hS => ?_)
            replace hRes := cs_letE hq hRes
            clear hq
            refine lv_aload_n hx hb dX6_settle_85 rfl (lv_at hl 3 rfl) ?_
            refine cs_get (C := RX6) (T := TX6) (N := 15) hF in_X6 hw hK 0 rfl rfl 7 (by decide) q_222 rfl dX6_settle_86 ?_
            refine lv_iconst (v := 4) hx hb dX6_settle_89 (by decide) ?_
            refine lv_iconst (v := 1) hx hb dX6_settle_90 (by decide) ?_
            refine cs_vv hF (c_X3_raise l D cy ad S_11 0 4 1 (by decide) (by decide)) (cwV 2 hts g_X6_163 rfl rfl rfl kk_X3_raise ⟨Nat.le_of_ble_eq_true rfl, Nat.le_of_ble_eq_true rfl⟩) (cs_recvR hK hw (by decide)) hw hK hS rfl hl.1 [] rfl (Nat.le_of_ble_eq_true rfl) dX6_settle_91 (fun S_12 H locs hq hw hS => ?_)
            replace hRes := cs_letE hq hRes
            clear hq
            refine lv_aload_n hx hb dX6_settle_94 rfl (lv_at hl 3 rfl) ?_
            refine lv_iload_n hx hb dX6_settle_95 rfl (lv_at hl 1 rfl) ?_
            refine lv_iconst (v := 3) hx hb dX6_settle_96 (by decide) ?_
            refine lv_icmp_ge (tgt := 106) hx hb dX6_settle_97 (by decide) (fun c_13 => ?_) (fun c_13 => ?_)
            · replace hRes := cs_T c_13 hRes
              refine lv_iconst (v := 3) hx hb dX6_settle_106 (by decide) ?_
              refine lv_iload_n hx hb dX6_settle_107 rfl (lv_at hl 0 rfl) ?_
              refine cs_vv hF (c_X6_layPile l D cy ad S_12 3 r_7) (cwV 2 hts g_X6_166 rfl rfl rfl kk_X6_layPile ⟨Nat.le_of_ble_eq_true rfl, Nat.le_of_ble_eq_true rfl⟩) (cs_recv hK hw (ci := 6) 0 rfl rfl) hw hK hS rfl hl.1 [] rfl (Nat.le_of_ble_eq_true rfl) dX6_settle_108 (fun S_14 H locs hq hw hS => ?_)
              replace hRes := cs_letE hq hRes
              clear hq
              refine lv_iinc (v := v1 + 1) (lv' := [(1, .int (v1 + 1)), (3, .int r_7), (2, .int r_2), (0, .ref (ad 0))]) hx hb dX6_settle_111 hl (k := 2) rfl rfl (by decide) rfl (fun ls hl => ?_)
              refine lv_goto (tgt := 2) hx hb dX6_settle_114 (by decide) ?_
              exact ih (v1 + 1) S_14 _ _ hw hS _ (lv_sub hl [0, 3] rfl) (cs_up hm.1 c_1) hRes
            · replace hRes := cs_F c_13 hRes
              refine lv_iload_n hx hb dX6_settle_100 rfl (lv_at hl 1 rfl) ?_
              refine lv_iconst (v := 1) hx hb dX6_settle_101 (by decide) ?_
              refine lv_iadd hx hb dX6_settle_102 ?_
              refine lv_goto (tgt := 107) hx hb dX6_settle_103 (by decide) ?_
              refine lv_iload_n hx hb dX6_settle_107 rfl (lv_at hl 0 rfl) ?_
              refine cs_vv hF (c_X6_layPile l D cy ad S_12 (r_2 + 1) r_7) (cwV 2 hts g_X6_166 rfl rfl rfl kk_X6_layPile ⟨Nat.le_of_ble_eq_true rfl, Nat.le_of_ble_eq_true rfl⟩) (cs_recv hK hw (ci := 6) 0 rfl rfl) hw hK hS rfl hl.1 [] rfl (Nat.le_of_ble_eq_true rfl) dX6_settle_108 (fun S_15 H locs hq hw hS => ?_)
              replace hRes := cs_letE hq hRes
              clear hq
              refine lv_iinc (v := v1 + 1) (lv' := [(1, .int (v1 + 1)), (3, .int r_7), (2, .int r_2), (0, .ref (ad 0))]) hx hb dX6_settle_111 hl (k := 2) rfl rfl (by decide) rfl (fun ls hl => ?_)
              refine lv_goto (tgt := 2) hx hb dX6_settle_114 (by decide) ?_
              exact ih (v1 + 1) S_15 _ _ hw hS _ (lv_sub hl [0, 3] rfl) (cs_up hm.1 c_1) hRes
          · replace hRes := cs_T c_5 hRes
            refine lv_aload_n hx hb dX6_settle_33 rfl (lv_at hl 2 rfl) ?_
            refine lv_iload_n hx hb dX6_settle_34 rfl (lv_at hl 0 rfl) ?_
            refine cs_vi hF (c_X6_takeLevel l D cy ad S_4 r_2) (cwV 1 hts g_X6_348 rfl rfl rfl kk_X6_takeLevel ⟨Nat.le_of_ble_eq_true rfl, Nat.le_of_ble_eq_true rfl⟩) (cs_recv hK hw (ci := 6) 0 rfl rfl) hw hK hS rfl hl.1 [] rfl (Nat.le_of_ble_eq_true rfl) dX6_settle_35 (fun r_17 S_16 H locs hq hq2 hw hS => ?_)
            replace hRes := cs_letE hq hRes
            replace hRes := cs_letE hq2 hRes
            clear hq hq2
            refine lv_goto (tgt := 46) hx hb dX6_settle_38 (by decide) ?_
            refine lv_istore_n (lv' := [(3, .int r_17), (2, .int r_2), (1, .int v1), (0, .ref (ad 0))]) hx hb dX6_settle_46 rfl hl (by decide) rfl (fun ls hl => ?_)
            refine lv_aload_n hx hb dX6_settle_47 rfl (lv_at hl 3 rfl) ?_
            refine cs_get (C := RX6) (T := TX6) (N := 15) hF in_X6 hw hK 0 rfl rfl 14 (by decide) q_241 rfl dX6_settle_48 ?_
            refine cs_vv hF (c_X2_keepNeeded l D cy ad S_16) (cwV 0 hts g_X6_327 rfl rfl rfl kk_X2_keepNeeded ⟨Nat.le_of_ble_eq_true rfl, Nat.le_of_ble_eq_true rfl⟩) (cs_recv hK hw (ci := 2) 5 rfl rfl) hw hK hS rfl hl.1 [] rfl (Nat.le_of_ble_eq_true rfl) dX6_settle_51 (fun S_18 H locs hq hw hS => ?_)
            replace hRes := cs_letE hq hRes
            clear hq
            refine lv_aload_n hx hb dX6_settle_54 rfl (lv_at hl 3 rfl) ?_
            refine cs_get (C := RX6) (T := TX6) (N := 15) hF in_X6 hw hK 0 rfl rfl 14 (by decide) q_241 rfl dX6_settle_55 ?_
            refine lv_aload_n hx hb dX6_settle_58 rfl (lv_at hl 3 rfl) ?_
            refine cs_get (C := RX6) (T := TX6) (N := 15) hF in_X6 hw hK 0 rfl rfl 13 (by decide) q_237 rfl dX6_settle_59 ?_
            refine cs_getN (C := RX4) (T := TX4) (N := 8) hF in_X4 hw hK 4 rfl rfl 1 (by decide) (List.mem_of_getElem? (i := 4) rfl) rfl dX6_settle_62 ?_
            refine lv_aload_n hx hb dX6_settle_65 rfl (lv_at hl 3 rfl) ?_
            refine cs_get (C := RX6) (T := TX6) (N := 15) hF in_X6 hw hK 0 rfl rfl 13 (by decide) q_237 rfl dX6_settle_66 ?_
            refine lv_aload_n hx hb dX6_settle_69 rfl (lv_at hl 3 rfl) ?_
            refine cs_get (C := RX6) (T := TX6) (N := 15) hF in_X6 hw hK 0 rfl rfl 13 (by decide) q_237 rfl dX6_settle_70 ?_
            refine lv_iload_n hx hb dX6_settle_73 rfl (lv_at hl 1 rfl) ?_
            refine lv_iconst (v := 1) hx hb dX6_settle_74 (by decide) ?_
            refine lv_iadd hx hb dX6_settle_75 ?_
            refine cs_vir hF (c_X4_first l D cy ad S_18 (r_2 + 1)) (cwV 1 hts g_X6_153 rfl rfl rfl kk_X4_first ⟨Nat.le_of_ble_eq_true rfl, Nat.le_of_ble_eq_true rfl⟩) (cs_recv hK hw (ci := 4) 4 rfl rfl) hw hK hS rfl hl.1 [.ref (ad 4), .ref (ad 26), .ref (ad 5)] rfl (Nat.le_of_ble_eq_true rfl) dX6_settle_76 (fun r_19 H locs hq hw hS => ?_)
            replace hRes := cs_letE hq hRes
            clear hq
            refine cs_vir hF (c_X4_begin l D cy ad S_18 r_19) (cwV 1 hts g_X6_354 rfl rfl rfl kk_X4_begin ⟨Nat.le_of_ble_eq_true rfl, Nat.le_of_ble_eq_true rfl⟩) (cs_recv hK hw (ci := 4) 4 rfl rfl) hw hK hS rfl hl.1 [.ref (ad 26), .ref (ad 5)] rfl (Nat.le_of_ble_eq_true rfl) dX6_settle_79 (fun r_20 H locs hq hw hS => ?_)
            replace hRes := cs_letE hq hRes
            clear hq
            refine cs_vv hF (c_X2_dropStones l D cy ad S_18 10 r_20 (by decide)) (cwV 2 hts g_X6_356 rfl rfl rfl kk_X2_dropStones ⟨Nat.le_of_ble_eq_true rfl, Nat.le_of_ble_eq_true rfl⟩) (cs_recv hK hw (ci := 2) 5 rfl rfl) hw hK hS rfl hl.1 [] rfl (Nat.le_of_ble_eq_true rfl) dX6_settle_82 (fun S_21 H locs hq hw hS => ?_)
            replace hRes := cs_letE hq hRes
            clear hq
            refine lv_aload_n hx hb dX6_settle_85 rfl (lv_at hl 3 rfl) ?_
            refine cs_get (C := RX6) (T := TX6) (N := 15) hF in_X6 hw hK 0 rfl rfl 7 (by decide) q_222 rfl dX6_settle_86 ?_
            refine lv_iconst (v := 4) hx hb dX6_settle_89 (by decide) ?_
            refine lv_iconst (v := 1) hx hb dX6_settle_90 (by decide) ?_
            refine cs_vv hF (c_X3_raise l D cy ad S_21 0 4 1 (by decide) (by decide)) (cwV 2 hts g_X6_163 rfl rfl rfl kk_X3_raise ⟨Nat.le_of_ble_eq_true rfl, Nat.le_of_ble_eq_true rfl⟩) (cs_recvR hK hw (by decide)) hw hK hS rfl hl.1 [] rfl (Nat.le_of_ble_eq_true rfl) dX6_settle_91 (fun S_22 H locs hq hw hS => ?_)
            replace hRes := cs_letE hq hRes
            clear hq
            refine lv_aload_n hx hb dX6_settle_94 rfl (lv_at hl 3 rfl) ?_
            refine lv_iload_n hx hb dX6_settle_95 rfl (lv_at hl 1 rfl) ?_
            refine lv_iconst (v := 3) hx hb dX6_settle_96 (by decide) ?_
            refine lv_icmp_ge (tgt := 106) hx hb dX6_settle_97 (by decide) (fun c_23 => ?_) (fun c_23 => ?_)
            · replace hRes := cs_T c_23 hRes
              refine lv_iconst (v := 3) hx hb dX6_settle_106 (by decide) ?_
              refine lv_iload_n hx hb dX6_settle_107 rfl (lv_at hl 0 rfl) ?_
              refine cs_vv hF (c_X6_layPile l D cy ad S_22 3 r_17) (cwV 2 hts g_X6_166 rfl rfl rfl kk_X6_layPile ⟨Nat.le_of_ble_eq_true rfl, Nat.le_of_ble_eq_true rfl⟩) (cs_recv hK hw (ci := 6) 0 rfl rfl) hw hK hS rfl hl.1 [] rfl (Nat.le_of_ble_eq_true rfl) dX6_settle_108 (fun S_24 H locs hq hw hS => ?_)
              replace hRes := cs_letE hq hRes
              clear hq
              refine lv_iinc (v := v1 + 1) (lv' := [(1, .int (v1 + 1)), (3, .int r_17), (2, .int r_2), (0, .ref (ad 0))]) hx hb dX6_settle_111 hl (k := 2) rfl rfl (by decide) rfl (fun ls hl => ?_)
              refine lv_goto (tgt := 2) hx hb dX6_settle_114 (by decide) ?_
              exact ih (v1 + 1) S_24 _ _ hw hS _ (lv_sub hl [0, 3] rfl) (cs_up hm.1 c_1) hRes
            · replace hRes := cs_F c_23 hRes
              refine lv_iload_n hx hb dX6_settle_100 rfl (lv_at hl 1 rfl) ?_
              refine lv_iconst (v := 1) hx hb dX6_settle_101 (by decide) ?_
              refine lv_iadd hx hb dX6_settle_102 ?_
              refine lv_goto (tgt := 107) hx hb dX6_settle_103 (by decide) ?_
              refine lv_iload_n hx hb dX6_settle_107 rfl (lv_at hl 0 rfl) ?_
              refine cs_vv hF (c_X6_layPile l D cy ad S_22 (r_2 + 1) r_17) (cwV 2 hts g_X6_166 rfl rfl rfl kk_X6_layPile ⟨Nat.le_of_ble_eq_true rfl, Nat.le_of_ble_eq_true rfl⟩) (cs_recv hK hw (ci := 6) 0 rfl rfl) hw hK hS rfl hl.1 [] rfl (Nat.le_of_ble_eq_true rfl) dX6_settle_108 (fun S_25 H locs hq hw hS => ?_)
              replace hRes := cs_letE hq hRes
              clear hq
              refine lv_iinc (v := v1 + 1) (lv' := [(1, .int (v1 + 1)), (3, .int r_17), (2, .int r_2), (0, .ref (ad 0))]) hx hb dX6_settle_111 hl (k := 2) rfl rfl (by decide) rfl (fun ls hl => ?_)
              refine lv_goto (tgt := 2) hx hb dX6_settle_114 (by decide) ?_
              exact ih (v1 + 1) S_25 _ _ hw hS _ (lv_sub hl [0, 3] rfl) (cs_up hm.1 c_1) hRes
        · replace hRes := cs_F c_3 hRes
          exact cs_vret hF hr hlk hw hK hS dX6_settle_18 hRes
  exact lp cs_N 0 S _ _ hw hS _ (lv_sub hl [0, 1] rfl) (cs_up0 0) hRes
theorem kk_X6_settle : yX6_settle.cls = RX6 ∧ yX6_settle.cls ≠ "java/lang/invoke/MethodHandle" ∧ yX6_settle.cls ≠ "java/lang/invoke/VarHandle" ∧ (parseMethodDescriptor yX6_settle.desc).map (fun d => d.parameters.length) = some 0 := by decide +kernel
theorem g_X6_220 : GoodIn cs_WS (wsV RX6 220 RX1 yX1_value (cs_ws yX1_value cX1_value 2 (some .int))) := cs_goodV q_433 q_434 q_435 q_91 q_52
def m_X6_valueOf (S : cs_St) (a1 : Int32) : Int32 := (if a1 = 0 then (-1) else cs_let (m_X1_value S a1) (fun r_2 => r_2))
set_option maxHeartbeats 4000000 in
set_option maxRecDepth 100000 in
theorem c_X6_valueOf (l : Launch) (D : va_G) (cy : ClassId) (ad : Nat → Nat) (S : cs_St) (a1 : Int32) : Met l yX6_valueOf (cs_ws yX6_valueOf cX6_valueOf 2 (some .int)) (cs_rm 2 42) (cs_Pc D cy ad [.ref (ad 0), .int a1] S) (cs_Qi D cy ad (fun r S1 => r = m_X6_valueOf S a1 ∧ S1 = S)) 0 0 (cs_A ad) := by
  refine cs_of RX6 (by decide) rfl (Nat.le_of_ble_eq_true rfl) ?_
  intro p e s m below meth c hF hr hlk hw hK ls hl
  obtain ⟨hx, hb, hml, hown, hts⟩ := id hF
  have hS : va_S (cs_A ad) s.heap s.heap [] := va_S.rf
  have hl : lv_has ls 2 [(0, .ref (ad 0)), (1, .int a1)] := hl
  generalize hRes : m_X6_valueOf S a1 = Res
  unfold m_X6_valueOf at hRes
  refine lv_iload_n hx hb dX6_valueOf_0 rfl (lv_at hl 1 rfl) ?_
  refine lv_if_eq (tgt := 15) hx hb dX6_valueOf_1 (by decide) (fun c_1 => ?_) (fun c_1 => ?_)
  · replace hRes := cs_T c_1 hRes
    refine lv_iconst (v := -1) hx hb dX6_valueOf_15 (by decide) ?_
    exact cs_iret hF hr hlk hw hK hS dX6_valueOf_16 ⟨hRes, rfl⟩
  · replace hRes := cs_F c_1 hRes
    refine lv_aload_n hx hb dX6_valueOf_4 rfl (lv_at hl 0 rfl) ?_
    refine cs_get (C := RX6) (T := TX6) (N := 15) hF in_X6 hw hK 0 rfl rfl 11 (by decide) q_233 rfl dX6_valueOf_5 ?_
    refine lv_iload_n hx hb dX6_valueOf_8 rfl (lv_at hl 1 rfl) ?_
    refine cs_vir hF (c_X1_value l D cy ad S a1) (cwV 1 hts g_X6_220 rfl rfl rfl kk_X1_value ⟨Nat.le_of_ble_eq_true rfl, Nat.le_of_ble_eq_true rfl⟩) (cs_recv hK hw (ci := 1) 2 rfl rfl) hw hK hS rfl hl.1 [] rfl (Nat.le_of_ble_eq_true rfl) dX6_valueOf_9 (fun r_2 H locs hq hw hS => ?_)
    replace hRes := cs_letE hq hRes
    clear hq
    refine lv_goto (tgt := 16) hx hb dX6_valueOf_12 (by decide) ?_
    exact cs_iret hF hr hlk hw hK hS dX6_valueOf_16 ⟨hRes, rfl⟩
theorem kk_X6_valueOf : yX6_valueOf.cls = RX6 ∧ yX6_valueOf.cls ≠ "java/lang/invoke/MethodHandle" ∧ yX6_valueOf.cls ≠ "java/lang/invoke/VarHandle" ∧ (parseMethodDescriptor yX6_valueOf.desc).map (fun d => d.parameters.length) = some 1 := by decide +kernel
theorem g_X6_183 : GoodIn cs_WS (wsV RX6 183 RX1 yX1_newest (cs_ws yX1_newest cX1_newest 1 (some .int))) := cs_goodV q_398 q_105 q_106 q_91 q_46
theorem g_X6_243 : GoodIn cs_WS (wsV RX6 243 RX4 yX4_passes (cs_ws yX4_passes cX4_passes 5 (some .boolean))) := cs_goodV q_414 q_415 q_416 q_139 q_196
theorem g_X6_394 : GoodIn cs_WS (wsV RX6 394 RX4 yX4_find (cs_ws yX4_find cX4_find 4 (some .int))) := cs_goodV q_417 q_418 q_419 q_139 q_155
def m_X6_lookInRun (S : cs_St) (a1 : Int32) (a2 : Int32) (a3 : Int32) (j4 : Nat) : Int32 × cs_St := cs_let (m_X4_passes S a1 a2) (fun r_1 => (if r_1 = 0 then cs_let (m_X3_raise S j4 0 1) (fun S_10 => (0, S_10)) else cs_let (m_X3_raise S j4 1 1) (fun S_3 => cs_let (m_X1_newest S_3) (fun r_4 => cs_let (m_X4_find S_3 a1 a2 r_4) (fun r_5 => (if r_5 = 0 then cs_let (m_X3_raise S_3 j4 2 1) (fun S_8 => cs_let (m_X4_find S_8 a1 a2 a3) (fun r_9 => (r_9, S_8))) else cs_let (m_X4_find S_3 a1 a2 a3) (fun r_7 => (r_7, S_3))))))))
set_option maxHeartbeats 4000000 in
set_option maxRecDepth 100000 in
theorem c_X6_lookInRun (l : Launch) (D : va_G) (cy : ClassId) (ad : Nat → Nat) (S : cs_St) (a1 : Int32) (a2 : Int32) (a3 : Int32) (j4 : Nat) (hj4 : j4 < 19) (nj4 : j4 ≠ 13) : Met l yX6_lookInRun (cs_ws yX6_lookInRun cX6_lookInRun 5 (some .int)) (cs_rm 3 71) (cs_Pc D cy ad [.ref (ad 0), .int a1, .int a2, .int a3, .ref (ad (6 + 2 * j4))] S) (cs_Qi D cy ad (fun r S1 => r = (m_X6_lookInRun S a1 a2 a3 j4).1 ∧ S1 = (m_X6_lookInRun S a1 a2 a3 j4).2)) 0 0 (cs_A ad) := by
  refine cs_of RX6 (by decide) rfl (Nat.le_of_ble_eq_true rfl) ?_
  intro p e s m below meth c hF hr hlk hw hK ls hl
  obtain ⟨hx, hb, hml, hown, hts⟩ := id hF
  have hS : va_S (cs_A ad) s.heap s.heap [] := va_S.rf
  have hl : lv_has ls 5 [(0, .ref (ad 0)), (1, .int a1), (2, .int a2), (3, .int a3), (4, .ref (ad (6 + 2 * j4)))] := hl
  generalize hRes : m_X6_lookInRun S a1 a2 a3 j4 = Res
  unfold m_X6_lookInRun at hRes
  refine lv_aload_n hx hb dX6_lookInRun_0 rfl (lv_at hl 0 rfl) ?_
  refine cs_get (C := RX6) (T := TX6) (N := 15) hF in_X6 hw hK 0 rfl rfl 13 (by decide) q_237 rfl dX6_lookInRun_1 ?_
  refine lv_iload_n hx hb dX6_lookInRun_4 rfl (lv_at hl 1 rfl) ?_
  refine lv_iload_n hx hb dX6_lookInRun_5 rfl (lv_at hl 2 rfl) ?_
  refine cs_vir hF (c_X4_passes l D cy ad S a1 a2) (cwV 2 hts g_X6_243 rfl rfl rfl kk_X4_passes ⟨Nat.le_of_ble_eq_true rfl, Nat.le_of_ble_eq_true rfl⟩) (cs_recv hK hw (ci := 4) 4 rfl rfl) hw hK hS rfl hl.1 [] rfl (Nat.le_of_ble_eq_true rfl) dX6_lookInRun_6 (fun r_1 H locs hq hw hS => ?_)
  replace hRes := cs_letE hq hRes
  clear hq
  refine lv_if_ne (tgt := 21) hx hb dX6_lookInRun_9 (by decide) (fun c_2 => ?_) (fun c_2 => ?_)
  · replace hRes := cs_F c_2 hRes
    refine lv_aload hx hb dX6_lookInRun_21 (lv_at hl 4 rfl) ?_
    refine lv_iconst (v := 1) hx hb dX6_lookInRun_23 (by decide) ?_
    refine lv_iconst (v := 1) hx hb dX6_lookInRun_24 (by decide) ?_
    refine cs_vv hF (c_X3_raise l D cy ad S j4 1 1 hj4 (nj4)) (cwV 2 hts g_X6_163 rfl rfl rfl kk_X3_raise ⟨Nat.le_of_ble_eq_true rfl, Nat.le_of_ble_eq_true rfl⟩) (cs_recvR hK hw hj4) hw hK hS rfl hl.1 [] rfl (Nat.le_of_ble_eq_true rfl) dX6_lookInRun_25 (fun S_3 H locs hq hw hS => ?_)
    replace hRes := cs_letE hq hRes
    clear hq
    refine lv_aload_n hx hb dX6_lookInRun_28 rfl (lv_at hl 0 rfl) ?_
    refine cs_get (C := RX6) (T := TX6) (N := 15) hF in_X6 hw hK 0 rfl rfl 13 (by decide) q_237 rfl dX6_lookInRun_29 ?_
    refine lv_iload_n hx hb dX6_lookInRun_32 rfl (lv_at hl 1 rfl) ?_
    refine lv_iload_n hx hb dX6_lookInRun_33 rfl (lv_at hl 2 rfl) ?_
    refine lv_aload_n hx hb dX6_lookInRun_34 rfl (lv_at hl 0 rfl) ?_
    refine cs_get (C := RX6) (T := TX6) (N := 15) hF in_X6 hw hK 0 rfl rfl 11 (by decide) q_233 rfl dX6_lookInRun_35 ?_
    refine cs_vir hF (c_X1_newest l D cy ad S_3) (cwV 0 hts g_X6_183 rfl rfl rfl kk_X1_newest ⟨Nat.le_of_ble_eq_true rfl, Nat.le_of_ble_eq_true rfl⟩) (cs_recv hK hw (ci := 1) 2 rfl rfl) hw hK hS rfl hl.1 [.int a2, .int a1, .ref (ad 4)] rfl (Nat.le_of_ble_eq_true rfl) dX6_lookInRun_38 (fun r_4 H locs hq hw hS => ?_)
    replace hRes := cs_letE hq hRes
    clear hq
    refine cs_vir hF (c_X4_find l D cy ad S_3 a1 a2 r_4) (cwV 3 hts g_X6_394 rfl rfl rfl kk_X4_find ⟨Nat.le_of_ble_eq_true rfl, Nat.le_of_ble_eq_true rfl⟩) (cs_recv hK hw (ci := 4) 4 rfl rfl) hw hK hS rfl hl.1 [] rfl (Nat.le_of_ble_eq_true rfl) dX6_lookInRun_41 (fun r_5 H locs hq hw hS => ?_)
    replace hRes := cs_letE hq hRes
    clear hq
    refine lv_if_ne (tgt := 54) hx hb dX6_lookInRun_44 (by decide) (fun c_6 => ?_) (fun c_6 => ?_)
    · replace hRes := cs_F c_6 hRes
      refine lv_aload_n hx hb dX6_lookInRun_54 rfl (lv_at hl 0 rfl) ?_
      refine cs_get (C := RX6) (T := TX6) (N := 15) hF in_X6 hw hK 0 rfl rfl 13 (by decide) q_237 rfl dX6_lookInRun_55 ?_
      refine lv_iload_n hx hb dX6_lookInRun_58 rfl (lv_at hl 1 rfl) ?_
      refine lv_iload_n hx hb dX6_lookInRun_59 rfl (lv_at hl 2 rfl) ?_
      refine lv_iload_n hx hb dX6_lookInRun_60 rfl (lv_at hl 3 rfl) ?_
      refine cs_vir hF (c_X4_find l D cy ad S_3 a1 a2 a3) (cwV 3 hts g_X6_394 rfl rfl rfl kk_X4_find ⟨Nat.le_of_ble_eq_true rfl, Nat.le_of_ble_eq_true rfl⟩) (cs_recv hK hw (ci := 4) 4 rfl rfl) hw hK hS rfl hl.1 [] rfl (Nat.le_of_ble_eq_true rfl) dX6_lookInRun_61 (fun r_7 H locs hq hw hS => ?_)
      replace hRes := cs_letE hq hRes
      clear hq
      exact cs_iret hF hr hlk hw hK hS dX6_lookInRun_64 ⟨cs_eq1 hRes, cs_eq2 hRes⟩
    · replace hRes := cs_T c_6 hRes
      refine lv_aload hx hb dX6_lookInRun_47 (lv_at hl 4 rfl) ?_
      refine lv_iconst (v := 2) hx hb dX6_lookInRun_49 (by decide) ?_
      refine lv_iconst (v := 1) hx hb dX6_lookInRun_50 (by decide) ?_
      refine cs_vv hF (c_X3_raise l D cy ad S_3 j4 2 1 hj4 (nj4)) (cwV 2 hts g_X6_163 rfl rfl rfl kk_X3_raise ⟨Nat.le_of_ble_eq_true rfl, Nat.le_of_ble_eq_true rfl⟩) (cs_recvR hK hw hj4) hw hK hS rfl hl.1 [] rfl (Nat.le_of_ble_eq_true rfl) dX6_lookInRun_51 (fun S_8 H locs hq hw hS => ?_)
      replace hRes := cs_letE hq hRes
      clear hq
      refine lv_aload_n hx hb dX6_lookInRun_54 rfl (lv_at hl 0 rfl) ?_
      refine cs_get (C := RX6) (T := TX6) (N := 15) hF in_X6 hw hK 0 rfl rfl 13 (by decide) q_237 rfl dX6_lookInRun_55 ?_
      refine lv_iload_n hx hb dX6_lookInRun_58 rfl (lv_at hl 1 rfl) ?_
      refine lv_iload_n hx hb dX6_lookInRun_59 rfl (lv_at hl 2 rfl) ?_
      refine lv_iload_n hx hb dX6_lookInRun_60 rfl (lv_at hl 3 rfl) ?_
      refine cs_vir hF (c_X4_find l D cy ad S_8 a1 a2 a3) (cwV 3 hts g_X6_394 rfl rfl rfl kk_X4_find ⟨Nat.le_of_ble_eq_true rfl, Nat.le_of_ble_eq_true rfl⟩) (cs_recv hK hw (ci := 4) 4 rfl rfl) hw hK hS rfl hl.1 [] rfl (Nat.le_of_ble_eq_true rfl) dX6_lookInRun_61 (fun r_9 H locs hq hw hS => ?_)
      replace hRes := cs_letE hq hRes
      clear hq
      exact cs_iret hF hr hlk hw hK hS dX6_lookInRun_64 ⟨cs_eq1 hRes, cs_eq2 hRes⟩
  · replace hRes := cs_T c_2 hRes
    refine lv_aload hx hb dX6_lookInRun_12 (lv_at hl 4 rfl) ?_
    refine lv_iconst (v := 0) hx hb dX6_lookInRun_14 (by decide) ?_
    refine lv_iconst (v := 1) hx hb dX6_lookInRun_15 (by decide) ?_
    refine cs_vv hF (c_X3_raise l D cy ad S j4 0 1 hj4 (nj4)) (cwV 2 hts g_X6_163 rfl rfl rfl kk_X3_raise ⟨Nat.le_of_ble_eq_true rfl, Nat.le_of_ble_eq_true rfl⟩) (cs_recvR hK hw hj4) hw hK hS rfl hl.1 [] rfl (Nat.le_of_ble_eq_true rfl) dX6_lookInRun_16 (fun S_10 H locs hq hw hS => ?_)
    replace hRes := cs_letE hq hRes
    clear hq
    refine lv_iconst (v := 0) hx hb dX6_lookInRun_19 (by decide) ?_
    exact cs_iret hF hr hlk hw hK hS dX6_lookInRun_20 ⟨cs_eq1 hRes, cs_eq2 hRes⟩
theorem kk_X6_lookInRun : yX6_lookInRun.cls = RX6 ∧ yX6_lookInRun.cls ≠ "java/lang/invoke/MethodHandle" ∧ yX6_lookInRun.cls ≠ "java/lang/invoke/VarHandle" ∧ (parseMethodDescriptor yX6_lookInRun.desc).map (fun d => d.parameters.length) = some 4 := by decide +kernel
theorem g_X6_387 : GoodIn cs_WS (wsV RX6 387 RX4 yX4_spans (cs_ws yX4_spans cX4_spans 3 (some .boolean))) := cs_goodV q_421 q_422 q_423 q_139 q_148
theorem g_X6_390 : GoodIn cs_WS (wsV RX6 390 RX6 yX6_lookInRun (cs_ws yX6_lookInRun cX6_lookInRun 5 (some .int))) := cs_goodV q_424 q_425 q_426 q_299 q_413
def m_X6_lookInRuns_L3 (j3 : Nat) (u1 : Int32) (u2 : Int32) : Nat → Int32 → cs_St → Int32 × cs_St
  | 0, _, S => (0, S)
  | n + 1, v4, S => cs_let (m_X4_total S) (fun r_1 => (if r_1 ≤ v4 then (0, S) else cs_let (m_X4_spans S v4 u1) (fun r_3 => (if r_3 = 0 then m_X6_lookInRuns_L3 j3 u1 u2 n (v4 + 1) S else cs_let (m_X6_lookInRun S v4 u1 u2 j3).1 (fun r_7 => cs_let (m_X6_lookInRun S v4 u1 u2 j3).2 (fun S_6 => (if r_7 = 0 then m_X6_lookInRuns_L3 j3 u1 u2 n (v4 + 1) S_6 else (r_7, S_6))))))))
theorem m_X6_lookInRuns_L3_s {j3 : Nat} {u1 : Int32} {u2 : Int32} {n : Nat} {v4 : Int32} {S : cs_St} : m_X6_lookInRuns_L3 j3 u1 u2 (n + 1) v4 S = cs_let (m_X4_total S) (fun r_1 => (if r_1 ≤ v4 then (0, S) else cs_let (m_X4_spans S v4 u1) (fun r_3 => (if r_3 = 0 then m_X6_lookInRuns_L3 j3 u1 u2 n (v4 + 1) S else cs_let (m_X6_lookInRun S v4 u1 u2 j3).1 (fun r_7 => cs_let (m_X6_lookInRun S v4 u1 u2 j3).2 (fun S_6 => (if r_7 = 0 then m_X6_lookInRuns_L3 j3 u1 u2 n (v4 + 1) S_6 else (r_7, S_6)))))))) := rfl
def m_X6_lookInRuns (S : cs_St) (a1 : Int32) (a2 : Int32) (j3 : Nat) : Int32 × cs_St := m_X6_lookInRuns_L3 j3 a1 a2 cs_N 0 S
set_option maxHeartbeats 4000000 in
set_option maxRecDepth 100000 in
theorem c_X6_lookInRuns (l : Launch) (D : va_G) (cy : ClassId) (ad : Nat → Nat) (S : cs_St) (a1 : Int32) (a2 : Int32) (j3 : Nat) (hj3 : j3 < 19) (nj3 : j3 ≠ 13) : Met l yX6_lookInRuns (cs_ws yX6_lookInRuns cX6_lookInRuns 6 (some .int)) (cs_rm 4 95) (cs_Pc D cy ad [.ref (ad 0), .int a1, .int a2, .ref (ad (6 + 2 * j3))] S) (cs_Qi D cy ad (fun r S1 => r = (m_X6_lookInRuns S a1 a2 j3).1 ∧ S1 = (m_X6_lookInRuns S a1 a2 j3).2)) 0 0 (cs_A ad) := by
  refine cs_of RX6 (by decide) rfl (Nat.le_of_ble_eq_true rfl) ?_
  intro p e s m below meth c hF hr hlk hw hK ls hl
  obtain ⟨hx, hb, hml, hown, hts⟩ := id hF
  have hS : va_S (cs_A ad) s.heap s.heap [] := va_S.rf
  have hl : lv_has ls 6 [(0, .ref (ad 0)), (1, .int a1), (2, .int a2), (3, .ref (ad (6 + 2 * j3)))] := hl
  generalize hRes : m_X6_lookInRuns S a1 a2 j3 = Res
  unfold m_X6_lookInRuns at hRes
  refine lv_iconst (v := 0) hx hb dX6_lookInRuns_0 (by decide) ?_
  refine lv_istore (lv' := [(4, .int 0), (0, .ref (ad 0)), (1, .int a1), (2, .int a2), (3, .ref (ad (6 + 2 * j3)))]) hx hb dX6_lookInRuns_1 hl (by decide) rfl (fun ls hl => ?_)
  -- the loop at 3
  have lp : ∀ (n : Nat) (v4 : Int32) (S : cs_St) (H : Heap) (locs : List Loc), cs_w D cy ad S H → va_S (cs_A ad) s.heap H locs → ∀ (ls : Array Slot), lv_has ls 6 [(4, .int v4), (0, .ref (ad 0)), (1, .int a1), (2, .int a2), (3, .ref (ad (6 + 2 * j3)))] → (2147483647 - v4.toInt < (n : Int) ∧ 0 < n) → m_X6_lookInRuns_L3 j3 a1 a2 n v4 S = Res → W p l e (cs_rm 4 95) s m ([.ref (ad 0), .int a1, .int a2, .ref (ad (6 + 2 * j3))]).toArray below meth c H locs 0 0 (MQ below (cs_Qi D cy ad (fun r S1 => r = Res.1 ∧ S1 = Res.2)) ([.ref (ad 0), .int a1, .int a2, .ref (ad (6 + 2 * j3))]).toArray s 0 0 (cs_A ad)) (F0 m 3 ls []) := by
    intro n
    induction n with
    | zero => intro v4 S H locs hw hS ls hl hm; exact absurd hm.2 (Nat.lt_irrefl 0)
    | succ n ih =>
      intro v4 S H locs hw hS ls hl hm hRes
      replace hRes := m_X6_lookInRuns_L3_s.symm.trans hRes
      refine lv_iload hx hb dX6_lookInRuns_3 (lv_at hl 0 rfl) ?_
      refine lv_aload_n hx hb dX6_lookInRuns_5 rfl (lv_at hl 1 rfl) ?_
      refine cs_get (C := RX6) (T := TX6) (N := 15) hF in_X6 hw hK 0 rfl rfl 13 (by decide) q_237 rfl dX6_lookInRuns_6 ?_
      refine cs_vir hF (c_X4_total l D cy ad S) (cwV 0 hts g_X6_102 rfl rfl rfl kk_X4_total ⟨Nat.le_of_ble_eq_true rfl, Nat.le_of_ble_eq_true rfl⟩) (cs_recv hK hw (ci := 4) 4 rfl rfl) hw hK hS rfl hl.1 [.int v4] rfl (Nat.le_of_ble_eq_true rfl) dX6_lookInRuns_9 (fun r_1 H locs hq hw hS => ?_)
      replace hRes := cs_letE hq hRes
      clear hq
      refine lv_icmp_ge (tgt := 57) hx hb dX6_lookInRuns_12 (by decide) (fun c_2 => ?_) (fun c_2 => ?_)
      · replace hRes := cs_T c_2 hRes
        refine lv_iconst (v := 0) hx hb dX6_lookInRuns_57 (by decide) ?_
        exact cs_iret hF hr hlk hw hK hS dX6_lookInRuns_58 ⟨cs_eq1 hRes, cs_eq2 hRes⟩
      · replace hRes := cs_F c_2 hRes
        refine lv_aload_n hx hb dX6_lookInRuns_15 rfl (lv_at hl 1 rfl) ?_
        refine cs_get (C := RX6) (T := TX6) (N := 15) hF in_X6 hw hK 0 rfl rfl 13 (by decide) q_237 rfl dX6_lookInRuns_16 ?_
        refine lv_iload hx hb dX6_lookInRuns_19 (lv_at hl 0 rfl) ?_
        refine lv_iload_n hx hb dX6_lookInRuns_21 rfl (lv_at hl 2 rfl) ?_
        refine cs_vir hF (c_X4_spans l D cy ad S v4 a1) (cwV 2 hts g_X6_387 rfl rfl rfl kk_X4_spans ⟨Nat.le_of_ble_eq_true rfl, Nat.le_of_ble_eq_true rfl⟩) (cs_recv hK hw (ci := 4) 4 rfl rfl) hw hK hS rfl hl.1 [] rfl (Nat.le_of_ble_eq_true rfl) dX6_lookInRuns_22 (fun r_3 H locs hq hw hS => ?_)
        replace hRes := cs_letE hq hRes
        clear hq
        refine lv_if_eq (tgt := 40) hx hb dX6_lookInRuns_25 (by decide) (fun c_4 => ?_) (fun c_4 => ?_)
        · replace hRes := cs_T c_4 hRes
          refine lv_iconst (v := 0) hx hb dX6_lookInRuns_40 (by decide) ?_
          refine lv_istore (lv' := [(5, .int 0), (4, .int v4), (0, .ref (ad 0)), (1, .int a1), (2, .int a2), (3, .ref (ad (6 + 2 * j3)))]) hx hb dX6_lookInRuns_41 hl (by decide) rfl (fun ls hl => ?_)
          refine lv_iload hx hb dX6_lookInRuns_43 (lv_at hl 0 rfl) ?_
          refine lv_if_eq (tgt := 51) hx hb dX6_lookInRuns_45 (by decide) (fun c_5 => ?_) (fun c_5 => False.elim (by revert c_5; decide))
          refine lv_iinc (v := v4 + 1) (lv' := [(4, .int (v4 + 1)), (5, .int 0), (0, .ref (ad 0)), (1, .int a1), (2, .int a2), (3, .ref (ad (6 + 2 * j3)))]) hx hb dX6_lookInRuns_51 hl (k := 1) rfl rfl (by decide) rfl (fun ls hl => ?_)
          refine lv_goto (tgt := 3) hx hb dX6_lookInRuns_54 (by decide) ?_
          exact ih (v4 + 1) S _ _ hw hS _ (lv_sub hl [0, 2, 3, 4, 5] rfl) (cs_up hm.1 c_2) hRes
        · replace hRes := cs_F c_4 hRes
          refine lv_aload_n hx hb dX6_lookInRuns_28 rfl (lv_at hl 1 rfl) ?_
          refine lv_iload hx hb dX6_lookInRuns_29 (lv_at hl 0 rfl) ?_
          refine lv_iload_n hx hb dX6_lookInRuns_31 rfl (lv_at hl 2 rfl) ?_
          refine lv_iload_n hx hb dX6_lookInRuns_32 rfl (lv_at hl 3 rfl) ?_
          refine lv_aload_n hx hb dX6_lookInRuns_33 rfl (lv_at hl 4 rfl) ?_
          refine cs_vi hF (c_X6_lookInRun l D cy ad S v4 a1 a2 j3 hj3 (nj3)) (cwV 4 hts g_X6_390 rfl rfl rfl kk_X6_lookInRun ⟨Nat.le_of_ble_eq_true rfl, Nat.le_of_ble_eq_true rfl⟩) (cs_recv hK hw (ci := 6) 0 rfl rfl) hw hK hS rfl hl.1 [] rfl (Nat.le_of_ble_eq_true rfl) dX6_lookInRuns_34 (fun r_7 S_6 H locs hq hq2 hw hS => ?_)
          replace hRes := cs_letE hq hRes
          replace hRes := cs_letE hq2 hRes
          clear hq hq2
          refine lv_goto (tgt := 41) hx hb dX6_lookInRuns_37 (by decide) ?_
          refine lv_istore (lv' := [(5, .int r_7), (4, .int v4), (0, .ref (ad 0)), (1, .int a1), (2, .int a2), (3, .ref (ad (6 + 2 * j3)))]) hx hb dX6_lookInRuns_41 hl (by decide) rfl (fun ls hl => ?_)
          refine lv_iload hx hb dX6_lookInRuns_43 (lv_at hl 0 rfl) ?_
          refine lv_if_eq (tgt := 51) hx hb dX6_lookInRuns_45 (by decide) (fun c_8 => ?_) (fun c_8 => ?_)
          · replace hRes := cs_T c_8 hRes
            refine lv_iinc (v := v4 + 1) (lv' := [(4, .int (v4 + 1)), (5, .int r_7), (0, .ref (ad 0)), (1, .int a1), (2, .int a2), (3, .ref (ad (6 + 2 * j3)))]) hx hb dX6_lookInRuns_51 hl (k := 1) rfl rfl (by decide) rfl (fun ls hl => ?_)
            refine lv_goto (tgt := 3) hx hb dX6_lookInRuns_54 (by decide) ?_
            exact ih (v4 + 1) S_6 _ _ hw hS _ (lv_sub hl [0, 2, 3, 4, 5] rfl) (cs_up hm.1 c_2) hRes
          · replace hRes := cs_F c_8 hRes
            refine lv_iload hx hb dX6_lookInRuns_48 (lv_at hl 0 rfl) ?_
            exact cs_iret hF hr hlk hw hK hS dX6_lookInRuns_50 ⟨cs_eq1 hRes, cs_eq2 hRes⟩
  exact lp cs_N 0 S _ _ hw hS _ (lv_sub hl [0, 1, 2, 3, 4] rfl) (cs_up0 0) hRes
theorem kk_X6_lookInRuns : yX6_lookInRuns.cls = RX6 ∧ yX6_lookInRuns.cls ≠ "java/lang/invoke/MethodHandle" ∧ yX6_lookInRuns.cls ≠ "java/lang/invoke/VarHandle" ∧ (parseMethodDescriptor yX6_lookInRuns.desc).map (fun d => d.parameters.length) = some 3 := by decide +kernel
theorem g_X6_262 : GoodIn cs_WS (wsV RX6 262 RX6 yX6_lookInRuns (cs_ws yX6_lookInRuns cX6_lookInRuns 6 (some .int))) := cs_goodV q_429 q_430 q_431 q_299 q_420
theorem g_X6_383 : GoodIn cs_WS (wsV RX6 383 RX1 yX1_find (cs_ws yX1_find cX1_find 8 (some .int))) := cs_goodV q_428 q_108 q_109 q_91 q_63
def m_X6_lookUp (S : cs_St) (a1 : Int32) (a2 : Int32) (j3 : Nat) : Int32 × cs_St := cs_let (m_X3_length S 3) (fun r_1 => cs_let (m_X1_find S 3 0 r_1 a1 a2) (fun r_2 => (if r_2 = 0 then cs_let (m_X6_lookInRuns S a1 a2 j3).1 (fun r_5 => cs_let (m_X6_lookInRuns S a1 a2 j3).2 (fun S_4 => (r_5, S_4))) else (r_2, S))))
set_option maxHeartbeats 4000000 in
set_option maxRecDepth 100000 in
theorem c_X6_lookUp (l : Launch) (D : va_G) (cy : ClassId) (ad : Nat → Nat) (S : cs_St) (a1 : Int32) (a2 : Int32) (j3 : Nat) (hj3 : j3 < 19) (nj3 : j3 ≠ 13) : Met l yX6_lookUp (cs_ws yX6_lookUp cX6_lookUp 5 (some .int)) (cs_rm 5 120) (cs_Pc D cy ad [.ref (ad 0), .int a1, .int a2, .ref (ad (6 + 2 * j3))] S) (cs_Qi D cy ad (fun r S1 => r = (m_X6_lookUp S a1 a2 j3).1 ∧ S1 = (m_X6_lookUp S a1 a2 j3).2)) 0 0 (cs_A ad) := by
  refine cs_of RX6 (by decide) rfl (Nat.le_of_ble_eq_true rfl) ?_
  intro p e s m below meth c hF hr hlk hw hK ls hl
  obtain ⟨hx, hb, hml, hown, hts⟩ := id hF
  have hS : va_S (cs_A ad) s.heap s.heap [] := va_S.rf
  have hl : lv_has ls 5 [(0, .ref (ad 0)), (1, .int a1), (2, .int a2), (3, .ref (ad (6 + 2 * j3)))] := hl
  generalize hRes : m_X6_lookUp S a1 a2 j3 = Res
  unfold m_X6_lookUp at hRes
  refine lv_aload_n hx hb dX6_lookUp_0 rfl (lv_at hl 0 rfl) ?_
  refine cs_get (C := RX6) (T := TX6) (N := 15) hF in_X6 hw hK 0 rfl rfl 11 (by decide) q_233 rfl dX6_lookUp_1 ?_
  refine lv_aload_n hx hb dX6_lookUp_4 rfl (lv_at hl 0 rfl) ?_
  refine cs_get (C := RX6) (T := TX6) (N := 15) hF in_X6 hw hK 0 rfl rfl 10 (by decide) q_228 rfl dX6_lookUp_5 ?_
  refine cs_getN (C := RX0) (T := TX0) (N := 3) hF in_X0 hw hK 1 rfl rfl 0 (by decide) (List.mem_of_getElem? (i := 0) rfl) rfl dX6_lookUp_8 ?_
  refine lv_iconst (v := 0) hx hb dX6_lookUp_11 (by decide) ?_
  refine lv_aload_n hx hb dX6_lookUp_12 rfl (lv_at hl 0 rfl) ?_
  refine cs_get (C := RX6) (T := TX6) (N := 15) hF in_X6 hw hK 0 rfl rfl 10 (by decide) q_228 rfl dX6_lookUp_13 ?_
  refine cs_getN (C := RX0) (T := TX0) (N := 3) hF in_X0 hw hK 1 rfl rfl 0 (by decide) (List.mem_of_getElem? (i := 0) rfl) rfl dX6_lookUp_16 ?_
  refine cs_vir hF (c_X3_length l D cy ad S 3 (by decide)) (cwV 0 hts g_X6_137 rfl rfl rfl kk_X3_length ⟨Nat.le_of_ble_eq_true rfl, Nat.le_of_ble_eq_true rfl⟩) (cs_recvR hK hw (by decide)) hw hK hS rfl hl.1 [.int 0, .ref (ad 12), .ref (ad 2)] rfl (Nat.le_of_ble_eq_true rfl) dX6_lookUp_19 (fun r_1 H locs hq hw hS => ?_)
  replace hRes := cs_letE hq hRes
  clear hq
  refine lv_iload_n hx hb dX6_lookUp_22 rfl (lv_at hl 1 rfl) ?_
  refine lv_iload_n hx hb dX6_lookUp_23 rfl (lv_at hl 2 rfl) ?_
  refine cs_vir hF (c_X1_find l D cy ad S 3 0 r_1 a1 a2 (by decide)) (cwV 5 hts g_X6_383 rfl rfl rfl kk_X1_find ⟨Nat.le_of_ble_eq_true rfl, Nat.le_of_ble_eq_true rfl⟩) (cs_recv hK hw (ci := 1) 2 rfl rfl) hw hK hS rfl hl.1 [] rfl (Nat.le_of_ble_eq_true rfl) dX6_lookUp_24 (fun r_2 H locs hq hw hS => ?_)
  replace hRes := cs_letE hq hRes
  clear hq
  refine lv_istore (lv' := [(4, .int r_2), (0, .ref (ad 0)), (1, .int a1), (2, .int a2), (3, .ref (ad (6 + 2 * j3)))]) hx hb dX6_lookUp_27 hl (by decide) rfl (fun ls hl => ?_)
  refine lv_iload hx hb dX6_lookUp_29 (lv_at hl 0 rfl) ?_
  refine lv_if_eq (tgt := 39) hx hb dX6_lookUp_31 (by decide) (fun c_3 => ?_) (fun c_3 => ?_)
  · replace hRes := cs_T c_3 hRes
    refine lv_aload_n hx hb dX6_lookUp_39 rfl (lv_at hl 1 rfl) ?_
    refine lv_iload_n hx hb dX6_lookUp_40 rfl (lv_at hl 2 rfl) ?_
    refine lv_iload_n hx hb dX6_lookUp_41 rfl (lv_at hl 3 rfl) ?_
    refine lv_aload_n hx hb dX6_lookUp_42 rfl (lv_at hl 4 rfl) ?_
    refine cs_vi hF (c_X6_lookInRuns l D cy ad S a1 a2 j3 hj3 (nj3)) (cwV 3 hts g_X6_262 rfl rfl rfl kk_X6_lookInRuns ⟨Nat.le_of_ble_eq_true rfl, Nat.le_of_ble_eq_true rfl⟩) (cs_recv hK hw (ci := 6) 0 rfl rfl) hw hK hS rfl hl.1 [] rfl (Nat.le_of_ble_eq_true rfl) dX6_lookUp_43 (fun r_5 S_4 H locs hq hq2 hw hS => ?_)
    replace hRes := cs_letE hq hRes
    replace hRes := cs_letE hq2 hRes
    clear hq hq2
    exact cs_iret hF hr hlk hw hK hS dX6_lookUp_46 ⟨cs_eq1 hRes, cs_eq2 hRes⟩
  · replace hRes := cs_F c_3 hRes
    refine lv_iload hx hb dX6_lookUp_34 (lv_at hl 0 rfl) ?_
    refine lv_goto (tgt := 46) hx hb dX6_lookUp_36 (by decide) ?_
    exact cs_iret hF hr hlk hw hK hS dX6_lookUp_46 ⟨cs_eq1 hRes, cs_eq2 hRes⟩
theorem kk_X6_lookUp : yX6_lookUp.cls = RX6 ∧ yX6_lookUp.cls ≠ "java/lang/invoke/MethodHandle" ∧ yX6_lookUp.cls ≠ "java/lang/invoke/VarHandle" ∧ (parseMethodDescriptor yX6_lookUp.desc).map (fun d => d.parameters.length) = some 3 := by decide +kernel
