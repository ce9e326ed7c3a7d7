theorem g_X0_23 : GoodIn cs_WS (wsV RX0 23 RX3 yX3_length (cs_ws yX3_length cX3_length 1 (some .int))) := cs_goodV q_19 q_20 q_21 q_10 q_15
def m_X0_unsafeWrites (S : cs_St) : Int32 := cs_let (m_X3_length S 4) (fun r_1 => (r_1 - (S.2 7)))
set_option maxHeartbeats 4000000 in
set_option maxRecDepth 100000 in
theorem c_X0_unsafeWrites (l : Launch) (D : va_G) (cy : ClassId) (ad : Nat → Nat) (S : cs_St) : Met l yX0_unsafeWrites (cs_ws yX0_unsafeWrites cX0_unsafeWrites 1 (some .int)) (cs_rm 1 20) (cs_Pc D cy ad [.ref (ad 1)] S) (cs_Qi D cy ad (fun r S1 => r = m_X0_unsafeWrites S ∧ S1 = S)) 0 0 (cs_A ad) := by
  refine cs_of RX0 (by decide) rfl (Nat.le_of_ble_eq_true rfl) ?_
  intro p e s m below meth c hF hr hlk hw hK ls hl
  obtain ⟨hx, hb, hml, hown, hts⟩ := id hF
  have hS : va_S (cs_A ad) s.heap s.heap [] := va_S.rf
  have hl : lv_has ls 1 [(0, .ref (ad 1))] := hl
  generalize hRes : m_X0_unsafeWrites S = Res
  unfold m_X0_unsafeWrites at hRes
  refine lv_aload_n hx hb dX0_unsafeWrites_0 rfl (lv_at hl 0 rfl) ?_
  refine cs_get (C := RX0) (T := TX0) (N := 3) hF in_X0 hw hK 1 rfl rfl 1 (by decide) q_12 rfl dX0_unsafeWrites_1 ?_
  refine cs_vir hF (c_X3_length l D cy ad S 4 (by decide)) (cwV 0 hts g_X0_23 rfl rfl rfl kk_X3_length ⟨Nat.le_of_ble_eq_true rfl, Nat.le_of_ble_eq_true rfl⟩) (cs_recvR hK hw (by decide)) hw hK hS rfl hl.1 [] rfl (Nat.le_of_ble_eq_true rfl) dX0_unsafeWrites_4 (fun r_1 H locs hq hw hS => ?_)
  replace hRes := cs_letE hq hRes
  clear hq
  refine lv_aload_n hx hb dX0_unsafeWrites_7 rfl (lv_at hl 0 rfl) ?_
  refine cs_get (C := RX0) (T := TX0) (N := 3) hF in_X0 hw hK 1 rfl rfl 2 (by decide) q_18 rfl dX0_unsafeWrites_8 ?_
  refine lv_isub hx hb dX0_unsafeWrites_11 ?_
  exact cs_iret hF hr hlk hw hK hS dX0_unsafeWrites_12 ⟨hRes, rfl⟩
theorem kk_X0_unsafeWrites : yX0_unsafeWrites.cls = RX0 ∧ yX0_unsafeWrites.cls ≠ "java/lang/invoke/MethodHandle" ∧ yX0_unsafeWrites.cls ≠ "java/lang/invoke/VarHandle" ∧ (parseMethodDescriptor yX0_unsafeWrites.desc).map (fun d => d.parameters.length) = some 0 := by decide +kernel
def m_X0_makeSafe (S : cs_St) : cs_St := cs_let (m_X3_length S 4) (fun r_1 => cs_let (cs_sS S 7 r_1) (fun S_2 => S_2))
set_option maxHeartbeats 4000000 in
set_option maxRecDepth 100000 in
theorem c_X0_makeSafe (l : Launch) (D : va_G) (cy : ClassId) (ad : Nat → Nat) (S : cs_St) : Met l yX0_makeSafe (cs_ws yX0_makeSafe cX0_makeSafe 1 none) (cs_rm 1 20) (cs_Pc D cy ad [.ref (ad 1)] S) (cs_Qv D cy ad (fun S1 => S1 = m_X0_makeSafe S)) 0 0 (cs_A ad) := by
  refine cs_of RX0 (by decide) rfl (Nat.le_of_ble_eq_true rfl) ?_
  intro p e s m below meth c hF hr hlk hw hK ls hl
  obtain ⟨hx, hb, hml, hown, hts⟩ := id hF
  have hS : va_S (cs_A ad) s.heap s.heap [] := va_S.rf
  have hl : lv_has ls 1 [(0, .ref (ad 1))] := hl
  generalize hRes : m_X0_makeSafe S = Res
  unfold m_X0_makeSafe at hRes
  refine lv_aload_n hx hb dX0_makeSafe_0 rfl (lv_at hl 0 rfl) ?_
  refine lv_aload_n hx hb dX0_makeSafe_1 rfl (lv_at hl 0 rfl) ?_
  refine cs_get (C := RX0) (T := TX0) (N := 3) hF in_X0 hw hK 1 rfl rfl 1 (by decide) q_12 rfl dX0_makeSafe_2 ?_
  refine cs_vir hF (c_X3_length l D cy ad S 4 (by decide)) (cwV 0 hts g_X0_23 rfl rfl rfl kk_X3_length ⟨Nat.le_of_ble_eq_true rfl, Nat.le_of_ble_eq_true rfl⟩) (cs_recvR hK hw (by decide)) hw hK hS rfl hl.1 [.ref (ad 1)] rfl (Nat.le_of_ble_eq_true rfl) dX0_makeSafe_5 (fun r_1 H locs hq hw hS => ?_)
  replace hRes := cs_letE hq hRes
  clear hq
  refine cs_put (C := RX0) (T := TX0) (N := 3) hF in_X0 tyX0 tyX0_ok nmX0 hw hK hS 1 rfl rfl 2 (by decide) q_18 rfl (by decide +kernel) (Nat.le_of_ble_eq_true rfl) (cs_sS S 7 r_1) rfl (cs_sS_ok hw.1 (fun h => absurd h (by decide))) dX0_makeSafe_8 (fun H locs hw hS => ?_)
  obtain ⟨S_2, hq⟩ : ∃ z, z = cs_sS S 7 r_1 := ⟨_, rfl⟩
  rw [← hq] at hw
  replace hRes := cs_letE hq hRes
  clear hq
  exact cs_vret hF hr hlk hw hK hS dX0_makeSafe_11 hRes
theorem kk_X0_makeSafe : yX0_makeSafe.cls = RX0 ∧ yX0_makeSafe.cls ≠ "java/lang/invoke/MethodHandle" ∧ yX0_makeSafe.cls ≠ "java/lang/invoke/VarHandle" ∧ (parseMethodDescriptor yX0_makeSafe.desc).map (fun d => d.parameters.length) = some 0 := by decide +kernel
theorem g_X0_31 : GoodIn cs_WS (wsV RX0 31 RX3 yX3_cut (cs_ws yX3_cut cX3_cut 3 none)) := cs_goodV q_29 q_30 q_31 q_10 q_23
def m_X0_loseUnsafe (S : cs_St) : cs_St := cs_let (m_X3_length S 4) (fun r_1 => cs_let (m_X3_cut S 4 (S.2 7) r_1) (fun S_2 => S_2))
set_option maxHeartbeats 4000000 in
set_option maxRecDepth 100000 in
theorem c_X0_loseUnsafe (l : Launch) (D : va_G) (cy : ClassId) (ad : Nat → Nat) (S : cs_St) : Met l yX0_loseUnsafe (cs_ws yX0_loseUnsafe cX0_loseUnsafe 1 none) (cs_rm 2 82) (cs_Pc D cy ad [.ref (ad 1)] S) (cs_Qv D cy ad (fun S1 => S1 = m_X0_loseUnsafe S)) 0 0 (cs_A ad) := by
  refine cs_of RX0 (by decide) rfl (Nat.le_of_ble_eq_true rfl) ?_
  intro p e s m below meth c hF hr hlk hw hK ls hl
  obtain ⟨hx, hb, hml, hown, hts⟩ := id hF
  have hS : va_S (cs_A ad) s.heap s.heap [] := va_S.rf
  have hl : lv_has ls 1 [(0, .ref (ad 1))] := hl
  generalize hRes : m_X0_loseUnsafe S = Res
  unfold m_X0_loseUnsafe at hRes
  refine lv_aload_n hx hb dX0_loseUnsafe_0 rfl (lv_at hl 0 rfl) ?_
  refine cs_get (C := RX0) (T := TX0) (N := 3) hF in_X0 hw hK 1 rfl rfl 1 (by decide) q_12 rfl dX0_loseUnsafe_1 ?_
  refine lv_aload_n hx hb dX0_loseUnsafe_4 rfl (lv_at hl 0 rfl) ?_
  refine cs_get (C := RX0) (T := TX0) (N := 3) hF in_X0 hw hK 1 rfl rfl 2 (by decide) q_18 rfl dX0_loseUnsafe_5 ?_
  refine lv_aload_n hx hb dX0_loseUnsafe_8 rfl (lv_at hl 0 rfl) ?_
  refine cs_get (C := RX0) (T := TX0) (N := 3) hF in_X0 hw hK 1 rfl rfl 1 (by decide) q_12 rfl dX0_loseUnsafe_9 ?_
  refine cs_vir hF (c_X3_length l D cy ad S 4 (by decide)) (cwV 0 hts g_X0_23 rfl rfl rfl kk_X3_length ⟨Nat.le_of_ble_eq_true rfl, Nat.le_of_ble_eq_true rfl⟩) (cs_recvR hK hw (by decide)) hw hK hS rfl hl.1 [.int (S.2 7), .ref (ad 14)] rfl (Nat.le_of_ble_eq_true rfl) dX0_loseUnsafe_12 (fun r_1 H locs hq hw hS => ?_)
  replace hRes := cs_letE hq hRes
  clear hq
  refine cs_vv hF (c_X3_cut l D cy ad S 4 (S.2 7) r_1 (by decide)) (cwV 2 hts g_X0_31 rfl rfl rfl kk_X3_cut ⟨Nat.le_of_ble_eq_true rfl, Nat.le_of_ble_eq_true rfl⟩) (cs_recvR hK hw (by decide)) hw hK hS rfl hl.1 [] rfl (Nat.le_of_ble_eq_true rfl) dX0_loseUnsafe_15 (fun S_2 H locs hq hw hS => ?_)
  replace hRes := cs_letE hq hRes
  clear hq
  exact cs_vret hF hr hlk hw hK hS dX0_loseUnsafe_18 hRes
theorem kk_X0_loseUnsafe : yX0_loseUnsafe.cls = RX0 ∧ yX0_loseUnsafe.cls ≠ "java/lang/invoke/MethodHandle" ∧ yX0_loseUnsafe.cls ≠ "java/lang/invoke/VarHandle" ∧ (parseMethodDescriptor yX0_loseUnsafe.desc).map (fun d => d.parameters.length) = some 0 := by decide +kernel
theorem g_X0_35 : GoodIn cs_WS (wsV RX0 35 RX3 yX3_empty (cs_ws yX3_empty cX3_empty 1 none)) := cs_goodV q_34 q_35 q_36 q_10 q_32
def m_X0_empty (S : cs_St) : cs_St := cs_let (m_X3_empty S 3) (fun S_1 => cs_let (m_X3_empty S_1 4) (fun S_2 => cs_let (cs_sS S_2 7 0) (fun S_3 => S_3)))
set_option maxHeartbeats 4000000 in
set_option maxRecDepth 100000 in
theorem c_X0_empty (l : Launch) (D : va_G) (cy : ClassId) (ad : Nat → Nat) (S : cs_St) : Met l yX0_empty (cs_ws yX0_empty cX0_empty 1 none) (cs_rm 1 20) (cs_Pc D cy ad [.ref (ad 1)] S) (cs_Qv D cy ad (fun S1 => S1 = m_X0_empty S)) 0 0 (cs_A ad) := by
  refine cs_of RX0 (by decide) rfl (Nat.le_of_ble_eq_true rfl) ?_
  intro p e s m below meth c hF hr hlk hw hK ls hl
  obtain ⟨hx, hb, hml, hown, hts⟩ := id hF
  have hS : va_S (cs_A ad) s.heap s.heap [] := va_S.rf
  have hl : lv_has ls 1 [(0, .ref (ad 1))] := hl
  generalize hRes : m_X0_empty S = Res
  unfold m_X0_empty at hRes
  refine lv_aload_n hx hb dX0_empty_0 rfl (lv_at hl 0 rfl) ?_
  refine cs_get (C := RX0) (T := TX0) (N := 3) hF in_X0 hw hK 1 rfl rfl 0 (by decide) q_11 rfl dX0_empty_1 ?_
  refine cs_vv hF (c_X3_empty l D cy ad S 3 (by decide)) (cwV 0 hts g_X0_35 rfl rfl rfl kk_X3_empty ⟨Nat.le_of_ble_eq_true rfl, Nat.le_of_ble_eq_true rfl⟩) (cs_recvR hK hw (by decide)) hw hK hS rfl hl.1 [] rfl (Nat.le_of_ble_eq_true rfl) dX0_empty_4 (fun S_1 H locs hq hw hS => ?_)
  replace hRes := cs_letE hq hRes
  clear hq
  refine lv_aload_n hx hb dX0_empty_7 rfl (lv_at hl 0 rfl) ?_
  refine cs_get (C := RX0) (T := TX0) (N := 3) hF in_X0 hw hK 1 rfl rfl 1 (by decide) q_12 rfl dX0_empty_8 ?_
  refine cs_vv hF (c_X3_empty l D cy ad S_1 4 (by decide)) (cwV 0 hts g_X0_35 rfl rfl rfl kk_X3_empty ⟨Nat.le_of_ble_eq_true rfl, Nat.le_of_ble_eq_true rfl⟩) (cs_recvR hK hw (by decide)) hw hK hS rfl hl.1 [] rfl (Nat.le_of_ble_eq_true rfl) dX0_empty_11 (fun S_2 H locs hq hw hS => ?_)
  replace hRes := cs_letE hq hRes
  clear hq
  refine lv_aload_n hx hb dX0_empty_14 rfl (lv_at hl 0 rfl) ?_
  refine lv_iconst (v := 0) hx hb dX0_empty_15 (by decide) ?_
  refine cs_put (C := RX0) (T := TX0) (N := 3) hF in_X0 tyX0 tyX0_ok nmX0 hw hK hS 1 rfl rfl 2 (by decide) q_18 rfl (by decide +kernel) (Nat.le_of_ble_eq_true rfl) (cs_sS S_2 7 0) rfl (cs_sS_ok hw.1 (fun h => absurd h (by decide))) dX0_empty_16 (fun H locs hw hS => ?_)
  obtain ⟨S_3, hq⟩ : ∃ z, z = cs_sS S_2 7 0 := ⟨_, rfl⟩
  rw [← hq] at hw
  replace hRes := cs_letE hq hRes
  clear hq
  exact cs_vret hF hr hlk hw hK hS dX0_empty_19 hRes
theorem kk_X0_empty : yX0_empty.cls = RX0 ∧ yX0_empty.cls ≠ "java/lang/invoke/MethodHandle" ∧ yX0_empty.cls ≠ "java/lang/invoke/VarHandle" ∧ (parseMethodDescriptor yX0_empty.desc).map (fun d => d.parameters.length) = some 0 := by decide +kernel
theorem g_X1_26 : GoodIn cs_WS (wsV RX1 26 RX3 yX3_length (cs_ws yX3_length cX3_length 1 (some .int))) := cs_goodV q_45 q_20 q_21 q_10 q_15
def m_X1_isFull (S : cs_St) : Int32 := cs_let (m_X3_length S 7) (fun r_1 => (if r_1 < 512 then 0 else 1))
set_option maxHeartbeats 4000000 in
set_option maxRecDepth 100000 in
theorem c_X1_isFull (l : Launch) (D : va_G) (cy : ClassId) (ad : Nat → Nat) (S : cs_St) : Met l yX1_isFull (cs_ws yX1_isFull cX1_isFull 1 (some .boolean)) (cs_rm 1 20) (cs_Pc D cy ad [.ref (ad 2)] S) (cs_Qi D cy ad (fun r S1 => r = m_X1_isFull S ∧ S1 = S)) 0 0 (cs_A ad) := by
  refine cs_of RX1 (by decide) rfl (Nat.le_of_ble_eq_true rfl) ?_
  intro p e s m below meth c hF hr hlk hw hK ls hl
  obtain ⟨hx, hb, hml, hown, hts⟩ := id hF
  have hS : va_S (cs_A ad) s.heap s.heap [] := va_S.rf
  have hl : lv_has ls 1 [(0, .ref (ad 2))] := hl
  generalize hRes : m_X1_isFull S = Res
  unfold m_X1_isFull at hRes
  refine lv_aload_n hx hb dX1_isFull_0 rfl (lv_at hl 0 rfl) ?_
  refine cs_get (C := RX1) (T := TX1) (N := 3) hF in_X1 hw hK 2 rfl rfl 2 (by decide) q_42 rfl dX1_isFull_1 ?_
  refine cs_vir hF (c_X3_length l D cy ad S 7 (by decide)) (cwV 0 hts g_X1_26 rfl rfl rfl kk_X3_length ⟨Nat.le_of_ble_eq_true rfl, Nat.le_of_ble_eq_true rfl⟩) (cs_recvR hK hw (by decide)) hw hK hS rfl hl.1 [] rfl (Nat.le_of_ble_eq_true rfl) dX1_isFull_4 (fun r_1 H locs hq hw hS => ?_)
  replace hRes := cs_letE hq hRes
  clear hq
  refine lv_sipush (v := 512) hx hb dX1_isFull_7 (by decide) ?_
  refine lv_icmp_lt (tgt := 17) hx hb dX1_isFull_10 (by decide) (fun c_2 => ?_) (fun c_2 => ?_)
  · replace hRes := cs_T c_2 hRes
    refine lv_iconst (v := 0) hx hb dX1_isFull_17 (by decide) ?_
    exact cs_zret hF hr hlk hw hK hS dX1_isFull_18 ⟨hRes, rfl⟩
  · replace hRes := cs_F c_2 hRes
    refine lv_iconst (v := 1) hx hb dX1_isFull_13 (by decide) ?_
    refine lv_goto (tgt := 18) hx hb dX1_isFull_14 (by decide) ?_
    exact cs_zret hF hr hlk hw hK hS dX1_isFull_18 ⟨hRes, rfl⟩
theorem kk_X1_isFull : yX1_isFull.cls = RX1 ∧ yX1_isFull.cls ≠ "java/lang/invoke/MethodHandle" ∧ yX1_isFull.cls ≠ "java/lang/invoke/VarHandle" ∧ (parseMethodDescriptor yX1_isFull.desc).map (fun d => d.parameters.length) = some 0 := by decide +kernel
def m_X1_newest (S : cs_St) : Int32 := cs_let (m_X3_length S 7) (fun r_1 => r_1)
set_option maxHeartbeats 4000000 in
set_option maxRecDepth 100000 in
theorem c_X1_newest (l : Launch) (D : va_G) (cy : ClassId) (ad : Nat → Nat) (S : cs_St) : Met l yX1_newest (cs_ws yX1_newest cX1_newest 1 (some .int)) (cs_rm 1 20) (cs_Pc D cy ad [.ref (ad 2)] S) (cs_Qi D cy ad (fun r S1 => r = m_X1_newest S ∧ S1 = S)) 0 0 (cs_A ad) := by
  refine cs_of RX1 (by decide) rfl (Nat.le_of_ble_eq_true rfl) ?_
  intro p e s m below meth c hF hr hlk hw hK ls hl
  obtain ⟨hx, hb, hml, hown, hts⟩ := id hF
  have hS : va_S (cs_A ad) s.heap s.heap [] := va_S.rf
  have hl : lv_has ls 1 [(0, .ref (ad 2))] := hl
  generalize hRes : m_X1_newest S = Res
  unfold m_X1_newest at hRes
  refine lv_aload_n hx hb dX1_newest_0 rfl (lv_at hl 0 rfl) ?_
  refine cs_get (C := RX1) (T := TX1) (N := 3) hF in_X1 hw hK 2 rfl rfl 2 (by decide) q_42 rfl dX1_newest_1 ?_
  refine cs_vir hF (c_X3_length l D cy ad S 7 (by decide)) (cwV 0 hts g_X1_26 rfl rfl rfl kk_X3_length ⟨Nat.le_of_ble_eq_true rfl, Nat.le_of_ble_eq_true rfl⟩) (cs_recvR hK hw (by decide)) hw hK hS rfl hl.1 [] rfl (Nat.le_of_ble_eq_true rfl) dX1_newest_4 (fun r_1 H locs hq hw hS => ?_)
  replace hRes := cs_letE hq hRes
  clear hq
  exact cs_iret hF hr hlk hw hK hS dX1_newest_7 ⟨hRes, rfl⟩
theorem kk_X1_newest : yX1_newest.cls = RX1 ∧ yX1_newest.cls ≠ "java/lang/invoke/MethodHandle" ∧ yX1_newest.cls ≠ "java/lang/invoke/VarHandle" ∧ (parseMethodDescriptor yX1_newest.desc).map (fun d => d.parameters.length) = some 0 := by decide +kernel
theorem g_X1_30 : GoodIn cs_WS (wsV RX1 30 RX3 yX3_at (cs_ws yX3_at cX3_at 2 (some .int))) := cs_goodV q_49 q_50 q_51 q_10 q_47
def m_X1_key (S : cs_St) (a1 : Int32) : Int32 := cs_let (m_X3_at S 5 a1) (fun r_1 => r_1)
set_option maxHeartbeats 4000000 in
set_option maxRecDepth 100000 in
theorem c_X1_key (l : Launch) (D : va_G) (cy : ClassId) (ad : Nat → Nat) (S : cs_St) (a1 : Int32) : Met l yX1_key (cs_ws yX1_key cX1_key 2 (some .int)) (cs_rm 1 21) (cs_Pc D cy ad [.ref (ad 2), .int a1] S) (cs_Qi D cy ad (fun r S1 => r = m_X1_key S a1 ∧ S1 = S)) 0 0 (cs_A ad) := by
  refine cs_of RX1 (by decide) rfl (Nat.le_of_ble_eq_true rfl) ?_
  intro p e s m below meth c hF hr hlk hw hK ls hl
  obtain ⟨hx, hb, hml, hown, hts⟩ := id hF
  have hS : va_S (cs_A ad) s.heap s.heap [] := va_S.rf
  have hl : lv_has ls 2 [(0, .ref (ad 2)), (1, .int a1)] := hl
  generalize hRes : m_X1_key S a1 = Res
  unfold m_X1_key at hRes
  refine lv_aload_n hx hb dX1_key_0 rfl (lv_at hl 0 rfl) ?_
  refine cs_get (C := RX1) (T := TX1) (N := 3) hF in_X1 hw hK 2 rfl rfl 0 (by decide) q_40 rfl dX1_key_1 ?_
  refine lv_iload_n hx hb dX1_key_4 rfl (lv_at hl 1 rfl) ?_
  refine cs_vir hF (c_X3_at l D cy ad S 5 a1 (by decide)) (cwV 1 hts g_X1_30 rfl rfl rfl kk_X3_at ⟨Nat.le_of_ble_eq_true rfl, Nat.le_of_ble_eq_true rfl⟩) (cs_recvR hK hw (by decide)) hw hK hS rfl hl.1 [] rfl (Nat.le_of_ble_eq_true rfl) dX1_key_5 (fun r_1 H locs hq hw hS => ?_)
  replace hRes := cs_letE hq hRes
  clear hq
  exact cs_iret hF hr hlk hw hK hS dX1_key_8 ⟨hRes, rfl⟩
theorem kk_X1_key : yX1_key.cls = RX1 ∧ yX1_key.cls ≠ "java/lang/invoke/MethodHandle" ∧ yX1_key.cls ≠ "java/lang/invoke/VarHandle" ∧ (parseMethodDescriptor yX1_key.desc).map (fun d => d.parameters.length) = some 1 := by decide +kernel
def m_X1_value (S : cs_St) (a1 : Int32) : Int32 := cs_let (m_X3_at S 6 a1) (fun r_1 => r_1)
set_option maxHeartbeats 4000000 in
set_option maxRecDepth 100000 in
theorem c_X1_value (l : Launch) (D : va_G) (cy : ClassId) (ad : Nat → Nat) (S : cs_St) (a1 : Int32) : Met l yX1_value (cs_ws yX1_value cX1_value 2 (some .int)) (cs_rm 1 21) (cs_Pc D cy ad [.ref (ad 2), .int a1] S) (cs_Qi D cy ad (fun r S1 => r = m_X1_value S a1 ∧ S1 = S)) 0 0 (cs_A ad) := by
  refine cs_of RX1 (by decide) rfl (Nat.le_of_ble_eq_true rfl) ?_
  intro p e s m below meth c hF hr hlk hw hK ls hl
  obtain ⟨hx, hb, hml, hown, hts⟩ := id hF
  have hS : va_S (cs_A ad) s.heap s.heap [] := va_S.rf
  have hl : lv_has ls 2 [(0, .ref (ad 2)), (1, .int a1)] := hl
  generalize hRes : m_X1_value S a1 = Res
  unfold m_X1_value at hRes
  refine lv_aload_n hx hb dX1_value_0 rfl (lv_at hl 0 rfl) ?_
  refine cs_get (C := RX1) (T := TX1) (N := 3) hF in_X1 hw hK 2 rfl rfl 1 (by decide) q_41 rfl dX1_value_1 ?_
  refine lv_iload_n hx hb dX1_value_4 rfl (lv_at hl 1 rfl) ?_
  refine cs_vir hF (c_X3_at l D cy ad S 6 a1 (by decide)) (cwV 1 hts g_X1_30 rfl rfl rfl kk_X3_at ⟨Nat.le_of_ble_eq_true rfl, Nat.le_of_ble_eq_true rfl⟩) (cs_recvR hK hw (by decide)) hw hK hS rfl hl.1 [] rfl (Nat.le_of_ble_eq_true rfl) dX1_value_5 (fun r_1 H locs hq hw hS => ?_)
  replace hRes := cs_letE hq hRes
  clear hq
  exact cs_iret hF hr hlk hw hK hS dX1_value_8 ⟨hRes, rfl⟩
theorem kk_X1_value : yX1_value.cls = RX1 ∧ yX1_value.cls ≠ "java/lang/invoke/MethodHandle" ∧ yX1_value.cls ≠ "java/lang/invoke/VarHandle" ∧ (parseMethodDescriptor yX1_value.desc).map (fun d => d.parameters.length) = some 1 := by decide +kernel
def m_X1_isStone (S : cs_St) (a1 : Int32) : Int32 := cs_let (m_X3_at S 6 a1) (fun r_1 => (if r_1 = (-1) then 1 else 0))
set_option maxHeartbeats 4000000 in
set_option maxRecDepth 100000 in
theorem c_X1_isStone (l : Launch) (D : va_G) (cy : ClassId) (ad : Nat → Nat) (S : cs_St) (a1 : Int32) : Met l yX1_isStone (cs_ws yX1_isStone cX1_isStone 2 (some .boolean)) (cs_rm 1 21) (cs_Pc D cy ad [.ref (ad 2), .int a1] S) (cs_Qi D cy ad (fun r S1 => r = m_X1_isStone S a1 ∧ S1 = S)) 0 0 (cs_A ad) := by
  refine cs_of RX1 (by decide) rfl (Nat.le_of_ble_eq_true rfl) ?_
  intro p e s m below meth c hF hr hlk hw hK ls hl
  obtain ⟨hx, hb, hml, hown, hts⟩ := id hF
  have hS : va_S (cs_A ad) s.heap s.heap [] := va_S.rf
  have hl : lv_has ls 2 [(0, .ref (ad 2)), (1, .int a1)] := hl
  generalize hRes : m_X1_isStone S a1 = Res
  unfold m_X1_isStone at hRes
  refine lv_aload_n hx hb dX1_isStone_0 rfl (lv_at hl 0 rfl) ?_
  refine cs_get (C := RX1) (T := TX1) (N := 3) hF in_X1 hw hK 2 rfl rfl 1 (by decide) q_41 rfl dX1_isStone_1 ?_
  refine lv_iload_n hx hb dX1_isStone_4 rfl (lv_at hl 1 rfl) ?_
  refine cs_vir hF (c_X3_at l D cy ad S 6 a1 (by decide)) (cwV 1 hts g_X1_30 rfl rfl rfl kk_X3_at ⟨Nat.le_of_ble_eq_true rfl, Nat.le_of_ble_eq_true rfl⟩) (cs_recvR hK hw (by decide)) hw hK hS rfl hl.1 [] rfl (Nat.le_of_ble_eq_true rfl) dX1_isStone_5 (fun r_1 H locs hq hw hS => ?_)
  replace hRes := cs_letE hq hRes
  clear hq
  refine lv_iconst (v := -1) hx hb dX1_isStone_8 (by decide) ?_
  refine lv_icmp_ne (tgt := 16) hx hb dX1_isStone_9 (by decide) (fun c_2 => ?_) (fun c_2 => ?_)
  · replace hRes := cs_F c_2 hRes
    refine lv_iconst (v := 0) hx hb dX1_isStone_16 (by decide) ?_
    exact cs_zret hF hr hlk hw hK hS dX1_isStone_17 ⟨hRes, rfl⟩
  · replace hRes := cs_T c_2 hRes
    refine lv_iconst (v := 1) hx hb dX1_isStone_12 (by decide) ?_
    refine lv_goto (tgt := 17) hx hb dX1_isStone_13 (by decide) ?_
    exact cs_zret hF hr hlk hw hK hS dX1_isStone_17 ⟨hRes, rfl⟩
theorem kk_X1_isStone : yX1_isStone.cls = RX1 ∧ yX1_isStone.cls ≠ "java/lang/invoke/MethodHandle" ∧ yX1_isStone.cls ≠ "java/lang/invoke/VarHandle" ∧ (parseMethodDescriptor yX1_isStone.desc).map (fun d => d.parameters.length) = some 1 := by decide +kernel
theorem g_X1_34 : GoodIn cs_WS (wsV RX1 34 RX3 yX3_write (cs_ws yX3_write cX3_write 3 none)) := cs_goodV q_57 q_58 q_59 q_10 q_54
theorem g_X1_38 : GoodIn cs_WS (wsV RX1 38 RX3 yX3_open (cs_ws yX3_open cX3_open 3 none)) := cs_goodV q_60 q_61 q_62 q_10 q_55
def m_X1_note_L13 (S : cs_St) (u3 : Int32) (u1 : Int32) (u2 : Int32) : Nat → Int32 → Int32
  | 0, _ => 0
  | n + 1, v4 => cs_let (m_X3_length S 7) (fun r_2 => (if r_2 ≤ v4 then v4 else cs_let (m_X3_at S 7 v4) (fun r_4 => cs_let (m_X3_at S 5 r_4) (fun r_5 => (if u1 ≤ r_5 then v4 else m_X1_note_L13 S u3 u1 u2 n (v4 + 1))))))
theorem m_X1_note_L13_s {S : cs_St} {u3 : Int32} {u1 : Int32} {u2 : Int32} {n : Nat} {v4 : Int32} : m_X1_note_L13 S u3 u1 u2 (n + 1) v4 = cs_let (m_X3_length S 7) (fun r_2 => (if r_2 ≤ v4 then v4 else cs_let (m_X3_at S 7 v4) (fun r_4 => cs_let (m_X3_at S 5 r_4) (fun r_5 => (if u1 ≤ r_5 then v4 else m_X1_note_L13 S u3 u1 u2 n (v4 + 1)))))) := rfl
def m_X1_note (S : cs_St) (a1 : Int32) (a2 : Int32) : Int32 × cs_St := cs_let (m_X3_length S 7) (fun r_1 => cs_let (m_X1_note_L13 S (r_1 + 1) a1 a2 cs_N 0) (fun T_7 => cs_let (m_X3_write S 5 (r_1 + 1) a1) (fun S_8 => cs_let (m_X3_write S_8 6 (r_1 + 1) a2) (fun S_9 => cs_let (m_X3_open S_9 7 T_7 1) (fun S_10 => cs_let (m_X3_write S_10 7 T_7 (r_1 + 1)) (fun S_11 => ((r_1 + 1), S_11)))))))
set_option maxHeartbeats 4000000 in
set_option maxRecDepth 100000 in
theorem c_X1_note (l : Launch) (D : va_G) (cy : ClassId) (ad : Nat → Nat) (S : cs_St) (a1 : Int32) (a2 : Int32) : Met l yX1_note (cs_ws yX1_note cX1_note 5 (some .int)) (cs_rm 2 82) (cs_Pc D cy ad [.ref (ad 2), .int a1, .int a2] S) (cs_Qi D cy ad (fun r S1 => r = (m_X1_note S a1 a2).1 ∧ S1 = (m_X1_note S a1 a2).2)) 0 0 (cs_A ad) := by
  refine cs_of RX1 (by decide) rfl (Nat.le_of_ble_eq_true rfl) ?_
  intro p e s m below meth c hF hr hlk hw hK ls hl
  obtain ⟨hx, hb, hml, hown, hts⟩ := id hF
  have hS : va_S (cs_A ad) s.heap s.heap [] := va_S.rf
  have hl : lv_has ls 5 [(0, .ref (ad 2)), (1, .int a1), (2, .int a2)] := hl
  generalize hRes : m_X1_note S a1 a2 = Res
  unfold m_X1_note at hRes
  refine lv_aload_n hx hb dX1_note_0 rfl (lv_at hl 0 rfl) ?_
  refine cs_get (C := RX1) (T := TX1) (N := 3) hF in_X1 hw hK 2 rfl rfl 2 (by decide) q_42 rfl dX1_note_1 ?_
  refine cs_vir hF (c_X3_length l D cy ad S 7 (by decide)) (cwV 0 hts g_X1_26 rfl rfl rfl kk_X3_length ⟨Nat.le_of_ble_eq_true rfl, Nat.le_of_ble_eq_true rfl⟩) (cs_recvR hK hw (by decide)) hw hK hS rfl hl.1 [] rfl (Nat.le_of_ble_eq_true rfl) dX1_note_4 (fun r_1 H locs hq hw hS => ?_)
  replace hRes := cs_letE hq hRes
  clear hq
  refine lv_iconst (v := 1) hx hb dX1_note_7 (by decide) ?_
  refine lv_iadd hx hb dX1_note_8 ?_
  refine lv_istore_n (lv' := [(3, .int (r_1 + 1)), (0, .ref (ad 2)), (1, .int a1), (2, .int a2)]) hx hb dX1_note_9 rfl hl (by decide) rfl (fun ls hl => ?_)
  refine lv_iconst (v := 0) hx hb dX1_note_10 (by decide) ?_
  refine lv_istore (lv' := [(4, .int 0), (3, .int (r_1 + 1)), (0, .ref (ad 2)), (1, .int a1), (2, .int a2)]) hx hb dX1_note_11 hl (by decide) rfl (fun ls hl => ?_)
  -- the loop at 13
  obtain ⟨T_7, hq⟩ : ∃ z, z = m_X1_note_L13 S (r_1 + 1) a1 a2 cs_N 0 := ⟨_, rfl⟩
  replace hRes := cs_letE hq hRes
  have hk : ∀ (H : Heap) (locs : List Loc) (ls : Array Slot), cs_w D cy ad S H → va_S (cs_A ad) s.heap H locs → lv_has ls 5 [(4, .int T_7), (3, .int (r_1 + 1)), (0, .ref (ad 2)), (1, .int a1), (2, .int a2)] → W p l e (cs_rm 2 82) s m ([.ref (ad 2), .int a1, .int a2]).toArray below meth c H locs 0 0 (MQ below (cs_Qi D cy ad (fun r S1 => r = Res.1 ∧ S1 = Res.2)) ([.ref (ad 2), .int a1, .int a2]).toArray s 0 0 (cs_A ad)) (F0 m 51 ls []) := by
    intro H locs ls hw hS hl
    refine lv_aload_n hx hb dX1_note_51 rfl (lv_at hl 2 rfl) ?_
    refine cs_get (C := RX1) (T := TX1) (N := 3) hF in_X1 hw hK 2 rfl rfl 0 (by decide) q_40 rfl dX1_note_52 ?_
    refine lv_iload_n hx hb dX1_note_55 rfl (lv_at hl 1 rfl) ?_
    refine lv_iload_n hx hb dX1_note_56 rfl (lv_at hl 3 rfl) ?_
    refine cs_vv hF (c_X3_write l D cy ad S 5 (r_1 + 1) a1 (by decide) (fun h => absurd h (by decide))) (cwV 2 hts g_X1_34 rfl rfl rfl kk_X3_write ⟨Nat.le_of_ble_eq_true rfl, Nat.le_of_ble_eq_true rfl⟩) (cs_recvR hK hw (by decide)) hw hK hS rfl hl.1 [] rfl (Nat.le_of_ble_eq_true rfl) dX1_note_57 (fun S_8 H locs hq hw hS => ?_)
    replace hRes := cs_letE hq hRes
    clear hq
    refine lv_aload_n hx hb dX1_note_60 rfl (lv_at hl 2 rfl) ?_
    refine cs_get (C := RX1) (T := TX1) (N := 3) hF in_X1 hw hK 2 rfl rfl 1 (by decide) q_41 rfl dX1_note_61 ?_
    refine lv_iload_n hx hb dX1_note_64 rfl (lv_at hl 1 rfl) ?_
    refine lv_iload_n hx hb dX1_note_65 rfl (lv_at hl 4 rfl) ?_
    refine cs_vv hF (c_X3_write l D cy ad S_8 6 (r_1 + 1) a2 (by decide) (fun h => absurd h (by decide))) (cwV 2 hts g_X1_34 rfl rfl rfl kk_X3_write ⟨Nat.le_of_ble_eq_true rfl, Nat.le_of_ble_eq_true rfl⟩) (cs_recvR hK hw (by decide)) hw hK hS rfl hl.1 [] rfl (Nat.le_of_ble_eq_true rfl) dX1_note_66 (fun S_9 H locs hq hw hS => ?_)
    replace hRes := cs_letE hq hRes
    clear hq
    refine lv_aload_n hx hb dX1_note_69 rfl (lv_at hl 2 rfl) ?_
    refine cs_get (C := RX1) (T := TX1) (N := 3) hF in_X1 hw hK 2 rfl rfl 2 (by decide) q_42 rfl dX1_note_70 ?_
    refine lv_iload hx hb dX1_note_73 (lv_at hl 0 rfl) ?_
    refine lv_iconst (v := 1) hx hb dX1_note_75 (by decide) ?_
    refine cs_vv hF (c_X3_open l D cy ad S_9 7 T_7 1 (by decide)) (cwV 2 hts g_X1_38 rfl rfl rfl kk_X3_open ⟨Nat.le_of_ble_eq_true rfl, Nat.le_of_ble_eq_true rfl⟩) (cs_recvR hK hw (by decide)) hw hK hS rfl hl.1 [] rfl (Nat.le_of_ble_eq_true rfl) dX1_note_76 (fun S_10 H locs hq hw hS => ?_)
    replace hRes := cs_letE hq hRes
    clear hq
    refine lv_aload_n hx hb dX1_note_79 rfl (lv_at hl 2 rfl) ?_
    refine cs_get (C := RX1) (T := TX1) (N := 3) hF in_X1 hw hK 2 rfl rfl 2 (by decide) q_42 rfl dX1_note_80 ?_
    refine lv_iload hx hb dX1_note_83 (lv_at hl 0 rfl) ?_
    refine lv_iload_n hx hb dX1_note_85 rfl (lv_at hl 1 rfl) ?_
    refine cs_vv hF (c_X3_write l D cy ad S_10 7 T_7 (r_1 + 1) (by decide) (fun h => absurd h (by decide))) (cwV 2 hts g_X1_34 rfl rfl rfl kk_X3_write ⟨Nat.le_of_ble_eq_true rfl, Nat.le_of_ble_eq_true rfl⟩) (cs_recvR hK hw (by decide)) hw hK hS rfl hl.1 [] rfl (Nat.le_of_ble_eq_true rfl) dX1_note_86 (fun S_11 H locs hq hw hS => ?_)
    replace hRes := cs_letE hq hRes
    clear hq
    refine lv_iload_n hx hb dX1_note_89 rfl (lv_at hl 1 rfl) ?_
    exact cs_iret hF hr hlk hw hK hS dX1_note_90 ⟨cs_eq1 hRes, cs_eq2 hRes⟩
  have lp : ∀ (n : Nat) (v4 : Int32) (H : Heap) (locs : List Loc), cs_w D cy ad S H → va_S (cs_A ad) s.heap H locs → ∀ (ls : Array Slot), lv_has ls 5 [(4, .int v4), (3, .int (r_1 + 1)), (0, .ref (ad 2)), (1, .int a1), (2, .int a2)] → (2147483647 - v4.toInt < (n : Int) ∧ 0 < n) → m_X1_note_L13 S (r_1 + 1) a1 a2 n v4 = T_7 → W p l e (cs_rm 2 82) s m ([.ref (ad 2), .int a1, .int a2]).toArray below meth c H locs 0 0 (MQ below (cs_Qi D cy ad (fun r S1 => r = Res.1 ∧ S1 = Res.2)) ([.ref (ad 2), .int a1, .int a2]).toArray s 0 0 (cs_A ad)) (F0 m 13 ls []) := by
    intro n
    induction n with
    | zero => intro v4 H locs hw hS ls hl hm; exact absurd hm.2 (Nat.lt_irrefl 0)
    | succ n ih =>
      intro v4 H locs hw hS ls hl hm hE
      replace hE := m_X1_note_L13_s.symm.trans hE
      refine lv_iload hx hb dX1_note_13 (lv_at hl 0 rfl) ?_
      refine lv_aload_n hx hb dX1_note_15 rfl (lv_at hl 2 rfl) ?_
      refine cs_get (C := RX1) (T := TX1) (N := 3) hF in_X1 hw hK 2 rfl rfl 2 (by decide) q_42 rfl dX1_note_16 ?_
      refine cs_vir hF (c_X3_length l D cy ad S 7 (by decide)) (cwV 0 hts g_X1_26 rfl rfl rfl kk_X3_length ⟨Nat.le_of_ble_eq_true rfl, Nat.le_of_ble_eq_true rfl⟩) (cs_recvR hK hw (by decide)) hw hK hS rfl hl.1 [.int v4] rfl (Nat.le_of_ble_eq_true rfl) dX1_note_19 (fun r_2 H locs hq hw hS => ?_)
      replace hE := cs_letE hq hE
      clear hq
      refine lv_icmp_ge (tgt := 51) hx hb dX1_note_22 (by decide) (fun c_3 => ?_) (fun c_3 => ?_)
      · replace hE := cs_T c_3 hE
        subst hE
        exact hk _ _ _ hw hS (lv_sub hl [0, 1, 2, 3, 4] rfl)
      · replace hE := cs_F c_3 hE
        refine lv_aload_n hx hb dX1_note_25 rfl (lv_at hl 2 rfl) ?_
        refine cs_get (C := RX1) (T := TX1) (N := 3) hF in_X1 hw hK 2 rfl rfl 0 (by decide) q_40 rfl dX1_note_26 ?_
        refine lv_aload_n hx hb dX1_note_29 rfl (lv_at hl 2 rfl) ?_
        refine cs_get (C := RX1) (T := TX1) (N := 3) hF in_X1 hw hK 2 rfl rfl 2 (by decide) q_42 rfl dX1_note_30 ?_
        refine lv_iload hx hb dX1_note_33 (lv_at hl 0 rfl) ?_
        refine cs_vir hF (c_X3_at l D cy ad S 7 v4 (by decide)) (cwV 1 hts g_X1_30 rfl rfl rfl kk_X3_at ⟨Nat.le_of_ble_eq_true rfl, Nat.le_of_ble_eq_true rfl⟩) (cs_recvR hK hw (by decide)) hw hK hS rfl hl.1 [.ref (ad 16)] rfl (Nat.le_of_ble_eq_true rfl) dX1_note_35 (fun r_4 H locs hq hw hS => ?_)
        replace hE := cs_letE hq hE
        clear hq
        refine cs_vir hF (c_X3_at l D cy ad S 5 r_4 (by decide)) (cwV 1 hts g_X1_30 rfl rfl rfl kk_X3_at ⟨Nat.le_of_ble_eq_true rfl, Nat.le_of_ble_eq_true rfl⟩) (cs_recvR hK hw (by decide)) hw hK hS rfl hl.1 [] rfl (Nat.le_of_ble_eq_true rfl) dX1_note_38 (fun r_5 H locs hq hw hS => ?_)
        replace hE := cs_letE hq hE
        clear hq
        refine lv_iload_n hx hb dX1_note_41 rfl (lv_at hl 3 rfl) ?_
        refine lv_icmp_ge (tgt := 51) hx hb dX1_note_42 (by decide) (fun c_6 => ?_) (fun c_6 => ?_)
        · replace hE := cs_T c_6 hE
          subst hE
          exact hk _ _ _ hw hS (lv_sub hl [0, 1, 2, 3, 4] rfl)
        · replace hE := cs_F c_6 hE
          refine lv_iinc (v := v4 + 1) (lv' := [(4, .int (v4 + 1)), (3, .int (r_1 + 1)), (0, .ref (ad 2)), (1, .int a1), (2, .int a2)]) hx hb dX1_note_45 hl (k := 0) rfl rfl (by decide) rfl (fun ls hl => ?_)
          refine lv_goto (tgt := 13) hx hb dX1_note_48 (by decide) ?_
          exact ih (v4 + 1) _ _ hw hS _ (lv_sub hl [0, 1, 2, 3, 4] rfl) (cs_up hm.1 c_3) hE
  exact lp cs_N 0 _ _ hw hS _ (lv_sub hl [0, 1, 2, 3, 4] rfl) (cs_up0 0) hq.symm
theorem kk_X1_note : yX1_note.cls = RX1 ∧ yX1_note.cls ≠ "java/lang/invoke/MethodHandle" ∧ yX1_note.cls ≠ "java/lang/invoke/VarHandle" ∧ (parseMethodDescriptor yX1_note.desc).map (fun d => d.parameters.length) = some 2 := by decide +kernel
def m_X1_find_L3 (S : cs_St) (j1 : Nat) (u2 : Int32) (u3 : Int32) (u4 : Int32) (u5 : Int32) : Nat → Int32 → Int32
  | 0, _ => 0
  | n + 1, v6 => (if u3 ≤ v6 then 0 else cs_let (m_X3_at S j1 v6) (fun r_2 => cs_let (m_X3_at S 5 r_2) (fun r_3 => (if r_3 = u4 then (if u5 < r_2 then m_X1_find_L3 S j1 u2 u3 u4 u5 n (v6 + 1) else r_2) else m_X1_find_L3 S j1 u2 u3 u4 u5 n (v6 + 1)))))
theorem m_X1_find_L3_s {S : cs_St} {j1 : Nat} {u2 : Int32} {u3 : Int32} {u4 : Int32} {u5 : Int32} {n : Nat} {v6 : Int32} : m_X1_find_L3 S j1 u2 u3 u4 u5 (n + 1) v6 = (if u3 ≤ v6 then 0 else cs_let (m_X3_at S j1 v6) (fun r_2 => cs_let (m_X3_at S 5 r_2) (fun r_3 => (if r_3 = u4 then (if u5 < r_2 then m_X1_find_L3 S j1 u2 u3 u4 u5 n (v6 + 1) else r_2) else m_X1_find_L3 S j1 u2 u3 u4 u5 n (v6 + 1))))) := rfl
def m_X1_find (S : cs_St) (j1 : Nat) (a2 : Int32) (a3 : Int32) (a4 : Int32) (a5 : Int32) : Int32 := m_X1_find_L3 S j1 a2 a3 a4 a5 cs_N a2
set_option maxHeartbeats 4000000 in
set_option maxRecDepth 100000 in
theorem c_X1_find (l : Launch) (D : va_G) (cy : ClassId) (ad : Nat → Nat) (S : cs_St) (j1 : Nat) (a2 : Int32) (a3 : Int32) (a4 : Int32) (a5 : Int32) (hj1 : j1 < 19) : Met l yX1_find (cs_ws yX1_find cX1_find 8 (some .int)) (cs_rm 1 21) (cs_Pc D cy ad [.ref (ad 2), .ref (ad (6 + 2 * j1)), .int a2, .int a3, .int a4, .int a5] S) (cs_Qi D cy ad (fun r S1 => r = m_X1_find S j1 a2 a3 a4 a5 ∧ S1 = S)) 0 0 (cs_A ad) := by
  refine cs_of RX1 (by decide) rfl (Nat.le_of_ble_eq_true rfl) ?_
  intro p e s m below meth c hF hr hlk hw hK ls hl
  obtain ⟨hx, hb, hml, hown, hts⟩ := id hF
  have hS : va_S (cs_A ad) s.heap s.heap [] := va_S.rf
  have hl : lv_has ls 8 [(0, .ref (ad 2)), (1, .ref (ad (6 + 2 * j1))), (2, .int a2), (3, .int a3), (4, .int a4), (5, .int a5)] := hl
  generalize hRes : m_X1_find S j1 a2 a3 a4 a5 = Res
  unfold m_X1_find at hRes
  refine lv_iload_n hx hb dX1_find_0 rfl (lv_at hl 2 rfl) ?_
  refine lv_istore (lv' := [(6, .int a2), (0, .ref (ad 2)), (1, .ref (ad (6 + 2 * j1))), (2, .int a2), (3, .int a3), (4, .int a4), (5, .int a5)]) hx hb dX1_find_1 hl (by decide) rfl (fun ls hl => ?_)
  -- the loop at 3
  have lp : ∀ (n : Nat) (v6 : Int32) (H : Heap) (locs : List Loc), cs_w D cy ad S H → va_S (cs_A ad) s.heap H locs → ∀ (ls : Array Slot), lv_has ls 8 [(6, .int v6), (0, .ref (ad 2)), (1, .ref (ad (6 + 2 * j1))), (2, .int a2), (3, .int a3), (4, .int a4), (5, .int a5)] → (2147483647 - v6.toInt < (n : Int) ∧ 0 < n) → m_X1_find_L3 S j1 a2 a3 a4 a5 n v6 = Res → W p l e (cs_rm 1 21) s m ([.ref (ad 2), .ref (ad (6 + 2 * j1)), .int a2, .int a3, .int a4, .int a5]).toArray below meth c H locs 0 0 (MQ below (cs_Qi D cy ad (fun r S1 => r = Res ∧ S1 = S)) ([.ref (ad 2), .ref (ad (6 + 2 * j1)), .int a2, .int a3, .int a4, .int a5]).toArray s 0 0 (cs_A ad)) (F0 m 3 ls []) := by
    intro n
    induction n with
    | zero => intro v6 H locs hw hS ls hl hm; exact absurd hm.2 (Nat.lt_irrefl 0)
    | succ n ih =>
      intro v6 H locs hw hS ls hl hm hRes
      replace hRes := m_X1_find_L3_s.symm.trans hRes
      refine lv_iload hx hb dX1_find_3 (lv_at hl 0 rfl) ?_
      refine lv_iload_n hx hb dX1_find_5 rfl (lv_at hl 4 rfl) ?_
      refine lv_icmp_ge (tgt := 47) hx hb dX1_find_6 (by decide) (fun c_1 => ?_) (fun c_1 => ?_)
      · replace hRes := cs_T c_1 hRes
        refine lv_iconst (v := 0) hx hb dX1_find_47 (by decide) ?_
        exact cs_iret hF hr hlk hw hK hS dX1_find_48 ⟨hRes, rfl⟩
      · replace hRes := cs_F c_1 hRes
        refine lv_aload_n hx hb dX1_find_9 rfl (lv_at hl 2 rfl) ?_
        refine lv_iload hx hb dX1_find_10 (lv_at hl 0 rfl) ?_
        refine cs_vir hF (c_X3_at l D cy ad S j1 v6 hj1) (cwV 1 hts g_X1_30 rfl rfl rfl kk_X3_at ⟨Nat.le_of_ble_eq_true rfl, Nat.le_of_ble_eq_true rfl⟩) (cs_recvR hK hw hj1) hw hK hS rfl hl.1 [] rfl (Nat.le_of_ble_eq_true rfl) dX1_find_12 (fun r_2 H locs hq hw hS => ?_)
        replace hRes := cs_letE hq hRes
        clear hq
        refine lv_istore (lv' := [(7, .int r_2), (6, .int v6), (0, .ref (ad 2)), (1, .ref (ad (6 + 2 * j1))), (2, .int a2), (3, .int a3), (4, .int a4), (5, .int a5)]) hx hb dX1_find_15 hl (by decide) rfl (fun ls hl => ?_)
        refine lv_aload_n hx hb dX1_find_17 rfl (lv_at hl 2 rfl) ?_
        refine cs_get (C := RX1) (T := TX1) (N := 3) hF in_X1 hw hK 2 rfl rfl 0 (by decide) q_40 rfl dX1_find_18 ?_
        refine lv_iload hx hb dX1_find_21 (lv_at hl 0 rfl) ?_
        refine cs_vir hF (c_X3_at l D cy ad S 5 r_2 (by decide)) (cwV 1 hts g_X1_30 rfl rfl rfl kk_X3_at ⟨Nat.le_of_ble_eq_true rfl, Nat.le_of_ble_eq_true rfl⟩) (cs_recvR hK hw (by decide)) hw hK hS rfl hl.1 [] rfl (Nat.le_of_ble_eq_true rfl) dX1_find_23 (fun r_3 H locs hq hw hS => ?_)
        replace hRes := cs_letE hq hRes
        clear hq
        refine lv_iload hx hb dX1_find_26 (lv_at hl 6 rfl) ?_
        refine lv_icmp_ne (tgt := 41) hx hb dX1_find_28 (by decide) (fun c_4 => ?_) (fun c_4 => ?_)
        · replace hRes := cs_F c_4 hRes
          refine lv_iinc (v := v6 + 1) (lv' := [(6, .int (v6 + 1)), (7, .int r_2), (0, .ref (ad 2)), (1, .ref (ad (6 + 2 * j1))), (2, .int a2), (3, .int a3), (4, .int a4), (5, .int a5)]) hx hb dX1_find_41 hl (k := 1) rfl rfl (by decide) rfl (fun ls hl => ?_)
          refine lv_goto (tgt := 3) hx hb dX1_find_44 (by decide) ?_
          exact ih (v6 + 1) _ _ hw hS _ (lv_sub hl [0, 2, 3, 4, 5, 6, 7] rfl) (cs_up hm.1 c_1) hRes
        · replace hRes := cs_T c_4 hRes
          refine lv_iload hx hb dX1_find_31 (lv_at hl 0 rfl) ?_
          refine lv_iload hx hb dX1_find_33 (lv_at hl 7 rfl) ?_
          refine lv_icmp_gt (tgt := 41) hx hb dX1_find_35 (by decide) (fun c_5 => ?_) (fun c_5 => ?_)
          · replace hRes := cs_T c_5 hRes
            refine lv_iinc (v := v6 + 1) (lv' := [(6, .int (v6 + 1)), (7, .int r_2), (0, .ref (ad 2)), (1, .ref (ad (6 + 2 * j1))), (2, .int a2), (3, .int a3), (4, .int a4), (5, .int a5)]) hx hb dX1_find_41 hl (k := 1) rfl rfl (by decide) rfl (fun ls hl => ?_)
            refine lv_goto (tgt := 3) hx hb dX1_find_44 (by decide) ?_
            exact ih (v6 + 1) _ _ hw hS _ (lv_sub hl [0, 2, 3, 4, 5, 6, 7] rfl) (cs_up hm.1 c_1) hRes
          · replace hRes := cs_F c_5 hRes
            refine lv_iload hx hb dX1_find_38 (lv_at hl 0 rfl) ?_
            exact cs_iret hF hr hlk hw hK hS dX1_find_40 ⟨hRes, rfl⟩
  exact lp cs_N a2 _ _ hw hS _ (lv_sub hl [0, 1, 2, 3, 4, 5, 6] rfl) (cs_up0 a2) hRes
theorem kk_X1_find : yX1_find.cls = RX1 ∧ yX1_find.cls ≠ "java/lang/invoke/MethodHandle" ∧ yX1_find.cls ≠ "java/lang/invoke/VarHandle" ∧ (parseMethodDescriptor yX1_find.desc).map (fun d => d.parameters.length) = some 5 := by decide +kernel
theorem g_X5_23 : GoodIn cs_WS (wsV RX5 23 RX3 yX3_length (cs_ws yX3_length cX3_length 1 (some .int))) := cs_goodV q_83 q_20 q_21 q_10 q_15
def m_X5_there (S : cs_St) : Int32 := cs_let (m_X3_length S 8) (fun r_1 => r_1)
set_option maxHeartbeats 4000000 in
set_option maxRecDepth 100000 in
theorem c_X5_there (l : Launch) (D : va_G) (cy : ClassId) (ad : Nat → Nat) (S : cs_St) : Met l yX5_there (cs_ws yX5_there cX5_there 1 (some .int)) (cs_rm 1 20) (cs_Pc D cy ad [.ref (ad 3)] S) (cs_Qi D cy ad (fun r S1 => r = m_X5_there S ∧ S1 = S)) 0 0 (cs_A ad) := by
  refine cs_of RX5 (by decide) rfl (Nat.le_of_ble_eq_true rfl) ?_
  intro p e s m below meth c hF hr hlk hw hK ls hl
  obtain ⟨hx, hb, hml, hown, hts⟩ := id hF
  have hS : va_S (cs_A ad) s.heap s.heap [] := va_S.rf
  have hl : lv_has ls 1 [(0, .ref (ad 3))] := hl
  generalize hRes : m_X5_there S = Res
  unfold m_X5_there at hRes
  refine lv_aload_n hx hb dX5_there_0 rfl (lv_at hl 0 rfl) ?_
  refine cs_get (C := RX5) (T := TX5) (N := 3) hF in_X5 hw hK 3 rfl rfl 0 (by decide) q_200 rfl dX5_there_1 ?_
  refine cs_vir hF (c_X3_length l D cy ad S 8 (by decide)) (cwV 0 hts g_X5_23 rfl rfl rfl kk_X3_length ⟨Nat.le_of_ble_eq_true rfl, Nat.le_of_ble_eq_true rfl⟩) (cs_recvR hK hw (by decide)) hw hK hS rfl hl.1 [] rfl (Nat.le_of_ble_eq_true rfl) dX5_there_4 (fun r_1 H locs hq hw hS => ?_)
  replace hRes := cs_letE hq hRes
  clear hq
  exact cs_iret hF hr hlk hw hK hS dX5_there_7 ⟨hRes, rfl⟩
theorem kk_X5_there : yX5_there.cls = RX5 ∧ yX5_there.cls ≠ "java/lang/invoke/MethodHandle" ∧ yX5_there.cls ≠ "java/lang/invoke/VarHandle" ∧ (parseMethodDescriptor yX5_there.desc).map (fun d => d.parameters.length) = some 0 := by decide +kernel
theorem g_X5_27 : GoodIn cs_WS (wsV RX5 27 RX3 yX3_at (cs_ws yX3_at cX3_at 2 (some .int))) := cs_goodV q_84 q_50 q_51 q_10 q_47
def m_X5_age (S : cs_St) (a1 : Int32) : Int32 := cs_let (m_X3_at S 9 a1) (fun r_1 => r_1)
set_option maxHeartbeats 4000000 in
set_option maxRecDepth 100000 in
theorem c_X5_age (l : Launch) (D : va_G) (cy : ClassId) (ad : Nat → Nat) (S : cs_St) (a1 : Int32) : Met l yX5_age (cs_ws yX5_age cX5_age 2 (some .int)) (cs_rm 1 21) (cs_Pc D cy ad [.ref (ad 3), .int a1] S) (cs_Qi D cy ad (fun r S1 => r = m_X5_age S a1 ∧ S1 = S)) 0 0 (cs_A ad) := by
  refine cs_of RX5 (by decide) rfl (Nat.le_of_ble_eq_true rfl) ?_
  intro p e s m below meth c hF hr hlk hw hK ls hl
  obtain ⟨hx, hb, hml, hown, hts⟩ := id hF
  have hS : va_S (cs_A ad) s.heap s.heap [] := va_S.rf
  have hl : lv_has ls 2 [(0, .ref (ad 3)), (1, .int a1)] := hl
  generalize hRes : m_X5_age S a1 = Res
  unfold m_X5_age at hRes
  refine lv_aload_n hx hb dX5_age_0 rfl (lv_at hl 0 rfl) ?_
  refine cs_get (C := RX5) (T := TX5) (N := 3) hF in_X5 hw hK 3 rfl rfl 1 (by decide) q_82 rfl dX5_age_1 ?_
  refine lv_iload_n hx hb dX5_age_4 rfl (lv_at hl 1 rfl) ?_
  refine cs_vir hF (c_X3_at l D cy ad S 9 a1 (by decide)) (cwV 1 hts g_X5_27 rfl rfl rfl kk_X3_at ⟨Nat.le_of_ble_eq_true rfl, Nat.le_of_ble_eq_true rfl⟩) (cs_recvR hK hw (by decide)) hw hK hS rfl hl.1 [] rfl (Nat.le_of_ble_eq_true rfl) dX5_age_5 (fun r_1 H locs hq hw hS => ?_)
  replace hRes := cs_letE hq hRes
  clear hq
  exact cs_iret hF hr hlk hw hK hS dX5_age_8 ⟨hRes, rfl⟩
theorem kk_X5_age : yX5_age.cls = RX5 ∧ yX5_age.cls ≠ "java/lang/invoke/MethodHandle" ∧ yX5_age.cls ≠ "java/lang/invoke/VarHandle" ∧ (parseMethodDescriptor yX5_age.desc).map (fun d => d.parameters.length) = some 1 := by decide +kernel
theorem g_X5_35 : GoodIn cs_WS (wsV RX5 35 RX3 yX3_append (cs_ws yX3_append cX3_append 2 none)) := cs_goodV q_206 q_97 q_98 q_10 q_85
def m_X5_take (S : cs_St) (a1 : Int32) : Int32 × cs_St := cs_let (m_X3_append S 8 (S.2 8)) (fun S_1 => cs_let (m_X3_append S_1 9 a1) (fun S_2 => cs_let (cs_sS S_2 8 ((S_2.2 8) + 1)) (fun S_3 => (S.2 8, S_3))))
set_option maxHeartbeats 4000000 in
set_option maxRecDepth 100000 in
theorem c_X5_take (l : Launch) (D : va_G) (cy : ClassId) (ad : Nat → Nat) (S : cs_St) (a1 : Int32) : Met l yX5_take (cs_ws yX5_take cX5_take 3 (some .int)) (cs_rm 1 21) (cs_Pc D cy ad [.ref (ad 3), .int a1] S) (cs_Qi D cy ad (fun r S1 => r = (m_X5_take S a1).1 ∧ S1 = (m_X5_take S a1).2)) 0 0 (cs_A ad) := by
  refine cs_of RX5 (by decide) rfl (Nat.le_of_ble_eq_true rfl) ?_
  intro p e s m below meth c hF hr hlk hw hK ls hl
  obtain ⟨hx, hb, hml, hown, hts⟩ := id hF
  have hS : va_S (cs_A ad) s.heap s.heap [] := va_S.rf
  have hl : lv_has ls 3 [(0, .ref (ad 3)), (1, .int a1)] := hl
  generalize hRes : m_X5_take S a1 = Res
  unfold m_X5_take at hRes
  refine lv_aload_n hx hb dX5_take_0 rfl (lv_at hl 0 rfl) ?_
  refine cs_get (C := RX5) (T := TX5) (N := 3) hF in_X5 hw hK 3 rfl rfl 2 (by decide) q_205 rfl dX5_take_1 ?_
  refine lv_istore_n (lv' := [(2, .int (S.2 8)), (0, .ref (ad 3)), (1, .int a1)]) hx hb dX5_take_4 rfl hl (by decide) rfl (fun ls hl => ?_)
  refine lv_aload_n hx hb dX5_take_5 rfl (lv_at hl 1 rfl) ?_
  refine cs_get (C := RX5) (T := TX5) (N := 3) hF in_X5 hw hK 3 rfl rfl 0 (by decide) q_200 rfl dX5_take_6 ?_
  refine lv_iload_n hx hb dX5_take_9 rfl (lv_at hl 0 rfl) ?_
  refine cs_vv hF (c_X3_append l D cy ad S 8 (S.2 8) (by decide) (by decide)) (cwV 1 hts g_X5_35 rfl rfl rfl kk_X3_append ⟨Nat.le_of_ble_eq_true rfl, Nat.le_of_ble_eq_true rfl⟩) (cs_recvR hK hw (by decide)) hw hK hS rfl hl.1 [] rfl (Nat.le_of_ble_eq_true rfl) dX5_take_10 (fun S_1 H locs hq hw hS => ?_)
  replace hRes := cs_letE hq hRes
  clear hq
  refine lv_aload_n hx hb dX5_take_13 rfl (lv_at hl 1 rfl) ?_
  refine cs_get (C := RX5) (T := TX5) (N := 3) hF in_X5 hw hK 3 rfl rfl 1 (by decide) q_82 rfl dX5_take_14 ?_
  refine lv_iload_n hx hb dX5_take_17 rfl (lv_at hl 2 rfl) ?_
  refine cs_vv hF (c_X3_append l D cy ad S_1 9 a1 (by decide) (by decide)) (cwV 1 hts g_X5_35 rfl rfl rfl kk_X3_append ⟨Nat.le_of_ble_eq_true rfl, Nat.le_of_ble_eq_true rfl⟩) (cs_recvR hK hw (by decide)) hw hK hS rfl hl.1 [] rfl (Nat.le_of_ble_eq_true rfl) dX5_take_18 (fun S_2 H locs hq hw hS => ?_)
  replace hRes := cs_letE hq hRes
  clear hq
  refine lv_aload_n hx hb dX5_take_21 rfl (lv_at hl 1 rfl) ?_
  refine lv_dup hx hb dX5_take_22 rfl ?_
  refine cs_get (C := RX5) (T := TX5) (N := 3) hF in_X5 hw hK 3 rfl rfl 2 (by decide) q_205 rfl dX5_take_23 ?_
  refine lv_iconst (v := 1) hx hb dX5_take_26 (by decide) ?_
  refine lv_iadd hx hb dX5_take_27 ?_
  refine cs_put (C := RX5) (T := TX5) (N := 3) hF in_X5 tyX5 tyX5_ok nmX5 hw hK hS 3 rfl rfl 2 (by decide) q_205 rfl (by decide +kernel) (Nat.le_of_ble_eq_true rfl) (cs_sS S_2 8 ((S_2.2 8) + 1)) rfl (cs_sS_ok hw.1 (fun h => absurd h (by decide))) dX5_take_28 (fun H locs hw hS => ?_)
  obtain ⟨S_3, hq⟩ : ∃ z, z = cs_sS S_2 8 ((S_2.2 8) + 1) := ⟨_, rfl⟩
  rw [← hq] at hw
  replace hRes := cs_letE hq hRes
  clear hq
  refine lv_iload_n hx hb dX5_take_31 rfl (lv_at hl 0 rfl) ?_
  exact cs_iret hF hr hlk hw hK hS dX5_take_32 ⟨cs_eq1 hRes, cs_eq2 hRes⟩
theorem kk_X5_take : yX5_take.cls = RX5 ∧ yX5_take.cls ≠ "java/lang/invoke/MethodHandle" ∧ yX5_take.cls ≠ "java/lang/invoke/VarHandle" ∧ (parseMethodDescriptor yX5_take.desc).map (fun d => d.parameters.length) = some 1 := by decide +kernel
def m_X5_placeOf_L2 (S : cs_St) (u1 : Int32) : Nat → Int32 → Int32
  | 0, _ => 0
  | n + 1, v2 => cs_let (m_X3_length S 8) (fun r_1 => (if r_1 ≤ v2 then (-1) else cs_let (m_X3_at S 8 v2) (fun r_3 => (if r_3 = u1 then v2 else m_X5_placeOf_L2 S u1 n (v2 + 1)))))
theorem m_X5_placeOf_L2_s {S : cs_St} {u1 : Int32} {n : Nat} {v2 : Int32} : m_X5_placeOf_L2 S u1 (n + 1) v2 = cs_let (m_X3_length S 8) (fun r_1 => (if r_1 ≤ v2 then (-1) else cs_let (m_X3_at S 8 v2) (fun r_3 => (if r_3 = u1 then v2 else m_X5_placeOf_L2 S u1 n (v2 + 1))))) := rfl
def m_X5_placeOf (S : cs_St) (a1 : Int32) : Int32 := m_X5_placeOf_L2 S a1 cs_N 0
set_option maxHeartbeats 4000000 in
set_option maxRecDepth 100000 in
theorem c_X5_placeOf (l : Launch) (D : va_G) (cy : ClassId) (ad : Nat → Nat) (S : cs_St) (a1 : Int32) : Met l yX5_placeOf (cs_ws yX5_placeOf cX5_placeOf 3 (some .int)) (cs_rm 1 21) (cs_Pc D cy ad [.ref (ad 3), .int a1] S) (cs_Qi D cy ad (fun r S1 => r = m_X5_placeOf S a1 ∧ S1 = S)) 0 0 (cs_A ad) := by
  refine cs_of RX5 (by decide) rfl (Nat.le_of_ble_eq_true rfl) ?_
  intro p e s m below meth c hF hr hlk hw hK ls hl
  obtain ⟨hx, hb, hml, hown, hts⟩ := id hF
  have hS : va_S (cs_A ad) s.heap s.heap [] := va_S.rf
  have hl : lv_has ls 3 [(0, .ref (ad 3)), (1, .int a1)] := hl
  generalize hRes : m_X5_placeOf S a1 = Res
  unfold m_X5_placeOf at hRes
  refine lv_iconst (v := 0) hx hb dX5_placeOf_0 (by decide) ?_
  refine lv_istore_n (lv' := [(2, .int 0), (0, .ref (ad 3)), (1, .int a1)]) hx hb dX5_placeOf_1 rfl hl (by decide) rfl (fun ls hl => ?_)
  -- the loop at 2
  have lp : ∀ (n : Nat) (v2 : Int32) (H : Heap) (locs : List Loc), cs_w D cy ad S H → va_S (cs_A ad) s.heap H locs → ∀ (ls : Array Slot), lv_has ls 3 [(2, .int v2), (0, .ref (ad 3)), (1, .int a1)] → (2147483647 - v2.toInt < (n : Int) ∧ 0 < n) → m_X5_placeOf_L2 S a1 n v2 = Res → W p l e (cs_rm 1 21) s m ([.ref (ad 3), .int a1]).toArray below meth c H locs 0 0 (MQ below (cs_Qi D cy ad (fun r S1 => r = Res ∧ S1 = S)) ([.ref (ad 3), .int a1]).toArray s 0 0 (cs_A ad)) (F0 m 2 ls []) := by
    intro n
    induction n with
    | zero => intro v2 H locs hw hS ls hl hm; exact absurd hm.2 (Nat.lt_irrefl 0)
    | succ n ih =>
      intro v2 H locs hw hS ls hl hm hRes
      replace hRes := m_X5_placeOf_L2_s.symm.trans hRes
      refine lv_iload_n hx hb dX5_placeOf_2 rfl (lv_at hl 0 rfl) ?_
      refine lv_aload_n hx hb dX5_placeOf_3 rfl (lv_at hl 1 rfl) ?_
      refine cs_get (C := RX5) (T := TX5) (N := 3) hF in_X5 hw hK 3 rfl rfl 0 (by decide) q_200 rfl dX5_placeOf_4 ?_
      refine cs_vir hF (c_X3_length l D cy ad S 8 (by decide)) (cwV 0 hts g_X5_23 rfl rfl rfl kk_X3_length ⟨Nat.le_of_ble_eq_true rfl, Nat.le_of_ble_eq_true rfl⟩) (cs_recvR hK hw (by decide)) hw hK hS rfl hl.1 [.int v2] rfl (Nat.le_of_ble_eq_true rfl) dX5_placeOf_7 (fun r_1 H locs hq hw hS => ?_)
      replace hRes := cs_letE hq hRes
      clear hq
      refine lv_icmp_ge (tgt := 33) hx hb dX5_placeOf_10 (by decide) (fun c_2 => ?_) (fun c_2 => ?_)
      · replace hRes := cs_T c_2 hRes
        refine lv_iconst (v := -1) hx hb dX5_placeOf_33 (by decide) ?_
        exact cs_iret hF hr hlk hw hK hS dX5_placeOf_34 ⟨hRes, rfl⟩
      · replace hRes := cs_F c_2 hRes
        refine lv_aload_n hx hb dX5_placeOf_13 rfl (lv_at hl 1 rfl) ?_
        refine cs_get (C := RX5) (T := TX5) (N := 3) hF in_X5 hw hK 3 rfl rfl 0 (by decide) q_200 rfl dX5_placeOf_14 ?_
        refine lv_iload_n hx hb dX5_placeOf_17 rfl (lv_at hl 0 rfl) ?_
        refine cs_vir hF (c_X3_at l D cy ad S 8 v2 (by decide)) (cwV 1 hts g_X5_27 rfl rfl rfl kk_X3_at ⟨Nat.le_of_ble_eq_true rfl, Nat.le_of_ble_eq_true rfl⟩) (cs_recvR hK hw (by decide)) hw hK hS rfl hl.1 [] rfl (Nat.le_of_ble_eq_true rfl) dX5_placeOf_18 (fun r_3 H locs hq hw hS => ?_)
        replace hRes := cs_letE hq hRes
        clear hq
        refine lv_iload_n hx hb dX5_placeOf_21 rfl (lv_at hl 2 rfl) ?_
        refine lv_icmp_ne (tgt := 27) hx hb dX5_placeOf_22 (by decide) (fun c_4 => ?_) (fun c_4 => ?_)
        · replace hRes := cs_F c_4 hRes
          refine lv_iinc (v := v2 + 1) (lv' := [(2, .int (v2 + 1)), (0, .ref (ad 3)), (1, .int a1)]) hx hb dX5_placeOf_27 hl (k := 0) rfl rfl (by decide) rfl (fun ls hl => ?_)
          refine lv_goto (tgt := 2) hx hb dX5_placeOf_30 (by decide) ?_
          exact ih (v2 + 1) _ _ hw hS _ (lv_sub hl [0, 1, 2] rfl) (cs_up hm.1 c_2) hRes
        · replace hRes := cs_T c_4 hRes
          refine lv_iload_n hx hb dX5_placeOf_25 rfl (lv_at hl 0 rfl) ?_
          exact cs_iret hF hr hlk hw hK hS dX5_placeOf_26 ⟨hRes, rfl⟩
  exact lp cs_N 0 _ _ hw hS _ (lv_sub hl [0, 1, 2] rfl) (cs_up0 0) hRes
theorem kk_X5_placeOf : yX5_placeOf.cls = RX5 ∧ yX5_placeOf.cls ≠ "java/lang/invoke/MethodHandle" ∧ yX5_placeOf.cls ≠ "java/lang/invoke/VarHandle" ∧ (parseMethodDescriptor yX5_placeOf.desc).map (fun d => d.parameters.length) = some 1 := by decide +kernel
theorem g_X5_38 : GoodIn cs_WS (wsV RX5 38 RX3 yX3_cut (cs_ws yX3_cut cX3_cut 3 none)) := cs_goodV q_209 q_30 q_31 q_10 q_23
def m_X5_letGo (S : cs_St) (a1 : Int32) : cs_St := cs_let (m_X3_cut S 8 a1 (a1 + 1)) (fun S_1 => cs_let (m_X3_cut S_1 9 a1 (a1 + 1)) (fun S_2 => S_2))
set_option maxHeartbeats 4000000 in
set_option maxRecDepth 100000 in
theorem c_X5_letGo (l : Launch) (D : va_G) (cy : ClassId) (ad : Nat → Nat) (S : cs_St) (a1 : Int32) : Met l yX5_letGo (cs_ws yX5_letGo cX5_letGo 2 none) (cs_rm 2 82) (cs_Pc D cy ad [.ref (ad 3), .int a1] S) (cs_Qv D cy ad (fun S1 => S1 = m_X5_letGo S a1)) 0 0 (cs_A ad) := by
  refine cs_of RX5 (by decide) rfl (Nat.le_of_ble_eq_true rfl) ?_
  intro p e s m below meth c hF hr hlk hw hK ls hl
  obtain ⟨hx, hb, hml, hown, hts⟩ := id hF
  have hS : va_S (cs_A ad) s.heap s.heap [] := va_S.rf
  have hl : lv_has ls 2 [(0, .ref (ad 3)), (1, .int a1)] := hl
  generalize hRes : m_X5_letGo S a1 = Res
  unfold m_X5_letGo at hRes
  refine lv_aload_n hx hb dX5_letGo_0 rfl (lv_at hl 0 rfl) ?_
  refine cs_get (C := RX5) (T := TX5) (N := 3) hF in_X5 hw hK 3 rfl rfl 0 (by decide) q_200 rfl dX5_letGo_1 ?_
  refine lv_iload_n hx hb dX5_letGo_4 rfl (lv_at hl 1 rfl) ?_
  refine lv_iload_n hx hb dX5_letGo_5 rfl (lv_at hl 1 rfl) ?_
  refine lv_iconst (v := 1) hx hb dX5_letGo_6 (by decide) ?_
  refine lv_iadd hx hb dX5_letGo_7 ?_
  refine cs_vv hF (c_X3_cut l D cy ad S 8 a1 (a1 + 1) (by decide)) (cwV 2 hts g_X5_38 rfl rfl rfl kk_X3_cut ⟨Nat.le_of_ble_eq_true rfl, Nat.le_of_ble_eq_true rfl⟩) (cs_recvR hK hw (by decide)) hw hK hS rfl hl.1 [] rfl (Nat.le_of_ble_eq_true rfl) dX5_letGo_8 (fun S_1 H locs hq hw hS => ?_)
  replace hRes := cs_letE hq hRes
  clear hq
  refine lv_aload_n hx hb dX5_letGo_11 rfl (lv_at hl 0 rfl) ?_
  refine cs_get (C := RX5) (T := TX5) (N := 3) hF in_X5 hw hK 3 rfl rfl 1 (by decide) q_82 rfl dX5_letGo_12 ?_
  refine lv_iload_n hx hb dX5_letGo_15 rfl (lv_at hl 1 rfl) ?_
  refine lv_iload_n hx hb dX5_letGo_16 rfl (lv_at hl 1 rfl) ?_
  refine lv_iconst (v := 1) hx hb dX5_letGo_17 (by decide) ?_
  refine lv_iadd hx hb dX5_letGo_18 ?_
  refine cs_vv hF (c_X3_cut l D cy ad S_1 9 a1 (a1 + 1) (by decide)) (cwV 2 hts g_X5_38 rfl rfl rfl kk_X3_cut ⟨Nat.le_of_ble_eq_true rfl, Nat.le_of_ble_eq_true rfl⟩) (cs_recvR hK hw (by decide)) hw hK hS rfl hl.1 [] rfl (Nat.le_of_ble_eq_true rfl) dX5_letGo_19 (fun S_2 H locs hq hw hS => ?_)
  replace hRes := cs_letE hq hRes
  clear hq
  exact cs_vret hF hr hlk hw hK hS dX5_letGo_22 hRes
theorem kk_X5_letGo : yX5_letGo.cls = RX5 ∧ yX5_letGo.cls ≠ "java/lang/invoke/MethodHandle" ∧ yX5_letGo.cls ≠ "java/lang/invoke/VarHandle" ∧ (parseMethodDescriptor yX5_letGo.desc).map (fun d => d.parameters.length) = some 1 := by decide +kernel
theorem g_X5_42 : GoodIn cs_WS (wsV RX5 42 RX3 yX3_empty (cs_ws yX3_empty cX3_empty 1 none)) := cs_goodV q_211 q_35 q_36 q_10 q_32
def m_X5_loseAll (S : cs_St) : cs_St := cs_let (m_X3_empty S 8) (fun S_1 => cs_let (m_X3_empty S_1 9) (fun S_2 => S_2))
set_option maxHeartbeats 4000000 in
set_option maxRecDepth 100000 in
theorem c_X5_loseAll (l : Launch) (D : va_G) (cy : ClassId) (ad : Nat → Nat) (S : cs_St) : Met l yX5_loseAll (cs_ws yX5_loseAll cX5_loseAll 1 none) (cs_rm 1 20) (cs_Pc D cy ad [.ref (ad 3)] S) (cs_Qv D cy ad (fun S1 => S1 = m_X5_loseAll S)) 0 0 (cs_A ad) := by
  refine cs_of RX5 (by decide) rfl (Nat.le_of_ble_eq_true rfl) ?_
  intro p e s m below meth c hF hr hlk hw hK ls hl
  obtain ⟨hx, hb, hml, hown, hts⟩ := id hF
  have hS : va_S (cs_A ad) s.heap s.heap [] := va_S.rf
  have hl : lv_has ls 1 [(0, .ref (ad 3))] := hl
  generalize hRes : m_X5_loseAll S = Res
  unfold m_X5_loseAll at hRes
  refine lv_aload_n hx hb dX5_loseAll_0 rfl (lv_at hl 0 rfl) ?_
  refine cs_get (C := RX5) (T := TX5) (N := 3) hF in_X5 hw hK 3 rfl rfl 0 (by decide) q_200 rfl dX5_loseAll_1 ?_
  refine cs_vv hF (c_X3_empty l D cy ad S 8 (by decide)) (cwV 0 hts g_X5_42 rfl rfl rfl kk_X3_empty ⟨Nat.le_of_ble_eq_true rfl, Nat.le_of_ble_eq_true rfl⟩) (cs_recvR hK hw (by decide)) hw hK hS rfl hl.1 [] rfl (Nat.le_of_ble_eq_true rfl) dX5_loseAll_4 (fun S_1 H locs hq hw hS => ?_)
  replace hRes := cs_letE hq hRes
  clear hq
  refine lv_aload_n hx hb dX5_loseAll_7 rfl (lv_at hl 0 rfl) ?_
  refine cs_get (C := RX5) (T := TX5) (N := 3) hF in_X5 hw hK 3 rfl rfl 1 (by decide) q_82 rfl dX5_loseAll_8 ?_
  refine cs_vv hF (c_X3_empty l D cy ad S_1 9 (by decide)) (cwV 0 hts g_X5_42 rfl rfl rfl kk_X3_empty ⟨Nat.le_of_ble_eq_true rfl, Nat.le_of_ble_eq_true rfl⟩) (cs_recvR hK hw (by decide)) hw hK hS rfl hl.1 [] rfl (Nat.le_of_ble_eq_true rfl) dX5_loseAll_11 (fun S_2 H locs hq hw hS => ?_)
  replace hRes := cs_letE hq hRes
  clear hq
  exact cs_vret hF hr hlk hw hK hS dX5_loseAll_14 hRes
theorem kk_X5_loseAll : yX5_loseAll.cls = RX5 ∧ yX5_loseAll.cls ≠ "java/lang/invoke/MethodHandle" ∧ yX5_loseAll.cls ≠ "java/lang/invoke/VarHandle" ∧ (parseMethodDescriptor yX5_loseAll.desc).map (fun d => d.parameters.length) = some 0 := by decide +kernel
def m_X5_see_L2 (S : cs_St) (u1 : Int32) (u2 : Int32) : Nat → Int32 → Int32
  | 0, _ => 0
  | n + 1, v3 => cs_let (m_X3_length S 9) (fun r_1 => (if r_1 ≤ v3 then 0 else cs_let (m_X3_at S 9 v3) (fun r_3 => (if r_3 < u1 then m_X5_see_L2 S u1 u2 n (v3 + 1) else cs_let (m_X3_at S 9 v3) (fun r_5 => (if u2 ≤ r_5 then m_X5_see_L2 S u1 u2 n (v3 + 1) else 1))))))
theorem m_X5_see_L2_s {S : cs_St} {u1 : Int32} {u2 : Int32} {n : Nat} {v3 : Int32} : m_X5_see_L2 S u1 u2 (n + 1) v3 = cs_let (m_X3_length S 9) (fun r_1 => (if r_1 ≤ v3 then 0 else cs_let (m_X3_at S 9 v3) (fun r_3 => (if r_3 < u1 then m_X5_see_L2 S u1 u2 n (v3 + 1) else cs_let (m_X3_at S 9 v3) (fun r_5 => (if u2 ≤ r_5 then m_X5_see_L2 S u1 u2 n (v3 + 1) else 1)))))) := rfl
def m_X5_see (S : cs_St) (a1 : Int32) (a2 : Int32) : Int32 := m_X5_see_L2 S a1 a2 cs_N 0
set_option maxHeartbeats 4000000 in
set_option maxRecDepth 100000 in
theorem c_X5_see (l : Launch) (D : va_G) (cy : ClassId) (ad : Nat → Nat) (S : cs_St) (a1 : Int32) (a2 : Int32) : Met l yX5_see (cs_ws yX5_see cX5_see 4 (some .boolean)) (cs_rm 1 21) (cs_Pc D cy ad [.ref (ad 3), .int a1, .int a2] S) (cs_Qi D cy ad (fun r S1 => r = m_X5_see S a1 a2 ∧ S1 = S)) 0 0 (cs_A ad) := by
  refine cs_of RX5 (by decide) rfl (Nat.le_of_ble_eq_true rfl) ?_
  intro p e s m below meth c hF hr hlk hw hK ls hl
  obtain ⟨hx, hb, hml, hown, hts⟩ := id hF
  have hS : va_S (cs_A ad) s.heap s.heap [] := va_S.rf
  have hl : lv_has ls 4 [(0, .ref (ad 3)), (1, .int a1), (2, .int a2)] := hl
  generalize hRes : m_X5_see S a1 a2 = Res
  unfold m_X5_see at hRes
  refine lv_iconst (v := 0) hx hb dX5_see_0 (by decide) ?_
  refine lv_istore_n (lv' := [(3, .int 0), (0, .ref (ad 3)), (1, .int a1), (2, .int a2)]) hx hb dX5_see_1 rfl hl (by decide) rfl (fun ls hl => ?_)
  -- the loop at 2
  have lp : ∀ (n : Nat) (v3 : Int32) (H : Heap) (locs : List Loc), cs_w D cy ad S H → va_S (cs_A ad) s.heap H locs → ∀ (ls : Array Slot), lv_has ls 4 [(3, .int v3), (0, .ref (ad 3)), (1, .int a1), (2, .int a2)] → (2147483647 - v3.toInt < (n : Int) ∧ 0 < n) → m_X5_see_L2 S a1 a2 n v3 = Res → W p l e (cs_rm 1 21) s m ([.ref (ad 3), .int a1, .int a2]).toArray below meth c H locs 0 0 (MQ below (cs_Qi D cy ad (fun r S1 => r = Res ∧ S1 = S)) ([.ref (ad 3), .int a1, .int a2]).toArray s 0 0 (cs_A ad)) (F0 m 2 ls []) := by
    intro n
    induction n with
    | zero => intro v3 H locs hw hS ls hl hm; exact absurd hm.2 (Nat.lt_irrefl 0)
    | succ n ih =>
      intro v3 H locs hw hS ls hl hm hRes
      replace hRes := m_X5_see_L2_s.symm.trans hRes
      refine lv_iload_n hx hb dX5_see_2 rfl (lv_at hl 0 rfl) ?_
      refine lv_aload_n hx hb dX5_see_3 rfl (lv_at hl 1 rfl) ?_
      refine cs_get (C := RX5) (T := TX5) (N := 3) hF in_X5 hw hK 3 rfl rfl 1 (by decide) q_82 rfl dX5_see_4 ?_
      refine cs_vir hF (c_X3_length l D cy ad S 9 (by decide)) (cwV 0 hts g_X5_23 rfl rfl rfl kk_X3_length ⟨Nat.le_of_ble_eq_true rfl, Nat.le_of_ble_eq_true rfl⟩) (cs_recvR hK hw (by decide)) hw hK hS rfl hl.1 [.int v3] rfl (Nat.le_of_ble_eq_true rfl) dX5_see_7 (fun r_1 H locs hq hw hS => ?_)
      replace hRes := cs_letE hq hRes
      clear hq
      refine lv_icmp_ge (tgt := 45) hx hb dX5_see_10 (by decide) (fun c_2 => ?_) (fun c_2 => ?_)
      · replace hRes := cs_T c_2 hRes
        refine lv_iconst (v := 0) hx hb dX5_see_45 (by decide) ?_
        exact cs_zret hF hr hlk hw hK hS dX5_see_46 ⟨hRes, rfl⟩
      · replace hRes := cs_F c_2 hRes
        refine lv_aload_n hx hb dX5_see_13 rfl (lv_at hl 1 rfl) ?_
        refine cs_get (C := RX5) (T := TX5) (N := 3) hF in_X5 hw hK 3 rfl rfl 1 (by decide) q_82 rfl dX5_see_14 ?_
        refine lv_iload_n hx hb dX5_see_17 rfl (lv_at hl 0 rfl) ?_
        refine cs_vir hF (c_X3_at l D cy ad S 9 v3 (by decide)) (cwV 1 hts g_X5_27 rfl rfl rfl kk_X3_at ⟨Nat.le_of_ble_eq_true rfl, Nat.le_of_ble_eq_true rfl⟩) (cs_recvR hK hw (by decide)) hw hK hS rfl hl.1 [] rfl (Nat.le_of_ble_eq_true rfl) dX5_see_18 (fun r_3 H locs hq hw hS => ?_)
        replace hRes := cs_letE hq hRes
        clear hq
        refine lv_iload_n hx hb dX5_see_21 rfl (lv_at hl 2 rfl) ?_
        refine lv_icmp_lt (tgt := 39) hx hb dX5_see_22 (by decide) (fun c_4 => ?_) (fun c_4 => ?_)
        · replace hRes := cs_T c_4 hRes
          refine lv_iinc (v := v3 + 1) (lv' := [(3, .int (v3 + 1)), (0, .ref (ad 3)), (1, .int a1), (2, .int a2)]) hx hb dX5_see_39 hl (k := 0) rfl rfl (by decide) rfl (fun ls hl => ?_)
          refine lv_goto (tgt := 2) hx hb dX5_see_42 (by decide) ?_
          exact ih (v3 + 1) _ _ hw hS _ (lv_sub hl [0, 1, 2, 3] rfl) (cs_up hm.1 c_2) hRes
        · replace hRes := cs_F c_4 hRes
          refine lv_aload_n hx hb dX5_see_25 rfl (lv_at hl 1 rfl) ?_
          refine cs_get (C := RX5) (T := TX5) (N := 3) hF in_X5 hw hK 3 rfl rfl 1 (by decide) q_82 rfl dX5_see_26 ?_
          refine lv_iload_n hx hb dX5_see_29 rfl (lv_at hl 0 rfl) ?_
          refine cs_vir hF (c_X3_at l D cy ad S 9 v3 (by decide)) (cwV 1 hts g_X5_27 rfl rfl rfl kk_X3_at ⟨Nat.le_of_ble_eq_true rfl, Nat.le_of_ble_eq_true rfl⟩) (cs_recvR hK hw (by decide)) hw hK hS rfl hl.1 [] rfl (Nat.le_of_ble_eq_true rfl) dX5_see_30 (fun r_5 H locs hq hw hS => ?_)
          replace hRes := cs_letE hq hRes
          clear hq
          refine lv_iload_n hx hb dX5_see_33 rfl (lv_at hl 3 rfl) ?_
          refine lv_icmp_ge (tgt := 39) hx hb dX5_see_34 (by decide) (fun c_6 => ?_) (fun c_6 => ?_)
          · replace hRes := cs_T c_6 hRes
            refine lv_iinc (v := v3 + 1) (lv' := [(3, .int (v3 + 1)), (0, .ref (ad 3)), (1, .int a1), (2, .int a2)]) hx hb dX5_see_39 hl (k := 0) rfl rfl (by decide) rfl (fun ls hl => ?_)
            refine lv_goto (tgt := 2) hx hb dX5_see_42 (by decide) ?_
            exact ih (v3 + 1) _ _ hw hS _ (lv_sub hl [0, 1, 2, 3] rfl) (cs_up hm.1 c_2) hRes
          · replace hRes := cs_F c_6 hRes
            refine lv_iconst (v := 1) hx hb dX5_see_37 (by decide) ?_
            exact cs_zret hF hr hlk hw hK hS dX5_see_38 ⟨hRes, rfl⟩
  exact lp cs_N 0 _ _ hw hS _ (lv_sub hl [0, 1, 2, 3] rfl) (cs_up0 0) hRes
theorem kk_X5_see : yX5_see.cls = RX5 ∧ yX5_see.cls ≠ "java/lang/invoke/MethodHandle" ∧ yX5_see.cls ≠ "java/lang/invoke/VarHandle" ∧ (parseMethodDescriptor yX5_see.desc).map (fun d => d.parameters.length) = some 2 := by decide +kernel
