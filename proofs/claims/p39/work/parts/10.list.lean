def m_J13_bitCount_95d88 (S : cs_St) (a0 : Int64) : Int32 := cs_let (a0 - (((a0.toUInt64 >>> ((1 : Int32).toInt64.toUInt64 &&& Int64.toUInt64 63)).toInt64) &&& 6148914691236517205)) (fun r_1 => cs_let ((r_1 &&& 3689348814741910323) + (((r_1.toUInt64 >>> ((2 : Int32).toInt64.toUInt64 &&& Int64.toUInt64 63)).toInt64) &&& 3689348814741910323)) (fun r_2 => cs_let ((r_2 + ((r_2.toUInt64 >>> ((4 : Int32).toInt64.toUInt64 &&& Int64.toUInt64 63)).toInt64)) &&& 1085102592571150095) (fun r_3 => cs_let (r_3 + ((r_3.toUInt64 >>> ((8 : Int32).toInt64.toUInt64 &&& Int64.toUInt64 63)).toInt64)) (fun r_4 => cs_let (r_4 + ((r_4.toUInt64 >>> ((16 : Int32).toInt64.toUInt64 &&& Int64.toUInt64 63)).toInt64)) (fun r_5 => cs_let (r_5 + ((r_5.toUInt64 >>> ((32 : Int32).toInt64.toUInt64 &&& Int64.toUInt64 63)).toInt64)) (fun r_6 => (r_6.toInt32 &&& 127)))))))
set_option maxHeartbeats 4000000 in
set_option maxRecDepth 100000 in
theorem c_J13_bitCount_95d88 (l : Launch) (D : va_G) (cy : ClassId) (ad : Nat → Nat) (S : cs_St) (a0 : Int64) : Met l yJ13_bitCount_95d88 (cs_ws yJ13_bitCount_95d88 cJ13_bitCount_95d88 2 (some .int)) (cs_rm 0 0) (cs_Pc D cy ad [.long a0] S) (cs_Qi D cy ad (fun r S1 => r = m_J13_bitCount_95d88 S a0 ∧ S1 = S)) 0 0 (cs_A ad) := by
  refine cs_of RJ13 (by decide) rfl (Nat.le_of_ble_eq_true rfl) ?_
  intro p e s m below meth c hF hr hlk hw hK ls hl
  obtain ⟨hx, hb, hml, hown, hts⟩ := id hF
  have hS : va_S (cs_A ad) s.heap s.heap [] := va_S.rf
  have hl : lv_has ls 2 [(0, .long a0)] := hl
  generalize hRes : m_J13_bitCount_95d88 S a0 = Res
  unfold m_J13_bitCount_95d88 at hRes
  refine lv_lload_n hx hb dJ13_bitCount_95d88_0 rfl (lv_at hl 0 rfl) ?_
  refine lv_lload_n hx hb dJ13_bitCount_95d88_1 rfl (lv_at hl 0 rfl) ?_
  refine lv_iconst (v := 1) hx hb dJ13_bitCount_95d88_2 (by decide) ?_
  refine lv_lushr (v := (a0.toUInt64 >>> ((1 : Int32).toInt64.toUInt64 &&& Int64.toUInt64 63)).toInt64) hx hb dJ13_bitCount_95d88_3 rfl ?_
  refine lv_ldc2 (v := 6148914691236517205) hx hb hown (hts _ q_193) dJ13_bitCount_95d88_4 ?_
  refine lv_land hx hb dJ13_bitCount_95d88_7 ?_
  refine lv_lsub hx hb dJ13_bitCount_95d88_8 ?_
  refine lv_topl (fun r_1 hq => ?_)
  replace hRes := cs_letE hq hRes
  clear hq
  refine lv_lstore_n (lv' := [(0, .long r_1)]) hx hb dJ13_bitCount_95d88_9 rfl hl (by decide) rfl (fun ls hl => ?_)
  refine lv_lload_n hx hb dJ13_bitCount_95d88_10 rfl (lv_at hl 0 rfl) ?_
  refine lv_ldc2 (v := 3689348814741910323) hx hb hown (hts _ q_194) dJ13_bitCount_95d88_11 ?_
  refine lv_land hx hb dJ13_bitCount_95d88_14 ?_
  refine lv_lload_n hx hb dJ13_bitCount_95d88_15 rfl (lv_at hl 0 rfl) ?_
  refine lv_iconst (v := 2) hx hb dJ13_bitCount_95d88_16 (by decide) ?_
  refine lv_lushr (v := (r_1.toUInt64 >>> ((2 : Int32).toInt64.toUInt64 &&& Int64.toUInt64 63)).toInt64) hx hb dJ13_bitCount_95d88_17 rfl ?_
  refine lv_ldc2 (v := 3689348814741910323) hx hb hown (hts _ q_194) dJ13_bitCount_95d88_18 ?_
  refine lv_land hx hb dJ13_bitCount_95d88_21 ?_
  refine lv_ladd hx hb dJ13_bitCount_95d88_22 ?_
  refine lv_topl (fun r_2 hq => ?_)
  replace hRes := cs_letE hq hRes
  clear hq
  refine lv_lstore_n (lv' := [(0, .long r_2)]) hx hb dJ13_bitCount_95d88_23 rfl hl (by decide) rfl (fun ls hl => ?_)
  refine lv_lload_n hx hb dJ13_bitCount_95d88_24 rfl (lv_at hl 0 rfl) ?_
  refine lv_lload_n hx hb dJ13_bitCount_95d88_25 rfl (lv_at hl 0 rfl) ?_
  refine lv_iconst (v := 4) hx hb dJ13_bitCount_95d88_26 (by decide) ?_
  refine lv_lushr (v := (r_2.toUInt64 >>> ((4 : Int32).toInt64.toUInt64 &&& Int64.toUInt64 63)).toInt64) hx hb dJ13_bitCount_95d88_27 rfl ?_
  refine lv_ladd hx hb dJ13_bitCount_95d88_28 ?_
  refine lv_ldc2 (v := 1085102592571150095) hx hb hown (hts _ q_195) dJ13_bitCount_95d88_29 ?_
  refine lv_land hx hb dJ13_bitCount_95d88_32 ?_
  refine lv_topl (fun r_3 hq => ?_)
  replace hRes := cs_letE hq hRes
  clear hq
  refine lv_lstore_n (lv' := [(0, .long r_3)]) hx hb dJ13_bitCount_95d88_33 rfl hl (by decide) rfl (fun ls hl => ?_)
  refine lv_lload_n hx hb dJ13_bitCount_95d88_34 rfl (lv_at hl 0 rfl) ?_
  refine lv_lload_n hx hb dJ13_bitCount_95d88_35 rfl (lv_at hl 0 rfl) ?_
  refine lv_bipush (v := 8) hx hb dJ13_bitCount_95d88_36 (by decide) ?_
  refine lv_lushr (v := (r_3.toUInt64 >>> ((8 : Int32).toInt64.toUInt64 &&& Int64.toUInt64 63)).toInt64) hx hb dJ13_bitCount_95d88_38 rfl ?_
  refine lv_ladd hx hb dJ13_bitCount_95d88_39 ?_
  refine lv_topl (fun r_4 hq => ?_)
  replace hRes := cs_letE hq hRes
  clear hq
  refine lv_lstore_n (lv' := [(0, .long r_4)]) hx hb dJ13_bitCount_95d88_40 rfl hl (by decide) rfl (fun ls hl => ?_)
  refine lv_lload_n hx hb dJ13_bitCount_95d88_41 rfl (lv_at hl 0 rfl) ?_
  refine lv_lload_n hx hb dJ13_bitCount_95d88_42 rfl (lv_at hl 0 rfl) ?_
  refine lv_bipush (v := 16) hx hb dJ13_bitCount_95d88_43 (by decide) ?_
  refine lv_lushr (v := (r_4.toUInt64 >>> ((16 : Int32).toInt64.toUInt64 &&& Int64.toUInt64 63)).toInt64) hx hb dJ13_bitCount_95d88_45 rfl ?_
  refine lv_ladd hx hb dJ13_bitCount_95d88_46 ?_
  refine lv_topl (fun r_5 hq => ?_)
  replace hRes := cs_letE hq hRes
  clear hq
  refine lv_lstore_n (lv' := [(0, .long r_5)]) hx hb dJ13_bitCount_95d88_47 rfl hl (by decide) rfl (fun ls hl => ?_)
  refine lv_lload_n hx hb dJ13_bitCount_95d88_48 rfl (lv_at hl 0 rfl) ?_
  refine lv_lload_n hx hb dJ13_bitCount_95d88_49 rfl (lv_at hl 0 rfl) ?_
  refine lv_bipush (v := 32) hx hb dJ13_bitCount_95d88_50 (by decide) ?_
  refine lv_lushr (v := (r_5.toUInt64 >>> ((32 : Int32).toInt64.toUInt64 &&& Int64.toUInt64 63)).toInt64) hx hb dJ13_bitCount_95d88_52 rfl ?_
  refine lv_ladd hx hb dJ13_bitCount_95d88_53 ?_
  refine lv_topl (fun r_6 hq => ?_)
  replace hRes := cs_letE hq hRes
  clear hq
  refine lv_lstore_n (lv' := [(0, .long r_6)]) hx hb dJ13_bitCount_95d88_54 rfl hl (by decide) rfl (fun ls hl => ?_)
  refine lv_lload_n hx hb dJ13_bitCount_95d88_55 rfl (lv_at hl 0 rfl) ?_
  refine lv_l2i (v := r_6.toInt32) hx hb dJ13_bitCount_95d88_56 rfl ?_
  refine lv_bipush (v := 127) hx hb dJ13_bitCount_95d88_57 (by decide) ?_
  refine lv_iand hx hb dJ13_bitCount_95d88_59 ?_
  exact cs_iret hF hr hlk hw hK hS dJ13_bitCount_95d88_60 ⟨hRes, rfl⟩
theorem kk_J13_bitCount_95d88 : yJ13_bitCount_95d88.cls ≠ "java/lang/invoke/MethodHandle" ∧ yJ13_bitCount_95d88.cls ≠ "java/lang/invoke/VarHandle" ∧ (parseMethodDescriptor yJ13_bitCount_95d88.desc).map (fun d => d.parameters.length) = some 1 := by decide +kernel
theorem g_X4_104 : GoodIn cs_WS (va_wsS RX4 104 yJ13_bitCount_95d88 (cs_ws yJ13_bitCount_95d88 cJ13_bitCount_95d88 2 (some .int))) := cs_goodS q_189 q_190 q_191 q_192
def m_X4_setBits (S : cs_St) (a1 : Int32) : Int32 := cs_let (m_X3_at S 12 a1) (fun r_1 => (if r_1 ≤ 0 then (-1) else cs_let (m_X4_filterOf S a1) (fun r_3 => cs_let (m_J13_bitCount_95d88 S r_3) (fun r_4 => r_4))))
set_option maxHeartbeats 4000000 in
set_option maxRecDepth 100000 in
theorem c_X4_setBits (l : Launch) (D : va_G) (cy : ClassId) (ad : Nat → Nat) (S : cs_St) (a1 : Int32) : Met l yX4_setBits (cs_ws yX4_setBits cX4_setBits 2 (some .int)) (cs_rm 2 42) (cs_Pc D cy ad [.ref (ad 4), .int a1] S) (cs_Qi D cy ad (fun r S1 => r = m_X4_setBits S a1 ∧ S1 = S)) 0 0 (cs_A ad) := by
  refine cs_of RX4 (by decide) rfl (Nat.le_of_ble_eq_true rfl) ?_
  intro p e s m below meth c hF hr hlk hw hK ls hl
  obtain ⟨hx, hb, hml, hown, hts⟩ := id hF
  have hS : va_S (cs_A ad) s.heap s.heap [] := va_S.rf
  have hl : lv_has ls 2 [(0, .ref (ad 4)), (1, .int a1)] := hl
  generalize hRes : m_X4_setBits S a1 = Res
  unfold m_X4_setBits at hRes
  refine lv_aload_n hx hb dX4_setBits_0 rfl (lv_at hl 0 rfl) ?_
  refine cs_get (C := RX4) (T := TX4) (N := 8) hF in_X4 hw hK 4 rfl rfl 3 (by decide) q_122 rfl dX4_setBits_1 ?_
  refine lv_iload_n hx hb dX4_setBits_4 rfl (lv_at hl 1 rfl) ?_
  refine cs_vir hF (c_X3_at l D cy ad S 12 a1 (by decide)) (cwV 1 hts g_X4_46 rfl rfl rfl kk_X3_at ⟨Nat.le_of_ble_eq_true rfl, Nat.le_of_ble_eq_true rfl⟩) (cs_recvR hK hw (by decide)) hw hK hS rfl hl.1 [] rfl (Nat.le_of_ble_eq_true rfl) dX4_setBits_5 (fun r_1 H locs hq hw hS => ?_)
  replace hRes := cs_letE hq hRes
  clear hq
  refine lv_if_le (tgt := 22) hx hb dX4_setBits_8 (by decide) (fun c_2 => ?_) (fun c_2 => ?_)
  · replace hRes := cs_T c_2 hRes
    refine lv_iconst (v := -1) hx hb dX4_setBits_22 (by decide) ?_
    exact cs_iret hF hr hlk hw hK hS dX4_setBits_23 ⟨hRes, rfl⟩
  · replace hRes := cs_F c_2 hRes
    refine lv_aload_n hx hb dX4_setBits_11 rfl (lv_at hl 0 rfl) ?_
    refine lv_iload_n hx hb dX4_setBits_12 rfl (lv_at hl 1 rfl) ?_
    refine cs_vlr hF (c_X4_filterOf l D cy ad S a1) (cwV 1 hts g_X4_100 rfl rfl rfl kk_X4_filterOf ⟨Nat.le_of_ble_eq_true rfl, Nat.le_of_ble_eq_true rfl⟩) (cs_recv hK hw (ci := 4) 4 rfl rfl) hw hK hS rfl hl.1 [] rfl (Nat.le_of_ble_eq_true rfl) dX4_setBits_13 (fun r_3 H locs hq hw hS => ?_)
    replace hRes := cs_letE hq hRes
    clear hq
    refine cs_sir hF (c_J13_bitCount_95d88 l D cy ad S r_3) (va_cwS 1 hts g_X4_104 rfl rfl rfl kk_J13_bitCount_95d88 ⟨Nat.le_of_ble_eq_true rfl, Nat.le_of_ble_eq_true rfl⟩) hw hK hS rfl hl.1 [] rfl (Nat.le_of_ble_eq_true rfl) dX4_setBits_16 (fun r_4 H locs hq hw hS => ?_)
    replace hRes := cs_letE hq hRes
    clear hq
    refine lv_goto (tgt := 23) hx hb dX4_setBits_19 (by decide) ?_
    exact cs_iret hF hr hlk hw hK hS dX4_setBits_23 ⟨hRes, rfl⟩
theorem kk_X4_setBits : yX4_setBits.cls = RX4 ∧ yX4_setBits.cls ≠ "java/lang/invoke/MethodHandle" ∧ yX4_setBits.cls ≠ "java/lang/invoke/VarHandle" ∧ (parseMethodDescriptor yX4_setBits.desc).map (fun d => d.parameters.length) = some 1 := by decide +kernel
theorem g_X6_240 : GoodIn cs_WS (wsV RX6 240 RX4 yX4_setBits (cs_ws yX4_setBits cX4_setBits 2 (some .int))) := cs_goodV q_490 q_491 q_492 q_139 q_185
def m_X6_digestRun_L38 (S : cs_St) (u1 : Int64) (u3 : Int32) : Nat → Int64 → Int32 → Int64 × Int32
  | 0, _, _ => (0, 0)
  | n + 1, v4, v6 => cs_let (m_X4_length S u3) (fun r_3 => (if r_3 ≤ v6 then (v4, v6) else cs_let (m_X4_age S u3 v6) (fun r_5 => cs_let (m_X1_key S r_5) (fun r_6 => cs_let (m_X1_value S r_5) (fun r_7 => cs_let ((((((v4 * 31) + r_6.toInt64) * 31) + r_5.toInt64) * 31) + r_7.toInt64) (fun r_8 => m_X6_digestRun_L38 S u1 u3 n r_8 (v6 + 1)))))))
theorem m_X6_digestRun_L38_s {S : cs_St} {u1 : Int64} {u3 : Int32} {n : Nat} {v4 : Int64} {v6 : Int32} : m_X6_digestRun_L38 S u1 u3 (n + 1) v4 v6 = cs_let (m_X4_length S u3) (fun r_3 => (if r_3 ≤ v6 then (v4, v6) else cs_let (m_X4_age S u3 v6) (fun r_5 => cs_let (m_X1_key S r_5) (fun r_6 => cs_let (m_X1_value S r_5) (fun r_7 => cs_let ((((((v4 * 31) + r_6.toInt64) * 31) + r_5.toInt64) * 31) + r_7.toInt64) (fun r_8 => m_X6_digestRun_L38 S u1 u3 n r_8 (v6 + 1))))))) := rfl
def m_X6_digestRun (S : cs_St) (a1 : Int64) (a3 : Int32) : Int64 := cs_let (m_X4_length S a3) (fun r_1 => cs_let (m_X4_setBits S a3) (fun r_2 => cs_let (m_X6_digestRun_L38 S a1 a3 cs_N ((((a1 * 31) + r_1.toInt64) * 31) + r_2.toInt64) 0) (fun T_9 => T_9.1)))
set_option maxHeartbeats 4000000 in
set_option maxRecDepth 100000 in
theorem c_X6_digestRun (l : Launch) (D : va_G) (cy : ClassId) (ad : Nat → Nat) (S : cs_St) (a1 : Int64) (a3 : Int32) : Met l yX6_digestRun (cs_ws yX6_digestRun cX6_digestRun 8 (some .long)) (cs_rm 3 64) (cs_Pc D cy ad [.ref (ad 0), .long a1, .int a3] S) (cs_Ql D cy ad (fun r S1 => r = m_X6_digestRun S a1 a3 ∧ S1 = S)) 0 0 (cs_A ad) := by
  refine cs_of RX6 (by decide) rfl (Nat.le_of_ble_eq_true rfl) ?_
  intro p e s m below meth c hF hr hlk hw hK ls hl
  obtain ⟨hx, hb, hml, hown, hts⟩ := id hF
  have hS : va_S (cs_A ad) s.heap s.heap [] := va_S.rf
  have hl : lv_has ls 8 [(0, .ref (ad 0)), (1, .long a1), (3, .int a3)] := hl
  generalize hRes : m_X6_digestRun S a1 a3 = Res
  unfold m_X6_digestRun at hRes
  refine lv_lload_n hx hb dX6_digestRun_0 rfl (lv_at hl 1 rfl) ?_
  refine lv_ldc2 (v := 31) hx hb hown (hts _ q_489) dX6_digestRun_1 ?_
  refine lv_lmul hx hb dX6_digestRun_4 ?_
  refine lv_aload_n hx hb dX6_digestRun_5 rfl (lv_at hl 0 rfl) ?_
  refine cs_get (C := RX6) (T := TX6) (N := 15) hF in_X6 hw hK 0 rfl rfl 13 (by decide) q_237 rfl dX6_digestRun_6 ?_
  refine lv_iload_n hx hb dX6_digestRun_9 rfl (lv_at hl 2 rfl) ?_
  refine cs_vir hF (c_X4_length l D cy ad S a3) (cwV 1 hts g_X6_229 rfl rfl rfl kk_X4_length ⟨Nat.le_of_ble_eq_true rfl, Nat.le_of_ble_eq_true rfl⟩) (cs_recv hK hw (ci := 4) 4 rfl rfl) hw hK hS rfl hl.1 [.long (a1 * 31)] rfl (Nat.le_of_ble_eq_true rfl) dX6_digestRun_10 (fun r_1 H locs hq hw hS => ?_)
  replace hRes := cs_letE hq hRes
  clear hq
  refine lv_i2l (v := r_1.toInt64) hx hb dX6_digestRun_13 rfl ?_
  refine lv_ladd hx hb dX6_digestRun_14 ?_
  refine lv_lstore (lv' := [(4, .long ((a1 * 31) + r_1.toInt64)), (0, .ref (ad 0)), (1, .long a1), (3, .int a3)]) hx hb dX6_digestRun_15 hl (by decide) rfl (fun ls hl => ?_)
  refine lv_lload hx hb dX6_digestRun_17 (lv_at hl 0 rfl) ?_
  refine lv_ldc2 (v := 31) hx hb hown (hts _ q_489) dX6_digestRun_19 ?_
  refine lv_lmul hx hb dX6_digestRun_22 ?_
  refine lv_aload_n hx hb dX6_digestRun_23 rfl (lv_at hl 1 rfl) ?_
  refine cs_get (C := RX6) (T := TX6) (N := 15) hF in_X6 hw hK 0 rfl rfl 13 (by decide) q_237 rfl dX6_digestRun_24 ?_
  refine lv_iload_n hx hb dX6_digestRun_27 rfl (lv_at hl 3 rfl) ?_
  refine cs_vir hF (c_X4_setBits l D cy ad S a3) (cwV 1 hts g_X6_240 rfl rfl rfl kk_X4_setBits ⟨Nat.le_of_ble_eq_true rfl, Nat.le_of_ble_eq_true rfl⟩) (cs_recv hK hw (ci := 4) 4 rfl rfl) hw hK hS rfl hl.1 [.long (((a1 * 31) + r_1.toInt64) * 31)] rfl (Nat.le_of_ble_eq_true rfl) dX6_digestRun_28 (fun r_2 H locs hq hw hS => ?_)
  replace hRes := cs_letE hq hRes
  clear hq
  refine lv_i2l (v := r_2.toInt64) hx hb dX6_digestRun_31 rfl ?_
  refine lv_ladd hx hb dX6_digestRun_32 ?_
  refine lv_lstore (lv' := [(4, .long ((((a1 * 31) + r_1.toInt64) * 31) + r_2.toInt64)), (0, .ref (ad 0)), (1, .long a1), (3, .int a3)]) hx hb dX6_digestRun_33 hl (by decide) rfl (fun ls hl => ?_)
  refine lv_iconst (v := 0) hx hb dX6_digestRun_35 (by decide) ?_
  refine lv_istore (lv' := [(6, .int 0), (4, .long ((((a1 * 31) + r_1.toInt64) * 31) + r_2.toInt64)), (0, .ref (ad 0)), (1, .long a1), (3, .int a3)]) hx hb dX6_digestRun_36 hl (by decide) rfl (fun ls hl => ?_)
  -- the loop at 38
  obtain ⟨T_9, hq⟩ : ∃ z, z = m_X6_digestRun_L38 S a1 a3 cs_N ((((a1 * 31) + r_1.toInt64) * 31) + r_2.toInt64) 0 := ⟨_, rfl⟩
  replace hRes := cs_letE hq hRes
  have hk : ∀ (H : Heap) (locs : List Loc) (ls : Array Slot), cs_w D cy ad S H → va_S (cs_A ad) s.heap H locs → lv_has ls 8 [(6, .int T_9.2), (4, .long T_9.1), (0, .ref (ad 0)), (1, .long a1), (3, .int a3)] → W p l e (cs_rm 3 64) s m ([.ref (ad 0), .long a1, .int a3]).toArray below meth c H locs 0 0 (MQ below (cs_Ql D cy ad (fun r S1 => r = Res ∧ S1 = S)) ([.ref (ad 0), .long a1, .int a3]).toArray s 0 0 (cs_A ad)) (F0 m 119 ls []) := by
    intro H locs ls hw hS hl
    refine lv_lload hx hb dX6_digestRun_119 (lv_at hl 1 rfl) ?_
    exact cs_lret hF hr hlk hw hK hS dX6_digestRun_121 ⟨hRes, rfl⟩
  have lp : ∀ (n : Nat) (v4 : Int64) (v6 : Int32) (H : Heap) (locs : List Loc), cs_w D cy ad S H → va_S (cs_A ad) s.heap H locs → ∀ (ls : Array Slot), lv_has ls 8 [(6, .int v6), (4, .long v4), (0, .ref (ad 0)), (1, .long a1), (3, .int a3)] → (2147483647 - v6.toInt < (n : Int) ∧ 0 < n) → m_X6_digestRun_L38 S a1 a3 n v4 v6 = T_9 → W p l e (cs_rm 3 64) s m ([.ref (ad 0), .long a1, .int a3]).toArray below meth c H locs 0 0 (MQ below (cs_Ql D cy ad (fun r S1 => r = Res ∧ S1 = S)) ([.ref (ad 0), .long a1, .int a3]).toArray s 0 0 (cs_A ad)) (F0 m 38 ls []) := by
    intro n
    induction n with
    | zero => intro v4 v6 H locs hw hS ls hl hm; exact absurd hm.2 (Nat.lt_irrefl 0)
    | succ n ih =>
      intro v4 v6 H locs hw hS ls hl hm hE
      replace hE := m_X6_digestRun_L38_s.symm.trans hE
      refine lv_iload hx hb dX6_digestRun_38 (lv_at hl 0 rfl) ?_
      refine lv_aload_n hx hb dX6_digestRun_40 rfl (lv_at hl 2 rfl) ?_
      refine cs_get (C := RX6) (T := TX6) (N := 15) hF in_X6 hw hK 0 rfl rfl 13 (by decide) q_237 rfl dX6_digestRun_41 ?_
      refine lv_iload_n hx hb dX6_digestRun_44 rfl (lv_at hl 4 rfl) ?_
      refine cs_vir hF (c_X4_length l D cy ad S a3) (cwV 1 hts g_X6_229 rfl rfl rfl kk_X4_length ⟨Nat.le_of_ble_eq_true rfl, Nat.le_of_ble_eq_true rfl⟩) (cs_recv hK hw (ci := 4) 4 rfl rfl) hw hK hS rfl hl.1 [.int v6] rfl (Nat.le_of_ble_eq_true rfl) dX6_digestRun_45 (fun r_3 H locs hq hw hS => ?_)
      replace hE := cs_letE hq hE
      clear hq
      refine lv_icmp_ge (tgt := 119) hx hb dX6_digestRun_48 (by decide) (fun c_4 => ?_) (fun c_4 => ?_)
      · replace hE := cs_T c_4 hE
        subst hE
        exact hk _ _ _ hw hS (lv_sub hl [0, 1, 2, 3, 4] rfl)
      · replace hE := cs_F c_4 hE
        refine lv_aload_n hx hb dX6_digestRun_51 rfl (lv_at hl 2 rfl) ?_
        refine cs_get (C := RX6) (T := TX6) (N := 15) hF in_X6 hw hK 0 rfl rfl 13 (by decide) q_237 rfl dX6_digestRun_52 ?_
        refine lv_iload_n hx hb dX6_digestRun_55 rfl (lv_at hl 4 rfl) ?_
        refine lv_iload hx hb dX6_digestRun_56 (lv_at hl 0 rfl) ?_
        refine cs_vir hF (c_X4_age l D cy ad S a3 v6) (cwV 2 hts g_X6_238 rfl rfl rfl kk_X4_age ⟨Nat.le_of_ble_eq_true rfl, Nat.le_of_ble_eq_true rfl⟩) (cs_recv hK hw (ci := 4) 4 rfl rfl) hw hK hS rfl hl.1 [] rfl (Nat.le_of_ble_eq_true rfl) dX6_digestRun_58 (fun r_5 H locs hq hw hS => ?_)
        replace hE := cs_letE hq hE
        clear hq
        refine lv_istore (lv' := [(7, .int r_5), (6, .int v6), (4, .long v4), (0, .ref (ad 0)), (1, .long a1), (3, .int a3)]) hx hb dX6_digestRun_61 hl (by decide) rfl (fun ls hl => ?_)
        refine lv_lload hx hb dX6_digestRun_63 (lv_at hl 2 rfl) ?_
        refine lv_ldc2 (v := 31) hx hb hown (hts _ q_489) dX6_digestRun_65 ?_
        refine lv_lmul hx hb dX6_digestRun_68 ?_
        refine lv_aload_n hx hb dX6_digestRun_69 rfl (lv_at hl 3 rfl) ?_
        refine cs_get (C := RX6) (T := TX6) (N := 15) hF in_X6 hw hK 0 rfl rfl 11 (by decide) q_233 rfl dX6_digestRun_70 ?_
        refine lv_iload hx hb dX6_digestRun_73 (lv_at hl 0 rfl) ?_
        refine cs_vir hF (c_X1_key l D cy ad S r_5) (cwV 1 hts g_X6_214 rfl rfl rfl kk_X1_key ⟨Nat.le_of_ble_eq_true rfl, Nat.le_of_ble_eq_true rfl⟩) (cs_recv hK hw (ci := 1) 2 rfl rfl) hw hK hS rfl hl.1 [.long (v4 * 31)] rfl (Nat.le_of_ble_eq_true rfl) dX6_digestRun_75 (fun r_6 H locs hq hw hS => ?_)
        replace hE := cs_letE hq hE
        clear hq
        refine lv_i2l (v := r_6.toInt64) hx hb dX6_digestRun_78 rfl ?_
        refine lv_ladd hx hb dX6_digestRun_79 ?_
        refine lv_lstore (lv' := [(4, .long ((v4 * 31) + r_6.toInt64)), (7, .int r_5), (6, .int v6), (0, .ref (ad 0)), (1, .long a1), (3, .int a3)]) hx hb dX6_digestRun_80 hl (by decide) rfl (fun ls hl => ?_)
        refine lv_lload hx hb dX6_digestRun_82 (lv_at hl 0 rfl) ?_
        refine lv_ldc2 (v := 31) hx hb hown (hts _ q_489) dX6_digestRun_84 ?_
        refine lv_lmul hx hb dX6_digestRun_87 ?_
        refine lv_iload hx hb dX6_digestRun_88 (lv_at hl 1 rfl) ?_
        refine lv_i2l (v := r_5.toInt64) hx hb dX6_digestRun_90 rfl ?_
        refine lv_ladd hx hb dX6_digestRun_91 ?_
        refine lv_lstore (lv' := [(4, .long ((((v4 * 31) + r_6.toInt64) * 31) + r_5.toInt64)), (7, .int r_5), (6, .int v6), (0, .ref (ad 0)), (1, .long a1), (3, .int a3)]) hx hb dX6_digestRun_92 hl (by decide) rfl (fun ls hl => ?_)
        refine lv_lload hx hb dX6_digestRun_94 (lv_at hl 0 rfl) ?_
        refine lv_ldc2 (v := 31) hx hb hown (hts _ q_489) dX6_digestRun_96 ?_
        refine lv_lmul hx hb dX6_digestRun_99 ?_
        refine lv_aload_n hx hb dX6_digestRun_100 rfl (lv_at hl 3 rfl) ?_
        refine cs_get (C := RX6) (T := TX6) (N := 15) hF in_X6 hw hK 0 rfl rfl 11 (by decide) q_233 rfl dX6_digestRun_101 ?_
        refine lv_iload hx hb dX6_digestRun_104 (lv_at hl 1 rfl) ?_
        refine cs_vir hF (c_X1_value l D cy ad S r_5) (cwV 1 hts g_X6_220 rfl rfl rfl kk_X1_value ⟨Nat.le_of_ble_eq_true rfl, Nat.le_of_ble_eq_true rfl⟩) (cs_recv hK hw (ci := 1) 2 rfl rfl) hw hK hS rfl hl.1 [.long (((((v4 * 31) + r_6.toInt64) * 31) + r_5.toInt64) * 31)] rfl (Nat.le_of_ble_eq_true rfl) dX6_digestRun_106 (fun r_7 H locs hq hw hS => ?_)
        replace hE := cs_letE hq hE
        clear hq
        refine lv_i2l (v := r_7.toInt64) hx hb dX6_digestRun_109 rfl ?_
        refine lv_ladd hx hb dX6_digestRun_110 ?_
        refine lv_topl (fun r_8 hq => ?_)
        replace hE := cs_letE hq hE
        clear hq
        refine lv_lstore (lv' := [(4, .long r_8), (7, .int r_5), (6, .int v6), (0, .ref (ad 0)), (1, .long a1), (3, .int a3)]) hx hb dX6_digestRun_111 hl (by decide) rfl (fun ls hl => ?_)
        refine lv_iinc (v := v6 + 1) (lv' := [(6, .int (v6 + 1)), (4, .long r_8), (7, .int r_5), (0, .ref (ad 0)), (1, .long a1), (3, .int a3)]) hx hb dX6_digestRun_113 hl (k := 2) rfl rfl (by decide) rfl (fun ls hl => ?_)
        refine lv_goto (tgt := 38) hx hb dX6_digestRun_116 (by decide) ?_
        exact ih r_8 (v6 + 1) _ _ hw hS _ (lv_sub hl [0, 1, 3, 4, 5] rfl) (cs_up hm.1 c_4) hE
  exact lp cs_N ((((a1 * 31) + r_1.toInt64) * 31) + r_2.toInt64) 0 _ _ hw hS _ (lv_sub hl [0, 1, 2, 3, 4] rfl) (cs_up0 0) hq.symm
theorem kk_X6_digestRun : yX6_digestRun.cls = RX6 ∧ yX6_digestRun.cls ≠ "java/lang/invoke/MethodHandle" ∧ yX6_digestRun.cls ≠ "java/lang/invoke/VarHandle" ∧ (parseMethodDescriptor yX6_digestRun.desc).map (fun d => d.parameters.length) = some 2 := by decide +kernel
theorem g_X6_397 : GoodIn cs_WS (wsV RX6 397 RX2 yX2_keepThere (cs_ws yX2_keepThere cX2_keepThere 6 none)) := cs_goodV q_448 q_449 q_450 q_240 q_99
def m_X6_listThere (S : cs_St) (a1 : Int32) : cs_St := cs_let (m_X2_begin S) (fun S_1 => cs_let (m_X3_length S_1 3) (fun r_2 => cs_let (m_X2_gather S_1 3 0 r_2) (fun S_3 => cs_let (m_X3_length S_3 10) (fun r_4 => cs_let (m_X2_gather S_3 10 0 r_4) (fun S_5 => cs_let (m_X2_keepThere S_5 a1) (fun S_6 => S_6))))))
set_option maxHeartbeats 4000000 in
set_option maxRecDepth 100000 in
theorem c_X6_listThere (l : Launch) (D : va_G) (cy : ClassId) (ad : Nat → Nat) (S : cs_St) (a1 : Int32) : Met l yX6_listThere (cs_ws yX6_listThere cX6_listThere 2 (some (.object "SiltStore$Row"))) (cs_rm 3 67) (cs_Pc D cy ad [.ref (ad 0), .int a1] S) (cs_Qr D cy ad 42 (fun S1 => S1 = m_X6_listThere S a1)) 0 0 (cs_A ad) := by
  refine cs_of RX6 (by decide) rfl (Nat.le_of_ble_eq_true rfl) ?_
  intro p e s m below meth c hF hr hlk hw hK ls hl
  obtain ⟨hx, hb, hml, hown, hts⟩ := id hF
  have hS : va_S (cs_A ad) s.heap s.heap [] := va_S.rf
  have hl : lv_has ls 2 [(0, .ref (ad 0)), (1, .int a1)] := hl
  generalize hRes : m_X6_listThere S a1 = Res
  unfold m_X6_listThere at hRes
  refine lv_aload_n hx hb dX6_listThere_0 rfl (lv_at hl 0 rfl) ?_
  refine cs_get (C := RX6) (T := TX6) (N := 15) hF in_X6 hw hK 0 rfl rfl 14 (by decide) q_241 rfl dX6_listThere_1 ?_
  refine cs_vv hF (c_X2_begin l D cy ad S) (cwV 0 hts g_X6_320 rfl rfl rfl kk_X2_begin ⟨Nat.le_of_ble_eq_true rfl, Nat.le_of_ble_eq_true rfl⟩) (cs_recv hK hw (ci := 2) 5 rfl rfl) hw hK hS rfl hl.1 [] rfl (Nat.le_of_ble_eq_true rfl) dX6_listThere_4 (fun S_1 H locs hq hw hS => ?_)
  replace hRes := cs_letE hq hRes
  clear hq
  refine lv_aload_n hx hb dX6_listThere_7 rfl (lv_at hl 0 rfl) ?_
  refine cs_get (C := RX6) (T := TX6) (N := 15) hF in_X6 hw hK 0 rfl rfl 14 (by decide) q_241 rfl dX6_listThere_8 ?_
  refine lv_aload_n hx hb dX6_listThere_11 rfl (lv_at hl 0 rfl) ?_
  refine cs_get (C := RX6) (T := TX6) (N := 15) hF in_X6 hw hK 0 rfl rfl 10 (by decide) q_228 rfl dX6_listThere_12 ?_
  refine cs_getN (C := RX0) (T := TX0) (N := 3) hF in_X0 hw hK 1 rfl rfl 0 (by decide) (List.mem_of_getElem? (i := 0) rfl) rfl dX6_listThere_15 ?_
  refine lv_iconst (v := 0) hx hb dX6_listThere_18 (by decide) ?_
  refine lv_aload_n hx hb dX6_listThere_19 rfl (lv_at hl 0 rfl) ?_
  refine cs_get (C := RX6) (T := TX6) (N := 15) hF in_X6 hw hK 0 rfl rfl 10 (by decide) q_228 rfl dX6_listThere_20 ?_
  refine cs_getN (C := RX0) (T := TX0) (N := 3) hF in_X0 hw hK 1 rfl rfl 0 (by decide) (List.mem_of_getElem? (i := 0) rfl) rfl dX6_listThere_23 ?_
  refine cs_vir hF (c_X3_length l D cy ad S_1 3 (by decide)) (cwV 0 hts g_X6_137 rfl rfl rfl kk_X3_length ⟨Nat.le_of_ble_eq_true rfl, Nat.le_of_ble_eq_true rfl⟩) (cs_recvR hK hw (by decide)) hw hK hS rfl hl.1 [.int 0, .ref (ad 12), .ref (ad 5)] rfl (Nat.le_of_ble_eq_true rfl) dX6_listThere_26 (fun r_2 H locs hq hw hS => ?_)
  replace hRes := cs_letE hq hRes
  clear hq
  refine cs_vv hF (c_X2_gather l D cy ad S_1 3 0 r_2 (by decide)) (cwV 3 hts g_X6_323 rfl rfl rfl kk_X2_gather ⟨Nat.le_of_ble_eq_true rfl, Nat.le_of_ble_eq_true rfl⟩) (cs_recv hK hw (ci := 2) 5 rfl rfl) hw hK hS rfl hl.1 [] rfl (Nat.le_of_ble_eq_true rfl) dX6_listThere_29 (fun S_3 H locs hq hw hS => ?_)
  replace hRes := cs_letE hq hRes
  clear hq
  refine lv_aload_n hx hb dX6_listThere_32 rfl (lv_at hl 0 rfl) ?_
  refine cs_get (C := RX6) (T := TX6) (N := 15) hF in_X6 hw hK 0 rfl rfl 14 (by decide) q_241 rfl dX6_listThere_33 ?_
  refine lv_aload_n hx hb dX6_listThere_36 rfl (lv_at hl 0 rfl) ?_
  refine cs_get (C := RX6) (T := TX6) (N := 15) hF in_X6 hw hK 0 rfl rfl 13 (by decide) q_237 rfl dX6_listThere_37 ?_
  refine cs_getN (C := RX4) (T := TX4) (N := 8) hF in_X4 hw hK 4 rfl rfl 1 (by decide) (List.mem_of_getElem? (i := 4) rfl) rfl dX6_listThere_40 ?_
  refine lv_iconst (v := 0) hx hb dX6_listThere_43 (by decide) ?_
  refine lv_aload_n hx hb dX6_listThere_44 rfl (lv_at hl 0 rfl) ?_
  refine cs_get (C := RX6) (T := TX6) (N := 15) hF in_X6 hw hK 0 rfl rfl 13 (by decide) q_237 rfl dX6_listThere_45 ?_
  refine cs_getN (C := RX4) (T := TX4) (N := 8) hF in_X4 hw hK 4 rfl rfl 1 (by decide) (List.mem_of_getElem? (i := 4) rfl) rfl dX6_listThere_48 ?_
  refine cs_vir hF (c_X3_length l D cy ad S_3 10 (by decide)) (cwV 0 hts g_X6_137 rfl rfl rfl kk_X3_length ⟨Nat.le_of_ble_eq_true rfl, Nat.le_of_ble_eq_true rfl⟩) (cs_recvR hK hw (by decide)) hw hK hS rfl hl.1 [.int 0, .ref (ad 26), .ref (ad 5)] rfl (Nat.le_of_ble_eq_true rfl) dX6_listThere_51 (fun r_4 H locs hq hw hS => ?_)
  replace hRes := cs_letE hq hRes
  clear hq
  refine cs_vv hF (c_X2_gather l D cy ad S_3 10 0 r_4 (by decide)) (cwV 3 hts g_X6_323 rfl rfl rfl kk_X2_gather ⟨Nat.le_of_ble_eq_true rfl, Nat.le_of_ble_eq_true rfl⟩) (cs_recv hK hw (ci := 2) 5 rfl rfl) hw hK hS rfl hl.1 [] rfl (Nat.le_of_ble_eq_true rfl) dX6_listThere_54 (fun S_5 H locs hq hw hS => ?_)
  replace hRes := cs_letE hq hRes
  clear hq
  refine lv_aload_n hx hb dX6_listThere_57 rfl (lv_at hl 0 rfl) ?_
  refine cs_get (C := RX6) (T := TX6) (N := 15) hF in_X6 hw hK 0 rfl rfl 14 (by decide) q_241 rfl dX6_listThere_58 ?_
  refine lv_iload_n hx hb dX6_listThere_61 rfl (lv_at hl 1 rfl) ?_
  refine cs_vv hF (c_X2_keepThere l D cy ad S_5 a1) (cwV 1 hts g_X6_397 rfl rfl rfl kk_X2_keepThere ⟨Nat.le_of_ble_eq_true rfl, Nat.le_of_ble_eq_true rfl⟩) (cs_recv hK hw (ci := 2) 5 rfl rfl) hw hK hS rfl hl.1 [] rfl (Nat.le_of_ble_eq_true rfl) dX6_listThere_62 (fun S_6 H locs hq hw hS => ?_)
  replace hRes := cs_letE hq hRes
  clear hq
  refine lv_aload_n hx hb dX6_listThere_65 rfl (lv_at hl 0 rfl) ?_
  refine cs_get (C := RX6) (T := TX6) (N := 15) hF in_X6 hw hK 0 rfl rfl 14 (by decide) q_241 rfl dX6_listThere_66 ?_
  refine cs_getN (C := RX2) (T := TX2) (N := 4) hF in_X2 hw hK 5 rfl rfl 3 (by decide) (List.mem_of_getElem? (i := 5) rfl) rfl dX6_listThere_69 ?_
  exact cs_aret (k := 42) hF hr hlk hw hK hS dX6_listThere_72 hRes
theorem kk_X6_listThere : yX6_listThere.cls = RX6 ∧ yX6_listThere.cls ≠ "java/lang/invoke/MethodHandle" ∧ yX6_listThere.cls ≠ "java/lang/invoke/VarHandle" ∧ (parseMethodDescriptor yX6_listThere.desc).map (fun d => d.parameters.length) = some 1 := by decide +kernel
theorem g_X6_207 : GoodIn cs_WS (wsV RX6 207 RX6 yX6_listThere (cs_ws yX6_listThere cX6_listThere 2 (some (.object "SiltStore$Row")))) := cs_goodV q_452 q_453 q_454 q_299 q_447
def m_X6_next_L36 (S : cs_St) (u1 : Int32) : Nat → Int32 → Int32 × cs_St
  | 0, _ => (0, S)
  | n + 1, v3 => cs_let (m_X3_length S 18) (fun r_5 => (if r_5 ≤ v3 then ((-1), S) else cs_let (m_X3_at S 18 v3) (fun r_7 => cs_let (m_X1_key S r_7) (fun r_8 => (if r_8 ≤ u1 then m_X6_next_L36 S u1 n (v3 + 1) else (r_8, S))))))
theorem m_X6_next_L36_s {S : cs_St} {u1 : Int32} {n : Nat} {v3 : Int32} : m_X6_next_L36 S u1 (n + 1) v3 = cs_let (m_X3_length S 18) (fun r_5 => (if r_5 ≤ v3 then ((-1), S) else cs_let (m_X3_at S 18 v3) (fun r_7 => cs_let (m_X1_key S r_7) (fun r_8 => (if r_8 ≤ u1 then m_X6_next_L36 S u1 n (v3 + 1) else (r_8, S)))))) := rfl
def m_X6_next (S : cs_St) (a1 : Int32) : Int32 × cs_St := cs_let (m_X1_newest S) (fun r_3 => cs_let (m_X6_listThere S r_3) (fun S_4 => m_X6_next_L36 S_4 a1 cs_N 0))
set_option maxHeartbeats 4000000 in
set_option maxRecDepth 100000 in
theorem c_X6_next (l : Launch) (D : va_G) (cy : ClassId) (ad : Nat → Nat) (S : cs_St) (a1 : Int32) (g0 : ¬ a1 < (-1)) (g1 : a1 ≤ 9999) : Met l yX6_next (cs_ws yX6_next cX6_next 5 (some .int)) (cs_rm 4 88) (cs_Pc D cy ad [.ref (ad 0), .int a1] S) (cs_Qi D cy ad (fun r S1 => r = (m_X6_next S a1).1 ∧ S1 = (m_X6_next S a1).2)) 0 0 (cs_A ad) := by
  refine cs_of RX6 (by decide) rfl (Nat.le_of_ble_eq_true rfl) ?_
  intro p e s m below meth c hF hr hlk hw hK ls hl
  obtain ⟨hx, hb, hml, hown, hts⟩ := id hF
  have hS : va_S (cs_A ad) s.heap s.heap [] := va_S.rf
  have hl : lv_has ls 5 [(0, .ref (ad 0)), (1, .int a1)] := hl
  generalize hRes : m_X6_next S a1 = Res
  unfold m_X6_next at hRes
  refine lv_iload_n hx hb dX6_next_0 rfl (lv_at hl 1 rfl) ?_
  refine lv_iconst (v := -1) hx hb dX6_next_1 (by decide) ?_
  refine lv_icmp_lt (tgt := 12) hx hb dX6_next_2 (by decide) (fun c_1 => absurd c_1 (g0)) (fun c_1 => ?_)
  refine lv_iload_n hx hb dX6_next_5 rfl (lv_at hl 1 rfl) ?_
  refine lv_sipush (v := 9999) hx hb dX6_next_6 (by decide) ?_
  refine lv_icmp_le (tgt := 22) hx hb dX6_next_9 (by decide) (fun c_2 => ?_) (fun c_2 => absurd (g1) c_2)
  refine lv_aload_n hx hb dX6_next_22 rfl (lv_at hl 0 rfl) ?_
  refine lv_aload_n hx hb dX6_next_23 rfl (lv_at hl 0 rfl) ?_
  refine cs_get (C := RX6) (T := TX6) (N := 15) hF in_X6 hw hK 0 rfl rfl 11 (by decide) q_233 rfl dX6_next_24 ?_
  refine cs_vir hF (c_X1_newest l D cy ad S) (cwV 0 hts g_X6_183 rfl rfl rfl kk_X1_newest ⟨Nat.le_of_ble_eq_true rfl, Nat.le_of_ble_eq_true rfl⟩) (cs_recv hK hw (ci := 1) 2 rfl rfl) hw hK hS rfl hl.1 [.ref (ad 0)] rfl (Nat.le_of_ble_eq_true rfl) dX6_next_27 (fun r_3 H locs hq hw hS => ?_)
  replace hRes := cs_letE hq hRes
  clear hq
  refine cs_vr hF (c_X6_listThere l D cy ad S r_3) (cwV 1 hts g_X6_207 rfl rfl rfl kk_X6_listThere ⟨Nat.le_of_ble_eq_true rfl, Nat.le_of_ble_eq_true rfl⟩) (cs_recv hK hw (ci := 6) 0 rfl rfl) hw hK hS rfl hl.1 [] rfl (Nat.le_of_ble_eq_true rfl) dX6_next_30 (fun S_4 H locs hq hw hS => ?_)
  replace hRes := cs_letE hq hRes
  clear hq
  refine lv_astore_n (lv' := [(2, .ref (ad 42)), (0, .ref (ad 0)), (1, .int a1)]) hx hb dX6_next_33 rfl hl (by decide) rfl (fun ls hl => ?_)
  refine lv_iconst (v := 0) hx hb dX6_next_34 (by decide) ?_
  refine lv_istore_n (lv' := [(3, .int 0), (2, .ref (ad 42)), (0, .ref (ad 0)), (1, .int a1)]) hx hb dX6_next_35 rfl hl (by decide) rfl (fun ls hl => ?_)
  -- the loop at 36
  have lp : ∀ (n : Nat) (v3 : Int32) (H : Heap) (locs : List Loc), cs_w D cy ad S_4 H → va_S (cs_A ad) s.heap H locs → ∀ (ls : Array Slot), lv_has ls 5 [(3, .int v3), (2, .ref (ad 42)), (0, .ref (ad 0)), (1, .int a1)] → (2147483647 - v3.toInt < (n : Int) ∧ 0 < n) → m_X6_next_L36 S_4 a1 n v3 = Res → W p l e (cs_rm 4 88) s m ([.ref (ad 0), .int a1]).toArray below meth c H locs 0 0 (MQ below (cs_Qi D cy ad (fun r S1 => r = Res.1 ∧ S1 = Res.2)) ([.ref (ad 0), .int a1]).toArray s 0 0 (cs_A ad)) (F0 m 36 ls []) := by
    intro n
    induction n with
    | zero => intro v3 H locs hw hS ls hl hm; exact absurd hm.2 (Nat.lt_irrefl 0)
    | succ n ih =>
      intro v3 H locs hw hS ls hl hm hRes
      replace hRes := m_X6_next_L36_s.symm.trans hRes
      refine lv_iload_n hx hb dX6_next_36 rfl (lv_at hl 0 rfl) ?_
      refine lv_aload_n hx hb dX6_next_37 rfl (lv_at hl 1 rfl) ?_
      refine cs_vir hF (c_X3_length l D cy ad S_4 18 (by decide)) (cwV 0 hts g_X6_137 rfl rfl rfl kk_X3_length ⟨Nat.le_of_ble_eq_true rfl, Nat.le_of_ble_eq_true rfl⟩) (cs_recvR hK hw (by decide)) hw hK hS rfl hl.1 [.int v3] rfl (Nat.le_of_ble_eq_true rfl) dX6_next_38 (fun r_5 H locs hq hw hS => ?_)
      replace hRes := cs_letE hq hRes
      clear hq
      refine lv_icmp_ge (tgt := 73) hx hb dX6_next_41 (by decide) (fun c_6 => ?_) (fun c_6 => ?_)
      · replace hRes := cs_T c_6 hRes
        refine lv_iconst (v := -1) hx hb dX6_next_73 (by decide) ?_
        exact cs_iret hF hr hlk hw hK hS dX6_next_74 ⟨cs_eq1 hRes, cs_eq2 hRes⟩
      · replace hRes := cs_F c_6 hRes
        refine lv_aload_n hx hb dX6_next_44 rfl (lv_at hl 2 rfl) ?_
        refine cs_get (C := RX6) (T := TX6) (N := 15) hF in_X6 hw hK 0 rfl rfl 11 (by decide) q_233 rfl dX6_next_45 ?_
        refine lv_aload_n hx hb dX6_next_48 rfl (lv_at hl 1 rfl) ?_
        refine lv_iload_n hx hb dX6_next_49 rfl (lv_at hl 0 rfl) ?_
        refine cs_vir hF (c_X3_at l D cy ad S_4 18 v3 (by decide)) (cwV 1 hts g_X6_211 rfl rfl rfl kk_X3_at ⟨Nat.le_of_ble_eq_true rfl, Nat.le_of_ble_eq_true rfl⟩) (cs_recvR hK hw (by decide)) hw hK hS rfl hl.1 [.ref (ad 2)] rfl (Nat.le_of_ble_eq_true rfl) dX6_next_50 (fun r_7 H locs hq hw hS => ?_)
        replace hRes := cs_letE hq hRes
        clear hq
        refine cs_vir hF (c_X1_key l D cy ad S_4 r_7) (cwV 1 hts g_X6_214 rfl rfl rfl kk_X1_key ⟨Nat.le_of_ble_eq_true rfl, Nat.le_of_ble_eq_true rfl⟩) (cs_recv hK hw (ci := 1) 2 rfl rfl) hw hK hS rfl hl.1 [] rfl (Nat.le_of_ble_eq_true rfl) dX6_next_53 (fun r_8 H locs hq hw hS => ?_)
        replace hRes := cs_letE hq hRes
        clear hq
        refine lv_istore (lv' := [(4, .int r_8), (3, .int v3), (2, .ref (ad 42)), (0, .ref (ad 0)), (1, .int a1)]) hx hb dX6_next_56 hl (by decide) rfl (fun ls hl => ?_)
        refine lv_iload hx hb dX6_next_58 (lv_at hl 0 rfl) ?_
        refine lv_iload_n hx hb dX6_next_60 rfl (lv_at hl 4 rfl) ?_
        refine lv_icmp_le (tgt := 67) hx hb dX6_next_61 (by decide) (fun c_9 => ?_) (fun c_9 => ?_)
        · replace hRes := cs_T c_9 hRes
          refine lv_iinc (v := v3 + 1) (lv' := [(3, .int (v3 + 1)), (4, .int r_8), (2, .ref (ad 42)), (0, .ref (ad 0)), (1, .int a1)]) hx hb dX6_next_67 hl (k := 1) rfl rfl (by decide) rfl (fun ls hl => ?_)
          refine lv_goto (tgt := 36) hx hb dX6_next_70 (by decide) ?_
          exact ih (v3 + 1) _ _ hw hS _ (lv_sub hl [0, 2, 3, 4] rfl) (cs_up hm.1 c_6) hRes
        · replace hRes := cs_F c_9 hRes
          refine lv_iload hx hb dX6_next_64 (lv_at hl 0 rfl) ?_
          exact cs_iret hF hr hlk hw hK hS dX6_next_66 ⟨cs_eq1 hRes, cs_eq2 hRes⟩
  exact lp cs_N 0 _ _ hw hS _ (lv_sub hl [0, 1, 2, 3] rfl) (cs_up0 0) hRes
theorem kk_X6_next : yX6_next.cls = RX6 ∧ yX6_next.cls ≠ "java/lang/invoke/MethodHandle" ∧ yX6_next.cls ≠ "java/lang/invoke/VarHandle" ∧ (parseMethodDescriptor yX6_next.desc).map (fun d => d.parameters.length) = some 1 := by decide +kernel
theorem g_X6_217 : GoodIn cs_WS (va_wsS RX6 217 yX6_checkKeys (cs_ws yX6_checkKeys cX6_checkKeys 2 none)) := cs_goodS q_458 q_459 q_299 q_456
def m_X6_sum_L23 (S : cs_St) (u1 : Int32) (u2 : Int32) : Nat → Int32 → Int32 → Int32 × Int32
  | 0, _, _ => (0, 0)
  | n + 1, v4, v5 => cs_let (m_X3_length S 18) (fun r_3 => (if r_3 ≤ v5 then (v4, v5) else cs_let (m_X3_at S 18 v5) (fun r_5 => cs_let (m_X1_key S r_5) (fun r_6 => (if r_6 < u1 then m_X6_sum_L23 S u1 u2 n v4 (v5 + 1) else (if u2 < r_6 then m_X6_sum_L23 S u1 u2 n v4 (v5 + 1) else cs_let (m_X3_at S 18 v5) (fun r_9 => cs_let (m_X1_value S r_9) (fun r_10 => m_X6_sum_L23 S u1 u2 n (v4 + r_10) (v5 + 1)))))))))
theorem m_X6_sum_L23_s {S : cs_St} {u1 : Int32} {u2 : Int32} {n : Nat} {v4 : Int32} {v5 : Int32} : m_X6_sum_L23 S u1 u2 (n + 1) v4 v5 = cs_let (m_X3_length S 18) (fun r_3 => (if r_3 ≤ v5 then (v4, v5) else cs_let (m_X3_at S 18 v5) (fun r_5 => cs_let (m_X1_key S r_5) (fun r_6 => (if r_6 < u1 then m_X6_sum_L23 S u1 u2 n v4 (v5 + 1) else (if u2 < r_6 then m_X6_sum_L23 S u1 u2 n v4 (v5 + 1) else cs_let (m_X3_at S 18 v5) (fun r_9 => cs_let (m_X1_value S r_9) (fun r_10 => m_X6_sum_L23 S u1 u2 n (v4 + r_10) (v5 + 1))))))))) := rfl
def m_X6_sum (S : cs_St) (a1 : Int32) (a2 : Int32) : Int32 × cs_St := cs_let (m_X1_newest S) (fun r_1 => cs_let (m_X6_listThere S r_1) (fun S_2 => cs_let (m_X6_sum_L23 S_2 a1 a2 cs_N 0 0) (fun T_11 => (T_11.1, S_2))))
set_option maxHeartbeats 4000000 in
set_option maxRecDepth 100000 in
theorem c_X6_sum (l : Launch) (D : va_G) (cy : ClassId) (ad : Nat → Nat) (S : cs_St) (a1 : Int32) (a2 : Int32) (g0 : ¬ a1 < 0) (g1 : ¬ 9999 < a1) (g2 : ¬ a2 < a1) (g3 : a2 ≤ 9999) : Met l yX6_sum (cs_ws yX6_sum cX6_sum 7 (some .int)) (cs_rm 4 88) (cs_Pc D cy ad [.ref (ad 0), .int a1, .int a2] S) (cs_Qi D cy ad (fun r S1 => r = (m_X6_sum S a1 a2).1 ∧ S1 = (m_X6_sum S a1 a2).2)) 0 0 (cs_A ad) := by
  refine cs_of RX6 (by decide) rfl (Nat.le_of_ble_eq_true rfl) ?_
  intro p e s m below meth c hF hr hlk hw hK ls hl
  obtain ⟨hx, hb, hml, hown, hts⟩ := id hF
  have hS : va_S (cs_A ad) s.heap s.heap [] := va_S.rf
  have hl : lv_has ls 7 [(0, .ref (ad 0)), (1, .int a1), (2, .int a2)] := hl
  generalize hRes : m_X6_sum S a1 a2 = Res
  unfold m_X6_sum at hRes
  refine lv_iload_n hx hb dX6_sum_0 rfl (lv_at hl 1 rfl) ?_
  refine lv_iload_n hx hb dX6_sum_1 rfl (lv_at hl 2 rfl) ?_
  refine cs_svr hF (c_X6_checkKeys l D cy ad S a1 a2 (g0) (g1) (g2) (g3)) (va_cwS 2 hts g_X6_217 rfl rfl rfl kk_X6_checkKeys ⟨Nat.le_of_ble_eq_true rfl, Nat.le_of_ble_eq_true rfl⟩) hw hK hS rfl hl.1 [] rfl (Nat.le_of_ble_eq_true rfl) dX6_sum_2 (fun H locs hw hS => ?_)
  refine lv_aload_n hx hb dX6_sum_5 rfl (lv_at hl 0 rfl) ?_
  refine lv_aload_n hx hb dX6_sum_6 rfl (lv_at hl 0 rfl) ?_
  refine cs_get (C := RX6) (T := TX6) (N := 15) hF in_X6 hw hK 0 rfl rfl 11 (by decide) q_233 rfl dX6_sum_7 ?_
  refine cs_vir hF (c_X1_newest l D cy ad S) (cwV 0 hts g_X6_183 rfl rfl rfl kk_X1_newest ⟨Nat.le_of_ble_eq_true rfl, Nat.le_of_ble_eq_true rfl⟩) (cs_recv hK hw (ci := 1) 2 rfl rfl) hw hK hS rfl hl.1 [.ref (ad 0)] rfl (Nat.le_of_ble_eq_true rfl) dX6_sum_10 (fun r_1 H locs hq hw hS => ?_)
  replace hRes := cs_letE hq hRes
  clear hq
  refine cs_vr hF (c_X6_listThere l D cy ad S r_1) (cwV 1 hts g_X6_207 rfl rfl rfl kk_X6_listThere ⟨Nat.le_of_ble_eq_true rfl, Nat.le_of_ble_eq_true rfl⟩) (cs_recv hK hw (ci := 6) 0 rfl rfl) hw hK hS rfl hl.1 [] rfl (Nat.le_of_ble_eq_true rfl) dX6_sum_13 (fun S_2 H locs hq hw hS => ?_)
  replace hRes := cs_letE hq hRes
  clear hq
  refine lv_astore_n (lv' := [(3, .ref (ad 42)), (0, .ref (ad 0)), (1, .int a1), (2, .int a2)]) hx hb dX6_sum_16 rfl hl (by decide) rfl (fun ls hl => ?_)
  refine lv_iconst (v := 0) hx hb dX6_sum_17 (by decide) ?_
  refine lv_istore (lv' := [(4, .int 0), (3, .ref (ad 42)), (0, .ref (ad 0)), (1, .int a1), (2, .int a2)]) hx hb dX6_sum_18 hl (by decide) rfl (fun ls hl => ?_)
  refine lv_iconst (v := 0) hx hb dX6_sum_20 (by decide) ?_
  refine lv_istore (lv' := [(5, .int 0), (4, .int 0), (3, .ref (ad 42)), (0, .ref (ad 0)), (1, .int a1), (2, .int a2)]) hx hb dX6_sum_21 hl (by decide) rfl (fun ls hl => ?_)
  -- the loop at 23
  obtain ⟨T_11, hq⟩ : ∃ z, z = m_X6_sum_L23 S_2 a1 a2 cs_N 0 0 := ⟨_, rfl⟩
  replace hRes := cs_letE hq hRes
  have hk : ∀ (H : Heap) (locs : List Loc) (ls : Array Slot), cs_w D cy ad S_2 H → va_S (cs_A ad) s.heap H locs → lv_has ls 7 [(5, .int T_11.2), (4, .int T_11.1), (3, .ref (ad 42)), (0, .ref (ad 0)), (1, .int a1), (2, .int a2)] → W p l e (cs_rm 4 88) s m ([.ref (ad 0), .int a1, .int a2]).toArray below meth c H locs 0 0 (MQ below (cs_Qi D cy ad (fun r S1 => r = Res.1 ∧ S1 = Res.2)) ([.ref (ad 0), .int a1, .int a2]).toArray s 0 0 (cs_A ad)) (F0 m 83 ls []) := by
    intro H locs ls hw hS hl
    refine lv_iload hx hb dX6_sum_83 (lv_at hl 1 rfl) ?_
    exact cs_iret hF hr hlk hw hK hS dX6_sum_85 ⟨cs_eq1 hRes, cs_eq2 hRes⟩
  have lp : ∀ (n : Nat) (v4 : Int32) (v5 : Int32) (H : Heap) (locs : List Loc), cs_w D cy ad S_2 H → va_S (cs_A ad) s.heap H locs → ∀ (ls : Array Slot), lv_has ls 7 [(5, .int v5), (4, .int v4), (3, .ref (ad 42)), (0, .ref (ad 0)), (1, .int a1), (2, .int a2)] → (2147483647 - v5.toInt < (n : Int) ∧ 0 < n) → m_X6_sum_L23 S_2 a1 a2 n v4 v5 = T_11 → W p l e (cs_rm 4 88) s m ([.ref (ad 0), .int a1, .int a2]).toArray below meth c H locs 0 0 (MQ below (cs_Qi D cy ad (fun r S1 => r = Res.1 ∧ S1 = Res.2)) ([.ref (ad 0), .int a1, .int a2]).toArray s 0 0 (cs_A ad)) (F0 m 23 ls []) := by
    intro n
    induction n with
    | zero => intro v4 v5 H locs hw hS ls hl hm; exact absurd hm.2 (Nat.lt_irrefl 0)
    | succ n ih =>
      intro v4 v5 H locs hw hS ls hl hm hE
      replace hE := m_X6_sum_L23_s.symm.trans hE
      refine lv_iload hx hb dX6_sum_23 (lv_at hl 0 rfl) ?_
      refine lv_aload_n hx hb dX6_sum_25 rfl (lv_at hl 2 rfl) ?_
      refine cs_vir hF (c_X3_length l D cy ad S_2 18 (by decide)) (cwV 0 hts g_X6_137 rfl rfl rfl kk_X3_length ⟨Nat.le_of_ble_eq_true rfl, Nat.le_of_ble_eq_true rfl⟩) (cs_recvR hK hw (by decide)) hw hK hS rfl hl.1 [.int v5] rfl (Nat.le_of_ble_eq_true rfl) dX6_sum_26 (fun r_3 H locs hq hw hS => ?_)
      replace hE := cs_letE hq hE
      clear hq
      refine lv_icmp_ge (tgt := 83) hx hb dX6_sum_29 (by decide) (fun c_4 => ?_) (fun c_4 => ?_)
      · replace hE := cs_T c_4 hE
        subst hE
        exact hk _ _ _ hw hS (lv_sub hl [0, 1, 2, 3, 4, 5] rfl)
      · replace hE := cs_F c_4 hE
        refine lv_aload_n hx hb dX6_sum_32 rfl (lv_at hl 3 rfl) ?_
        refine cs_get (C := RX6) (T := TX6) (N := 15) hF in_X6 hw hK 0 rfl rfl 11 (by decide) q_233 rfl dX6_sum_33 ?_
        refine lv_aload_n hx hb dX6_sum_36 rfl (lv_at hl 2 rfl) ?_
        refine lv_iload hx hb dX6_sum_37 (lv_at hl 0 rfl) ?_
        refine cs_vir hF (c_X3_at l D cy ad S_2 18 v5 (by decide)) (cwV 1 hts g_X6_211 rfl rfl rfl kk_X3_at ⟨Nat.le_of_ble_eq_true rfl, Nat.le_of_ble_eq_true rfl⟩) (cs_recvR hK hw (by decide)) hw hK hS rfl hl.1 [.ref (ad 2)] rfl (Nat.le_of_ble_eq_true rfl) dX6_sum_39 (fun r_5 H locs hq hw hS => ?_)
        replace hE := cs_letE hq hE
        clear hq
        refine cs_vir hF (c_X1_key l D cy ad S_2 r_5) (cwV 1 hts g_X6_214 rfl rfl rfl kk_X1_key ⟨Nat.le_of_ble_eq_true rfl, Nat.le_of_ble_eq_true rfl⟩) (cs_recv hK hw (ci := 1) 2 rfl rfl) hw hK hS rfl hl.1 [] rfl (Nat.le_of_ble_eq_true rfl) dX6_sum_42 (fun r_6 H locs hq hw hS => ?_)
        replace hE := cs_letE hq hE
        clear hq
        refine lv_istore (lv' := [(6, .int r_6), (5, .int v5), (4, .int v4), (3, .ref (ad 42)), (0, .ref (ad 0)), (1, .int a1), (2, .int a2)]) hx hb dX6_sum_45 hl (by decide) rfl (fun ls hl => ?_)
        refine lv_iload hx hb dX6_sum_47 (lv_at hl 0 rfl) ?_
        refine lv_iload_n hx hb dX6_sum_49 rfl (lv_at hl 5 rfl) ?_
        refine lv_icmp_lt (tgt := 77) hx hb dX6_sum_50 (by decide) (fun c_7 => ?_) (fun c_7 => ?_)
        · replace hE := cs_T c_7 hE
          refine lv_iinc (v := v5 + 1) (lv' := [(5, .int (v5 + 1)), (6, .int r_6), (4, .int v4), (3, .ref (ad 42)), (0, .ref (ad 0)), (1, .int a1), (2, .int a2)]) hx hb dX6_sum_77 hl (k := 1) rfl rfl (by decide) rfl (fun ls hl => ?_)
          refine lv_goto (tgt := 23) hx hb dX6_sum_80 (by decide) ?_
          exact ih v4 (v5 + 1) _ _ hw hS _ (lv_sub hl [0, 2, 3, 4, 5, 6] rfl) (cs_up hm.1 c_4) hE
        · replace hE := cs_F c_7 hE
          refine lv_iload hx hb dX6_sum_53 (lv_at hl 0 rfl) ?_
          refine lv_iload_n hx hb dX6_sum_55 rfl (lv_at hl 6 rfl) ?_
          refine lv_icmp_gt (tgt := 77) hx hb dX6_sum_56 (by decide) (fun c_8 => ?_) (fun c_8 => ?_)
          · replace hE := cs_T c_8 hE
            refine lv_iinc (v := v5 + 1) (lv' := [(5, .int (v5 + 1)), (6, .int r_6), (4, .int v4), (3, .ref (ad 42)), (0, .ref (ad 0)), (1, .int a1), (2, .int a2)]) hx hb dX6_sum_77 hl (k := 1) rfl rfl (by decide) rfl (fun ls hl => ?_)
            refine lv_goto (tgt := 23) hx hb dX6_sum_80 (by decide) ?_
            exact ih v4 (v5 + 1) _ _ hw hS _ (lv_sub hl [0, 2, 3, 4, 5, 6] rfl) (cs_up hm.1 c_4) hE
          · replace hE := cs_F c_8 hE
            refine lv_iload hx hb dX6_sum_59 (lv_at hl 2 rfl) ?_
            refine lv_aload_n hx hb dX6_sum_61 rfl (lv_at hl 4 rfl) ?_
            refine cs_get (C := RX6) (T := TX6) (N := 15) hF in_X6 hw hK 0 rfl rfl 11 (by decide) q_233 rfl dX6_sum_62 ?_
            refine lv_aload_n hx hb dX6_sum_65 rfl (lv_at hl 3 rfl) ?_
            refine lv_iload hx hb dX6_sum_66 (lv_at hl 1 rfl) ?_
            refine cs_vir hF (c_X3_at l D cy ad S_2 18 v5 (by decide)) (cwV 1 hts g_X6_211 rfl rfl rfl kk_X3_at ⟨Nat.le_of_ble_eq_true rfl, Nat.le_of_ble_eq_true rfl⟩) (cs_recvR hK hw (by decide)) hw hK hS rfl hl.1 [.ref (ad 2), .int v4] rfl (Nat.le_of_ble_eq_true rfl) dX6_sum_68 (fun r_9 H locs hq hw hS => ?_)
            replace hE := cs_letE hq hE
            clear hq
            refine cs_vir hF (c_X1_value l D cy ad S_2 r_9) (cwV 1 hts g_X6_220 rfl rfl rfl kk_X1_value ⟨Nat.le_of_ble_eq_true rfl, Nat.le_of_ble_eq_true rfl⟩) (cs_recv hK hw (ci := 1) 2 rfl rfl) hw hK hS rfl hl.1 [.int v4] rfl (Nat.le_of_ble_eq_true rfl) dX6_sum_71 (fun r_10 H locs hq hw hS => ?_)
            replace hE := cs_letE hq hE
            clear hq
            refine lv_iadd hx hb dX6_sum_74 ?_
            refine lv_istore (lv' := [(4, .int (v4 + r_10)), (6, .int r_6), (5, .int v5), (3, .ref (ad 42)), (0, .ref (ad 0)), (1, .int a1), (2, .int a2)]) hx hb dX6_sum_75 hl (by decide) rfl (fun ls hl => ?_)
            refine lv_iinc (v := v5 + 1) (lv' := [(5, .int (v5 + 1)), (4, .int (v4 + r_10)), (6, .int r_6), (3, .ref (ad 42)), (0, .ref (ad 0)), (1, .int a1), (2, .int a2)]) hx hb dX6_sum_77 hl (k := 2) rfl rfl (by decide) rfl (fun ls hl => ?_)
            refine lv_goto (tgt := 23) hx hb dX6_sum_80 (by decide) ?_
            exact ih (v4 + r_10) (v5 + 1) _ _ hw hS _ (lv_sub hl [0, 1, 3, 4, 5, 6] rfl) (cs_up hm.1 c_4) hE
  exact lp cs_N 0 0 _ _ hw hS _ (lv_sub hl [0, 1, 2, 3, 4, 5] rfl) (cs_up0 0) hq.symm
theorem kk_X6_sum : yX6_sum.cls = RX6 ∧ yX6_sum.cls ≠ "java/lang/invoke/MethodHandle" ∧ yX6_sum.cls ≠ "java/lang/invoke/VarHandle" ∧ (parseMethodDescriptor yX6_sum.desc).map (fun d => d.parameters.length) = some 2 := by decide +kernel
def m_X6_keys (S : cs_St) : Int32 × cs_St := cs_let (m_X1_newest S) (fun r_1 => cs_let (m_X6_listThere S r_1) (fun S_2 => cs_let (m_X3_length S_2 18) (fun r_3 => (r_3, S_2))))
set_option maxHeartbeats 4000000 in
set_option maxRecDepth 100000 in
theorem c_X6_keys (l : Launch) (D : va_G) (cy : ClassId) (ad : Nat → Nat) (S : cs_St) : Met l yX6_keys (cs_ws yX6_keys cX6_keys 1 (some .int)) (cs_rm 4 88) (cs_Pc D cy ad [.ref (ad 0)] S) (cs_Qi D cy ad (fun r S1 => r = (m_X6_keys S).1 ∧ S1 = (m_X6_keys S).2)) 0 0 (cs_A ad) := by
  refine cs_of RX6 (by decide) rfl (Nat.le_of_ble_eq_true rfl) ?_
  intro p e s m below meth c hF hr hlk hw hK ls hl
  obtain ⟨hx, hb, hml, hown, hts⟩ := id hF
  have hS : va_S (cs_A ad) s.heap s.heap [] := va_S.rf
  have hl : lv_has ls 1 [(0, .ref (ad 0))] := hl
  generalize hRes : m_X6_keys S = Res
  unfold m_X6_keys at hRes
  refine lv_aload_n hx hb dX6_keys_0 rfl (lv_at hl 0 rfl) ?_
  refine lv_aload_n hx hb dX6_keys_1 rfl (lv_at hl 0 rfl) ?_
  refine cs_get (C := RX6) (T := TX6) (N := 15) hF in_X6 hw hK 0 rfl rfl 11 (by decide) q_233 rfl dX6_keys_2 ?_
  refine cs_vir hF (c_X1_newest l D cy ad S) (cwV 0 hts g_X6_183 rfl rfl rfl kk_X1_newest ⟨Nat.le_of_ble_eq_true rfl, Nat.le_of_ble_eq_true rfl⟩) (cs_recv hK hw (ci := 1) 2 rfl rfl) hw hK hS rfl hl.1 [.ref (ad 0)] rfl (Nat.le_of_ble_eq_true rfl) dX6_keys_5 (fun r_1 H locs hq hw hS => ?_)
  replace hRes := cs_letE hq hRes
  clear hq
  refine cs_vr hF (c_X6_listThere l D cy ad S r_1) (cwV 1 hts g_X6_207 rfl rfl rfl kk_X6_listThere ⟨Nat.le_of_ble_eq_true rfl, Nat.le_of_ble_eq_true rfl⟩) (cs_recv hK hw (ci := 6) 0 rfl rfl) hw hK hS rfl hl.1 [] rfl (Nat.le_of_ble_eq_true rfl) dX6_keys_8 (fun S_2 H locs hq hw hS => ?_)
  replace hRes := cs_letE hq hRes
  clear hq
  refine cs_vir hF (c_X3_length l D cy ad S_2 18 (by decide)) (cwV 0 hts g_X6_137 rfl rfl rfl kk_X3_length ⟨Nat.le_of_ble_eq_true rfl, Nat.le_of_ble_eq_true rfl⟩) (cs_recvR hK hw (by decide)) hw hK hS rfl hl.1 [] rfl (Nat.le_of_ble_eq_true rfl) dX6_keys_11 (fun r_3 H locs hq hw hS => ?_)
  replace hRes := cs_letE hq hRes
  clear hq
  exact cs_iret hF hr hlk hw hK hS dX6_keys_14 ⟨cs_eq1 hRes, cs_eq2 hRes⟩
theorem kk_X6_keys : yX6_keys.cls = RX6 ∧ yX6_keys.cls ≠ "java/lang/invoke/MethodHandle" ∧ yX6_keys.cls ≠ "java/lang/invoke/VarHandle" ∧ (parseMethodDescriptor yX6_keys.desc).map (fun d => d.parameters.length) = some 0 := by decide +kernel
theorem g_X6_269 : GoodIn cs_WS (wsV RX6 269 RX6 yX6_hand (cs_ws yX6_hand cX6_hand 1 (some .int))) := cs_goodV q_495 q_496 q_497 q_299 q_461
theorem g_X6_272 : GoodIn cs_WS (wsV RX6 272 RX6 yX6_log (cs_ws yX6_log cX6_log 1 (some .int))) := cs_goodV q_498 q_499 q_500 q_299 q_462
theorem g_X6_275 : GoodIn cs_WS (wsV RX6 275 RX6 yX6_unsafe (cs_ws yX6_unsafe cX6_unsafe 1 (some .int))) := cs_goodV q_501 q_502 q_503 q_299 q_463
theorem g_X6_278 : GoodIn cs_WS (wsV RX6 278 RX6 yX6_snapshots (cs_ws yX6_snapshots cX6_snapshots 1 (some .int))) := cs_goodV q_504 q_505 q_506 q_299 q_464
theorem g_X6_281 : GoodIn cs_WS (wsV RX6 281 RX6 yX6_keys (cs_ws yX6_keys cX6_keys 1 (some .int))) := cs_goodV q_507 q_508 q_509 q_299 q_460
theorem g_X6_284 : GoodIn cs_WS (wsV RX6 284 RX6 yX6_entries (cs_ws yX6_entries cX6_entries 1 (some .int))) := cs_goodV q_510 q_511 q_512 q_299 q_479
theorem g_X6_287 : GoodIn cs_WS (wsV RX6 287 RX6 yX6_stones (cs_ws yX6_stones cX6_stones 3 (some .int))) := cs_goodV q_513 q_514 q_515 q_299 q_480
theorem g_X6_290 : GoodIn cs_WS (wsV RX6 290 RX6 yX6_digestRun (cs_ws yX6_digestRun cX6_digestRun 8 (some .long))) := cs_goodV q_516 q_517 q_518 q_299 q_488
theorem g_X6_294 : GoodIn cs_WS (wsV RX6 294 RX6 yX6_sum (cs_ws yX6_sum cX6_sum 7 (some .int))) := cs_goodV q_519 q_520 q_521 q_299 q_457
def m_X6_digest_L90 (S : cs_St) : Nat → Int64 → Int32 → Int64 × Int32
  | 0, _, _ => (0, 0)
  | n + 1, v1, v3 => (if 6 ≤ v3 then (v1, v3) else cs_let (m_X3_at S 0 v3) (fun r_12 => m_X6_digest_L90 S n ((v1 * 31) + r_12.toInt64) (v3 + 1)))
theorem m_X6_digest_L90_s {S : cs_St} {n : Nat} {v1 : Int64} {v3 : Int32} : m_X6_digest_L90 S (n + 1) v1 v3 = (if 6 ≤ v3 then (v1, v3) else cs_let (m_X3_at S 0 v3) (fun r_12 => m_X6_digest_L90 S n ((v1 * 31) + r_12.toInt64) (v3 + 1))) := rfl
def m_X6_digest_L180 (S : cs_St) (u3 : Int32) : Nat → Int64 → Int32 → Int64 × Int32
  | 0, _, _ => (0, 0)
  | n + 1, v1, v4 => cs_let (m_X4_first S (u3 + 1)) (fun r_21 => (if r_21 ≤ v4 then (v1, v4) else cs_let (m_X6_digestRun S v1 v4) (fun r_23 => m_X6_digest_L180 S u3 n r_23 (v4 + 1))))
theorem m_X6_digest_L180_s {S : cs_St} {u3 : Int32} {n : Nat} {v1 : Int64} {v4 : Int32} : m_X6_digest_L180 S u3 (n + 1) v1 v4 = cs_let (m_X4_first S (u3 + 1)) (fun r_21 => (if r_21 ≤ v4 then (v1, v4) else cs_let (m_X6_digestRun S v1 v4) (fun r_23 => m_X6_digest_L180 S u3 n r_23 (v4 + 1)))) := rfl
def m_X6_digest_L120 : Nat → Int64 → Int32 → cs_St → Int64 × Int32 × cs_St
  | 0, _, _, S => (0, 0, S)
  | n + 1, v1, v3, S => (if 4 ≤ v3 then (v1, v3, S) else cs_let (m_X4_count S v3) (fun r_15 => cs_let (m_X3_at S 2 v3) (fun r_16 => cs_let (m_X6_planPack S v3).1 (fun r_18 => cs_let (m_X6_planPack S v3).2 (fun S_17 => cs_let ((((((v1 * 31) + r_15.toInt64) * 31) + r_16.toInt64) * 31) + r_18.toInt64) (fun r_19 => cs_let (m_X4_first S_17 v3) (fun r_20 => cs_let (m_X6_digest_L180 S_17 v3 cs_N r_19 r_20) (fun T_24 => m_X6_digest_L120 n T_24.1 (v3 + 1) S_17))))))))
theorem m_X6_digest_L120_s {n : Nat} {v1 : Int64} {v3 : Int32} {S : cs_St} : m_X6_digest_L120 (n + 1) v1 v3 S = (if 4 ≤ v3 then (v1, v3, S) else cs_let (m_X4_count S v3) (fun r_15 => cs_let (m_X3_at S 2 v3) (fun r_16 => cs_let (m_X6_planPack S v3).1 (fun r_18 => cs_let (m_X6_planPack S v3).2 (fun S_17 => cs_let ((((((v1 * 31) + r_15.toInt64) * 31) + r_16.toInt64) * 31) + r_18.toInt64) (fun r_19 => cs_let (m_X4_first S_17 v3) (fun r_20 => cs_let (m_X6_digest_L180 S_17 v3 cs_N r_19 r_20) (fun T_24 => m_X6_digest_L120 n T_24.1 (v3 + 1) S_17)))))))) := rfl
def m_X6_digest (S : cs_St) : Int64 × cs_St := cs_let (m_X6_hand S) (fun r_1 => cs_let (m_X6_log S) (fun r_2 => cs_let (m_X6_unsafe S) (fun r_3 => cs_let ((((((58046 * 31) + r_1.toInt64) * 31) + r_2.toInt64) * 31) + r_3.toInt64) (fun r_4 => cs_let (m_X6_snapshots S) (fun r_5 => cs_let (m_X6_keys S).1 (fun r_7 => cs_let (m_X6_keys S).2 (fun S_6 => cs_let (m_X6_entries S_6) (fun r_8 => cs_let ((((((r_4 * 31) + r_5.toInt64) * 31) + r_7.toInt64) * 31) + r_8.toInt64) (fun r_9 => cs_let (m_X6_stones S_6) (fun r_10 => cs_let (m_X6_digest_L90 S_6 cs_N ((r_9 * 31) + r_10.toInt64) 0) (fun T_13 => cs_let (m_X6_digest_L120 cs_N T_13.1 0 S_6) (fun T_25 => cs_let (m_X6_sum T_25.2.2 0 9999).1 (fun r_27 => cs_let (m_X6_sum T_25.2.2 0 9999).2 (fun S_26 => ((T_25.1 * 31) + r_27.toInt64, S_26)))))))))))))))
set_option maxHeartbeats 4000000 in
set_option maxRecDepth 100000 in
theorem c_X6_digest (l : Launch) (D : va_G) (cy : ClassId) (ad : Nat → Nat) (S : cs_St) : Met l yX6_digest (cs_ws yX6_digest cX6_digest 5 (some .long)) (cs_rm 5 132) (cs_Pc D cy ad [.ref (ad 0)] S) (cs_Ql D cy ad (fun r S1 => r = (m_X6_digest S).1 ∧ S1 = (m_X6_digest S).2)) 0 0 (cs_A ad) := by
  refine cs_of RX6 (by decide) rfl (Nat.le_of_ble_eq_true rfl) ?_
  intro p e s m below meth c hF hr hlk hw hK ls hl
  obtain ⟨hx, hb, hml, hown, hts⟩ := id hF
  have hS : va_S (cs_A ad) s.heap s.heap [] := va_S.rf
  have hl : lv_has ls 5 [(0, .ref (ad 0))] := hl
  generalize hRes : m_X6_digest S = Res
  unfold m_X6_digest at hRes
  refine lv_ldc2 (v := 58046) hx hb hown (hts _ q_494) dX6_digest_0 ?_
  refine lv_lstore_n (lv' := [(1, .long 58046), (0, .ref (ad 0))]) hx hb dX6_digest_3 rfl hl (by decide) rfl (fun ls hl => ?_)
  refine lv_lload_n hx hb dX6_digest_4 rfl (lv_at hl 0 rfl) ?_
  refine lv_ldc2 (v := 31) hx hb hown (hts _ q_489) dX6_digest_5 ?_
  refine lv_lmul hx hb dX6_digest_8 ?_
  refine lv_aload_n hx hb dX6_digest_9 rfl (lv_at hl 1 rfl) ?_
  refine cs_vir hF (c_X6_hand l D cy ad S) (cwV 0 hts g_X6_269 rfl rfl rfl kk_X6_hand ⟨Nat.le_of_ble_eq_true rfl, Nat.le_of_ble_eq_true rfl⟩) (cs_recv hK hw (ci := 6) 0 rfl rfl) hw hK hS rfl hl.1 [.long (58046 * 31)] rfl (Nat.le_of_ble_eq_true rfl) dX6_digest_10 (fun r_1 H locs hq hw hS => ?_)
  replace hRes := cs_letE hq hRes
  clear hq
  refine lv_i2l (v := r_1.toInt64) hx hb dX6_digest_13 rfl ?_
  refine lv_ladd hx hb dX6_digest_14 ?_
  refine lv_lstore_n (lv' := [(1, .long ((58046 * 31) + r_1.toInt64)), (0, .ref (ad 0))]) hx hb dX6_digest_15 rfl hl (by decide) rfl (fun ls hl => ?_)
  refine lv_lload_n hx hb dX6_digest_16 rfl (lv_at hl 0 rfl) ?_
  refine lv_ldc2 (v := 31) hx hb hown (hts _ q_489) dX6_digest_17 ?_
  refine lv_lmul hx hb dX6_digest_20 ?_
  refine lv_aload_n hx hb dX6_digest_21 rfl (lv_at hl 1 rfl) ?_
  refine cs_vir hF (c_X6_log l D cy ad S) (cwV 0 hts g_X6_272 rfl rfl rfl kk_X6_log ⟨Nat.le_of_ble_eq_true rfl, Nat.le_of_ble_eq_true rfl⟩) (cs_recv hK hw (ci := 6) 0 rfl rfl) hw hK hS rfl hl.1 [.long (((58046 * 31) + r_1.toInt64) * 31)] rfl (Nat.le_of_ble_eq_true rfl) dX6_digest_22 (fun r_2 H locs hq hw hS => ?_)
  replace hRes := cs_letE hq hRes
  clear hq
  refine lv_i2l (v := r_2.toInt64) hx hb dX6_digest_25 rfl ?_
  refine lv_ladd hx hb dX6_digest_26 ?_
  refine lv_lstore_n (lv' := [(1, .long ((((58046 * 31) + r_1.toInt64) * 31) + r_2.toInt64)), (0, .ref (ad 0))]) hx hb dX6_digest_27 rfl hl (by decide) rfl (fun ls hl => ?_)
  refine lv_lload_n hx hb dX6_digest_28 rfl (lv_at hl 0 rfl) ?_
  refine lv_ldc2 (v := 31) hx hb hown (hts _ q_489) dX6_digest_29 ?_
  refine lv_lmul hx hb dX6_digest_32 ?_
  refine lv_aload_n hx hb dX6_digest_33 rfl (lv_at hl 1 rfl) ?_
  refine cs_vir hF (c_X6_unsafe l D cy ad S) (cwV 0 hts g_X6_275 rfl rfl rfl kk_X6_unsafe ⟨Nat.le_of_ble_eq_true rfl, Nat.le_of_ble_eq_true rfl⟩) (cs_recv hK hw (ci := 6) 0 rfl rfl) hw hK hS rfl hl.1 [.long (((((58046 * 31) + r_1.toInt64) * 31) + r_2.toInt64) * 31)] rfl (Nat.le_of_ble_eq_true rfl) dX6_digest_34 (fun r_3 H locs hq hw hS => ?_)
  replace hRes := cs_letE hq hRes
  clear hq
  refine lv_i2l (v := r_3.toInt64) hx hb dX6_digest_37 rfl ?_
  refine lv_ladd hx hb dX6_digest_38 ?_
  refine lv_topl (fun r_4 hq => ?_)
  replace hRes := cs_letE hq hRes
  clear hq
  refine lv_lstore_n (lv' := [(1, .long r_4), (0, .ref (ad 0))]) hx hb dX6_digest_39 rfl hl (by decide) rfl (fun ls hl => ?_)
  refine lv_lload_n hx hb dX6_digest_40 rfl (lv_at hl 0 rfl) ?_
  refine lv_ldc2 (v := 31) hx hb hown (hts _ q_489) dX6_digest_41 ?_
  refine lv_lmul hx hb dX6_digest_44 ?_
  refine lv_aload_n hx hb dX6_digest_45 rfl (lv_at hl 1 rfl) ?_
  refine cs_vir hF (c_X6_snapshots l D cy ad S) (cwV 0 hts g_X6_278 rfl rfl rfl kk_X6_snapshots ⟨Nat.le_of_ble_eq_true rfl, Nat.le_of_ble_eq_true rfl⟩) (cs_recv hK hw (ci := 6) 0 rfl rfl) hw hK hS rfl hl.1 [.long (r_4 * 31)] rfl (Nat.le_of_ble_eq_true rfl) dX6_digest_46 (fun r_5 H locs hq hw hS => ?_)
  replace hRes := cs_letE hq hRes
  clear hq
  refine lv_i2l (v := r_5.toInt64) hx hb dX6_digest_49 rfl ?_
  refine lv_ladd hx hb dX6_digest_50 ?_
  refine lv_lstore_n (lv' := [(1, .long ((r_4 * 31) + r_5.toInt64)), (0, .ref (ad 0))]) hx hb dX6_digest_51 rfl hl (by decide) rfl (fun ls hl => ?_)
  refine lv_lload_n hx hb dX6_digest_52 rfl (lv_at hl 0 rfl) ?_
  refine lv_ldc2 (v := 31) hx hb hown (hts _ q_489) dX6_digest_53 ?_
  refine lv_lmul hx hb dX6_digest_56 ?_
  refine lv_aload_n hx hb dX6_digest_57 rfl (lv_at hl 1 rfl) ?_
  refine cs_vi hF (c_X6_keys l D cy ad S) (cwV 0 hts g_X6_281 rfl rfl rfl kk_X6_keys ⟨Nat.le_of_ble_eq_true rfl, Nat.le_of_ble_eq_true rfl⟩) (cs_recv hK hw (ci := 6) 0 rfl rfl) hw hK hS rfl hl.1 [.long (((r_4 * 31) + r_5.toInt64) * 31)] rfl (Nat.le_of_ble_eq_true rfl) dX6_digest_58 (fun r_7 S_6 H locs hq hq2 hw hS => ?_)
  replace hRes := cs_letE hq hRes
  replace hRes := cs_letE hq2 hRes
  clear hq hq2
  refine lv_i2l (v := r_7.toInt64) hx hb dX6_digest_61 rfl ?_
  refine lv_ladd hx hb dX6_digest_62 ?_
  refine lv_lstore_n (lv' := [(1, .long ((((r_4 * 31) + r_5.toInt64) * 31) + r_7.toInt64)), (0, .ref (ad 0))]) hx hb dX6_digest_63 rfl hl (by decide) rfl (fun ls hl => ?_)
  refine lv_lload_n hx hb dX6_digest_64 rfl (lv_at hl 0 rfl) ?_
  refine lv_ldc2 (v := 31) hx hb hown (hts _ q_489) dX6_digest_65 ?_
  refine lv_lmul hx hb dX6_digest_68 ?_
  refine lv_aload_n hx hb dX6_digest_69 rfl (lv_at hl 1 rfl) ?_
  refine cs_vir hF (c_X6_entries l D cy ad S_6) (cwV 0 hts g_X6_284 rfl rfl rfl kk_X6_entries ⟨Nat.le_of_ble_eq_true rfl, Nat.le_of_ble_eq_true rfl⟩) (cs_recv hK hw (ci := 6) 0 rfl rfl) hw hK hS rfl hl.1 [.long (((((r_4 * 31) + r_5.toInt64) * 31) + r_7.toInt64) * 31)] rfl (Nat.le_of_ble_eq_true rfl) dX6_digest_70 (fun r_8 H locs hq hw hS => ?_)
  replace hRes := cs_letE hq hRes
  clear hq
  refine lv_i2l (v := r_8.toInt64) hx hb dX6_digest_73 rfl ?_
  refine lv_ladd hx hb dX6_digest_74 ?_
  refine lv_topl (fun r_9 hq => ?_)
  replace hRes := cs_letE hq hRes
  clear hq
  refine lv_lstore_n (lv' := [(1, .long r_9), (0, .ref (ad 0))]) hx hb dX6_digest_75 rfl hl (by decide) rfl (fun ls hl => ?_)
  refine lv_lload_n hx hb dX6_digest_76 rfl (lv_at hl 0 rfl) ?_
  refine lv_ldc2 (v := 31) hx hb hown (hts _ q_489) dX6_digest_77 ?_
  refine lv_lmul hx hb dX6_digest_80 ?_
  refine lv_aload_n hx hb dX6_digest_81 rfl (lv_at hl 1 rfl) ?_
  refine cs_vir hF (c_X6_stones l D cy ad S_6) (cwV 0 hts g_X6_287 rfl rfl rfl kk_X6_stones ⟨Nat.le_of_ble_eq_true rfl, Nat.le_of_ble_eq_true rfl⟩) (cs_recv hK hw (ci := 6) 0 rfl rfl) hw hK hS rfl hl.1 [.long (r_9 * 31)] rfl (Nat.le_of_ble_eq_true rfl) dX6_digest_82 (fun r_10 H locs hq hw hS => ?_)
  replace hRes := cs_letE hq hRes
  clear hq
  refine lv_i2l (v := r_10.toInt64) hx hb dX6_digest_85 rfl ?_
  refine lv_ladd hx hb dX6_digest_86 ?_
  refine lv_lstore_n (lv' := [(1, .long ((r_9 * 31) + r_10.toInt64)), (0, .ref (ad 0))]) hx hb dX6_digest_87 rfl hl (by decide) rfl (fun ls hl => ?_)
  refine lv_iconst (v := 0) hx hb dX6_digest_88 (by decide) ?_
  refine lv_istore_n (lv' := [(3, .int 0), (1, .long ((r_9 * 31) + r_10.toInt64)), (0, .ref (ad 0))]) hx hb dX6_digest_89 rfl hl (by decide) rfl (fun ls hl => ?_)
  -- the loop at 90
  obtain ⟨T_13, hq⟩ : ∃ z, z = m_X6_digest_L90 S_6 cs_N ((r_9 * 31) + r_10.toInt64) 0 := ⟨_, rfl⟩
  replace hRes := cs_letE hq hRes
  have hk : ∀ (H : Heap) (locs : List Loc) (ls : Array Slot), cs_w D cy ad S_6 H → va_S (cs_A ad) s.heap H locs → lv_has ls 5 [(3, .int T_13.2), (1, .long T_13.1), (0, .ref (ad 0))] → W p l e (cs_rm 5 132) s m ([.ref (ad 0)]).toArray below meth c H locs 0 0 (MQ below (cs_Ql D cy ad (fun r S1 => r = Res.1 ∧ S1 = Res.2)) ([.ref (ad 0)]).toArray s 0 0 (cs_A ad)) (F0 m 118 ls []) := by
    intro H locs ls hw hS hl
    refine lv_iconst (v := 0) hx hb dX6_digest_118 (by decide) ?_
    refine lv_istore_n (lv' := [(3, .int 0), (1, .long T_13.1), (0, .ref (ad 0))]) hx hb dX6_digest_119 rfl hl (by decide) rfl (fun ls hl => ?_)
    -- the loop at 120
    obtain ⟨T_25, hq⟩ : ∃ z, z = m_X6_digest_L120 cs_N T_13.1 0 S_6 := ⟨_, rfl⟩
    replace hRes := cs_letE hq hRes
    have hk : ∀ (H : Heap) (locs : List Loc) (ls : Array Slot), cs_w D cy ad T_25.2.2 H → va_S (cs_A ad) s.heap H locs → lv_has ls 5 [(3, .int T_25.2.1), (1, .long T_25.1), (0, .ref (ad 0))] → W p l e (cs_rm 5 132) s m ([.ref (ad 0)]).toArray below meth c H locs 0 0 (MQ below (cs_Ql D cy ad (fun r S1 => r = Res.1 ∧ S1 = Res.2)) ([.ref (ad 0)]).toArray s 0 0 (cs_A ad)) (F0 m 215 ls []) := by
      intro H locs ls hw hS hl
      refine lv_lload_n hx hb dX6_digest_215 rfl (lv_at hl 1 rfl) ?_
      refine lv_ldc2 (v := 31) hx hb hown (hts _ q_489) dX6_digest_216 ?_
      refine lv_lmul hx hb dX6_digest_219 ?_
      refine lv_aload_n hx hb dX6_digest_220 rfl (lv_at hl 2 rfl) ?_
      refine lv_iconst (v := 0) hx hb dX6_digest_221 (by decide) ?_
      refine lv_sipush (v := 9999) hx hb dX6_digest_222 (by decide) ?_
      refine cs_vi hF (c_X6_sum l D cy ad T_25.2.2 0 9999 (by decide) (by decide) (by decide) (by decide)) (cwV 2 hts g_X6_294 rfl rfl rfl kk_X6_sum ⟨Nat.le_of_ble_eq_true rfl, Nat.le_of_ble_eq_true rfl⟩) (cs_recv hK hw (ci := 6) 0 rfl rfl) hw hK hS rfl hl.1 [.long (T_25.1 * 31)] rfl (Nat.le_of_ble_eq_true rfl) dX6_digest_225 (fun r_27 S_26 H locs hq hq2 hw hS => ?_)
      replace hRes := cs_letE hq hRes
      replace hRes := cs_letE hq2 hRes
      clear hq hq2
      refine lv_i2l (v := r_27.toInt64) hx hb dX6_digest_228 rfl ?_
      refine lv_ladd hx hb dX6_digest_229 ?_
      exact cs_lret hF hr hlk hw hK hS dX6_digest_230 ⟨cs_eq1 hRes, cs_eq2 hRes⟩
    have lp : ∀ (n : Nat) (v1 : Int64) (v3 : Int32) (S : cs_St) (H : Heap) (locs : List Loc), cs_w D cy ad S H → va_S (cs_A ad) s.heap H locs → ∀ (ls : Array Slot), lv_has ls 5 [(3, .int v3), (1, .long v1), (0, .ref (ad 0))] → (2147483647 - v3.toInt < (n : Int) ∧ 0 < n) → m_X6_digest_L120 n v1 v3 S = T_25 → W p l e (cs_rm 5 132) s m ([.ref (ad 0)]).toArray below meth c H locs 0 0 (MQ below (cs_Ql D cy ad (fun r S1 => r = Res.1 ∧ S1 = Res.2)) ([.ref (ad 0)]).toArray s 0 0 (cs_A ad)) (F0 m 120 ls []) := by
      intro n
      induction n with
      | zero => intro v1 v3 S H locs hw hS ls hl hm; exact absurd hm.2 (Nat.lt_irrefl 0)
      | succ n ih =>
        intro v1 v3 S H locs hw hS ls hl hm hE
        replace hE := m_X6_digest_L120_s.symm.trans hE
        refine lv_iload_n hx hb dX6_digest_120 rfl (lv_at hl 0 rfl) ?_
        refine lv_iconst (v := 4) hx hb dX6_digest_121 (by decide) ?_
        refine lv_icmp_ge (tgt := 215) hx hb dX6_digest_122 (by decide) (fun c_14 => ?_) (fun c_14 => ?_)
        · replace hE := cs_T c_14 hE
          subst hE
          exact hk _ _ _ hw hS (lv_sub hl [0, 1, 2] rfl)
        · replace hE := cs_F c_14 hE
          refine lv_lload_n hx hb dX6_digest_125 rfl (lv_at hl 1 rfl) ?_
          refine lv_ldc2 (v := 31) hx hb hown (hts _ q_489) dX6_digest_126 ?_
          refine lv_lmul hx hb dX6_digest_129 ?_
          refine lv_aload_n hx hb dX6_digest_130 rfl (lv_at hl 2 rfl) ?_
          refine cs_get (C := RX6) (T := TX6) (N := 15) hF in_X6 hw hK 0 rfl rfl 13 (by decide) q_237 rfl dX6_digest_131 ?_
          refine lv_iload_n hx hb dX6_digest_134 rfl (lv_at hl 0 rfl) ?_
          refine cs_vir hF (c_X4_count l D cy ad S v3) (cwV 1 hts g_X6_156 rfl rfl rfl kk_X4_count ⟨Nat.le_of_ble_eq_true rfl, Nat.le_of_ble_eq_true rfl⟩) (cs_recv hK hw (ci := 4) 4 rfl rfl) hw hK hS rfl hl.1 [.long (v1 * 31)] rfl (Nat.le_of_ble_eq_true rfl) dX6_digest_135 (fun r_15 H locs hq hw hS => ?_)
          replace hE := cs_letE hq hE
          clear hq
          refine lv_i2l (v := r_15.toInt64) hx hb dX6_digest_138 rfl ?_
          refine lv_ladd hx hb dX6_digest_139 ?_
          refine lv_lstore_n (lv' := [(1, .long ((v1 * 31) + r_15.toInt64)), (3, .int v3), (0, .ref (ad 0))]) hx hb dX6_digest_140 rfl hl (by decide) rfl (fun ls hl => ?_)
          refine lv_lload_n hx hb dX6_digest_141 rfl (lv_at hl 0 rfl) ?_
          refine lv_ldc2 (v := 31) hx hb hown (hts _ q_489) dX6_digest_142 ?_
          refine lv_lmul hx hb dX6_digest_145 ?_
          refine lv_aload_n hx hb dX6_digest_146 rfl (lv_at hl 2 rfl) ?_
          refine cs_get (C := RX6) (T := TX6) (N := 15) hF in_X6 hw hK 0 rfl rfl 9 (by decide) q_224 rfl dX6_digest_147 ?_
          refine lv_iload_n hx hb dX6_digest_150 rfl (lv_at hl 1 rfl) ?_
          refine cs_vir hF (c_X3_at l D cy ad S 2 v3 (by decide)) (cwV 1 hts g_X6_211 rfl rfl rfl kk_X3_at ⟨Nat.le_of_ble_eq_true rfl, Nat.le_of_ble_eq_true rfl⟩) (cs_recvR hK hw (by decide)) hw hK hS rfl hl.1 [.long (((v1 * 31) + r_15.toInt64) * 31)] rfl (Nat.le_of_ble_eq_true rfl) dX6_digest_151 (fun r_16 H locs hq hw hS => ?_)
          replace hE := cs_letE hq hE
          clear hq
          refine lv_i2l (v := r_16.toInt64) hx hb dX6_digest_154 rfl ?_
          refine lv_ladd hx hb dX6_digest_155 ?_
          refine lv_lstore_n (lv' := [(1, .long ((((v1 * 31) + r_15.toInt64) * 31) + r_16.toInt64)), (3, .int v3), (0, .ref (ad 0))]) hx hb dX6_digest_156 rfl hl (by decide) rfl (fun ls hl => ?_)
          refine lv_lload_n hx hb dX6_digest_157 rfl (lv_at hl 0 rfl) ?_
          refine lv_ldc2 (v := 31) hx hb hown (hts _ q_489) dX6_digest_158 ?_
          refine lv_lmul hx hb dX6_digest_161 ?_
          refine lv_aload_n hx hb dX6_digest_162 rfl (lv_at hl 2 rfl) ?_
          refine lv_iload_n hx hb dX6_digest_163 rfl (lv_at hl 1 rfl) ?_
          refine cs_vi hF (c_X6_planPack l D cy ad S v3) (cwV 1 hts g_X6_146 rfl rfl rfl kk_X6_planPack ⟨Nat.le_of_ble_eq_true rfl, Nat.le_of_ble_eq_true rfl⟩) (cs_recv hK hw (ci := 6) 0 rfl rfl) hw hK hS rfl hl.1 [.long (((((v1 * 31) + r_15.toInt64) * 31) + r_16.toInt64) * 31)] rfl (Nat.le_of_ble_eq_true rfl) dX6_digest_164 (fun r_18 S_17 H locs hq hq2 hw hS => ?_)
          replace hE := cs_letE hq hE
          replace hE := cs_letE hq2 hE
          clear hq hq2
          refine lv_i2l (v := r_18.toInt64) hx hb dX6_digest_167 rfl ?_
          refine lv_ladd hx hb dX6_digest_168 ?_
          refine lv_topl (fun r_19 hq => ?_)
          replace hE := cs_letE hq hE
          clear hq
          refine lv_lstore_n (lv' := [(1, .long r_19), (3, .int v3), (0, .ref (ad 0))]) hx hb dX6_digest_169 rfl hl (by decide) rfl (fun ls hl => ?_)
          refine lv_aload_n hx hb dX6_digest_170 rfl (lv_at hl 2 rfl) ?_
          refine cs_get (C := RX6) (T := TX6) (N := 15) hF in_X6 hw hK 0 rfl rfl 13 (by decide) q_237 rfl dX6_digest_171 ?_
          refine lv_iload_n hx hb dX6_digest_174 rfl (lv_at hl 1 rfl) ?_
          refine cs_vir hF (c_X4_first l D cy ad S_17 v3) (cwV 1 hts g_X6_153 rfl rfl rfl kk_X4_first ⟨Nat.le_of_ble_eq_true rfl, Nat.le_of_ble_eq_true rfl⟩) (cs_recv hK hw (ci := 4) 4 rfl rfl) hw hK hS rfl hl.1 [] rfl (Nat.le_of_ble_eq_true rfl) dX6_digest_175 (fun r_20 H locs hq hw hS => ?_)
          replace hE := cs_letE hq hE
          clear hq
          refine lv_istore (lv' := [(4, .int r_20), (1, .long r_19), (3, .int v3), (0, .ref (ad 0))]) hx hb dX6_digest_178 hl (by decide) rfl (fun ls hl => ?_)
          -- the loop at 180
          obtain ⟨T_24, hq⟩ : ∃ z, z = m_X6_digest_L180 S_17 v3 cs_N r_19 r_20 := ⟨_, rfl⟩
          replace hE := cs_letE hq hE
          have hk : ∀ (H : Heap) (locs : List Loc) (ls : Array Slot), cs_w D cy ad S_17 H → va_S (cs_A ad) s.heap H locs → lv_has ls 5 [(4, .int T_24.2), (1, .long T_24.1), (3, .int v3), (0, .ref (ad 0))] → W p l e (cs_rm 5 132) s m ([.ref (ad 0)]).toArray below meth c H locs 0 0 (MQ below (cs_Ql D cy ad (fun r S1 => r = Res.1 ∧ S1 = Res.2)) ([.ref (ad 0)]).toArray s 0 0 (cs_A ad)) (F0 m 209 ls []) := by
            intro H locs ls hw hS hl
            refine lv_iinc (v := v3 + 1) (lv' := [(3, .int (v3 + 1)), (4, .int T_24.2), (1, .long T_24.1), (0, .ref (ad 0))]) hx hb dX6_digest_209 hl (k := 2) rfl rfl (by decide) rfl (fun ls hl => ?_)
            refine lv_goto (tgt := 120) hx hb dX6_digest_212 (by decide) ?_
            exact ih T_24.1 (v3 + 1) S_17 _ _ hw hS _ (lv_sub hl [0, 2, 3] rfl) (cs_up hm.1 c_14) hE
          have lp : ∀ (n : Nat) (v1 : Int64) (v4 : Int32) (H : Heap) (locs : List Loc), cs_w D cy ad S_17 H → va_S (cs_A ad) s.heap H locs → ∀ (ls : Array Slot), lv_has ls 5 [(4, .int v4), (1, .long v1), (3, .int v3), (0, .ref (ad 0))] → (2147483647 - v4.toInt < (n : Int) ∧ 0 < n) → m_X6_digest_L180 S_17 v3 n v1 v4 = T_24 → W p l e (cs_rm 5 132) s m ([.ref (ad 0)]).toArray below meth c H locs 0 0 (MQ below (cs_Ql D cy ad (fun r S1 => r = Res.1 ∧ S1 = Res.2)) ([.ref (ad 0)]).toArray s 0 0 (cs_A ad)) (F0 m 180 ls []) := by
            intro n
            induction n with
            | zero => intro v1 v4 H locs hw hS ls hl hm; exact absurd hm.2 (Nat.lt_irrefl 0)
            | succ n ih =>
              intro v1 v4 H locs hw hS ls hl hm hE
              replace hE := m_X6_digest_L180_s.symm.trans hE
              refine lv_iload hx hb dX6_digest_180 (lv_at hl 0 rfl) ?_
              refine lv_aload_n hx hb dX6_digest_182 rfl (lv_at hl 3 rfl) ?_
              refine cs_get (C := RX6) (T := TX6) (N := 15) hF in_X6 hw hK 0 rfl rfl 13 (by decide) q_237 rfl dX6_digest_183 ?_
              refine lv_iload_n hx hb dX6_digest_186 rfl (lv_at hl 2 rfl) ?_
              refine lv_iconst (v := 1) hx hb dX6_digest_187 (by decide) ?_
              refine lv_iadd hx hb dX6_digest_188 ?_
              refine cs_vir hF (c_X4_first l D cy ad S_17 (v3 + 1)) (cwV 1 hts g_X6_153 rfl rfl rfl kk_X4_first ⟨Nat.le_of_ble_eq_true rfl, Nat.le_of_ble_eq_true rfl⟩) (cs_recv hK hw (ci := 4) 4 rfl rfl) hw hK hS rfl hl.1 [.int v4] rfl (Nat.le_of_ble_eq_true rfl) dX6_digest_189 (fun r_21 H locs hq hw hS => ?_)
              replace hE := cs_letE hq hE
              clear hq
              refine lv_icmp_ge (tgt := 209) hx hb dX6_digest_192 (by decide) (fun c_22 => ?_) (fun c_22 => ?_)
              · replace hE := cs_T c_22 hE
                subst hE
                exact hk _ _ _ hw hS (lv_sub hl [0, 1, 2, 3] rfl)
              · replace hE := cs_F c_22 hE
                refine lv_aload_n hx hb dX6_digest_195 rfl (lv_at hl 3 rfl) ?_
                refine lv_lload_n hx hb dX6_digest_196 rfl (lv_at hl 1 rfl) ?_
                refine lv_iload hx hb dX6_digest_197 (lv_at hl 0 rfl) ?_
                refine cs_vlr hF (c_X6_digestRun l D cy ad S_17 v1 v4) (cwV 2 hts g_X6_290 rfl rfl rfl kk_X6_digestRun ⟨Nat.le_of_ble_eq_true rfl, Nat.le_of_ble_eq_true rfl⟩) (cs_recv hK hw (ci := 6) 0 rfl rfl) hw hK hS rfl hl.1 [] rfl (Nat.le_of_ble_eq_true rfl) dX6_digest_199 (fun r_23 H locs hq hw hS => ?_)
                replace hE := cs_letE hq hE
                clear hq
                refine lv_lstore_n (lv' := [(1, .long r_23), (4, .int v4), (3, .int v3), (0, .ref (ad 0))]) hx hb dX6_digest_202 rfl hl (by decide) rfl (fun ls hl => ?_)
                refine lv_iinc (v := v4 + 1) (lv' := [(4, .int (v4 + 1)), (1, .long r_23), (3, .int v3), (0, .ref (ad 0))]) hx hb dX6_digest_203 hl (k := 1) rfl rfl (by decide) rfl (fun ls hl => ?_)
                refine lv_goto (tgt := 180) hx hb dX6_digest_206 (by decide) ?_
                exact ih r_23 (v4 + 1) _ _ hw hS _ (lv_sub hl [0, 1, 2, 3] rfl) (cs_up hm.1 c_22) hE
          exact lp cs_N r_19 r_20 _ _ hw hS _ (lv_sub hl [0, 1, 2, 3] rfl) (cs_up0 r_20) hq.symm
    exact lp cs_N T_13.1 0 S_6 _ _ hw hS _ (lv_sub hl [0, 1, 2] rfl) (cs_up0 0) hq.symm
  have lp : ∀ (n : Nat) (v1 : Int64) (v3 : Int32) (H : Heap) (locs : List Loc), cs_w D cy ad S_6 H → va_S (cs_A ad) s.heap H locs → ∀ (ls : Array Slot), lv_has ls 5 [(3, .int v3), (1, .long v1), (0, .ref (ad 0))] → (2147483647 - v3.toInt < (n : Int) ∧ 0 < n) → m_X6_digest_L90 S_6 n v1 v3 = T_13 → W p l e (cs_rm 5 132) s m ([.ref (ad 0)]).toArray below meth c H locs 0 0 (MQ below (cs_Ql D cy ad (fun r S1 => r = Res.1 ∧ S1 = Res.2)) ([.ref (ad 0)]).toArray s 0 0 (cs_A ad)) (F0 m 90 ls []) := by
    intro n
    induction n with
    | zero => intro v1 v3 H locs hw hS ls hl hm; exact absurd hm.2 (Nat.lt_irrefl 0)
    | succ n ih =>
      intro v1 v3 H locs hw hS ls hl hm hE
      replace hE := m_X6_digest_L90_s.symm.trans hE
      refine lv_iload_n hx hb dX6_digest_90 rfl (lv_at hl 0 rfl) ?_
      refine lv_bipush (v := 6) hx hb dX6_digest_91 (by decide) ?_
      refine lv_icmp_ge (tgt := 118) hx hb dX6_digest_93 (by decide) (fun c_11 => ?_) (fun c_11 => ?_)
      · replace hE := cs_T c_11 hE
        subst hE
        exact hk _ _ _ hw hS (lv_sub hl [0, 1, 2] rfl)
      · replace hE := cs_F c_11 hE
        refine lv_lload_n hx hb dX6_digest_96 rfl (lv_at hl 1 rfl) ?_
        refine lv_ldc2 (v := 31) hx hb hown (hts _ q_489) dX6_digest_97 ?_
        refine lv_lmul hx hb dX6_digest_100 ?_
        refine lv_aload_n hx hb dX6_digest_101 rfl (lv_at hl 2 rfl) ?_
        refine cs_get (C := RX6) (T := TX6) (N := 15) hF in_X6 hw hK 0 rfl rfl 7 (by decide) q_222 rfl dX6_digest_102 ?_
        refine lv_iload_n hx hb dX6_digest_105 rfl (lv_at hl 0 rfl) ?_
        refine cs_vir hF (c_X3_at l D cy ad S_6 0 v3 (by decide)) (cwV 1 hts g_X6_211 rfl rfl rfl kk_X3_at ⟨Nat.le_of_ble_eq_true rfl, Nat.le_of_ble_eq_true rfl⟩) (cs_recvR hK hw (by decide)) hw hK hS rfl hl.1 [.long (v1 * 31)] rfl (Nat.le_of_ble_eq_true rfl) dX6_digest_106 (fun r_12 H locs hq hw hS => ?_)
        replace hE := cs_letE hq hE
        clear hq
        refine lv_i2l (v := r_12.toInt64) hx hb dX6_digest_109 rfl ?_
        refine lv_ladd hx hb dX6_digest_110 ?_
        refine lv_lstore_n (lv' := [(1, .long ((v1 * 31) + r_12.toInt64)), (3, .int v3), (0, .ref (ad 0))]) hx hb dX6_digest_111 rfl hl (by decide) rfl (fun ls hl => ?_)
        refine lv_iinc (v := v3 + 1) (lv' := [(3, .int (v3 + 1)), (1, .long ((v1 * 31) + r_12.toInt64)), (0, .ref (ad 0))]) hx hb dX6_digest_112 hl (k := 1) rfl rfl (by decide) rfl (fun ls hl => ?_)
        refine lv_goto (tgt := 90) hx hb dX6_digest_115 (by decide) ?_
        exact ih ((v1 * 31) + r_12.toInt64) (v3 + 1) _ _ hw hS _ (lv_sub hl [0, 1, 2] rfl) (cs_up hm.1 c_11) hE
  exact lp cs_N ((r_9 * 31) + r_10.toInt64) 0 _ _ hw hS _ (lv_sub hl [0, 1, 2] rfl) (cs_up0 0) hq.symm
theorem kk_X6_digest : yX6_digest.cls = RX6 ∧ yX6_digest.cls ≠ "java/lang/invoke/MethodHandle" ∧ yX6_digest.cls ≠ "java/lang/invoke/VarHandle" ∧ (parseMethodDescriptor yX6_digest.desc).map (fun d => d.parameters.length) = some 0 := by decide +kernel
