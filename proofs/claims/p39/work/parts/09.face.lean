theorem g_X6_117 : GoodIn cs_WS (va_wsS RX6 117 yX6_checkKey (cs_ws yX6_checkKey cX6_checkKey 1 none)) := cs_goodS q_360 q_361 q_299 q_262
theorem g_X6_122 : GoodIn cs_WS (wsV RX6 122 RX6 yX6_write (cs_ws yX6_write cX6_write 4 (some .int))) := cs_goodV q_362 q_363 q_364 q_299 q_285
theorem g_X6_125 : GoodIn cs_WS (wsV RX6 125 RX6 yX6_settle (cs_ws yX6_settle cX6_settle 4 none)) := cs_goodV q_365 q_366 q_367 q_299 q_342
def m_X6_put (S : cs_St) (a1 : Int32) (a2 : Int32) : Int32 × cs_St := cs_let (m_X6_write S a1 a2).1 (fun r_4 => cs_let (m_X6_write S a1 a2).2 (fun S_3 => cs_let (m_X6_settle S_3) (fun S_5 => (r_4, S_5))))
set_option maxHeartbeats 4000000 in
set_option maxRecDepth 100000 in
theorem c_X6_put (l : Launch) (D : va_G) (cy : ClassId) (ad : Nat → Nat) (S : cs_St) (a1 : Int32) (a2 : Int32) (g0 : ¬ a1 < 0) (g1 : a1 ≤ 9999) (g2 : ¬ a2 < 0) (g3 : a2 ≤ 9999) : Met l yX6_put (cs_ws yX6_put cX6_put 4 (some .int)) (cs_rm 6 186) (cs_Pc D cy ad [.ref (ad 0), .int a1, .int a2] S) (cs_Qi D cy ad (fun r S1 => r = (m_X6_put S a1 a2).1 ∧ S1 = (m_X6_put S a1 a2).2)) 0 0 (cs_A ad) := by
  refine cs_of RX6 (by decide) rfl (Nat.le_of_ble_eq_true rfl) ?_
  intro p e s m below meth c hF hr hlk hw hK ls hl
  obtain ⟨hx, hb, hml, hown, hts⟩ := id hF
  have hS : va_S (cs_A ad) s.heap s.heap [] := va_S.rf
  have hl : lv_has ls 4 [(0, .ref (ad 0)), (1, .int a1), (2, .int a2)] := hl
  generalize hRes : m_X6_put S a1 a2 = Res
  unfold m_X6_put at hRes
  refine lv_iload_n hx hb dX6_put_0 rfl (lv_at hl 1 rfl) ?_
  refine cs_svr hF (c_X6_checkKey l D cy ad S a1 (g0) (g1)) (va_cwS 1 hts g_X6_117 rfl rfl rfl kk_X6_checkKey ⟨Nat.le_of_ble_eq_true rfl, Nat.le_of_ble_eq_true rfl⟩) hw hK hS rfl hl.1 [] rfl (Nat.le_of_ble_eq_true rfl) dX6_put_1 (fun H locs hw hS => ?_)
  refine lv_iload_n hx hb dX6_put_4 rfl (lv_at hl 2 rfl) ?_
  refine lv_if_lt (tgt := 15) hx hb dX6_put_5 (by decide) (fun c_1 => absurd c_1 (g2)) (fun c_1 => ?_)
  refine lv_iload_n hx hb dX6_put_8 rfl (lv_at hl 2 rfl) ?_
  refine lv_sipush (v := 9999) hx hb dX6_put_9 (by decide) ?_
  refine lv_icmp_le (tgt := 25) hx hb dX6_put_12 (by decide) (fun c_2 => ?_) (fun c_2 => absurd (g3) c_2)
  refine lv_aload_n hx hb dX6_put_25 rfl (lv_at hl 0 rfl) ?_
  refine lv_iload_n hx hb dX6_put_26 rfl (lv_at hl 1 rfl) ?_
  refine lv_iload_n hx hb dX6_put_27 rfl (lv_at hl 2 rfl) ?_
  refine cs_vi hF (c_X6_write l D cy ad S a1 a2) (cwV 2 hts g_X6_122 rfl rfl rfl kk_X6_write ⟨Nat.le_of_ble_eq_true rfl, Nat.le_of_ble_eq_true rfl⟩) (cs_recv hK hw (ci := 6) 0 rfl rfl) hw hK hS rfl hl.1 [] rfl (Nat.le_of_ble_eq_true rfl) dX6_put_28 (fun r_4 S_3 H locs hq hq2 hw hS => ?_)
  replace hRes := cs_letE hq hRes
  replace hRes := cs_letE hq2 hRes
  clear hq hq2
  refine lv_istore_n (lv' := [(3, .int r_4), (0, .ref (ad 0)), (1, .int a1), (2, .int a2)]) hx hb dX6_put_31 rfl hl (by decide) rfl (fun ls hl => ?_)
  refine lv_aload_n hx hb dX6_put_32 rfl (lv_at hl 1 rfl) ?_
  refine cs_vv hF (c_X6_settle l D cy ad S_3) (cwV 0 hts g_X6_125 rfl rfl rfl kk_X6_settle ⟨Nat.le_of_ble_eq_true rfl, Nat.le_of_ble_eq_true rfl⟩) (cs_recv hK hw (ci := 6) 0 rfl rfl) hw hK hS rfl hl.1 [] rfl (Nat.le_of_ble_eq_true rfl) dX6_put_33 (fun S_5 H locs hq hw hS => ?_)
  replace hRes := cs_letE hq hRes
  clear hq
  refine lv_iload_n hx hb dX6_put_36 rfl (lv_at hl 0 rfl) ?_
  exact cs_iret hF hr hlk hw hK hS dX6_put_37 ⟨cs_eq1 hRes, cs_eq2 hRes⟩
theorem kk_X6_put : yX6_put.cls = RX6 ∧ yX6_put.cls ≠ "java/lang/invoke/MethodHandle" ∧ yX6_put.cls ≠ "java/lang/invoke/VarHandle" ∧ (parseMethodDescriptor yX6_put.desc).map (fun d => d.parameters.length) = some 2 := by decide +kernel
def m_X6_remove (S : cs_St) (a1 : Int32) : Int32 × cs_St := cs_let (m_X6_write S a1 (-1)).1 (fun r_2 => cs_let (m_X6_write S a1 (-1)).2 (fun S_1 => cs_let (m_X6_settle S_1) (fun S_3 => (r_2, S_3))))
set_option maxHeartbeats 4000000 in
set_option maxRecDepth 100000 in
theorem c_X6_remove (l : Launch) (D : va_G) (cy : ClassId) (ad : Nat → Nat) (S : cs_St) (a1 : Int32) (g0 : ¬ a1 < 0) (g1 : a1 ≤ 9999) : Met l yX6_remove (cs_ws yX6_remove cX6_remove 3 (some .int)) (cs_rm 6 186) (cs_Pc D cy ad [.ref (ad 0), .int a1] S) (cs_Qi D cy ad (fun r S1 => r = (m_X6_remove S a1).1 ∧ S1 = (m_X6_remove S a1).2)) 0 0 (cs_A ad) := by
  refine cs_of RX6 (by decide) rfl (Nat.le_of_ble_eq_true rfl) ?_
  intro p e s m below meth c hF hr hlk hw hK ls hl
  obtain ⟨hx, hb, hml, hown, hts⟩ := id hF
  have hS : va_S (cs_A ad) s.heap s.heap [] := va_S.rf
  have hl : lv_has ls 3 [(0, .ref (ad 0)), (1, .int a1)] := hl
  generalize hRes : m_X6_remove S a1 = Res
  unfold m_X6_remove at hRes
  refine lv_iload_n hx hb dX6_remove_0 rfl (lv_at hl 1 rfl) ?_
  refine cs_svr hF (c_X6_checkKey l D cy ad S a1 (g0) (g1)) (va_cwS 1 hts g_X6_117 rfl rfl rfl kk_X6_checkKey ⟨Nat.le_of_ble_eq_true rfl, Nat.le_of_ble_eq_true rfl⟩) hw hK hS rfl hl.1 [] rfl (Nat.le_of_ble_eq_true rfl) dX6_remove_1 (fun H locs hw hS => ?_)
  refine lv_aload_n hx hb dX6_remove_4 rfl (lv_at hl 0 rfl) ?_
  refine lv_iload_n hx hb dX6_remove_5 rfl (lv_at hl 1 rfl) ?_
  refine lv_iconst (v := -1) hx hb dX6_remove_6 (by decide) ?_
  refine cs_vi hF (c_X6_write l D cy ad S a1 (-1)) (cwV 2 hts g_X6_122 rfl rfl rfl kk_X6_write ⟨Nat.le_of_ble_eq_true rfl, Nat.le_of_ble_eq_true rfl⟩) (cs_recv hK hw (ci := 6) 0 rfl rfl) hw hK hS rfl hl.1 [] rfl (Nat.le_of_ble_eq_true rfl) dX6_remove_7 (fun r_2 S_1 H locs hq hq2 hw hS => ?_)
  replace hRes := cs_letE hq hRes
  replace hRes := cs_letE hq2 hRes
  clear hq hq2
  refine lv_istore_n (lv' := [(2, .int r_2), (0, .ref (ad 0)), (1, .int a1)]) hx hb dX6_remove_10 rfl hl (by decide) rfl (fun ls hl => ?_)
  refine lv_aload_n hx hb dX6_remove_11 rfl (lv_at hl 1 rfl) ?_
  refine cs_vv hF (c_X6_settle l D cy ad S_1) (cwV 0 hts g_X6_125 rfl rfl rfl kk_X6_settle ⟨Nat.le_of_ble_eq_true rfl, Nat.le_of_ble_eq_true rfl⟩) (cs_recv hK hw (ci := 6) 0 rfl rfl) hw hK hS rfl hl.1 [] rfl (Nat.le_of_ble_eq_true rfl) dX6_remove_12 (fun S_3 H locs hq hw hS => ?_)
  replace hRes := cs_letE hq hRes
  clear hq
  refine lv_iload_n hx hb dX6_remove_15 rfl (lv_at hl 0 rfl) ?_
  exact cs_iret hF hr hlk hw hK hS dX6_remove_16 ⟨cs_eq1 hRes, cs_eq2 hRes⟩
theorem kk_X6_remove : yX6_remove.cls = RX6 ∧ yX6_remove.cls ≠ "java/lang/invoke/MethodHandle" ∧ yX6_remove.cls ≠ "java/lang/invoke/VarHandle" ∧ (parseMethodDescriptor yX6_remove.desc).map (fun d => d.parameters.length) = some 1 := by decide +kernel
def m_X6_flush (S : cs_St) : Int32 × cs_St := cs_let (m_X3_length S 3) (fun r_1 => cs_let (m_X6_layHand S) (fun S_2 => cs_let (m_X6_settle S_2) (fun S_3 => (r_1, S_3))))
set_option maxHeartbeats 4000000 in
set_option maxRecDepth 100000 in
theorem c_X6_flush (l : Launch) (D : va_G) (cy : ClassId) (ad : Nat → Nat) (S : cs_St) : Met l yX6_flush (cs_ws yX6_flush cX6_flush 2 (some .int)) (cs_rm 6 186) (cs_Pc D cy ad [.ref (ad 0)] S) (cs_Qi D cy ad (fun r S1 => r = (m_X6_flush S).1 ∧ S1 = (m_X6_flush S).2)) 0 0 (cs_A ad) := by
  refine cs_of RX6 (by decide) rfl (Nat.le_of_ble_eq_true rfl) ?_
  intro p e s m below meth c hF hr hlk hw hK ls hl
  obtain ⟨hx, hb, hml, hown, hts⟩ := id hF
  have hS : va_S (cs_A ad) s.heap s.heap [] := va_S.rf
  have hl : lv_has ls 2 [(0, .ref (ad 0))] := hl
  generalize hRes : m_X6_flush S = Res
  unfold m_X6_flush at hRes
  refine lv_aload_n hx hb dX6_flush_0 rfl (lv_at hl 0 rfl) ?_
  refine cs_get (C := RX6) (T := TX6) (N := 15) hF in_X6 hw hK 0 rfl rfl 10 (by decide) q_228 rfl dX6_flush_1 ?_
  refine cs_getN (C := RX0) (T := TX0) (N := 3) hF in_X0 hw hK 1 rfl rfl 0 (by decide) (List.mem_of_getElem? (i := 0) rfl) rfl dX6_flush_4 ?_
  refine cs_vir hF (c_X3_length l D cy ad S 3 (by decide)) (cwV 0 hts g_X6_137 rfl rfl rfl kk_X3_length ⟨Nat.le_of_ble_eq_true rfl, Nat.le_of_ble_eq_true rfl⟩) (cs_recvR hK hw (by decide)) hw hK hS rfl hl.1 [] rfl (Nat.le_of_ble_eq_true rfl) dX6_flush_7 (fun r_1 H locs hq hw hS => ?_)
  replace hRes := cs_letE hq hRes
  clear hq
  refine lv_istore_n (lv' := [(1, .int r_1), (0, .ref (ad 0))]) hx hb dX6_flush_10 rfl hl (by decide) rfl (fun ls hl => ?_)
  refine lv_aload_n hx hb dX6_flush_11 rfl (lv_at hl 1 rfl) ?_
  refine cs_vv hF (c_X6_layHand l D cy ad S) (cwV 0 hts g_X6_140 rfl rfl rfl kk_X6_layHand ⟨Nat.le_of_ble_eq_true rfl, Nat.le_of_ble_eq_true rfl⟩) (cs_recv hK hw (ci := 6) 0 rfl rfl) hw hK hS rfl hl.1 [] rfl (Nat.le_of_ble_eq_true rfl) dX6_flush_12 (fun S_2 H locs hq hw hS => ?_)
  replace hRes := cs_letE hq hRes
  clear hq
  refine lv_aload_n hx hb dX6_flush_15 rfl (lv_at hl 1 rfl) ?_
  refine cs_vv hF (c_X6_settle l D cy ad S_2) (cwV 0 hts g_X6_125 rfl rfl rfl kk_X6_settle ⟨Nat.le_of_ble_eq_true rfl, Nat.le_of_ble_eq_true rfl⟩) (cs_recv hK hw (ci := 6) 0 rfl rfl) hw hK hS rfl hl.1 [] rfl (Nat.le_of_ble_eq_true rfl) dX6_flush_16 (fun S_3 H locs hq hw hS => ?_)
  replace hRes := cs_letE hq hRes
  clear hq
  refine lv_iload_n hx hb dX6_flush_19 rfl (lv_at hl 0 rfl) ?_
  exact cs_iret hF hr hlk hw hK hS dX6_flush_20 ⟨cs_eq1 hRes, cs_eq2 hRes⟩
theorem kk_X6_flush : yX6_flush.cls = RX6 ∧ yX6_flush.cls ≠ "java/lang/invoke/MethodHandle" ∧ yX6_flush.cls ≠ "java/lang/invoke/VarHandle" ∧ (parseMethodDescriptor yX6_flush.desc).map (fun d => d.parameters.length) = some 0 := by decide +kernel
theorem g_X6_146 : GoodIn cs_WS (wsV RX6 146 RX6 yX6_planPack (cs_ws yX6_planPack cX6_planPack 4 (some .int))) := cs_goodV q_381 q_382 q_383 q_299 q_374
def m_X6_pack_L39 (u3 : Int32) (u2 : Int32) (u1 : Int32) : Nat → Int32 → cs_St → Int32 × cs_St
  | 0, _, S => (0, S)
  | n + 1, v4, S => (if 4 ≤ v4 then (v4, S) else cs_let (m_X4_count S v4) (fun r_8 => cs_let (m_X4_cut S v4 0 r_8) (fun S_9 => m_X6_pack_L39 u3 u2 u1 n (v4 + 1) S_9)))
theorem m_X6_pack_L39_s {u3 : Int32} {u2 : Int32} {u1 : Int32} {n : Nat} {v4 : Int32} {S : cs_St} : m_X6_pack_L39 u3 u2 u1 (n + 1) v4 S = (if 4 ≤ v4 then (v4, S) else cs_let (m_X4_count S v4) (fun r_8 => cs_let (m_X4_cut S v4 0 r_8) (fun S_9 => m_X6_pack_L39 u3 u2 u1 n (v4 + 1) S_9))) := rfl
def m_X6_pack (S : cs_St) (a1 : Int32) : Int32 × cs_St := cs_let (m_X6_planPack S a1).1 (fun r_2 => cs_let (m_X6_planPack S a1).2 (fun S_1 => cs_let (m_X6_firstPacked S_1 a1) (fun r_3 => cs_let (m_X4_first S_1 r_3) (fun r_4 => cs_let (m_X4_total S_1) (fun r_5 => (if r_4 = r_5 then (0, S_1) else cs_let (m_X6_pack_L39 r_3 r_2 a1 cs_N r_3 S_1) (fun T_10 => cs_let (m_X3_raise T_10.2 0 4 1) (fun S_11 => cs_let (m_X6_layPile S_11 3 0) (fun S_12 => (r_2, S_12))))))))))
set_option maxHeartbeats 4000000 in
set_option maxRecDepth 100000 in
theorem c_X6_pack (l : Launch) (D : va_G) (cy : ClassId) (ad : Nat → Nat) (S : cs_St) (a1 : Int32) (g0 : ¬ a1 < 0) (g1 : a1 < 4) : Met l yX6_pack (cs_ws yX6_pack cX6_pack 5 (some .int)) (cs_rm 5 163) (cs_Pc D cy ad [.ref (ad 0), .int a1] S) (cs_Qi D cy ad (fun r S1 => r = (m_X6_pack S a1).1 ∧ S1 = (m_X6_pack S a1).2)) 0 0 (cs_A ad) := by
  refine cs_of RX6 (by decide) rfl (Nat.le_of_ble_eq_true rfl) ?_
  intro p e s m below meth c hF hr hlk hw hK ls hl
  obtain ⟨hx, hb, hml, hown, hts⟩ := id hF
  have hS : va_S (cs_A ad) s.heap s.heap [] := va_S.rf
  have hl : lv_has ls 5 [(0, .ref (ad 0)), (1, .int a1)] := hl
  generalize hRes : m_X6_pack S a1 = Res
  unfold m_X6_pack at hRes
  refine lv_iload_n hx hb dX6_pack_0 rfl (lv_at hl 1 rfl) ?_
  refine cs_svr hF (c_X6_checkLevel l D cy ad S a1 (g0) (g1)) (va_cwS 1 hts g_X6_143 rfl rfl rfl kk_X6_checkLevel ⟨Nat.le_of_ble_eq_true rfl, Nat.le_of_ble_eq_true rfl⟩) hw hK hS rfl hl.1 [] rfl (Nat.le_of_ble_eq_true rfl) dX6_pack_1 (fun H locs hw hS => ?_)
  refine lv_aload_n hx hb dX6_pack_4 rfl (lv_at hl 0 rfl) ?_
  refine lv_iload_n hx hb dX6_pack_5 rfl (lv_at hl 1 rfl) ?_
  refine cs_vi hF (c_X6_planPack l D cy ad S a1) (cwV 1 hts g_X6_146 rfl rfl rfl kk_X6_planPack ⟨Nat.le_of_ble_eq_true rfl, Nat.le_of_ble_eq_true rfl⟩) (cs_recv hK hw (ci := 6) 0 rfl rfl) hw hK hS rfl hl.1 [] rfl (Nat.le_of_ble_eq_true rfl) dX6_pack_6 (fun r_2 S_1 H locs hq hq2 hw hS => ?_)
  replace hRes := cs_letE hq hRes
  replace hRes := cs_letE hq2 hRes
  clear hq hq2
  refine lv_istore_n (lv' := [(2, .int r_2), (0, .ref (ad 0)), (1, .int a1)]) hx hb dX6_pack_9 rfl hl (by decide) rfl (fun ls hl => ?_)
  refine lv_aload_n hx hb dX6_pack_10 rfl (lv_at hl 1 rfl) ?_
  refine lv_iload_n hx hb dX6_pack_11 rfl (lv_at hl 2 rfl) ?_
  refine cs_vir hF (c_X6_firstPacked l D cy ad S_1 a1) (cwV 1 hts g_X6_150 rfl rfl rfl kk_X6_firstPacked ⟨Nat.le_of_ble_eq_true rfl, Nat.le_of_ble_eq_true rfl⟩) (cs_recv hK hw (ci := 6) 0 rfl rfl) hw hK hS rfl hl.1 [] rfl (Nat.le_of_ble_eq_true rfl) dX6_pack_12 (fun r_3 H locs hq hw hS => ?_)
  replace hRes := cs_letE hq hRes
  clear hq
  refine lv_istore_n (lv' := [(3, .int r_3), (2, .int r_2), (0, .ref (ad 0)), (1, .int a1)]) hx hb dX6_pack_15 rfl hl (by decide) rfl (fun ls hl => ?_)
  refine lv_aload_n hx hb dX6_pack_16 rfl (lv_at hl 2 rfl) ?_
  refine cs_get (C := RX6) (T := TX6) (N := 15) hF in_X6 hw hK 0 rfl rfl 13 (by decide) q_237 rfl dX6_pack_17 ?_
  refine lv_iload_n hx hb dX6_pack_20 rfl (lv_at hl 0 rfl) ?_
  refine cs_vir hF (c_X4_first l D cy ad S_1 r_3) (cwV 1 hts g_X6_153 rfl rfl rfl kk_X4_first ⟨Nat.le_of_ble_eq_true rfl, Nat.le_of_ble_eq_true rfl⟩) (cs_recv hK hw (ci := 4) 4 rfl rfl) hw hK hS rfl hl.1 [] rfl (Nat.le_of_ble_eq_true rfl) dX6_pack_21 (fun r_4 H locs hq hw hS => ?_)
  replace hRes := cs_letE hq hRes
  clear hq
  refine lv_aload_n hx hb dX6_pack_24 rfl (lv_at hl 2 rfl) ?_
  refine cs_get (C := RX6) (T := TX6) (N := 15) hF in_X6 hw hK 0 rfl rfl 13 (by decide) q_237 rfl dX6_pack_25 ?_
  refine cs_vir hF (c_X4_total l D cy ad S_1) (cwV 0 hts g_X6_102 rfl rfl rfl kk_X4_total ⟨Nat.le_of_ble_eq_true rfl, Nat.le_of_ble_eq_true rfl⟩) (cs_recv hK hw (ci := 4) 4 rfl rfl) hw hK hS rfl hl.1 [.int r_4] rfl (Nat.le_of_ble_eq_true rfl) dX6_pack_28 (fun r_5 H locs hq hw hS => ?_)
  replace hRes := cs_letE hq hRes
  clear hq
  refine lv_icmp_ne (tgt := 36) hx hb dX6_pack_31 (by decide) (fun c_6 => ?_) (fun c_6 => ?_)
  · replace hRes := cs_F c_6 hRes
    refine lv_iload_n hx hb dX6_pack_36 rfl (lv_at hl 0 rfl) ?_
    refine lv_istore (lv' := [(4, .int r_3), (3, .int r_3), (2, .int r_2), (0, .ref (ad 0)), (1, .int a1)]) hx hb dX6_pack_37 hl (by decide) rfl (fun ls hl => ?_)
    -- the loop at 39
    obtain ⟨T_10, hq⟩ : ∃ z, z = m_X6_pack_L39 r_3 r_2 a1 cs_N r_3 S_1 := ⟨_, rfl⟩
    replace hRes := cs_letE hq hRes
    have hk : ∀ (H : Heap) (locs : List Loc) (ls : Array Slot), cs_w D cy ad T_10.2 H → va_S (cs_A ad) s.heap H locs → lv_has ls 5 [(4, .int T_10.1), (3, .int r_3), (2, .int r_2), (0, .ref (ad 0)), (1, .int a1)] → W p l e (cs_rm 5 163) s m ([.ref (ad 0), .int a1]).toArray below meth c H locs 0 0 (MQ below (cs_Qi D cy ad (fun r S1 => r = Res.1 ∧ S1 = Res.2)) ([.ref (ad 0), .int a1]).toArray s 0 0 (cs_A ad)) (F0 m 70 ls []) := by
      intro H locs ls hw hS hl
      refine lv_aload_n hx hb dX6_pack_70 rfl (lv_at hl 3 rfl) ?_
      refine cs_get (C := RX6) (T := TX6) (N := 15) hF in_X6 hw hK 0 rfl rfl 7 (by decide) q_222 rfl dX6_pack_71 ?_
      refine lv_iconst (v := 4) hx hb dX6_pack_74 (by decide) ?_
      refine lv_iconst (v := 1) hx hb dX6_pack_75 (by decide) ?_
      refine cs_vv hF (c_X3_raise l D cy ad T_10.2 0 4 1 (by decide) (by decide)) (cwV 2 hts g_X6_163 rfl rfl rfl kk_X3_raise ⟨Nat.le_of_ble_eq_true rfl, Nat.le_of_ble_eq_true rfl⟩) (cs_recvR hK hw (by decide)) hw hK hS rfl hl.1 [] rfl (Nat.le_of_ble_eq_true rfl) dX6_pack_76 (fun S_11 H locs hq hw hS => ?_)
      replace hRes := cs_letE hq hRes
      clear hq
      refine lv_aload_n hx hb dX6_pack_79 rfl (lv_at hl 3 rfl) ?_
      refine lv_iconst (v := 3) hx hb dX6_pack_80 (by decide) ?_
      refine lv_iconst (v := 0) hx hb dX6_pack_81 (by decide) ?_
      refine cs_vv hF (c_X6_layPile l D cy ad S_11 3 0) (cwV 2 hts g_X6_166 rfl rfl rfl kk_X6_layPile ⟨Nat.le_of_ble_eq_true rfl, Nat.le_of_ble_eq_true rfl⟩) (cs_recv hK hw (ci := 6) 0 rfl rfl) hw hK hS rfl hl.1 [] rfl (Nat.le_of_ble_eq_true rfl) dX6_pack_82 (fun S_12 H locs hq hw hS => ?_)
      replace hRes := cs_letE hq hRes
      clear hq
      refine lv_iload_n hx hb dX6_pack_85 rfl (lv_at hl 2 rfl) ?_
      exact cs_iret hF hr hlk hw hK hS dX6_pack_86 ⟨cs_eq1 hRes, cs_eq2 hRes⟩
    have lp : ∀ (n : Nat) (v4 : Int32) (S : cs_St) (H : Heap) (locs : List Loc), cs_w D cy ad S H → va_S (cs_A ad) s.heap H locs → ∀ (ls : Array Slot), lv_has ls 5 [(4, .int v4), (3, .int r_3), (2, .int r_2), (0, .ref (ad 0)), (1, .int a1)] → (2147483647 - v4.toInt < (n : Int) ∧ 0 < n) → m_X6_pack_L39 r_3 r_2 a1 n v4 S = T_10 → W p l e (cs_rm 5 163) s m ([.ref (ad 0), .int a1]).toArray below meth c H locs 0 0 (MQ below (cs_Qi D cy ad (fun r S1 => r = Res.1 ∧ S1 = Res.2)) ([.ref (ad 0), .int a1]).toArray s 0 0 (cs_A ad)) (F0 m 39 ls []) := by
      intro n
      induction n with
      | zero => intro v4 S H locs hw hS ls hl hm; exact absurd hm.2 (Nat.lt_irrefl 0)
      | succ n ih =>
        intro v4 S H locs hw hS ls hl hm hE
        replace hE := m_X6_pack_L39_s.symm.trans hE
        refine lv_iload hx hb dX6_pack_39 (lv_at hl 0 rfl) ?_
        refine lv_iconst (v := 4) hx hb dX6_pack_41 (by decide) ?_
        refine lv_icmp_ge (tgt := 70) hx hb dX6_pack_42 (by decide) (fun c_7 => ?_) (fun c_7 => ?_)
        · replace hE := cs_T c_7 hE
          subst hE
          exact hk _ _ _ hw hS (lv_sub hl [0, 1, 2, 3, 4] rfl)
        · replace hE := cs_F c_7 hE
          refine lv_aload_n hx hb dX6_pack_45 rfl (lv_at hl 3 rfl) ?_
          refine cs_get (C := RX6) (T := TX6) (N := 15) hF in_X6 hw hK 0 rfl rfl 13 (by decide) q_237 rfl dX6_pack_46 ?_
          refine lv_iload hx hb dX6_pack_49 (lv_at hl 0 rfl) ?_
          refine lv_iconst (v := 0) hx hb dX6_pack_51 (by decide) ?_
          refine lv_aload_n hx hb dX6_pack_52 rfl (lv_at hl 3 rfl) ?_
          refine cs_get (C := RX6) (T := TX6) (N := 15) hF in_X6 hw hK 0 rfl rfl 13 (by decide) q_237 rfl dX6_pack_53 ?_
          refine lv_iload hx hb dX6_pack_56 (lv_at hl 0 rfl) ?_
          refine cs_vir hF (c_X4_count l D cy ad S v4) (cwV 1 hts g_X6_156 rfl rfl rfl kk_X4_count ⟨Nat.le_of_ble_eq_true rfl, Nat.le_of_ble_eq_true rfl⟩) (cs_recv hK hw (ci := 4) 4 rfl rfl) hw hK hS rfl hl.1 [.int 0, .int v4, .ref (ad 4)] rfl (Nat.le_of_ble_eq_true rfl) dX6_pack_58 (fun r_8 H locs hq hw hS => ?_)
          replace hE := cs_letE hq hE
          clear hq
          refine cs_vv hF (c_X4_cut l D cy ad S v4 0 r_8) (cwV 3 hts g_X6_159 rfl rfl rfl kk_X4_cut ⟨Nat.le_of_ble_eq_true rfl, Nat.le_of_ble_eq_true rfl⟩) (cs_recv hK hw (ci := 4) 4 rfl rfl) hw hK hS rfl hl.1 [] rfl (Nat.le_of_ble_eq_true rfl) dX6_pack_61 (fun S_9 H locs hq hw hS => ?_)
          replace hE := cs_letE hq hE
          clear hq
          refine lv_iinc (v := v4 + 1) (lv' := [(4, .int (v4 + 1)), (3, .int r_3), (2, .int r_2), (0, .ref (ad 0)), (1, .int a1)]) hx hb dX6_pack_64 hl (k := 0) rfl rfl (by decide) rfl (fun ls hl => ?_)
          refine lv_goto (tgt := 39) hx hb dX6_pack_67 (by decide) ?_
          exact ih (v4 + 1) S_9 _ _ hw hS _ (lv_sub hl [0, 1, 2, 3, 4] rfl) (cs_up hm.1 c_7) hE
    exact lp cs_N r_3 S_1 _ _ hw hS _ (lv_sub hl [0, 1, 2, 3, 4] rfl) (cs_up0 r_3) hq.symm
  · replace hRes := cs_T c_6 hRes
    refine lv_iconst (v := 0) hx hb dX6_pack_34 (by decide) ?_
    exact cs_iret hF hr hlk hw hK hS dX6_pack_35 ⟨cs_eq1 hRes, cs_eq2 hRes⟩
theorem kk_X6_pack : yX6_pack.cls = RX6 ∧ yX6_pack.cls ≠ "java/lang/invoke/MethodHandle" ∧ yX6_pack.cls ≠ "java/lang/invoke/VarHandle" ∧ (parseMethodDescriptor yX6_pack.desc).map (fun d => d.parameters.length) = some 1 := by decide +kernel
theorem g_X6_128 : GoodIn cs_WS (wsV RX6 128 RX0 yX0_unsafeWrites (cs_ws yX0_unsafeWrites cX0_unsafeWrites 1 (some .int))) := cs_goodV q_385 q_386 q_387 q_227 q_17
theorem g_X6_169 : GoodIn cs_WS (wsV RX6 169 RX0 yX0_loseUnsafe (cs_ws yX0_loseUnsafe cX0_loseUnsafe 1 none)) := cs_goodV q_388 q_389 q_390 q_227 q_28
theorem g_X6_172 : GoodIn cs_WS (wsV RX6 172 RX5 yX5_loseAll (cs_ws yX5_loseAll cX5_loseAll 1 none)) := cs_goodV q_391 q_392 q_393 q_95 q_210
def m_X6_crash (S : cs_St) : Int32 × cs_St := cs_let (m_X0_unsafeWrites S) (fun r_1 => cs_let (m_X0_loseUnsafe S) (fun S_2 => cs_let (m_X5_loseAll S_2) (fun S_3 => cs_let (m_X6_fillHand S_3) (fun S_4 => (r_1, S_4)))))
set_option maxHeartbeats 4000000 in
set_option maxRecDepth 100000 in
theorem c_X6_crash (l : Launch) (D : va_G) (cy : ClassId) (ad : Nat → Nat) (S : cs_St) : Met l yX6_crash (cs_ws yX6_crash cX6_crash 2 (some .int)) (cs_rm 4 102) (cs_Pc D cy ad [.ref (ad 0)] S) (cs_Qi D cy ad (fun r S1 => r = (m_X6_crash S).1 ∧ S1 = (m_X6_crash S).2)) 0 0 (cs_A ad) := by
  refine cs_of RX6 (by decide) rfl (Nat.le_of_ble_eq_true rfl) ?_
  intro p e s m below meth c hF hr hlk hw hK ls hl
  obtain ⟨hx, hb, hml, hown, hts⟩ := id hF
  have hS : va_S (cs_A ad) s.heap s.heap [] := va_S.rf
  have hl : lv_has ls 2 [(0, .ref (ad 0))] := hl
  generalize hRes : m_X6_crash S = Res
  unfold m_X6_crash at hRes
  refine lv_aload_n hx hb dX6_crash_0 rfl (lv_at hl 0 rfl) ?_
  refine cs_get (C := RX6) (T := TX6) (N := 15) hF in_X6 hw hK 0 rfl rfl 10 (by decide) q_228 rfl dX6_crash_1 ?_
  refine cs_vir hF (c_X0_unsafeWrites l D cy ad S) (cwV 0 hts g_X6_128 rfl rfl rfl kk_X0_unsafeWrites ⟨Nat.le_of_ble_eq_true rfl, Nat.le_of_ble_eq_true rfl⟩) (cs_recv hK hw (ci := 0) 1 rfl rfl) hw hK hS rfl hl.1 [] rfl (Nat.le_of_ble_eq_true rfl) dX6_crash_4 (fun r_1 H locs hq hw hS => ?_)
  replace hRes := cs_letE hq hRes
  clear hq
  refine lv_istore_n (lv' := [(1, .int r_1), (0, .ref (ad 0))]) hx hb dX6_crash_7 rfl hl (by decide) rfl (fun ls hl => ?_)
  refine lv_aload_n hx hb dX6_crash_8 rfl (lv_at hl 1 rfl) ?_
  refine cs_get (C := RX6) (T := TX6) (N := 15) hF in_X6 hw hK 0 rfl rfl 10 (by decide) q_228 rfl dX6_crash_9 ?_
  refine cs_vv hF (c_X0_loseUnsafe l D cy ad S) (cwV 0 hts g_X6_169 rfl rfl rfl kk_X0_loseUnsafe ⟨Nat.le_of_ble_eq_true rfl, Nat.le_of_ble_eq_true rfl⟩) (cs_recv hK hw (ci := 0) 1 rfl rfl) hw hK hS rfl hl.1 [] rfl (Nat.le_of_ble_eq_true rfl) dX6_crash_12 (fun S_2 H locs hq hw hS => ?_)
  replace hRes := cs_letE hq hRes
  clear hq
  refine lv_aload_n hx hb dX6_crash_15 rfl (lv_at hl 1 rfl) ?_
  refine cs_get (C := RX6) (T := TX6) (N := 15) hF in_X6 hw hK 0 rfl rfl 12 (by decide) q_234 rfl dX6_crash_16 ?_
  refine cs_vv hF (c_X5_loseAll l D cy ad S_2) (cwV 0 hts g_X6_172 rfl rfl rfl kk_X5_loseAll ⟨Nat.le_of_ble_eq_true rfl, Nat.le_of_ble_eq_true rfl⟩) (cs_recv hK hw (ci := 5) 3 rfl rfl) hw hK hS rfl hl.1 [] rfl (Nat.le_of_ble_eq_true rfl) dX6_crash_19 (fun S_3 H locs hq hw hS => ?_)
  replace hRes := cs_letE hq hRes
  clear hq
  refine lv_aload_n hx hb dX6_crash_22 rfl (lv_at hl 1 rfl) ?_
  refine cs_vv hF (c_X6_fillHand l D cy ad S_3) (cwV 0 hts g_X6_175 rfl rfl rfl kk_X6_fillHand ⟨Nat.le_of_ble_eq_true rfl, Nat.le_of_ble_eq_true rfl⟩) (cs_recv hK hw (ci := 6) 0 rfl rfl) hw hK hS rfl hl.1 [] rfl (Nat.le_of_ble_eq_true rfl) dX6_crash_23 (fun S_4 H locs hq hw hS => ?_)
  replace hRes := cs_letE hq hRes
  clear hq
  refine lv_iload_n hx hb dX6_crash_26 rfl (lv_at hl 0 rfl) ?_
  exact cs_iret hF hr hlk hw hK hS dX6_crash_27 ⟨cs_eq1 hRes, cs_eq2 hRes⟩
theorem kk_X6_crash : yX6_crash.cls = RX6 ∧ yX6_crash.cls ≠ "java/lang/invoke/MethodHandle" ∧ yX6_crash.cls ≠ "java/lang/invoke/VarHandle" ∧ (parseMethodDescriptor yX6_crash.desc).map (fun d => d.parameters.length) = some 0 := by decide +kernel
theorem g_X6_178 : GoodIn cs_WS (wsV RX6 178 RX5 yX5_there (cs_ws yX5_there cX5_there 1 (some .int))) := cs_goodV q_395 q_396 q_397 q_95 q_202
theorem g_X6_186 : GoodIn cs_WS (wsV RX6 186 RX5 yX5_take (cs_ws yX5_take cX5_take 3 (some .int))) := cs_goodV q_399 q_400 q_401 q_95 q_204
def m_X6_snap (S : cs_St) : Int32 × cs_St := cs_let (m_X5_there S) (fun r_1 => cs_let (m_X1_newest S) (fun r_3 => cs_let (m_X5_take S r_3).1 (fun r_5 => cs_let (m_X5_take S r_3).2 (fun S_4 => (r_5, S_4)))))
set_option maxHeartbeats 4000000 in
set_option maxRecDepth 100000 in
theorem c_X6_snap (l : Launch) (D : va_G) (cy : ClassId) (ad : Nat → Nat) (S : cs_St) (g0 : m_X5_there S < 4) : Met l yX6_snap (cs_ws yX6_snap cX6_snap 1 (some .int)) (cs_rm 2 43) (cs_Pc D cy ad [.ref (ad 0)] S) (cs_Qi D cy ad (fun r S1 => r = (m_X6_snap S).1 ∧ S1 = (m_X6_snap S).2)) 0 0 (cs_A ad) := by
  refine cs_of RX6 (by decide) rfl (Nat.le_of_ble_eq_true rfl) ?_
  intro p e s m below meth c hF hr hlk hw hK ls hl
  obtain ⟨hx, hb, hml, hown, hts⟩ := id hF
  have hS : va_S (cs_A ad) s.heap s.heap [] := va_S.rf
  have hl : lv_has ls 1 [(0, .ref (ad 0))] := hl
  generalize hRes : m_X6_snap S = Res
  unfold m_X6_snap at hRes
  refine lv_aload_n hx hb dX6_snap_0 rfl (lv_at hl 0 rfl) ?_
  refine cs_get (C := RX6) (T := TX6) (N := 15) hF in_X6 hw hK 0 rfl rfl 12 (by decide) q_234 rfl dX6_snap_1 ?_
  refine cs_vir hF (c_X5_there l D cy ad S) (cwV 0 hts g_X6_178 rfl rfl rfl kk_X5_there ⟨Nat.le_of_ble_eq_true rfl, Nat.le_of_ble_eq_true rfl⟩) (cs_recv hK hw (ci := 5) 3 rfl rfl) hw hK hS rfl hl.1 [] rfl (Nat.le_of_ble_eq_true rfl) dX6_snap_4 (fun r_1 H locs hq hw hS => ?_)
  replace hRes := cs_letE hq hRes
  have g1 : r_1 < 4 := by rw [hq]; exact g0
  clear hq
  refine lv_iconst (v := 4) hx hb dX6_snap_7 (by decide) ?_
  refine lv_icmp_lt (tgt := 21) hx hb dX6_snap_8 (by decide) (fun c_2 => ?_) (fun c_2 => absurd (g1) c_2)
  refine lv_aload_n hx hb dX6_snap_21 rfl (lv_at hl 0 rfl) ?_
  refine cs_get (C := RX6) (T := TX6) (N := 15) hF in_X6 hw hK 0 rfl rfl 12 (by decide) q_234 rfl dX6_snap_22 ?_
  refine lv_aload_n hx hb dX6_snap_25 rfl (lv_at hl 0 rfl) ?_
  refine cs_get (C := RX6) (T := TX6) (N := 15) hF in_X6 hw hK 0 rfl rfl 11 (by decide) q_233 rfl dX6_snap_26 ?_
  refine cs_vir hF (c_X1_newest l D cy ad S) (cwV 0 hts g_X6_183 rfl rfl rfl kk_X1_newest ⟨Nat.le_of_ble_eq_true rfl, Nat.le_of_ble_eq_true rfl⟩) (cs_recv hK hw (ci := 1) 2 rfl rfl) hw hK hS rfl hl.1 [.ref (ad 3)] rfl (Nat.le_of_ble_eq_true rfl) dX6_snap_29 (fun r_3 H locs hq hw hS => ?_)
  replace hRes := cs_letE hq hRes
  clear hq
  refine cs_vi hF (c_X5_take l D cy ad S r_3) (cwV 1 hts g_X6_186 rfl rfl rfl kk_X5_take ⟨Nat.le_of_ble_eq_true rfl, Nat.le_of_ble_eq_true rfl⟩) (cs_recv hK hw (ci := 5) 3 rfl rfl) hw hK hS rfl hl.1 [] rfl (Nat.le_of_ble_eq_true rfl) dX6_snap_32 (fun r_5 S_4 H locs hq hq2 hw hS => ?_)
  replace hRes := cs_letE hq hRes
  replace hRes := cs_letE hq2 hRes
  clear hq hq2
  exact cs_iret hF hr hlk hw hK hS dX6_snap_35 ⟨cs_eq1 hRes, cs_eq2 hRes⟩
theorem kk_X6_snap : yX6_snap.cls = RX6 ∧ yX6_snap.cls ≠ "java/lang/invoke/MethodHandle" ∧ yX6_snap.cls ≠ "java/lang/invoke/VarHandle" ∧ (parseMethodDescriptor yX6_snap.desc).map (fun d => d.parameters.length) = some 0 := by decide +kernel
theorem g_X6_189 : GoodIn cs_WS (wsV RX6 189 RX6 yX6_placeOfSnapshot (cs_ws yX6_placeOfSnapshot cX6_placeOfSnapshot 3 (some .int))) := cs_goodV q_407 q_408 q_409 q_299 q_402
theorem g_X6_192 : GoodIn cs_WS (wsV RX6 192 RX5 yX5_letGo (cs_ws yX5_letGo cX5_letGo 2 none)) := cs_goodV q_410 q_411 q_412 q_95 q_208
def m_X6_release (S : cs_St) (a1 : Int32) : Int32 × cs_St := cs_let (m_X6_placeOfSnapshot S a1) (fun r_1 => cs_let (m_X5_letGo S r_1) (fun S_2 => cs_let (m_X6_fillHand S_2) (fun S_3 => cs_let (m_X5_there S_3) (fun r_4 => (r_4, S_3)))))
set_option maxHeartbeats 4000000 in
set_option maxRecDepth 100000 in
theorem c_X6_release (l : Launch) (D : va_G) (cy : ClassId) (ad : Nat → Nat) (S : cs_St) (a1 : Int32) (g0 : 0 ≤ m_X5_placeOf S a1) : Met l yX6_release (cs_ws yX6_release cX6_release 2 (some .int)) (cs_rm 4 103) (cs_Pc D cy ad [.ref (ad 0), .int a1] S) (cs_Qi D cy ad (fun r S1 => r = (m_X6_release S a1).1 ∧ S1 = (m_X6_release S a1).2)) 0 0 (cs_A ad) := by
  refine cs_of RX6 (by decide) rfl (Nat.le_of_ble_eq_true rfl) ?_
  intro p e s m below meth c hF hr hlk hw hK ls hl
  obtain ⟨hx, hb, hml, hown, hts⟩ := id hF
  have hS : va_S (cs_A ad) s.heap s.heap [] := va_S.rf
  have hl : lv_has ls 2 [(0, .ref (ad 0)), (1, .int a1)] := hl
  generalize hRes : m_X6_release S a1 = Res
  unfold m_X6_release at hRes
  refine lv_aload_n hx hb dX6_release_0 rfl (lv_at hl 0 rfl) ?_
  refine cs_get (C := RX6) (T := TX6) (N := 15) hF in_X6 hw hK 0 rfl rfl 12 (by decide) q_234 rfl dX6_release_1 ?_
  refine lv_aload_n hx hb dX6_release_4 rfl (lv_at hl 0 rfl) ?_
  refine lv_iload_n hx hb dX6_release_5 rfl (lv_at hl 1 rfl) ?_
  refine cs_vir hF (c_X6_placeOfSnapshot l D cy ad S a1 (g0)) (cwV 1 hts g_X6_189 rfl rfl rfl kk_X6_placeOfSnapshot ⟨Nat.le_of_ble_eq_true rfl, Nat.le_of_ble_eq_true rfl⟩) (cs_recv hK hw (ci := 6) 0 rfl rfl) hw hK hS rfl hl.1 [.ref (ad 3)] rfl (Nat.le_of_ble_eq_true rfl) dX6_release_6 (fun r_1 H locs hq hw hS => ?_)
  replace hRes := cs_letE hq hRes
  clear hq
  refine cs_vv hF (c_X5_letGo l D cy ad S r_1) (cwV 1 hts g_X6_192 rfl rfl rfl kk_X5_letGo ⟨Nat.le_of_ble_eq_true rfl, Nat.le_of_ble_eq_true rfl⟩) (cs_recv hK hw (ci := 5) 3 rfl rfl) hw hK hS rfl hl.1 [] rfl (Nat.le_of_ble_eq_true rfl) dX6_release_9 (fun S_2 H locs hq hw hS => ?_)
  replace hRes := cs_letE hq hRes
  clear hq
  refine lv_aload_n hx hb dX6_release_12 rfl (lv_at hl 0 rfl) ?_
  refine cs_vv hF (c_X6_fillHand l D cy ad S_2) (cwV 0 hts g_X6_175 rfl rfl rfl kk_X6_fillHand ⟨Nat.le_of_ble_eq_true rfl, Nat.le_of_ble_eq_true rfl⟩) (cs_recv hK hw (ci := 6) 0 rfl rfl) hw hK hS rfl hl.1 [] rfl (Nat.le_of_ble_eq_true rfl) dX6_release_13 (fun S_3 H locs hq hw hS => ?_)
  replace hRes := cs_letE hq hRes
  clear hq
  refine lv_aload_n hx hb dX6_release_16 rfl (lv_at hl 0 rfl) ?_
  refine cs_get (C := RX6) (T := TX6) (N := 15) hF in_X6 hw hK 0 rfl rfl 12 (by decide) q_234 rfl dX6_release_17 ?_
  refine cs_vir hF (c_X5_there l D cy ad S_3) (cwV 0 hts g_X6_178 rfl rfl rfl kk_X5_there ⟨Nat.le_of_ble_eq_true rfl, Nat.le_of_ble_eq_true rfl⟩) (cs_recv hK hw (ci := 5) 3 rfl rfl) hw hK hS rfl hl.1 [] rfl (Nat.le_of_ble_eq_true rfl) dX6_release_20 (fun r_4 H locs hq hw hS => ?_)
  replace hRes := cs_letE hq hRes
  clear hq
  exact cs_iret hF hr hlk hw hK hS dX6_release_23 ⟨cs_eq1 hRes, cs_eq2 hRes⟩
theorem kk_X6_release : yX6_release.cls = RX6 ∧ yX6_release.cls ≠ "java/lang/invoke/MethodHandle" ∧ yX6_release.cls ≠ "java/lang/invoke/VarHandle" ∧ (parseMethodDescriptor yX6_release.desc).map (fun d => d.parameters.length) = some 1 := by decide +kernel
theorem g_X6_195 : GoodIn cs_WS (wsV RX6 195 RX6 yX6_lookUp (cs_ws yX6_lookUp cX6_lookUp 5 (some .int))) := cs_goodV q_437 q_438 q_439 q_299 q_427
theorem g_X6_199 : GoodIn cs_WS (wsV RX6 199 RX6 yX6_valueOf (cs_ws yX6_valueOf cX6_valueOf 2 (some .int))) := cs_goodV q_440 q_441 q_442 q_299 q_432
def m_X6_get (S : cs_St) (a1 : Int32) : Int32 × cs_St := cs_let (m_X1_newest S) (fun r_1 => cs_let (m_X6_lookUp S a1 r_1 0).1 (fun r_3 => cs_let (m_X6_lookUp S a1 r_1 0).2 (fun S_2 => cs_let (m_X6_valueOf S_2 r_3) (fun r_4 => (r_4, S_2)))))
set_option maxHeartbeats 4000000 in
set_option maxRecDepth 100000 in
theorem c_X6_get (l : Launch) (D : va_G) (cy : ClassId) (ad : Nat → Nat) (S : cs_St) (a1 : Int32) (g0 : ¬ a1 < 0) (g1 : a1 ≤ 9999) : Met l yX6_get (cs_ws yX6_get cX6_get 2 (some .int)) (cs_rm 6 144) (cs_Pc D cy ad [.ref (ad 0), .int a1] S) (cs_Qi D cy ad (fun r S1 => r = (m_X6_get S a1).1 ∧ S1 = (m_X6_get S a1).2)) 0 0 (cs_A ad) := by
  refine cs_of RX6 (by decide) rfl (Nat.le_of_ble_eq_true rfl) ?_
  intro p e s m below meth c hF hr hlk hw hK ls hl
  obtain ⟨hx, hb, hml, hown, hts⟩ := id hF
  have hS : va_S (cs_A ad) s.heap s.heap [] := va_S.rf
  have hl : lv_has ls 2 [(0, .ref (ad 0)), (1, .int a1)] := hl
  generalize hRes : m_X6_get S a1 = Res
  unfold m_X6_get at hRes
  refine lv_iload_n hx hb dX6_get_0 rfl (lv_at hl 1 rfl) ?_
  refine cs_svr hF (c_X6_checkKey l D cy ad S a1 (g0) (g1)) (va_cwS 1 hts g_X6_117 rfl rfl rfl kk_X6_checkKey ⟨Nat.le_of_ble_eq_true rfl, Nat.le_of_ble_eq_true rfl⟩) hw hK hS rfl hl.1 [] rfl (Nat.le_of_ble_eq_true rfl) dX6_get_1 (fun H locs hw hS => ?_)
  refine lv_aload_n hx hb dX6_get_4 rfl (lv_at hl 0 rfl) ?_
  refine lv_aload_n hx hb dX6_get_5 rfl (lv_at hl 0 rfl) ?_
  refine lv_iload_n hx hb dX6_get_6 rfl (lv_at hl 1 rfl) ?_
  refine lv_aload_n hx hb dX6_get_7 rfl (lv_at hl 0 rfl) ?_
  refine cs_get (C := RX6) (T := TX6) (N := 15) hF in_X6 hw hK 0 rfl rfl 11 (by decide) q_233 rfl dX6_get_8 ?_
  refine cs_vir hF (c_X1_newest l D cy ad S) (cwV 0 hts g_X6_183 rfl rfl rfl kk_X1_newest ⟨Nat.le_of_ble_eq_true rfl, Nat.le_of_ble_eq_true rfl⟩) (cs_recv hK hw (ci := 1) 2 rfl rfl) hw hK hS rfl hl.1 [.int a1, .ref (ad 0), .ref (ad 0)] rfl (Nat.le_of_ble_eq_true rfl) dX6_get_11 (fun r_1 H locs hq hw hS => ?_)
  replace hRes := cs_letE hq hRes
  clear hq
  refine lv_aload_n hx hb dX6_get_14 rfl (lv_at hl 0 rfl) ?_
  refine cs_get (C := RX6) (T := TX6) (N := 15) hF in_X6 hw hK 0 rfl rfl 7 (by decide) q_222 rfl dX6_get_15 ?_
  refine cs_vi hF (c_X6_lookUp l D cy ad S a1 r_1 0 (by decide) (by decide)) (cwV 3 hts g_X6_195 rfl rfl rfl kk_X6_lookUp ⟨Nat.le_of_ble_eq_true rfl, Nat.le_of_ble_eq_true rfl⟩) (cs_recv hK hw (ci := 6) 0 rfl rfl) hw hK hS rfl hl.1 [.ref (ad 0)] rfl (Nat.le_of_ble_eq_true rfl) dX6_get_18 (fun r_3 S_2 H locs hq hq2 hw hS => ?_)
  replace hRes := cs_letE hq hRes
  replace hRes := cs_letE hq2 hRes
  clear hq hq2
  refine cs_vir hF (c_X6_valueOf l D cy ad S_2 r_3) (cwV 1 hts g_X6_199 rfl rfl rfl kk_X6_valueOf ⟨Nat.le_of_ble_eq_true rfl, Nat.le_of_ble_eq_true rfl⟩) (cs_recv hK hw (ci := 6) 0 rfl rfl) hw hK hS rfl hl.1 [] rfl (Nat.le_of_ble_eq_true rfl) dX6_get_21 (fun r_4 H locs hq hw hS => ?_)
  replace hRes := cs_letE hq hRes
  clear hq
  exact cs_iret hF hr hlk hw hK hS dX6_get_24 ⟨cs_eq1 hRes, cs_eq2 hRes⟩
theorem kk_X6_get : yX6_get.cls = RX6 ∧ yX6_get.cls ≠ "java/lang/invoke/MethodHandle" ∧ yX6_get.cls ≠ "java/lang/invoke/VarHandle" ∧ (parseMethodDescriptor yX6_get.desc).map (fun d => d.parameters.length) = some 1 := by decide +kernel
theorem g_X6_202 : GoodIn cs_WS (wsV RX6 202 RX5 yX5_age (cs_ws yX5_age cX5_age 2 (some .int))) := cs_goodV q_444 q_445 q_446 q_95 q_203
def m_X6_getAt (S : cs_St) (a1 : Int32) (a2 : Int32) : Int32 × cs_St := cs_let (m_X6_placeOfSnapshot S a1) (fun r_1 => cs_let (m_X5_age S r_1) (fun r_2 => cs_let (m_X6_lookUp S a2 r_2 0).1 (fun r_4 => cs_let (m_X6_lookUp S a2 r_2 0).2 (fun S_3 => cs_let (m_X6_valueOf S_3 r_4) (fun r_5 => (r_5, S_3))))))
set_option maxHeartbeats 4000000 in
set_option maxRecDepth 100000 in
theorem c_X6_getAt (l : Launch) (D : va_G) (cy : ClassId) (ad : Nat → Nat) (S : cs_St) (a1 : Int32) (a2 : Int32) (g0 : 0 ≤ m_X5_placeOf S a1) (g1 : ¬ a2 < 0) (g2 : a2 ≤ 9999) : Met l yX6_getAt (cs_ws yX6_getAt cX6_getAt 4 (some .int)) (cs_rm 6 144) (cs_Pc D cy ad [.ref (ad 0), .int a1, .int a2] S) (cs_Qi D cy ad (fun r S1 => r = (m_X6_getAt S a1 a2).1 ∧ S1 = (m_X6_getAt S a1 a2).2)) 0 0 (cs_A ad) := by
  refine cs_of RX6 (by decide) rfl (Nat.le_of_ble_eq_true rfl) ?_
  intro p e s m below meth c hF hr hlk hw hK ls hl
  obtain ⟨hx, hb, hml, hown, hts⟩ := id hF
  have hS : va_S (cs_A ad) s.heap s.heap [] := va_S.rf
  have hl : lv_has ls 4 [(0, .ref (ad 0)), (1, .int a1), (2, .int a2)] := hl
  generalize hRes : m_X6_getAt S a1 a2 = Res
  unfold m_X6_getAt at hRes
  refine lv_aload_n hx hb dX6_getAt_0 rfl (lv_at hl 0 rfl) ?_
  refine lv_iload_n hx hb dX6_getAt_1 rfl (lv_at hl 1 rfl) ?_
  refine cs_vir hF (c_X6_placeOfSnapshot l D cy ad S a1 (g0)) (cwV 1 hts g_X6_189 rfl rfl rfl kk_X6_placeOfSnapshot ⟨Nat.le_of_ble_eq_true rfl, Nat.le_of_ble_eq_true rfl⟩) (cs_recv hK hw (ci := 6) 0 rfl rfl) hw hK hS rfl hl.1 [] rfl (Nat.le_of_ble_eq_true rfl) dX6_getAt_2 (fun r_1 H locs hq hw hS => ?_)
  replace hRes := cs_letE hq hRes
  clear hq
  refine lv_istore_n (lv' := [(3, .int r_1), (0, .ref (ad 0)), (1, .int a1), (2, .int a2)]) hx hb dX6_getAt_5 rfl hl (by decide) rfl (fun ls hl => ?_)
  refine lv_iload_n hx hb dX6_getAt_6 rfl (lv_at hl 3 rfl) ?_
  refine cs_svr hF (c_X6_checkKey l D cy ad S a2 (g1) (g2)) (va_cwS 1 hts g_X6_117 rfl rfl rfl kk_X6_checkKey ⟨Nat.le_of_ble_eq_true rfl, Nat.le_of_ble_eq_true rfl⟩) hw hK hS rfl hl.1 [] rfl (Nat.le_of_ble_eq_true rfl) dX6_getAt_7 (fun H locs hw hS => ?_)
  refine lv_aload_n hx hb dX6_getAt_10 rfl (lv_at hl 1 rfl) ?_
  refine lv_aload_n hx hb dX6_getAt_11 rfl (lv_at hl 1 rfl) ?_
  refine lv_iload_n hx hb dX6_getAt_12 rfl (lv_at hl 3 rfl) ?_
  refine lv_aload_n hx hb dX6_getAt_13 rfl (lv_at hl 1 rfl) ?_
  refine cs_get (C := RX6) (T := TX6) (N := 15) hF in_X6 hw hK 0 rfl rfl 12 (by decide) q_234 rfl dX6_getAt_14 ?_
  refine lv_iload_n hx hb dX6_getAt_17 rfl (lv_at hl 0 rfl) ?_
  refine cs_vir hF (c_X5_age l D cy ad S r_1) (cwV 1 hts g_X6_202 rfl rfl rfl kk_X5_age ⟨Nat.le_of_ble_eq_true rfl, Nat.le_of_ble_eq_true rfl⟩) (cs_recv hK hw (ci := 5) 3 rfl rfl) hw hK hS rfl hl.1 [.int a2, .ref (ad 0), .ref (ad 0)] rfl (Nat.le_of_ble_eq_true rfl) dX6_getAt_18 (fun r_2 H locs hq hw hS => ?_)
  replace hRes := cs_letE hq hRes
  clear hq
  refine lv_aload_n hx hb dX6_getAt_21 rfl (lv_at hl 1 rfl) ?_
  refine cs_get (C := RX6) (T := TX6) (N := 15) hF in_X6 hw hK 0 rfl rfl 7 (by decide) q_222 rfl dX6_getAt_22 ?_
  refine cs_vi hF (c_X6_lookUp l D cy ad S a2 r_2 0 (by decide) (by decide)) (cwV 3 hts g_X6_195 rfl rfl rfl kk_X6_lookUp ⟨Nat.le_of_ble_eq_true rfl, Nat.le_of_ble_eq_true rfl⟩) (cs_recv hK hw (ci := 6) 0 rfl rfl) hw hK hS rfl hl.1 [.ref (ad 0)] rfl (Nat.le_of_ble_eq_true rfl) dX6_getAt_25 (fun r_4 S_3 H locs hq hq2 hw hS => ?_)
  replace hRes := cs_letE hq hRes
  replace hRes := cs_letE hq2 hRes
  clear hq hq2
  refine cs_vir hF (c_X6_valueOf l D cy ad S_3 r_4) (cwV 1 hts g_X6_199 rfl rfl rfl kk_X6_valueOf ⟨Nat.le_of_ble_eq_true rfl, Nat.le_of_ble_eq_true rfl⟩) (cs_recv hK hw (ci := 6) 0 rfl rfl) hw hK hS rfl hl.1 [] rfl (Nat.le_of_ble_eq_true rfl) dX6_getAt_28 (fun r_5 H locs hq hw hS => ?_)
  replace hRes := cs_letE hq hRes
  clear hq
  exact cs_iret hF hr hlk hw hK hS dX6_getAt_31 ⟨cs_eq1 hRes, cs_eq2 hRes⟩
theorem kk_X6_getAt : yX6_getAt.cls = RX6 ∧ yX6_getAt.cls ≠ "java/lang/invoke/MethodHandle" ∧ yX6_getAt.cls ≠ "java/lang/invoke/VarHandle" ∧ (parseMethodDescriptor yX6_getAt.desc).map (fun d => d.parameters.length) = some 2 := by decide +kernel
def m_X6_hand (S : cs_St) : Int32 := cs_let (m_X3_length S 3) (fun r_1 => r_1)
set_option maxHeartbeats 4000000 in
set_option maxRecDepth 100000 in
theorem c_X6_hand (l : Launch) (D : va_G) (cy : ClassId) (ad : Nat → Nat) (S : cs_St) : Met l yX6_hand (cs_ws yX6_hand cX6_hand 1 (some .int)) (cs_rm 1 20) (cs_Pc D cy ad [.ref (ad 0)] S) (cs_Qi D cy ad (fun r S1 => r = m_X6_hand S ∧ S1 = S)) 0 0 (cs_A ad) := by
  refine cs_of RX6 (by decide) rfl (Nat.le_of_ble_eq_true rfl) ?_
  intro p e s m below meth c hF hr hlk hw hK ls hl
  obtain ⟨hx, hb, hml, hown, hts⟩ := id hF
  have hS : va_S (cs_A ad) s.heap s.heap [] := va_S.rf
  have hl : lv_has ls 1 [(0, .ref (ad 0))] := hl
  generalize hRes : m_X6_hand S = Res
  unfold m_X6_hand at hRes
  refine lv_aload_n hx hb dX6_hand_0 rfl (lv_at hl 0 rfl) ?_
  refine cs_get (C := RX6) (T := TX6) (N := 15) hF in_X6 hw hK 0 rfl rfl 10 (by decide) q_228 rfl dX6_hand_1 ?_
  refine cs_getN (C := RX0) (T := TX0) (N := 3) hF in_X0 hw hK 1 rfl rfl 0 (by decide) (List.mem_of_getElem? (i := 0) rfl) rfl dX6_hand_4 ?_
  refine cs_vir hF (c_X3_length l D cy ad S 3 (by decide)) (cwV 0 hts g_X6_137 rfl rfl rfl kk_X3_length ⟨Nat.le_of_ble_eq_true rfl, Nat.le_of_ble_eq_true rfl⟩) (cs_recvR hK hw (by decide)) hw hK hS rfl hl.1 [] rfl (Nat.le_of_ble_eq_true rfl) dX6_hand_7 (fun r_1 H locs hq hw hS => ?_)
  replace hRes := cs_letE hq hRes
  clear hq
  exact cs_iret hF hr hlk hw hK hS dX6_hand_10 ⟨hRes, rfl⟩
theorem kk_X6_hand : yX6_hand.cls = RX6 ∧ yX6_hand.cls ≠ "java/lang/invoke/MethodHandle" ∧ yX6_hand.cls ≠ "java/lang/invoke/VarHandle" ∧ (parseMethodDescriptor yX6_hand.desc).map (fun d => d.parameters.length) = some 0 := by decide +kernel
def m_X6_log (S : cs_St) : Int32 := cs_let (m_X3_length S 4) (fun r_1 => r_1)
set_option maxHeartbeats 4000000 in
set_option maxRecDepth 100000 in
theorem c_X6_log (l : Launch) (D : va_G) (cy : ClassId) (ad : Nat → Nat) (S : cs_St) : Met l yX6_log (cs_ws yX6_log cX6_log 1 (some .int)) (cs_rm 1 20) (cs_Pc D cy ad [.ref (ad 0)] S) (cs_Qi D cy ad (fun r S1 => r = m_X6_log S ∧ S1 = S)) 0 0 (cs_A ad) := by
  refine cs_of RX6 (by decide) rfl (Nat.le_of_ble_eq_true rfl) ?_
  intro p e s m below meth c hF hr hlk hw hK ls hl
  obtain ⟨hx, hb, hml, hown, hts⟩ := id hF
  have hS : va_S (cs_A ad) s.heap s.heap [] := va_S.rf
  have hl : lv_has ls 1 [(0, .ref (ad 0))] := hl
  generalize hRes : m_X6_log S = Res
  unfold m_X6_log at hRes
  refine lv_aload_n hx hb dX6_log_0 rfl (lv_at hl 0 rfl) ?_
  refine cs_get (C := RX6) (T := TX6) (N := 15) hF in_X6 hw hK 0 rfl rfl 10 (by decide) q_228 rfl dX6_log_1 ?_
  refine cs_getN (C := RX0) (T := TX0) (N := 3) hF in_X0 hw hK 1 rfl rfl 1 (by decide) (List.mem_of_getElem? (i := 1) rfl) rfl dX6_log_4 ?_
  refine cs_vir hF (c_X3_length l D cy ad S 4 (by decide)) (cwV 0 hts g_X6_137 rfl rfl rfl kk_X3_length ⟨Nat.le_of_ble_eq_true rfl, Nat.le_of_ble_eq_true rfl⟩) (cs_recvR hK hw (by decide)) hw hK hS rfl hl.1 [] rfl (Nat.le_of_ble_eq_true rfl) dX6_log_7 (fun r_1 H locs hq hw hS => ?_)
  replace hRes := cs_letE hq hRes
  clear hq
  exact cs_iret hF hr hlk hw hK hS dX6_log_10 ⟨hRes, rfl⟩
theorem kk_X6_log : yX6_log.cls = RX6 ∧ yX6_log.cls ≠ "java/lang/invoke/MethodHandle" ∧ yX6_log.cls ≠ "java/lang/invoke/VarHandle" ∧ (parseMethodDescriptor yX6_log.desc).map (fun d => d.parameters.length) = some 0 := by decide +kernel
def m_X6_unsafe (S : cs_St) : Int32 := cs_let (m_X0_unsafeWrites S) (fun r_1 => r_1)
set_option maxHeartbeats 4000000 in
set_option maxRecDepth 100000 in
theorem c_X6_unsafe (l : Launch) (D : va_G) (cy : ClassId) (ad : Nat → Nat) (S : cs_St) : Met l yX6_unsafe (cs_ws yX6_unsafe cX6_unsafe 1 (some .int)) (cs_rm 2 40) (cs_Pc D cy ad [.ref (ad 0)] S) (cs_Qi D cy ad (fun r S1 => r = m_X6_unsafe S ∧ S1 = S)) 0 0 (cs_A ad) := by
  refine cs_of RX6 (by decide) rfl (Nat.le_of_ble_eq_true rfl) ?_
  intro p e s m below meth c hF hr hlk hw hK ls hl
  obtain ⟨hx, hb, hml, hown, hts⟩ := id hF
  have hS : va_S (cs_A ad) s.heap s.heap [] := va_S.rf
  have hl : lv_has ls 1 [(0, .ref (ad 0))] := hl
  generalize hRes : m_X6_unsafe S = Res
  unfold m_X6_unsafe at hRes
  refine lv_aload_n hx hb dX6_unsafe_0 rfl (lv_at hl 0 rfl) ?_
  refine cs_get (C := RX6) (T := TX6) (N := 15) hF in_X6 hw hK 0 rfl rfl 10 (by decide) q_228 rfl dX6_unsafe_1 ?_
  refine cs_vir hF (c_X0_unsafeWrites l D cy ad S) (cwV 0 hts g_X6_128 rfl rfl rfl kk_X0_unsafeWrites ⟨Nat.le_of_ble_eq_true rfl, Nat.le_of_ble_eq_true rfl⟩) (cs_recv hK hw (ci := 0) 1 rfl rfl) hw hK hS rfl hl.1 [] rfl (Nat.le_of_ble_eq_true rfl) dX6_unsafe_4 (fun r_1 H locs hq hw hS => ?_)
  replace hRes := cs_letE hq hRes
  clear hq
  exact cs_iret hF hr hlk hw hK hS dX6_unsafe_7 ⟨hRes, rfl⟩
theorem kk_X6_unsafe : yX6_unsafe.cls = RX6 ∧ yX6_unsafe.cls ≠ "java/lang/invoke/MethodHandle" ∧ yX6_unsafe.cls ≠ "java/lang/invoke/VarHandle" ∧ (parseMethodDescriptor yX6_unsafe.desc).map (fun d => d.parameters.length) = some 0 := by decide +kernel
def m_X6_snapshots (S : cs_St) : Int32 := cs_let (m_X5_there S) (fun r_1 => r_1)
set_option maxHeartbeats 4000000 in
set_option maxRecDepth 100000 in
theorem c_X6_snapshots (l : Launch) (D : va_G) (cy : ClassId) (ad : Nat → Nat) (S : cs_St) : Met l yX6_snapshots (cs_ws yX6_snapshots cX6_snapshots 1 (some .int)) (cs_rm 2 40) (cs_Pc D cy ad [.ref (ad 0)] S) (cs_Qi D cy ad (fun r S1 => r = m_X6_snapshots S ∧ S1 = S)) 0 0 (cs_A ad) := by
  refine cs_of RX6 (by decide) rfl (Nat.le_of_ble_eq_true rfl) ?_
  intro p e s m below meth c hF hr hlk hw hK ls hl
  obtain ⟨hx, hb, hml, hown, hts⟩ := id hF
  have hS : va_S (cs_A ad) s.heap s.heap [] := va_S.rf
  have hl : lv_has ls 1 [(0, .ref (ad 0))] := hl
  generalize hRes : m_X6_snapshots S = Res
  unfold m_X6_snapshots at hRes
  refine lv_aload_n hx hb dX6_snapshots_0 rfl (lv_at hl 0 rfl) ?_
  refine cs_get (C := RX6) (T := TX6) (N := 15) hF in_X6 hw hK 0 rfl rfl 12 (by decide) q_234 rfl dX6_snapshots_1 ?_
  refine cs_vir hF (c_X5_there l D cy ad S) (cwV 0 hts g_X6_178 rfl rfl rfl kk_X5_there ⟨Nat.le_of_ble_eq_true rfl, Nat.le_of_ble_eq_true rfl⟩) (cs_recv hK hw (ci := 5) 3 rfl rfl) hw hK hS rfl hl.1 [] rfl (Nat.le_of_ble_eq_true rfl) dX6_snapshots_4 (fun r_1 H locs hq hw hS => ?_)
  replace hRes := cs_letE hq hRes
  clear hq
  exact cs_iret hF hr hlk hw hK hS dX6_snapshots_7 ⟨hRes, rfl⟩
theorem kk_X6_snapshots : yX6_snapshots.cls = RX6 ∧ yX6_snapshots.cls ≠ "java/lang/invoke/MethodHandle" ∧ yX6_snapshots.cls ≠ "java/lang/invoke/VarHandle" ∧ (parseMethodDescriptor yX6_snapshots.desc).map (fun d => d.parameters.length) = some 0 := by decide +kernel
def m_X6_runs (S : cs_St) (a1 : Int32) : Int32 := cs_let (m_X4_count S a1) (fun r_1 => r_1)
set_option maxHeartbeats 4000000 in
set_option maxRecDepth 100000 in
theorem c_X6_runs (l : Launch) (D : va_G) (cy : ClassId) (ad : Nat → Nat) (S : cs_St) (a1 : Int32) (g0 : ¬ a1 < 0) (g1 : a1 < 4) : Met l yX6_runs (cs_ws yX6_runs cX6_runs 2 (some .int)) (cs_rm 2 42) (cs_Pc D cy ad [.ref (ad 0), .int a1] S) (cs_Qi D cy ad (fun r S1 => r = m_X6_runs S a1 ∧ S1 = S)) 0 0 (cs_A ad) := by
  refine cs_of RX6 (by decide) rfl (Nat.le_of_ble_eq_true rfl) ?_
  intro p e s m below meth c hF hr hlk hw hK ls hl
  obtain ⟨hx, hb, hml, hown, hts⟩ := id hF
  have hS : va_S (cs_A ad) s.heap s.heap [] := va_S.rf
  have hl : lv_has ls 2 [(0, .ref (ad 0)), (1, .int a1)] := hl
  generalize hRes : m_X6_runs S a1 = Res
  unfold m_X6_runs at hRes
  refine lv_iload_n hx hb dX6_runs_0 rfl (lv_at hl 1 rfl) ?_
  refine cs_svr hF (c_X6_checkLevel l D cy ad S a1 (g0) (g1)) (va_cwS 1 hts g_X6_143 rfl rfl rfl kk_X6_checkLevel ⟨Nat.le_of_ble_eq_true rfl, Nat.le_of_ble_eq_true rfl⟩) hw hK hS rfl hl.1 [] rfl (Nat.le_of_ble_eq_true rfl) dX6_runs_1 (fun H locs hw hS => ?_)
  refine lv_aload_n hx hb dX6_runs_4 rfl (lv_at hl 0 rfl) ?_
  refine cs_get (C := RX6) (T := TX6) (N := 15) hF in_X6 hw hK 0 rfl rfl 13 (by decide) q_237 rfl dX6_runs_5 ?_
  refine lv_iload_n hx hb dX6_runs_8 rfl (lv_at hl 1 rfl) ?_
  refine cs_vir hF (c_X4_count l D cy ad S a1) (cwV 1 hts g_X6_156 rfl rfl rfl kk_X4_count ⟨Nat.le_of_ble_eq_true rfl, Nat.le_of_ble_eq_true rfl⟩) (cs_recv hK hw (ci := 4) 4 rfl rfl) hw hK hS rfl hl.1 [] rfl (Nat.le_of_ble_eq_true rfl) dX6_runs_9 (fun r_1 H locs hq hw hS => ?_)
  replace hRes := cs_letE hq hRes
  clear hq
  exact cs_iret hF hr hlk hw hK hS dX6_runs_12 ⟨hRes, rfl⟩
theorem kk_X6_runs : yX6_runs.cls = RX6 ∧ yX6_runs.cls ≠ "java/lang/invoke/MethodHandle" ∧ yX6_runs.cls ≠ "java/lang/invoke/VarHandle" ∧ (parseMethodDescriptor yX6_runs.desc).map (fun d => d.parameters.length) = some 1 := by decide +kernel
theorem g_X6_226 : GoodIn cs_WS (wsV RX6 226 RX6 yX6_numberOf (cs_ws yX6_numberOf cX6_numberOf 3 (some .int))) := cs_goodV q_468 q_469 q_470 q_299 q_466
theorem g_X6_229 : GoodIn cs_WS (wsV RX6 229 RX4 yX4_length (cs_ws yX4_length cX4_length 2 (some .int))) := cs_goodV q_471 q_472 q_473 q_139 q_135
def m_X6_size (S : cs_St) (a1 : Int32) (a2 : Int32) : Int32 := cs_let (m_X6_numberOf S a1 a2) (fun r_1 => cs_let (m_X4_length S r_1) (fun r_2 => r_2))
set_option maxHeartbeats 4000000 in
set_option maxRecDepth 100000 in
theorem c_X6_size (l : Launch) (D : va_G) (cy : ClassId) (ad : Nat → Nat) (S : cs_St) (a1 : Int32) (a2 : Int32) (g0 : ¬ a1 < 0) (g1 : a1 < 4) (g2 : ¬ a2 < 0) (g3 : a2 < m_X4_count S a1) : Met l yX6_size (cs_ws yX6_size cX6_size 3 (some .int)) (cs_rm 3 66) (cs_Pc D cy ad [.ref (ad 0), .int a1, .int a2] S) (cs_Qi D cy ad (fun r S1 => r = m_X6_size S a1 a2 ∧ S1 = S)) 0 0 (cs_A ad) := by
  refine cs_of RX6 (by decide) rfl (Nat.le_of_ble_eq_true rfl) ?_
  intro p e s m below meth c hF hr hlk hw hK ls hl
  obtain ⟨hx, hb, hml, hown, hts⟩ := id hF
  have hS : va_S (cs_A ad) s.heap s.heap [] := va_S.rf
  have hl : lv_has ls 3 [(0, .ref (ad 0)), (1, .int a1), (2, .int a2)] := hl
  generalize hRes : m_X6_size S a1 a2 = Res
  unfold m_X6_size at hRes
  refine lv_aload_n hx hb dX6_size_0 rfl (lv_at hl 0 rfl) ?_
  refine cs_get (C := RX6) (T := TX6) (N := 15) hF in_X6 hw hK 0 rfl rfl 13 (by decide) q_237 rfl dX6_size_1 ?_
  refine lv_aload_n hx hb dX6_size_4 rfl (lv_at hl 0 rfl) ?_
  refine lv_iload_n hx hb dX6_size_5 rfl (lv_at hl 1 rfl) ?_
  refine lv_iload_n hx hb dX6_size_6 rfl (lv_at hl 2 rfl) ?_
  refine cs_vir hF (c_X6_numberOf l D cy ad S a1 a2 (g0) (g1) (g2) (g3)) (cwV 2 hts g_X6_226 rfl rfl rfl kk_X6_numberOf ⟨Nat.le_of_ble_eq_true rfl, Nat.le_of_ble_eq_true rfl⟩) (cs_recv hK hw (ci := 6) 0 rfl rfl) hw hK hS rfl hl.1 [.ref (ad 4)] rfl (Nat.le_of_ble_eq_true rfl) dX6_size_7 (fun r_1 H locs hq hw hS => ?_)
  replace hRes := cs_letE hq hRes
  clear hq
  refine cs_vir hF (c_X4_length l D cy ad S r_1) (cwV 1 hts g_X6_229 rfl rfl rfl kk_X4_length ⟨Nat.le_of_ble_eq_true rfl, Nat.le_of_ble_eq_true rfl⟩) (cs_recv hK hw (ci := 4) 4 rfl rfl) hw hK hS rfl hl.1 [] rfl (Nat.le_of_ble_eq_true rfl) dX6_size_10 (fun r_2 H locs hq hw hS => ?_)
  replace hRes := cs_letE hq hRes
  clear hq
  exact cs_iret hF hr hlk hw hK hS dX6_size_13 ⟨hRes, rfl⟩
theorem kk_X6_size : yX6_size.cls = RX6 ∧ yX6_size.cls ≠ "java/lang/invoke/MethodHandle" ∧ yX6_size.cls ≠ "java/lang/invoke/VarHandle" ∧ (parseMethodDescriptor yX6_size.desc).map (fun d => d.parameters.length) = some 2 := by decide +kernel
theorem g_X6_214 : GoodIn cs_WS (wsV RX6 214 RX1 yX1_key (cs_ws yX1_key cX1_key 2 (some .int))) := cs_goodV q_455 q_89 q_90 q_91 q_48
theorem g_X6_238 : GoodIn cs_WS (wsV RX6 238 RX4 yX4_age (cs_ws yX4_age cX4_age 3 (some .int))) := cs_goodV q_475 q_476 q_477 q_139 q_144
def m_X6_entry (S : cs_St) (a1 : Int32) (a2 : Int32) (a3 : Int32) (a4 : Int32) : Int32 := cs_let (m_X6_numberOf S a1 a2) (fun r_1 => cs_let (m_X4_length S r_1) (fun r_3 => cs_let (m_X4_age S r_1 a3) (fun r_7 => (if a4 = 1 then r_7 else (if a4 = 0 then cs_let (m_X1_key S r_7) (fun r_11 => r_11) else cs_let (m_X1_value S r_7) (fun r_10 => r_10))))))
set_option maxHeartbeats 4000000 in
set_option maxRecDepth 100000 in
theorem c_X6_entry (l : Launch) (D : va_G) (cy : ClassId) (ad : Nat → Nat) (S : cs_St) (a1 : Int32) (a2 : Int32) (a3 : Int32) (a4 : Int32) (g0 : ¬ a1 < 0) (g1 : a1 < 4) (g2 : ¬ a2 < 0) (g3 : a2 < m_X4_count S a1) (g4 : ¬ a3 < 0) (g5 : a3 < m_X4_length S (m_X6_numberOf S a1 a2)) (g6 : ¬ a4 < 0) (g7 : a4 ≤ 2) : Met l yX6_entry (cs_ws yX6_entry cX6_entry 7 (some .int)) (cs_rm 3 66) (cs_Pc D cy ad [.ref (ad 0), .int a1, .int a2, .int a3, .int a4] S) (cs_Qi D cy ad (fun r S1 => r = m_X6_entry S a1 a2 a3 a4 ∧ S1 = S)) 0 0 (cs_A ad) := by
  refine cs_of RX6 (by decide) rfl (Nat.le_of_ble_eq_true rfl) ?_
  intro p e s m below meth c hF hr hlk hw hK ls hl
  obtain ⟨hx, hb, hml, hown, hts⟩ := id hF
  have hS : va_S (cs_A ad) s.heap s.heap [] := va_S.rf
  have hl : lv_has ls 7 [(0, .ref (ad 0)), (1, .int a1), (2, .int a2), (3, .int a3), (4, .int a4)] := hl
  generalize hRes : m_X6_entry S a1 a2 a3 a4 = Res
  unfold m_X6_entry at hRes
  refine lv_aload_n hx hb dX6_entry_0 rfl (lv_at hl 0 rfl) ?_
  refine lv_iload_n hx hb dX6_entry_1 rfl (lv_at hl 1 rfl) ?_
  refine lv_iload_n hx hb dX6_entry_2 rfl (lv_at hl 2 rfl) ?_
  refine cs_vir hF (c_X6_numberOf l D cy ad S a1 a2 (g0) (g1) (g2) (g3)) (cwV 2 hts g_X6_226 rfl rfl rfl kk_X6_numberOf ⟨Nat.le_of_ble_eq_true rfl, Nat.le_of_ble_eq_true rfl⟩) (cs_recv hK hw (ci := 6) 0 rfl rfl) hw hK hS rfl hl.1 [] rfl (Nat.le_of_ble_eq_true rfl) dX6_entry_3 (fun r_1 H locs hq hw hS => ?_)
  replace hRes := cs_letE hq hRes
  have g8 : a3 < m_X4_length S r_1 := by rw [hq]; exact g5
  clear hq
  refine lv_istore (lv' := [(5, .int r_1), (0, .ref (ad 0)), (1, .int a1), (2, .int a2), (3, .int a3), (4, .int a4)]) hx hb dX6_entry_6 hl (by decide) rfl (fun ls hl => ?_)
  refine lv_iload_n hx hb dX6_entry_8 rfl (lv_at hl 4 rfl) ?_
  refine lv_if_lt (tgt := 25) hx hb dX6_entry_9 (by decide) (fun c_2 => absurd c_2 (g4)) (fun c_2 => ?_)
  refine lv_iload_n hx hb dX6_entry_12 rfl (lv_at hl 4 rfl) ?_
  refine lv_aload_n hx hb dX6_entry_13 rfl (lv_at hl 1 rfl) ?_
  refine cs_get (C := RX6) (T := TX6) (N := 15) hF in_X6 hw hK 0 rfl rfl 13 (by decide) q_237 rfl dX6_entry_14 ?_
  refine lv_iload hx hb dX6_entry_17 (lv_at hl 0 rfl) ?_
  refine cs_vir hF (c_X4_length l D cy ad S r_1) (cwV 1 hts g_X6_229 rfl rfl rfl kk_X4_length ⟨Nat.le_of_ble_eq_true rfl, Nat.le_of_ble_eq_true rfl⟩) (cs_recv hK hw (ci := 4) 4 rfl rfl) hw hK hS rfl hl.1 [.int a3] rfl (Nat.le_of_ble_eq_true rfl) dX6_entry_19 (fun r_3 H locs hq hw hS => ?_)
  replace hRes := cs_letE hq hRes
  have g9 : a3 < r_3 := by rw [hq]; exact g8
  clear hq
  refine lv_icmp_lt (tgt := 35) hx hb dX6_entry_22 (by decide) (fun c_4 => ?_) (fun c_4 => absurd (g9) c_4)
  refine lv_iload hx hb dX6_entry_35 (lv_at hl 5 rfl) ?_
  refine lv_if_lt (tgt := 46) hx hb dX6_entry_37 (by decide) (fun c_5 => absurd c_5 (g6)) (fun c_5 => ?_)
  refine lv_iload hx hb dX6_entry_40 (lv_at hl 5 rfl) ?_
  refine lv_iconst (v := 2) hx hb dX6_entry_42 (by decide) ?_
  refine lv_icmp_le (tgt := 56) hx hb dX6_entry_43 (by decide) (fun c_6 => ?_) (fun c_6 => absurd (g7) c_6)
  refine lv_aload_n hx hb dX6_entry_56 rfl (lv_at hl 1 rfl) ?_
  refine cs_get (C := RX6) (T := TX6) (N := 15) hF in_X6 hw hK 0 rfl rfl 13 (by decide) q_237 rfl dX6_entry_57 ?_
  refine lv_iload hx hb dX6_entry_60 (lv_at hl 0 rfl) ?_
  refine lv_iload_n hx hb dX6_entry_62 rfl (lv_at hl 4 rfl) ?_
  refine cs_vir hF (c_X4_age l D cy ad S r_1 a3) (cwV 2 hts g_X6_238 rfl rfl rfl kk_X4_age ⟨Nat.le_of_ble_eq_true rfl, Nat.le_of_ble_eq_true rfl⟩) (cs_recv hK hw (ci := 4) 4 rfl rfl) hw hK hS rfl hl.1 [] rfl (Nat.le_of_ble_eq_true rfl) dX6_entry_63 (fun r_7 H locs hq hw hS => ?_)
  replace hRes := cs_letE hq hRes
  clear hq
  refine lv_istore (lv' := [(6, .int r_7), (5, .int r_1), (0, .ref (ad 0)), (1, .int a1), (2, .int a2), (3, .int a3), (4, .int a4)]) hx hb dX6_entry_66 hl (by decide) rfl (fun ls hl => ?_)
  refine lv_iload hx hb dX6_entry_68 (lv_at hl 6 rfl) ?_
  refine lv_iconst (v := 1) hx hb dX6_entry_70 (by decide) ?_
  refine lv_icmp_ne (tgt := 77) hx hb dX6_entry_71 (by decide) (fun c_8 => ?_) (fun c_8 => ?_)
  · replace hRes := cs_F c_8 hRes
    refine lv_iload hx hb dX6_entry_77 (lv_at hl 6 rfl) ?_
    refine lv_if_ne (tgt := 94) hx hb dX6_entry_79 (by decide) (fun c_9 => ?_) (fun c_9 => ?_)
    · replace hRes := cs_F c_9 hRes
      refine lv_aload_n hx hb dX6_entry_94 rfl (lv_at hl 2 rfl) ?_
      refine cs_get (C := RX6) (T := TX6) (N := 15) hF in_X6 hw hK 0 rfl rfl 11 (by decide) q_233 rfl dX6_entry_95 ?_
      refine lv_iload hx hb dX6_entry_98 (lv_at hl 0 rfl) ?_
      refine cs_vir hF (c_X1_value l D cy ad S r_7) (cwV 1 hts g_X6_220 rfl rfl rfl kk_X1_value ⟨Nat.le_of_ble_eq_true rfl, Nat.le_of_ble_eq_true rfl⟩) (cs_recv hK hw (ci := 1) 2 rfl rfl) hw hK hS rfl hl.1 [] rfl (Nat.le_of_ble_eq_true rfl) dX6_entry_100 (fun r_10 H locs hq hw hS => ?_)
      replace hRes := cs_letE hq hRes
      clear hq
      exact cs_iret hF hr hlk hw hK hS dX6_entry_103 ⟨hRes, rfl⟩
    · replace hRes := cs_T c_9 hRes
      refine lv_aload_n hx hb dX6_entry_82 rfl (lv_at hl 2 rfl) ?_
      refine cs_get (C := RX6) (T := TX6) (N := 15) hF in_X6 hw hK 0 rfl rfl 11 (by decide) q_233 rfl dX6_entry_83 ?_
      refine lv_iload hx hb dX6_entry_86 (lv_at hl 0 rfl) ?_
      refine cs_vir hF (c_X1_key l D cy ad S r_7) (cwV 1 hts g_X6_214 rfl rfl rfl kk_X1_key ⟨Nat.le_of_ble_eq_true rfl, Nat.le_of_ble_eq_true rfl⟩) (cs_recv hK hw (ci := 1) 2 rfl rfl) hw hK hS rfl hl.1 [] rfl (Nat.le_of_ble_eq_true rfl) dX6_entry_88 (fun r_11 H locs hq hw hS => ?_)
      replace hRes := cs_letE hq hRes
      clear hq
      refine lv_goto (tgt := 103) hx hb dX6_entry_91 (by decide) ?_
      exact cs_iret hF hr hlk hw hK hS dX6_entry_103 ⟨hRes, rfl⟩
  · replace hRes := cs_T c_8 hRes
    refine lv_iload hx hb dX6_entry_74 (lv_at hl 0 rfl) ?_
    exact cs_iret hF hr hlk hw hK hS dX6_entry_76 ⟨hRes, rfl⟩
theorem kk_X6_entry : yX6_entry.cls = RX6 ∧ yX6_entry.cls ≠ "java/lang/invoke/MethodHandle" ∧ yX6_entry.cls ≠ "java/lang/invoke/VarHandle" ∧ (parseMethodDescriptor yX6_entry.desc).map (fun d => d.parameters.length) = some 4 := by decide +kernel
def m_X6_mayHave (S : cs_St) (a1 : Int32) (a2 : Int32) (a3 : Int32) : Int32 := cs_let (m_X6_numberOf S a1 a2) (fun r_1 => cs_let (m_X4_passes S r_1 a3) (fun r_2 => r_2))
set_option maxHeartbeats 4000000 in
set_option maxRecDepth 100000 in
theorem c_X6_mayHave (l : Launch) (D : va_G) (cy : ClassId) (ad : Nat → Nat) (S : cs_St) (a1 : Int32) (a2 : Int32) (a3 : Int32) (g0 : ¬ a1 < 0) (g1 : a1 < 4) (g2 : ¬ a2 < 0) (g3 : a2 < m_X4_count S a1) (g4 : ¬ a3 < 0) (g5 : a3 ≤ 9999) : Met l yX6_mayHave (cs_ws yX6_mayHave cX6_mayHave 5 (some .boolean)) (cs_rm 3 66) (cs_Pc D cy ad [.ref (ad 0), .int a1, .int a2, .int a3] S) (cs_Qi D cy ad (fun r S1 => r = m_X6_mayHave S a1 a2 a3 ∧ S1 = S)) 0 0 (cs_A ad) := by
  refine cs_of RX6 (by decide) rfl (Nat.le_of_ble_eq_true rfl) ?_
  intro p e s m below meth c hF hr hlk hw hK ls hl
  obtain ⟨hx, hb, hml, hown, hts⟩ := id hF
  have hS : va_S (cs_A ad) s.heap s.heap [] := va_S.rf
  have hl : lv_has ls 5 [(0, .ref (ad 0)), (1, .int a1), (2, .int a2), (3, .int a3)] := hl
  generalize hRes : m_X6_mayHave S a1 a2 a3 = Res
  unfold m_X6_mayHave at hRes
  refine lv_aload_n hx hb dX6_mayHave_0 rfl (lv_at hl 0 rfl) ?_
  refine lv_iload_n hx hb dX6_mayHave_1 rfl (lv_at hl 1 rfl) ?_
  refine lv_iload_n hx hb dX6_mayHave_2 rfl (lv_at hl 2 rfl) ?_
  refine cs_vir hF (c_X6_numberOf l D cy ad S a1 a2 (g0) (g1) (g2) (g3)) (cwV 2 hts g_X6_226 rfl rfl rfl kk_X6_numberOf ⟨Nat.le_of_ble_eq_true rfl, Nat.le_of_ble_eq_true rfl⟩) (cs_recv hK hw (ci := 6) 0 rfl rfl) hw hK hS rfl hl.1 [] rfl (Nat.le_of_ble_eq_true rfl) dX6_mayHave_3 (fun r_1 H locs hq hw hS => ?_)
  replace hRes := cs_letE hq hRes
  clear hq
  refine lv_istore (lv' := [(4, .int r_1), (0, .ref (ad 0)), (1, .int a1), (2, .int a2), (3, .int a3)]) hx hb dX6_mayHave_6 hl (by decide) rfl (fun ls hl => ?_)
  refine lv_iload_n hx hb dX6_mayHave_8 rfl (lv_at hl 4 rfl) ?_
  refine cs_svr hF (c_X6_checkKey l D cy ad S a3 (g4) (g5)) (va_cwS 1 hts g_X6_117 rfl rfl rfl kk_X6_checkKey ⟨Nat.le_of_ble_eq_true rfl, Nat.le_of_ble_eq_true rfl⟩) hw hK hS rfl hl.1 [] rfl (Nat.le_of_ble_eq_true rfl) dX6_mayHave_9 (fun H locs hw hS => ?_)
  refine lv_aload_n hx hb dX6_mayHave_12 rfl (lv_at hl 1 rfl) ?_
  refine cs_get (C := RX6) (T := TX6) (N := 15) hF in_X6 hw hK 0 rfl rfl 13 (by decide) q_237 rfl dX6_mayHave_13 ?_
  refine lv_iload hx hb dX6_mayHave_16 (lv_at hl 0 rfl) ?_
  refine lv_iload_n hx hb dX6_mayHave_18 rfl (lv_at hl 4 rfl) ?_
  refine cs_vir hF (c_X4_passes l D cy ad S r_1 a3) (cwV 2 hts g_X6_243 rfl rfl rfl kk_X4_passes ⟨Nat.le_of_ble_eq_true rfl, Nat.le_of_ble_eq_true rfl⟩) (cs_recv hK hw (ci := 4) 4 rfl rfl) hw hK hS rfl hl.1 [] rfl (Nat.le_of_ble_eq_true rfl) dX6_mayHave_19 (fun r_2 H locs hq hw hS => ?_)
  replace hRes := cs_letE hq hRes
  have hz : r_2 = 0 ∨ r_2 = 1 := by rw [hq]; exact m_X4_passes_01 _ _ _
  clear hq
  exact cs_zret hF hr hlk hw hK hS dX6_mayHave_22 ⟨hRes, rfl⟩ (cs_bl hz)
theorem kk_X6_mayHave : yX6_mayHave.cls = RX6 ∧ yX6_mayHave.cls ≠ "java/lang/invoke/MethodHandle" ∧ yX6_mayHave.cls ≠ "java/lang/invoke/VarHandle" ∧ (parseMethodDescriptor yX6_mayHave.desc).map (fun d => d.parameters.length) = some 3 := by decide +kernel
def m_X6_entries (S : cs_St) : Int32 := cs_let (m_X3_length S 10) (fun r_1 => r_1)
set_option maxHeartbeats 4000000 in
set_option maxRecDepth 100000 in
theorem c_X6_entries (l : Launch) (D : va_G) (cy : ClassId) (ad : Nat → Nat) (S : cs_St) : Met l yX6_entries (cs_ws yX6_entries cX6_entries 1 (some .int)) (cs_rm 1 20) (cs_Pc D cy ad [.ref (ad 0)] S) (cs_Qi D cy ad (fun r S1 => r = m_X6_entries S ∧ S1 = S)) 0 0 (cs_A ad) := by
  refine cs_of RX6 (by decide) rfl (Nat.le_of_ble_eq_true rfl) ?_
  intro p e s m below meth c hF hr hlk hw hK ls hl
  obtain ⟨hx, hb, hml, hown, hts⟩ := id hF
  have hS : va_S (cs_A ad) s.heap s.heap [] := va_S.rf
  have hl : lv_has ls 1 [(0, .ref (ad 0))] := hl
  generalize hRes : m_X6_entries S = Res
  unfold m_X6_entries at hRes
  refine lv_aload_n hx hb dX6_entries_0 rfl (lv_at hl 0 rfl) ?_
  refine cs_get (C := RX6) (T := TX6) (N := 15) hF in_X6 hw hK 0 rfl rfl 13 (by decide) q_237 rfl dX6_entries_1 ?_
  refine cs_getN (C := RX4) (T := TX4) (N := 8) hF in_X4 hw hK 4 rfl rfl 1 (by decide) (List.mem_of_getElem? (i := 4) rfl) rfl dX6_entries_4 ?_
  refine cs_vir hF (c_X3_length l D cy ad S 10 (by decide)) (cwV 0 hts g_X6_137 rfl rfl rfl kk_X3_length ⟨Nat.le_of_ble_eq_true rfl, Nat.le_of_ble_eq_true rfl⟩) (cs_recvR hK hw (by decide)) hw hK hS rfl hl.1 [] rfl (Nat.le_of_ble_eq_true rfl) dX6_entries_7 (fun r_1 H locs hq hw hS => ?_)
  replace hRes := cs_letE hq hRes
  clear hq
  exact cs_iret hF hr hlk hw hK hS dX6_entries_10 ⟨hRes, rfl⟩
theorem kk_X6_entries : yX6_entries.cls = RX6 ∧ yX6_entries.cls ≠ "java/lang/invoke/MethodHandle" ∧ yX6_entries.cls ≠ "java/lang/invoke/VarHandle" ∧ (parseMethodDescriptor yX6_entries.desc).map (fun d => d.parameters.length) = some 0 := by decide +kernel
theorem g_X6_250 : GoodIn cs_WS (wsV RX6 250 RX1 yX1_isStone (cs_ws yX1_isStone cX1_isStone 2 (some .boolean))) := cs_goodV q_481 q_101 q_102 q_91 q_53
def m_X6_stones_L4 (S : cs_St) : Nat → Int32 → Int32 → Int32 × Int32
  | 0, _, _ => (0, 0)
  | n + 1, v1, v2 => cs_let (m_X3_length S 10) (fun r_1 => (if r_1 ≤ v2 then (v1, v2) else cs_let (m_X3_at S 10 v2) (fun r_3 => cs_let (m_X1_isStone S r_3) (fun r_4 => (if r_4 = 0 then m_X6_stones_L4 S n v1 (v2 + 1) else m_X6_stones_L4 S n (v1 + 1) (v2 + 1))))))
theorem m_X6_stones_L4_s {S : cs_St} {n : Nat} {v1 : Int32} {v2 : Int32} : m_X6_stones_L4 S (n + 1) v1 v2 = cs_let (m_X3_length S 10) (fun r_1 => (if r_1 ≤ v2 then (v1, v2) else cs_let (m_X3_at S 10 v2) (fun r_3 => cs_let (m_X1_isStone S r_3) (fun r_4 => (if r_4 = 0 then m_X6_stones_L4 S n v1 (v2 + 1) else m_X6_stones_L4 S n (v1 + 1) (v2 + 1)))))) := rfl
def m_X6_stones (S : cs_St) : Int32 := cs_let (m_X6_stones_L4 S cs_N 0 0) (fun T_6 => T_6.1)
set_option maxHeartbeats 4000000 in
set_option maxRecDepth 100000 in
theorem c_X6_stones (l : Launch) (D : va_G) (cy : ClassId) (ad : Nat → Nat) (S : cs_St) : Met l yX6_stones (cs_ws yX6_stones cX6_stones 3 (some .int)) (cs_rm 2 42) (cs_Pc D cy ad [.ref (ad 0)] S) (cs_Qi D cy ad (fun r S1 => r = m_X6_stones S ∧ S1 = S)) 0 0 (cs_A ad) := by
  refine cs_of RX6 (by decide) rfl (Nat.le_of_ble_eq_true rfl) ?_
  intro p e s m below meth c hF hr hlk hw hK ls hl
  obtain ⟨hx, hb, hml, hown, hts⟩ := id hF
  have hS : va_S (cs_A ad) s.heap s.heap [] := va_S.rf
  have hl : lv_has ls 3 [(0, .ref (ad 0))] := hl
  generalize hRes : m_X6_stones S = Res
  unfold m_X6_stones at hRes
  refine lv_iconst (v := 0) hx hb dX6_stones_0 (by decide) ?_
  refine lv_istore_n (lv' := [(1, .int 0), (0, .ref (ad 0))]) hx hb dX6_stones_1 rfl hl (by decide) rfl (fun ls hl => ?_)
  refine lv_iconst (v := 0) hx hb dX6_stones_2 (by decide) ?_
  refine lv_istore_n (lv' := [(2, .int 0), (1, .int 0), (0, .ref (ad 0))]) hx hb dX6_stones_3 rfl hl (by decide) rfl (fun ls hl => ?_)
  -- the loop at 4
  obtain ⟨T_6, hq⟩ : ∃ z, z = m_X6_stones_L4 S cs_N 0 0 := ⟨_, rfl⟩
  replace hRes := cs_letE hq hRes
  have hk : ∀ (H : Heap) (locs : List Loc) (ls : Array Slot), cs_w D cy ad S H → va_S (cs_A ad) s.heap H locs → lv_has ls 3 [(2, .int T_6.2), (1, .int T_6.1), (0, .ref (ad 0))] → W p l e (cs_rm 2 42) s m ([.ref (ad 0)]).toArray below meth c H locs 0 0 (MQ below (cs_Qi D cy ad (fun r S1 => r = Res ∧ S1 = S)) ([.ref (ad 0)]).toArray s 0 0 (cs_A ad)) (F0 m 48 ls []) := by
    intro H locs ls hw hS hl
    refine lv_iload_n hx hb dX6_stones_48 rfl (lv_at hl 1 rfl) ?_
    exact cs_iret hF hr hlk hw hK hS dX6_stones_49 ⟨hRes, rfl⟩
  have lp : ∀ (n : Nat) (v1 : Int32) (v2 : Int32) (H : Heap) (locs : List Loc), cs_w D cy ad S H → va_S (cs_A ad) s.heap H locs → ∀ (ls : Array Slot), lv_has ls 3 [(2, .int v2), (1, .int v1), (0, .ref (ad 0))] → (2147483647 - v2.toInt < (n : Int) ∧ 0 < n) → m_X6_stones_L4 S n v1 v2 = T_6 → W p l e (cs_rm 2 42) s m ([.ref (ad 0)]).toArray below meth c H locs 0 0 (MQ below (cs_Qi D cy ad (fun r S1 => r = Res ∧ S1 = S)) ([.ref (ad 0)]).toArray s 0 0 (cs_A ad)) (F0 m 4 ls []) := by
    intro n
    induction n with
    | zero => intro v1 v2 H locs hw hS ls hl hm; exact absurd hm.2 (Nat.lt_irrefl 0)
    | succ n ih =>
      intro v1 v2 H locs hw hS ls hl hm hE
      replace hE := m_X6_stones_L4_s.symm.trans hE
      refine lv_iload_n hx hb dX6_stones_4 rfl (lv_at hl 0 rfl) ?_
      refine lv_aload_n hx hb dX6_stones_5 rfl (lv_at hl 2 rfl) ?_
      refine cs_get (C := RX6) (T := TX6) (N := 15) hF in_X6 hw hK 0 rfl rfl 13 (by decide) q_237 rfl dX6_stones_6 ?_
      refine cs_getN (C := RX4) (T := TX4) (N := 8) hF in_X4 hw hK 4 rfl rfl 1 (by decide) (List.mem_of_getElem? (i := 4) rfl) rfl dX6_stones_9 ?_
      refine cs_vir hF (c_X3_length l D cy ad S 10 (by decide)) (cwV 0 hts g_X6_137 rfl rfl rfl kk_X3_length ⟨Nat.le_of_ble_eq_true rfl, Nat.le_of_ble_eq_true rfl⟩) (cs_recvR hK hw (by decide)) hw hK hS rfl hl.1 [.int v2] rfl (Nat.le_of_ble_eq_true rfl) dX6_stones_12 (fun r_1 H locs hq hw hS => ?_)
      replace hE := cs_letE hq hE
      clear hq
      refine lv_icmp_ge (tgt := 48) hx hb dX6_stones_15 (by decide) (fun c_2 => ?_) (fun c_2 => ?_)
      · replace hE := cs_T c_2 hE
        subst hE
        exact hk _ _ _ hw hS (lv_sub hl [0, 1, 2] rfl)
      · replace hE := cs_F c_2 hE
        refine lv_aload_n hx hb dX6_stones_18 rfl (lv_at hl 2 rfl) ?_
        refine cs_get (C := RX6) (T := TX6) (N := 15) hF in_X6 hw hK 0 rfl rfl 11 (by decide) q_233 rfl dX6_stones_19 ?_
        refine lv_aload_n hx hb dX6_stones_22 rfl (lv_at hl 2 rfl) ?_
        refine cs_get (C := RX6) (T := TX6) (N := 15) hF in_X6 hw hK 0 rfl rfl 13 (by decide) q_237 rfl dX6_stones_23 ?_
        refine cs_getN (C := RX4) (T := TX4) (N := 8) hF in_X4 hw hK 4 rfl rfl 1 (by decide) (List.mem_of_getElem? (i := 4) rfl) rfl dX6_stones_26 ?_
        refine lv_iload_n hx hb dX6_stones_29 rfl (lv_at hl 0 rfl) ?_
        refine cs_vir hF (c_X3_at l D cy ad S 10 v2 (by decide)) (cwV 1 hts g_X6_211 rfl rfl rfl kk_X3_at ⟨Nat.le_of_ble_eq_true rfl, Nat.le_of_ble_eq_true rfl⟩) (cs_recvR hK hw (by decide)) hw hK hS rfl hl.1 [.ref (ad 2)] rfl (Nat.le_of_ble_eq_true rfl) dX6_stones_30 (fun r_3 H locs hq hw hS => ?_)
        replace hE := cs_letE hq hE
        clear hq
        refine cs_vir hF (c_X1_isStone l D cy ad S r_3) (cwV 1 hts g_X6_250 rfl rfl rfl kk_X1_isStone ⟨Nat.le_of_ble_eq_true rfl, Nat.le_of_ble_eq_true rfl⟩) (cs_recv hK hw (ci := 1) 2 rfl rfl) hw hK hS rfl hl.1 [] rfl (Nat.le_of_ble_eq_true rfl) dX6_stones_33 (fun r_4 H locs hq hw hS => ?_)
        replace hE := cs_letE hq hE
        clear hq
        refine lv_if_eq (tgt := 42) hx hb dX6_stones_36 (by decide) (fun c_5 => ?_) (fun c_5 => ?_)
        · replace hE := cs_T c_5 hE
          refine lv_iinc (v := v2 + 1) (lv' := [(2, .int (v2 + 1)), (1, .int v1), (0, .ref (ad 0))]) hx hb dX6_stones_42 hl (k := 0) rfl rfl (by decide) rfl (fun ls hl => ?_)
          refine lv_goto (tgt := 4) hx hb dX6_stones_45 (by decide) ?_
          exact ih v1 (v2 + 1) _ _ hw hS _ (lv_sub hl [0, 1, 2] rfl) (cs_up hm.1 c_2) hE
        · replace hE := cs_F c_5 hE
          refine lv_iinc (v := v1 + 1) (lv' := [(1, .int (v1 + 1)), (2, .int v2), (0, .ref (ad 0))]) hx hb dX6_stones_39 hl (k := 1) rfl rfl (by decide) rfl (fun ls hl => ?_)
          refine lv_iinc (v := v2 + 1) (lv' := [(2, .int (v2 + 1)), (1, .int (v1 + 1)), (0, .ref (ad 0))]) hx hb dX6_stones_42 hl (k := 1) rfl rfl (by decide) rfl (fun ls hl => ?_)
          refine lv_goto (tgt := 4) hx hb dX6_stones_45 (by decide) ?_
          exact ih (v1 + 1) (v2 + 1) _ _ hw hS _ (lv_sub hl [0, 1, 2] rfl) (cs_up hm.1 c_2) hE
  exact lp cs_N 0 0 _ _ hw hS _ (lv_sub hl [0, 1, 2] rfl) (cs_up0 0) hq.symm
theorem kk_X6_stones : yX6_stones.cls = RX6 ∧ yX6_stones.cls ≠ "java/lang/invoke/MethodHandle" ∧ yX6_stones.cls ≠ "java/lang/invoke/VarHandle" ∧ (parseMethodDescriptor yX6_stones.desc).map (fun d => d.parameters.length) = some 0 := by decide +kernel
def m_X6_counted (S : cs_St) (a1 : Int32) : Int32 := cs_let (m_X3_at S 0 a1) (fun r_3 => r_3)
set_option maxHeartbeats 4000000 in
set_option maxRecDepth 100000 in
theorem c_X6_counted (l : Launch) (D : va_G) (cy : ClassId) (ad : Nat → Nat) (S : cs_St) (a1 : Int32) (g0 : ¬ a1 < 0) (g1 : a1 < 6) : Met l yX6_counted (cs_ws yX6_counted cX6_counted 2 (some .int)) (cs_rm 1 21) (cs_Pc D cy ad [.ref (ad 0), .int a1] S) (cs_Qi D cy ad (fun r S1 => r = m_X6_counted S a1 ∧ S1 = S)) 0 0 (cs_A ad) := by
  refine cs_of RX6 (by decide) rfl (Nat.le_of_ble_eq_true rfl) ?_
  intro p e s m below meth c hF hr hlk hw hK ls hl
  obtain ⟨hx, hb, hml, hown, hts⟩ := id hF
  have hS : va_S (cs_A ad) s.heap s.heap [] := va_S.rf
  have hl : lv_has ls 2 [(0, .ref (ad 0)), (1, .int a1)] := hl
  generalize hRes : m_X6_counted S a1 = Res
  unfold m_X6_counted at hRes
  refine lv_iload_n hx hb dX6_counted_0 rfl (lv_at hl 1 rfl) ?_
  refine lv_if_lt (tgt := 10) hx hb dX6_counted_1 (by decide) (fun c_1 => absurd c_1 (g0)) (fun c_1 => ?_)
  refine lv_iload_n hx hb dX6_counted_4 rfl (lv_at hl 1 rfl) ?_
  refine lv_bipush (v := 6) hx hb dX6_counted_5 (by decide) ?_
  refine lv_icmp_lt (tgt := 20) hx hb dX6_counted_7 (by decide) (fun c_2 => ?_) (fun c_2 => absurd (g1) c_2)
  refine lv_aload_n hx hb dX6_counted_20 rfl (lv_at hl 0 rfl) ?_
  refine cs_get (C := RX6) (T := TX6) (N := 15) hF in_X6 hw hK 0 rfl rfl 7 (by decide) q_222 rfl dX6_counted_21 ?_
  refine lv_iload_n hx hb dX6_counted_24 rfl (lv_at hl 1 rfl) ?_
  refine cs_vir hF (c_X3_at l D cy ad S 0 a1 (by decide)) (cwV 1 hts g_X6_211 rfl rfl rfl kk_X3_at ⟨Nat.le_of_ble_eq_true rfl, Nat.le_of_ble_eq_true rfl⟩) (cs_recvR hK hw (by decide)) hw hK hS rfl hl.1 [] rfl (Nat.le_of_ble_eq_true rfl) dX6_counted_25 (fun r_3 H locs hq hw hS => ?_)
  replace hRes := cs_letE hq hRes
  clear hq
  exact cs_iret hF hr hlk hw hK hS dX6_counted_28 ⟨hRes, rfl⟩
theorem kk_X6_counted : yX6_counted.cls = RX6 ∧ yX6_counted.cls ≠ "java/lang/invoke/MethodHandle" ∧ yX6_counted.cls ≠ "java/lang/invoke/VarHandle" ∧ (parseMethodDescriptor yX6_counted.desc).map (fun d => d.parameters.length) = some 1 := by decide +kernel
theorem g_X6_256 : GoodIn cs_WS (wsV RX6 256 RX3 yX3_wipe (cs_ws yX3_wipe cX3_wipe 2 none)) := cs_goodV q_485 q_75 q_76 q_10 q_72
def m_X6_cost (S : cs_St) (a1 : Int32) : Int32 × cs_St := cs_let (m_X3_wipe S 1) (fun S_1 => cs_let (m_X1_newest S_1) (fun r_2 => cs_let (m_X6_lookUp S_1 a1 r_2 1).1 (fun r_4 => cs_let (m_X6_lookUp S_1 a1 r_2 1).2 (fun S_3 => cs_let (m_X3_at S_3 1 1) (fun r_5 => (r_5, S_3))))))
set_option maxHeartbeats 4000000 in
set_option maxRecDepth 100000 in
theorem c_X6_cost (l : Launch) (D : va_G) (cy : ClassId) (ad : Nat → Nat) (S : cs_St) (a1 : Int32) (g0 : ¬ a1 < 0) (g1 : a1 ≤ 9999) : Met l yX6_cost (cs_ws yX6_cost cX6_cost 2 (some .int)) (cs_rm 6 144) (cs_Pc D cy ad [.ref (ad 0), .int a1] S) (cs_Qi D cy ad (fun r S1 => r = (m_X6_cost S a1).1 ∧ S1 = (m_X6_cost S a1).2)) 0 0 (cs_A ad) := by
  refine cs_of RX6 (by decide) rfl (Nat.le_of_ble_eq_true rfl) ?_
  intro p e s m below meth c hF hr hlk hw hK ls hl
  obtain ⟨hx, hb, hml, hown, hts⟩ := id hF
  have hS : va_S (cs_A ad) s.heap s.heap [] := va_S.rf
  have hl : lv_has ls 2 [(0, .ref (ad 0)), (1, .int a1)] := hl
  generalize hRes : m_X6_cost S a1 = Res
  unfold m_X6_cost at hRes
  refine lv_iload_n hx hb dX6_cost_0 rfl (lv_at hl 1 rfl) ?_
  refine cs_svr hF (c_X6_checkKey l D cy ad S a1 (g0) (g1)) (va_cwS 1 hts g_X6_117 rfl rfl rfl kk_X6_checkKey ⟨Nat.le_of_ble_eq_true rfl, Nat.le_of_ble_eq_true rfl⟩) hw hK hS rfl hl.1 [] rfl (Nat.le_of_ble_eq_true rfl) dX6_cost_1 (fun H locs hw hS => ?_)
  refine lv_aload_n hx hb dX6_cost_4 rfl (lv_at hl 0 rfl) ?_
  refine cs_get (C := RX6) (T := TX6) (N := 15) hF in_X6 hw hK 0 rfl rfl 8 (by decide) q_223 rfl dX6_cost_5 ?_
  refine cs_vv hF (c_X3_wipe l D cy ad S 1 (by decide)) (cwV 0 hts g_X6_256 rfl rfl rfl kk_X3_wipe ⟨Nat.le_of_ble_eq_true rfl, Nat.le_of_ble_eq_true rfl⟩) (cs_recvR hK hw (by decide)) hw hK hS rfl hl.1 [] rfl (Nat.le_of_ble_eq_true rfl) dX6_cost_8 (fun S_1 H locs hq hw hS => ?_)
  replace hRes := cs_letE hq hRes
  clear hq
  refine lv_aload_n hx hb dX6_cost_11 rfl (lv_at hl 0 rfl) ?_
  refine lv_iload_n hx hb dX6_cost_12 rfl (lv_at hl 1 rfl) ?_
  refine lv_aload_n hx hb dX6_cost_13 rfl (lv_at hl 0 rfl) ?_
  refine cs_get (C := RX6) (T := TX6) (N := 15) hF in_X6 hw hK 0 rfl rfl 11 (by decide) q_233 rfl dX6_cost_14 ?_
  refine cs_vir hF (c_X1_newest l D cy ad S_1) (cwV 0 hts g_X6_183 rfl rfl rfl kk_X1_newest ⟨Nat.le_of_ble_eq_true rfl, Nat.le_of_ble_eq_true rfl⟩) (cs_recv hK hw (ci := 1) 2 rfl rfl) hw hK hS rfl hl.1 [.int a1, .ref (ad 0)] rfl (Nat.le_of_ble_eq_true rfl) dX6_cost_17 (fun r_2 H locs hq hw hS => ?_)
  replace hRes := cs_letE hq hRes
  clear hq
  refine lv_aload_n hx hb dX6_cost_20 rfl (lv_at hl 0 rfl) ?_
  refine cs_get (C := RX6) (T := TX6) (N := 15) hF in_X6 hw hK 0 rfl rfl 8 (by decide) q_223 rfl dX6_cost_21 ?_
  refine cs_vi hF (c_X6_lookUp l D cy ad S_1 a1 r_2 1 (by decide) (by decide)) (cwV 3 hts g_X6_195 rfl rfl rfl kk_X6_lookUp ⟨Nat.le_of_ble_eq_true rfl, Nat.le_of_ble_eq_true rfl⟩) (cs_recv hK hw (ci := 6) 0 rfl rfl) hw hK hS rfl hl.1 [] rfl (Nat.le_of_ble_eq_true rfl) dX6_cost_24 (fun r_4 S_3 H locs hq hq2 hw hS => ?_)
  replace hRes := cs_letE hq hRes
  replace hRes := cs_letE hq2 hRes
  clear hq hq2
  refine lv_pop hx hb dX6_cost_27 rfl ?_
  refine lv_aload_n hx hb dX6_cost_28 rfl (lv_at hl 0 rfl) ?_
  refine cs_get (C := RX6) (T := TX6) (N := 15) hF in_X6 hw hK 0 rfl rfl 8 (by decide) q_223 rfl dX6_cost_29 ?_
  refine lv_iconst (v := 1) hx hb dX6_cost_32 (by decide) ?_
  refine cs_vir hF (c_X3_at l D cy ad S_3 1 1 (by decide)) (cwV 1 hts g_X6_211 rfl rfl rfl kk_X3_at ⟨Nat.le_of_ble_eq_true rfl, Nat.le_of_ble_eq_true rfl⟩) (cs_recvR hK hw (by decide)) hw hK hS rfl hl.1 [] rfl (Nat.le_of_ble_eq_true rfl) dX6_cost_33 (fun r_5 H locs hq hw hS => ?_)
  replace hRes := cs_letE hq hRes
  clear hq
  exact cs_iret hF hr hlk hw hK hS dX6_cost_36 ⟨cs_eq1 hRes, cs_eq2 hRes⟩
theorem kk_X6_cost : yX6_cost.cls = RX6 ∧ yX6_cost.cls ≠ "java/lang/invoke/MethodHandle" ∧ yX6_cost.cls ≠ "java/lang/invoke/VarHandle" ∧ (parseMethodDescriptor yX6_cost.desc).map (fun d => d.parameters.length) = some 1 := by decide +kernel
def m_X6_wouldSave (S : cs_St) (a1 : Int32) : Int32 × cs_St := cs_let (m_X6_planPack S a1).1 (fun r_2 => cs_let (m_X6_planPack S a1).2 (fun S_1 => (r_2, S_1)))
set_option maxHeartbeats 4000000 in
set_option maxRecDepth 100000 in
theorem c_X6_wouldSave (l : Launch) (D : va_G) (cy : ClassId) (ad : Nat → Nat) (S : cs_St) (a1 : Int32) (g0 : ¬ a1 < 0) (g1 : a1 < 4) : Met l yX6_wouldSave (cs_ws yX6_wouldSave cX6_wouldSave 2 (some .int)) (cs_rm 4 132) (cs_Pc D cy ad [.ref (ad 0), .int a1] S) (cs_Qi D cy ad (fun r S1 => r = (m_X6_wouldSave S a1).1 ∧ S1 = (m_X6_wouldSave S a1).2)) 0 0 (cs_A ad) := by
  refine cs_of RX6 (by decide) rfl (Nat.le_of_ble_eq_true rfl) ?_
  intro p e s m below meth c hF hr hlk hw hK ls hl
  obtain ⟨hx, hb, hml, hown, hts⟩ := id hF
  have hS : va_S (cs_A ad) s.heap s.heap [] := va_S.rf
  have hl : lv_has ls 2 [(0, .ref (ad 0)), (1, .int a1)] := hl
  generalize hRes : m_X6_wouldSave S a1 = Res
  unfold m_X6_wouldSave at hRes
  refine lv_iload_n hx hb dX6_wouldSave_0 rfl (lv_at hl 1 rfl) ?_
  refine cs_svr hF (c_X6_checkLevel l D cy ad S a1 (g0) (g1)) (va_cwS 1 hts g_X6_143 rfl rfl rfl kk_X6_checkLevel ⟨Nat.le_of_ble_eq_true rfl, Nat.le_of_ble_eq_true rfl⟩) hw hK hS rfl hl.1 [] rfl (Nat.le_of_ble_eq_true rfl) dX6_wouldSave_1 (fun H locs hw hS => ?_)
  refine lv_aload_n hx hb dX6_wouldSave_4 rfl (lv_at hl 0 rfl) ?_
  refine lv_iload_n hx hb dX6_wouldSave_5 rfl (lv_at hl 1 rfl) ?_
  refine cs_vi hF (c_X6_planPack l D cy ad S a1) (cwV 1 hts g_X6_146 rfl rfl rfl kk_X6_planPack ⟨Nat.le_of_ble_eq_true rfl, Nat.le_of_ble_eq_true rfl⟩) (cs_recv hK hw (ci := 6) 0 rfl rfl) hw hK hS rfl hl.1 [] rfl (Nat.le_of_ble_eq_true rfl) dX6_wouldSave_6 (fun r_2 S_1 H locs hq hq2 hw hS => ?_)
  replace hRes := cs_letE hq hRes
  replace hRes := cs_letE hq2 hRes
  clear hq hq2
  exact cs_iret hF hr hlk hw hK hS dX6_wouldSave_9 ⟨cs_eq1 hRes, cs_eq2 hRes⟩
theorem kk_X6_wouldSave : yX6_wouldSave.cls = RX6 ∧ yX6_wouldSave.cls ≠ "java/lang/invoke/MethodHandle" ∧ yX6_wouldSave.cls ≠ "java/lang/invoke/VarHandle" ∧ (parseMethodDescriptor yX6_wouldSave.desc).map (fun d => d.parameters.length) = some 1 := by decide +kernel
def m_X6_getSafe_L8 (S : cs_St) (u1 : Int32) : Nat → Int32 → Int32 → Int32 × Int32
  | 0, _, _ => (0, 0)
  | n + 1, v2, v3 => (if (S.2 7) ≤ v3 then (v2, v3) else cs_let (m_X3_at S 4 v3) (fun r_2 => cs_let (m_X1_key S r_2) (fun r_3 => (if r_3 = u1 then cs_let (m_X3_at S 4 v3) (fun r_5 => m_X6_getSafe_L8 S u1 n r_5 (v3 + 1)) else m_X6_getSafe_L8 S u1 n v2 (v3 + 1)))))
theorem m_X6_getSafe_L8_s {S : cs_St} {u1 : Int32} {n : Nat} {v2 : Int32} {v3 : Int32} : m_X6_getSafe_L8 S u1 (n + 1) v2 v3 = (if (S.2 7) ≤ v3 then (v2, v3) else cs_let (m_X3_at S 4 v3) (fun r_2 => cs_let (m_X1_key S r_2) (fun r_3 => (if r_3 = u1 then cs_let (m_X3_at S 4 v3) (fun r_5 => m_X6_getSafe_L8 S u1 n r_5 (v3 + 1)) else m_X6_getSafe_L8 S u1 n v2 (v3 + 1))))) := rfl
def m_X6_getSafe (S : cs_St) (a1 : Int32) : Int32 × cs_St := cs_let (m_X6_getSafe_L8 S a1 cs_N 0 0) (fun T_6 => (if T_6.1 = 0 then cs_let (m_X1_newest S) (fun r_8 => cs_let (m_X6_lookInRuns S a1 r_8 1).1 (fun r_10 => cs_let (m_X6_lookInRuns S a1 r_8 1).2 (fun S_9 => cs_let (m_X6_valueOf S_9 r_10) (fun r_11 => (r_11, S_9))))) else cs_let (m_X6_valueOf S T_6.1) (fun r_12 => (r_12, S))))
set_option maxHeartbeats 4000000 in
set_option maxRecDepth 100000 in
theorem c_X6_getSafe (l : Launch) (D : va_G) (cy : ClassId) (ad : Nat → Nat) (S : cs_St) (a1 : Int32) (g0 : ¬ a1 < 0) (g1 : a1 ≤ 9999) : Met l yX6_getSafe (cs_ws yX6_getSafe cX6_getSafe 4 (some .int)) (cs_rm 5 120) (cs_Pc D cy ad [.ref (ad 0), .int a1] S) (cs_Qi D cy ad (fun r S1 => r = (m_X6_getSafe S a1).1 ∧ S1 = (m_X6_getSafe S a1).2)) 0 0 (cs_A ad) := by
  refine cs_of RX6 (by decide) rfl (Nat.le_of_ble_eq_true rfl) ?_
  intro p e s m below meth c hF hr hlk hw hK ls hl
  obtain ⟨hx, hb, hml, hown, hts⟩ := id hF
  have hS : va_S (cs_A ad) s.heap s.heap [] := va_S.rf
  have hl : lv_has ls 4 [(0, .ref (ad 0)), (1, .int a1)] := hl
  generalize hRes : m_X6_getSafe S a1 = Res
  unfold m_X6_getSafe at hRes
  refine lv_iload_n hx hb dX6_getSafe_0 rfl (lv_at hl 1 rfl) ?_
  refine cs_svr hF (c_X6_checkKey l D cy ad S a1 (g0) (g1)) (va_cwS 1 hts g_X6_117 rfl rfl rfl kk_X6_checkKey ⟨Nat.le_of_ble_eq_true rfl, Nat.le_of_ble_eq_true rfl⟩) hw hK hS rfl hl.1 [] rfl (Nat.le_of_ble_eq_true rfl) dX6_getSafe_1 (fun H locs hw hS => ?_)
  refine lv_iconst (v := 0) hx hb dX6_getSafe_4 (by decide) ?_
  refine lv_istore_n (lv' := [(2, .int 0), (0, .ref (ad 0)), (1, .int a1)]) hx hb dX6_getSafe_5 rfl hl (by decide) rfl (fun ls hl => ?_)
  refine lv_iconst (v := 0) hx hb dX6_getSafe_6 (by decide) ?_
  refine lv_istore_n (lv' := [(3, .int 0), (2, .int 0), (0, .ref (ad 0)), (1, .int a1)]) hx hb dX6_getSafe_7 rfl hl (by decide) rfl (fun ls hl => ?_)
  -- the loop at 8
  obtain ⟨T_6, hq⟩ : ∃ z, z = m_X6_getSafe_L8 S a1 cs_N 0 0 := ⟨_, rfl⟩
  replace hRes := cs_letE hq hRes
  have hk : ∀ (H : Heap) (locs : List Loc) (ls : Array Slot), cs_w D cy ad S H → va_S (cs_A ad) s.heap H locs → lv_has ls 4 [(3, .int T_6.2), (2, .int T_6.1), (0, .ref (ad 0)), (1, .int a1)] → W p l e (cs_rm 5 120) s m ([.ref (ad 0), .int a1]).toArray below meth c H locs 0 0 (MQ below (cs_Qi D cy ad (fun r S1 => r = Res.1 ∧ S1 = Res.2)) ([.ref (ad 0), .int a1]).toArray s 0 0 (cs_A ad)) (F0 m 59 ls []) := by
    intro H locs ls hw hS hl
    refine lv_aload_n hx hb dX6_getSafe_59 rfl (lv_at hl 2 rfl) ?_
    refine lv_iload_n hx hb dX6_getSafe_60 rfl (lv_at hl 1 rfl) ?_
    refine lv_if_eq (tgt := 68) hx hb dX6_getSafe_61 (by decide) (fun c_7 => ?_) (fun c_7 => ?_)
    · replace hRes := cs_T c_7 hRes
      refine lv_aload_n hx hb dX6_getSafe_68 rfl (lv_at hl 2 rfl) ?_
      refine lv_iload_n hx hb dX6_getSafe_69 rfl (lv_at hl 3 rfl) ?_
      refine lv_aload_n hx hb dX6_getSafe_70 rfl (lv_at hl 2 rfl) ?_
      refine cs_get (C := RX6) (T := TX6) (N := 15) hF in_X6 hw hK 0 rfl rfl 11 (by decide) q_233 rfl dX6_getSafe_71 ?_
      refine cs_vir hF (c_X1_newest l D cy ad S) (cwV 0 hts g_X6_183 rfl rfl rfl kk_X1_newest ⟨Nat.le_of_ble_eq_true rfl, Nat.le_of_ble_eq_true rfl⟩) (cs_recv hK hw (ci := 1) 2 rfl rfl) hw hK hS rfl hl.1 [.int a1, .ref (ad 0), .ref (ad 0)] rfl (Nat.le_of_ble_eq_true rfl) dX6_getSafe_74 (fun r_8 H locs hq hw hS => ?_)
      replace hRes := cs_letE hq hRes
      clear hq
      refine lv_aload_n hx hb dX6_getSafe_77 rfl (lv_at hl 2 rfl) ?_
      refine cs_get (C := RX6) (T := TX6) (N := 15) hF in_X6 hw hK 0 rfl rfl 8 (by decide) q_223 rfl dX6_getSafe_78 ?_
      refine cs_vi hF (c_X6_lookInRuns l D cy ad S a1 r_8 1 (by decide) (by decide)) (cwV 3 hts g_X6_262 rfl rfl rfl kk_X6_lookInRuns ⟨Nat.le_of_ble_eq_true rfl, Nat.le_of_ble_eq_true rfl⟩) (cs_recv hK hw (ci := 6) 0 rfl rfl) hw hK hS rfl hl.1 [.ref (ad 0)] rfl (Nat.le_of_ble_eq_true rfl) dX6_getSafe_81 (fun r_10 S_9 H locs hq hq2 hw hS => ?_)
      replace hRes := cs_letE hq hRes
      replace hRes := cs_letE hq2 hRes
      clear hq hq2
      refine cs_vir hF (c_X6_valueOf l D cy ad S_9 r_10) (cwV 1 hts g_X6_199 rfl rfl rfl kk_X6_valueOf ⟨Nat.le_of_ble_eq_true rfl, Nat.le_of_ble_eq_true rfl⟩) (cs_recv hK hw (ci := 6) 0 rfl rfl) hw hK hS rfl hl.1 [] rfl (Nat.le_of_ble_eq_true rfl) dX6_getSafe_84 (fun r_11 H locs hq hw hS => ?_)
      replace hRes := cs_letE hq hRes
      clear hq
      exact cs_iret hF hr hlk hw hK hS dX6_getSafe_87 ⟨cs_eq1 hRes, cs_eq2 hRes⟩
    · replace hRes := cs_F c_7 hRes
      refine lv_iload_n hx hb dX6_getSafe_64 rfl (lv_at hl 1 rfl) ?_
      refine lv_goto (tgt := 84) hx hb dX6_getSafe_65 (by decide) ?_
      refine cs_vir hF (c_X6_valueOf l D cy ad S T_6.1) (cwV 1 hts g_X6_199 rfl rfl rfl kk_X6_valueOf ⟨Nat.le_of_ble_eq_true rfl, Nat.le_of_ble_eq_true rfl⟩) (cs_recv hK hw (ci := 6) 0 rfl rfl) hw hK hS rfl hl.1 [] rfl (Nat.le_of_ble_eq_true rfl) dX6_getSafe_84 (fun r_12 H locs hq hw hS => ?_)
      replace hRes := cs_letE hq hRes
      clear hq
      exact cs_iret hF hr hlk hw hK hS dX6_getSafe_87 ⟨cs_eq1 hRes, cs_eq2 hRes⟩
  have lp : ∀ (n : Nat) (v2 : Int32) (v3 : Int32) (H : Heap) (locs : List Loc), cs_w D cy ad S H → va_S (cs_A ad) s.heap H locs → ∀ (ls : Array Slot), lv_has ls 4 [(3, .int v3), (2, .int v2), (0, .ref (ad 0)), (1, .int a1)] → (2147483647 - v3.toInt < (n : Int) ∧ 0 < n) → m_X6_getSafe_L8 S a1 n v2 v3 = T_6 → W p l e (cs_rm 5 120) s m ([.ref (ad 0), .int a1]).toArray below meth c H locs 0 0 (MQ below (cs_Qi D cy ad (fun r S1 => r = Res.1 ∧ S1 = Res.2)) ([.ref (ad 0), .int a1]).toArray s 0 0 (cs_A ad)) (F0 m 8 ls []) := by
    intro n
    induction n with
    | zero => intro v2 v3 H locs hw hS ls hl hm; exact absurd hm.2 (Nat.lt_irrefl 0)
    | succ n ih =>
      intro v2 v3 H locs hw hS ls hl hm hE
      replace hE := m_X6_getSafe_L8_s.symm.trans hE
      refine lv_iload_n hx hb dX6_getSafe_8 rfl (lv_at hl 0 rfl) ?_
      refine lv_aload_n hx hb dX6_getSafe_9 rfl (lv_at hl 2 rfl) ?_
      refine cs_get (C := RX6) (T := TX6) (N := 15) hF in_X6 hw hK 0 rfl rfl 10 (by decide) q_228 rfl dX6_getSafe_10 ?_
      refine cs_getN (C := RX0) (T := TX0) (N := 3) hF in_X0 hw hK 1 rfl rfl 2 (by decide) (List.mem_of_getElem? (i := 2) rfl) rfl dX6_getSafe_13 ?_
      refine lv_icmp_ge (tgt := 59) hx hb dX6_getSafe_16 (by decide) (fun c_1 => ?_) (fun c_1 => ?_)
      · replace hE := cs_T c_1 hE
        subst hE
        exact hk _ _ _ hw hS (lv_sub hl [0, 1, 2, 3] rfl)
      · replace hE := cs_F c_1 hE
        refine lv_aload_n hx hb dX6_getSafe_19 rfl (lv_at hl 2 rfl) ?_
        refine cs_get (C := RX6) (T := TX6) (N := 15) hF in_X6 hw hK 0 rfl rfl 11 (by decide) q_233 rfl dX6_getSafe_20 ?_
        refine lv_aload_n hx hb dX6_getSafe_23 rfl (lv_at hl 2 rfl) ?_
        refine cs_get (C := RX6) (T := TX6) (N := 15) hF in_X6 hw hK 0 rfl rfl 10 (by decide) q_228 rfl dX6_getSafe_24 ?_
        refine cs_getN (C := RX0) (T := TX0) (N := 3) hF in_X0 hw hK 1 rfl rfl 1 (by decide) (List.mem_of_getElem? (i := 1) rfl) rfl dX6_getSafe_27 ?_
        refine lv_iload_n hx hb dX6_getSafe_30 rfl (lv_at hl 0 rfl) ?_
        refine cs_vir hF (c_X3_at l D cy ad S 4 v3 (by decide)) (cwV 1 hts g_X6_211 rfl rfl rfl kk_X3_at ⟨Nat.le_of_ble_eq_true rfl, Nat.le_of_ble_eq_true rfl⟩) (cs_recvR hK hw (by decide)) hw hK hS rfl hl.1 [.ref (ad 2)] rfl (Nat.le_of_ble_eq_true rfl) dX6_getSafe_31 (fun r_2 H locs hq hw hS => ?_)
        replace hE := cs_letE hq hE
        clear hq
        refine cs_vir hF (c_X1_key l D cy ad S r_2) (cwV 1 hts g_X6_214 rfl rfl rfl kk_X1_key ⟨Nat.le_of_ble_eq_true rfl, Nat.le_of_ble_eq_true rfl⟩) (cs_recv hK hw (ci := 1) 2 rfl rfl) hw hK hS rfl hl.1 [] rfl (Nat.le_of_ble_eq_true rfl) dX6_getSafe_34 (fun r_3 H locs hq hw hS => ?_)
        replace hE := cs_letE hq hE
        clear hq
        refine lv_iload_n hx hb dX6_getSafe_37 rfl (lv_at hl 3 rfl) ?_
        refine lv_icmp_ne (tgt := 53) hx hb dX6_getSafe_38 (by decide) (fun c_4 => ?_) (fun c_4 => ?_)
        · replace hE := cs_F c_4 hE
          refine lv_iinc (v := v3 + 1) (lv' := [(3, .int (v3 + 1)), (2, .int v2), (0, .ref (ad 0)), (1, .int a1)]) hx hb dX6_getSafe_53 hl (k := 0) rfl rfl (by decide) rfl (fun ls hl => ?_)
          refine lv_goto (tgt := 8) hx hb dX6_getSafe_56 (by decide) ?_
          exact ih v2 (v3 + 1) _ _ hw hS _ (lv_sub hl [0, 1, 2, 3] rfl) (cs_up hm.1 c_1) hE
        · replace hE := cs_T c_4 hE
          refine lv_aload_n hx hb dX6_getSafe_41 rfl (lv_at hl 2 rfl) ?_
          refine cs_get (C := RX6) (T := TX6) (N := 15) hF in_X6 hw hK 0 rfl rfl 10 (by decide) q_228 rfl dX6_getSafe_42 ?_
          refine cs_getN (C := RX0) (T := TX0) (N := 3) hF in_X0 hw hK 1 rfl rfl 1 (by decide) (List.mem_of_getElem? (i := 1) rfl) rfl dX6_getSafe_45 ?_
          refine lv_iload_n hx hb dX6_getSafe_48 rfl (lv_at hl 0 rfl) ?_
          refine cs_vir hF (c_X3_at l D cy ad S 4 v3 (by decide)) (cwV 1 hts g_X6_211 rfl rfl rfl kk_X3_at ⟨Nat.le_of_ble_eq_true rfl, Nat.le_of_ble_eq_true rfl⟩) (cs_recvR hK hw (by decide)) hw hK hS rfl hl.1 [] rfl (Nat.le_of_ble_eq_true rfl) dX6_getSafe_49 (fun r_5 H locs hq hw hS => ?_)
          replace hE := cs_letE hq hE
          clear hq
          refine lv_istore_n (lv' := [(2, .int r_5), (3, .int v3), (0, .ref (ad 0)), (1, .int a1)]) hx hb dX6_getSafe_52 rfl hl (by decide) rfl (fun ls hl => ?_)
          refine lv_iinc (v := v3 + 1) (lv' := [(3, .int (v3 + 1)), (2, .int r_5), (0, .ref (ad 0)), (1, .int a1)]) hx hb dX6_getSafe_53 hl (k := 1) rfl rfl (by decide) rfl (fun ls hl => ?_)
          refine lv_goto (tgt := 8) hx hb dX6_getSafe_56 (by decide) ?_
          exact ih r_5 (v3 + 1) _ _ hw hS _ (lv_sub hl [0, 1, 2, 3] rfl) (cs_up hm.1 c_1) hE
  exact lp cs_N 0 0 _ _ hw hS _ (lv_sub hl [0, 1, 2, 3] rfl) (cs_up0 0) hq.symm
theorem kk_X6_getSafe : yX6_getSafe.cls = RX6 ∧ yX6_getSafe.cls ≠ "java/lang/invoke/MethodHandle" ∧ yX6_getSafe.cls ≠ "java/lang/invoke/VarHandle" ∧ (parseMethodDescriptor yX6_getSafe.desc).map (fun d => d.parameters.length) = some 1 := by decide +kernel
