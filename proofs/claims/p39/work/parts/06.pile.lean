theorem g_X2_31 : GoodIn cs_WS (wsV RX2 31 RX3 yX3_wipe (cs_ws yX3_wipe cX3_wipe 2 none)) := cs_goodV q_74 q_75 q_76 q_10 q_72
theorem g_X2_34 : GoodIn cs_WS (wsV RX2 34 RX3 yX3_empty (cs_ws yX3_empty cX3_empty 1 none)) := cs_goodV q_77 q_35 q_36 q_10 q_32
def m_X2_begin (S : cs_St) : cs_St := cs_let (m_X3_wipe S 17) (fun S_1 => cs_let (m_X3_empty S_1 18) (fun S_2 => S_2))
set_option maxHeartbeats 4000000 in
set_option maxRecDepth 100000 in
theorem c_X2_begin (l : Launch) (D : va_G) (cy : ClassId) (ad : Nat → Nat) (S : cs_St) : Met l yX2_begin (cs_ws yX2_begin cX2_begin 1 none) (cs_rm 1 21) (cs_Pc D cy ad [.ref (ad 5)] S) (cs_Qv D cy ad (fun S1 => S1 = m_X2_begin S)) 0 0 (cs_A ad) := by
  refine cs_of RX2 (by decide) rfl (Nat.le_of_ble_eq_true rfl) ?_
  intro p e s m below meth c hF hr hlk hw hK ls hl
  obtain ⟨hx, hb, hml, hown, hts⟩ := id hF
  have hS : va_S (cs_A ad) s.heap s.heap [] := va_S.rf
  have hl : lv_has ls 1 [(0, .ref (ad 5))] := hl
  generalize hRes : m_X2_begin S = Res
  unfold m_X2_begin at hRes
  refine lv_aload_n hx hb dX2_begin_0 rfl (lv_at hl 0 rfl) ?_
  refine cs_get (C := RX2) (T := TX2) (N := 4) hF in_X2 hw hK 5 rfl rfl 2 (by decide) q_67 rfl dX2_begin_1 ?_
  refine cs_vv hF (c_X3_wipe l D cy ad S 17 (by decide)) (cwV 0 hts g_X2_31 rfl rfl rfl kk_X3_wipe ⟨Nat.le_of_ble_eq_true rfl, Nat.le_of_ble_eq_true rfl⟩) (cs_recvR hK hw (by decide)) hw hK hS rfl hl.1 [] rfl (Nat.le_of_ble_eq_true rfl) dX2_begin_4 (fun S_1 H locs hq hw hS => ?_)
  replace hRes := cs_letE hq hRes
  clear hq
  refine lv_aload_n hx hb dX2_begin_7 rfl (lv_at hl 0 rfl) ?_
  refine cs_get (C := RX2) (T := TX2) (N := 4) hF in_X2 hw hK 5 rfl rfl 3 (by decide) q_68 rfl dX2_begin_8 ?_
  refine cs_vv hF (c_X3_empty l D cy ad S_1 18 (by decide)) (cwV 0 hts g_X2_34 rfl rfl rfl kk_X3_empty ⟨Nat.le_of_ble_eq_true rfl, Nat.le_of_ble_eq_true rfl⟩) (cs_recvR hK hw (by decide)) hw hK hS rfl hl.1 [] rfl (Nat.le_of_ble_eq_true rfl) dX2_begin_11 (fun S_2 H locs hq hw hS => ?_)
  replace hRes := cs_letE hq hRes
  clear hq
  exact cs_vret hF hr hlk hw hK hS dX2_begin_14 hRes
theorem kk_X2_begin : yX2_begin.cls = RX2 ∧ yX2_begin.cls ≠ "java/lang/invoke/MethodHandle" ∧ yX2_begin.cls ≠ "java/lang/invoke/VarHandle" ∧ (parseMethodDescriptor yX2_begin.desc).map (fun d => d.parameters.length) = some 0 := by decide +kernel
theorem g_X2_37 : GoodIn cs_WS (wsV RX2 37 RX3 yX3_at (cs_ws yX3_at cX3_at 2 (some .int))) := cs_goodV q_79 q_50 q_51 q_10 q_47
theorem g_X2_41 : GoodIn cs_WS (wsV RX2 41 RX3 yX3_write (cs_ws yX3_write cX3_write 3 none)) := cs_goodV q_80 q_58 q_59 q_10 q_54
def m_X2_gather_L3 (j1 : Nat) (u2 : Int32) (u3 : Int32) : Nat → Int32 → cs_St → Int32 × cs_St
  | 0, _, S => (0, S)
  | n + 1, v4, S => (if u3 ≤ v4 then (v4, S) else cs_let (m_X3_at S j1 v4) (fun r_2 => cs_let (m_X3_write S 17 r_2 1) (fun S_3 => m_X2_gather_L3 j1 u2 u3 n (v4 + 1) S_3)))
theorem m_X2_gather_L3_s {j1 : Nat} {u2 : Int32} {u3 : Int32} {n : Nat} {v4 : Int32} {S : cs_St} : m_X2_gather_L3 j1 u2 u3 (n + 1) v4 S = (if u3 ≤ v4 then (v4, S) else cs_let (m_X3_at S j1 v4) (fun r_2 => cs_let (m_X3_write S 17 r_2 1) (fun S_3 => m_X2_gather_L3 j1 u2 u3 n (v4 + 1) S_3))) := rfl
def m_X2_gather (S : cs_St) (j1 : Nat) (a2 : Int32) (a3 : Int32) : cs_St := cs_let (m_X2_gather_L3 j1 a2 a3 cs_N a2 S) (fun T_4 => T_4.2)
set_option maxHeartbeats 4000000 in
set_option maxRecDepth 100000 in
theorem c_X2_gather (l : Launch) (D : va_G) (cy : ClassId) (ad : Nat → Nat) (S : cs_St) (j1 : Nat) (a2 : Int32) (a3 : Int32) (hj1 : j1 < 19) : Met l yX2_gather (cs_ws yX2_gather cX2_gather 5 none) (cs_rm 1 22) (cs_Pc D cy ad [.ref (ad 5), .ref (ad (6 + 2 * j1)), .int a2, .int a3] S) (cs_Qv D cy ad (fun S1 => S1 = m_X2_gather S j1 a2 a3)) 0 0 (cs_A ad) := by
  refine cs_of RX2 (by decide) rfl (Nat.le_of_ble_eq_true rfl) ?_
  intro p e s m below meth c hF hr hlk hw hK ls hl
  obtain ⟨hx, hb, hml, hown, hts⟩ := id hF
  have hS : va_S (cs_A ad) s.heap s.heap [] := va_S.rf
  have hl : lv_has ls 5 [(0, .ref (ad 5)), (1, .ref (ad (6 + 2 * j1))), (2, .int a2), (3, .int a3)] := hl
  generalize hRes : m_X2_gather S j1 a2 a3 = Res
  unfold m_X2_gather at hRes
  refine lv_iload_n hx hb dX2_gather_0 rfl (lv_at hl 2 rfl) ?_
  refine lv_istore (lv' := [(4, .int a2), (0, .ref (ad 5)), (1, .ref (ad (6 + 2 * j1))), (2, .int a2), (3, .int a3)]) hx hb dX2_gather_1 hl (by decide) rfl (fun ls hl => ?_)
  -- the loop at 3
  obtain ⟨T_4, hq⟩ : ∃ z, z = m_X2_gather_L3 j1 a2 a3 cs_N a2 S := ⟨_, rfl⟩
  replace hRes := cs_letE hq hRes
  have hk : ∀ (H : Heap) (locs : List Loc) (ls : Array Slot), cs_w D cy ad T_4.2 H → va_S (cs_A ad) s.heap H locs → lv_has ls 5 [(4, .int T_4.1), (0, .ref (ad 5)), (1, .ref (ad (6 + 2 * j1))), (2, .int a2), (3, .int a3)] → W p l e (cs_rm 1 22) s m ([.ref (ad 5), .ref (ad (6 + 2 * j1)), .int a2, .int a3]).toArray below meth c H locs 0 0 (MQ below (cs_Qv D cy ad (fun S1 => S1 = Res)) ([.ref (ad 5), .ref (ad (6 + 2 * j1)), .int a2, .int a3]).toArray s 0 0 (cs_A ad)) (F0 m 29 ls []) := by
    intro H locs ls hw hS hl
    exact cs_vret hF hr hlk hw hK hS dX2_gather_29 hRes
  have lp : ∀ (n : Nat) (v4 : Int32) (S : cs_St) (H : Heap) (locs : List Loc), cs_w D cy ad S H → va_S (cs_A ad) s.heap H locs → ∀ (ls : Array Slot), lv_has ls 5 [(4, .int v4), (0, .ref (ad 5)), (1, .ref (ad (6 + 2 * j1))), (2, .int a2), (3, .int a3)] → (2147483647 - v4.toInt < (n : Int) ∧ 0 < n) → m_X2_gather_L3 j1 a2 a3 n v4 S = T_4 → W p l e (cs_rm 1 22) s m ([.ref (ad 5), .ref (ad (6 + 2 * j1)), .int a2, .int a3]).toArray below meth c H locs 0 0 (MQ below (cs_Qv D cy ad (fun S1 => S1 = Res)) ([.ref (ad 5), .ref (ad (6 + 2 * j1)), .int a2, .int a3]).toArray s 0 0 (cs_A ad)) (F0 m 3 ls []) := by
    intro n
    induction n with
    | zero => intro v4 S H locs hw hS ls hl hm; exact absurd hm.2 (Nat.lt_irrefl 0)
    | succ n ih =>
      intro v4 S H locs hw hS ls hl hm hE
      replace hE := m_X2_gather_L3_s.symm.trans hE
      refine lv_iload hx hb dX2_gather_3 (lv_at hl 0 rfl) ?_
      refine lv_iload_n hx hb dX2_gather_5 rfl (lv_at hl 4 rfl) ?_
      refine lv_icmp_ge (tgt := 29) hx hb dX2_gather_6 (by decide) (fun c_1 => ?_) (fun c_1 => ?_)
      · replace hE := cs_T c_1 hE
        subst hE
        exact hk _ _ _ hw hS (lv_sub hl [0, 1, 2, 3, 4] rfl)
      · replace hE := cs_F c_1 hE
        refine lv_aload_n hx hb dX2_gather_9 rfl (lv_at hl 1 rfl) ?_
        refine cs_get (C := RX2) (T := TX2) (N := 4) hF in_X2 hw hK 5 rfl rfl 2 (by decide) q_67 rfl dX2_gather_10 ?_
        refine lv_aload_n hx hb dX2_gather_13 rfl (lv_at hl 2 rfl) ?_
        refine lv_iload hx hb dX2_gather_14 (lv_at hl 0 rfl) ?_
        refine cs_vir hF (c_X3_at l D cy ad S j1 v4 hj1) (cwV 1 hts g_X2_37 rfl rfl rfl kk_X3_at ⟨Nat.le_of_ble_eq_true rfl, Nat.le_of_ble_eq_true rfl⟩) (cs_recvR hK hw hj1) hw hK hS rfl hl.1 [.ref (ad 40)] rfl (Nat.le_of_ble_eq_true rfl) dX2_gather_16 (fun r_2 H locs hq hw hS => ?_)
        replace hE := cs_letE hq hE
        clear hq
        refine lv_iconst (v := 1) hx hb dX2_gather_19 (by decide) ?_
        refine cs_vv hF (c_X3_write l D cy ad S 17 r_2 1 (by decide) (fun h => absurd h (by decide))) (cwV 2 hts g_X2_41 rfl rfl rfl kk_X3_write ⟨Nat.le_of_ble_eq_true rfl, Nat.le_of_ble_eq_true rfl⟩) (cs_recvR hK hw (by decide)) hw hK hS rfl hl.1 [] rfl (Nat.le_of_ble_eq_true rfl) dX2_gather_20 (fun S_3 H locs hq hw hS => ?_)
        replace hE := cs_letE hq hE
        clear hq
        refine lv_iinc (v := v4 + 1) (lv' := [(4, .int (v4 + 1)), (0, .ref (ad 5)), (1, .ref (ad (6 + 2 * j1))), (2, .int a2), (3, .int a3)]) hx hb dX2_gather_23 hl (k := 0) rfl rfl (by decide) rfl (fun ls hl => ?_)
        refine lv_goto (tgt := 3) hx hb dX2_gather_26 (by decide) ?_
        exact ih (v4 + 1) S_3 _ _ hw hS _ (lv_sub hl [0, 1, 2, 3, 4] rfl) (cs_up hm.1 c_1) hE
  exact lp cs_N a2 S _ _ hw hS _ (lv_sub hl [0, 1, 2, 3, 4] rfl) (cs_up0 a2) hq.symm
theorem kk_X2_gather : yX2_gather.cls = RX2 ∧ yX2_gather.cls ≠ "java/lang/invoke/MethodHandle" ∧ yX2_gather.cls ≠ "java/lang/invoke/VarHandle" ∧ (parseMethodDescriptor yX2_gather.desc).map (fun d => d.parameters.length) = some 3 := by decide +kernel
theorem g_X2_50 : GoodIn cs_WS (wsV RX2 50 RX3 yX3_length (cs_ws yX3_length cX3_length 1 (some .int))) := cs_goodV q_87 q_20 q_21 q_10 q_15
theorem g_X2_54 : GoodIn cs_WS (wsV RX2 54 RX1 yX1_key (cs_ws yX1_key cX1_key 2 (some .int))) := cs_goodV q_88 q_89 q_90 q_91 q_48
theorem g_X2_57 : GoodIn cs_WS (wsV RX2 57 RX5 yX5_see (cs_ws yX5_see cX5_see 4 (some .boolean))) := cs_goodV q_92 q_93 q_94 q_95 q_81
theorem g_X2_63 : GoodIn cs_WS (wsV RX2 63 RX3 yX3_append (cs_ws yX3_append cX3_append 2 none)) := cs_goodV q_96 q_97 q_98 q_10 q_85
def m_X2_keepNeeded_L4 : Nat → Int32 → Int32 → cs_St → Int32 × Int32 × cs_St
  | 0, _, _, S => (0, 0, S)
  | n + 1, v1, v2, S => cs_let (m_X3_length S 7) (fun r_1 => (if r_1 ≤ v2 then (v1, v2, S) else cs_let (m_X3_at S 7 v2) (fun r_3 => cs_let (m_X3_at S 17 r_3) (fun r_4 => (if r_4 = 1 then (if v1 = 0 then cs_let (m_X3_append S 18 r_3) (fun S_8 => m_X2_keepNeeded_L4 n r_3 (v2 + 1) S_8) else cs_let (m_X1_key S v1) (fun r_9 => cs_let (m_X1_key S r_3) (fun r_10 => (if r_9 = r_10 then cs_let (m_X5_see S r_3 v1) (fun r_13 => (if r_13 = 0 then m_X2_keepNeeded_L4 n r_3 (v2 + 1) S else cs_let (m_X3_append S 18 r_3) (fun S_15 => m_X2_keepNeeded_L4 n r_3 (v2 + 1) S_15))) else cs_let (m_X3_append S 18 r_3) (fun S_17 => m_X2_keepNeeded_L4 n r_3 (v2 + 1) S_17))))) else m_X2_keepNeeded_L4 n v1 (v2 + 1) S)))))
theorem m_X2_keepNeeded_L4_s {n : Nat} {v1 : Int32} {v2 : Int32} {S : cs_St} : m_X2_keepNeeded_L4 (n + 1) v1 v2 S = cs_let (m_X3_length S 7) (fun r_1 => (if r_1 ≤ v2 then (v1, v2, S) else cs_let (m_X3_at S 7 v2) (fun r_3 => cs_let (m_X3_at S 17 r_3) (fun r_4 => (if r_4 = 1 then (if v1 = 0 then cs_let (m_X3_append S 18 r_3) (fun S_8 => m_X2_keepNeeded_L4 n r_3 (v2 + 1) S_8) else cs_let (m_X1_key S v1) (fun r_9 => cs_let (m_X1_key S r_3) (fun r_10 => (if r_9 = r_10 then cs_let (m_X5_see S r_3 v1) (fun r_13 => (if r_13 = 0 then m_X2_keepNeeded_L4 n r_3 (v2 + 1) S else cs_let (m_X3_append S 18 r_3) (fun S_15 => m_X2_keepNeeded_L4 n r_3 (v2 + 1) S_15))) else cs_let (m_X3_append S 18 r_3) (fun S_17 => m_X2_keepNeeded_L4 n r_3 (v2 + 1) S_17))))) else m_X2_keepNeeded_L4 n v1 (v2 + 1) S))))) := rfl
def m_X2_keepNeeded (S : cs_St) : cs_St := cs_let (m_X2_keepNeeded_L4 cs_N 0 0 S) (fun T_18 => T_18.2.2)
set_option maxHeartbeats 4000000 in
set_option maxRecDepth 100000 in
theorem c_X2_keepNeeded (l : Launch) (D : va_G) (cy : ClassId) (ad : Nat → Nat) (S : cs_St) : Met l yX2_keepNeeded (cs_ws yX2_keepNeeded cX2_keepNeeded 5 none) (cs_rm 2 44) (cs_Pc D cy ad [.ref (ad 5)] S) (cs_Qv D cy ad (fun S1 => S1 = m_X2_keepNeeded S)) 0 0 (cs_A ad) := by
  refine cs_of RX2 (by decide) rfl (Nat.le_of_ble_eq_true rfl) ?_
  intro p e s m below meth c hF hr hlk hw hK ls hl
  obtain ⟨hx, hb, hml, hown, hts⟩ := id hF
  have hS : va_S (cs_A ad) s.heap s.heap [] := va_S.rf
  have hl : lv_has ls 5 [(0, .ref (ad 5))] := hl
  generalize hRes : m_X2_keepNeeded S = Res
  unfold m_X2_keepNeeded at hRes
  refine lv_iconst (v := 0) hx hb dX2_keepNeeded_0 (by decide) ?_
  refine lv_istore_n (lv' := [(1, .int 0), (0, .ref (ad 5))]) hx hb dX2_keepNeeded_1 rfl hl (by decide) rfl (fun ls hl => ?_)
  refine lv_iconst (v := 0) hx hb dX2_keepNeeded_2 (by decide) ?_
  refine lv_istore_n (lv' := [(2, .int 0), (1, .int 0), (0, .ref (ad 5))]) hx hb dX2_keepNeeded_3 rfl hl (by decide) rfl (fun ls hl => ?_)
  -- the loop at 4
  obtain ⟨T_18, hq⟩ : ∃ z, z = m_X2_keepNeeded_L4 cs_N 0 0 S := ⟨_, rfl⟩
  replace hRes := cs_letE hq hRes
  have hk : ∀ (H : Heap) (locs : List Loc) (ls : Array Slot), cs_w D cy ad T_18.2.2 H → va_S (cs_A ad) s.heap H locs → lv_has ls 5 [(2, .int T_18.2.1), (1, .int T_18.1), (0, .ref (ad 5))] → W p l e (cs_rm 2 44) s m ([.ref (ad 5)]).toArray below meth c H locs 0 0 (MQ below (cs_Qv D cy ad (fun S1 => S1 = Res)) ([.ref (ad 5)]).toArray s 0 0 (cs_A ad)) (F0 m 105 ls []) := by
    intro H locs ls hw hS hl
    exact cs_vret hF hr hlk hw hK hS dX2_keepNeeded_105 hRes
  have lp : ∀ (n : Nat) (v1 : Int32) (v2 : Int32) (S : cs_St) (H : Heap) (locs : List Loc), cs_w D cy ad S H → va_S (cs_A ad) s.heap H locs → ∀ (ls : Array Slot), lv_has ls 5 [(2, .int v2), (1, .int v1), (0, .ref (ad 5))] → (2147483647 - v2.toInt < (n : Int) ∧ 0 < n) → m_X2_keepNeeded_L4 n v1 v2 S = T_18 → W p l e (cs_rm 2 44) s m ([.ref (ad 5)]).toArray below meth c H locs 0 0 (MQ below (cs_Qv D cy ad (fun S1 => S1 = Res)) ([.ref (ad 5)]).toArray s 0 0 (cs_A ad)) (F0 m 4 ls []) := by
    intro n
    induction n with
    | zero => intro v1 v2 S H locs hw hS ls hl hm; exact absurd hm.2 (Nat.lt_irrefl 0)
    | succ n ih =>
      intro v1 v2 S H locs hw hS ls hl hm hE
      replace hE := m_X2_keepNeeded_L4_s.symm.trans hE
      refine lv_iload_n hx hb dX2_keepNeeded_4 rfl (lv_at hl 0 rfl) ?_
      refine lv_aload_n hx hb dX2_keepNeeded_5 rfl (lv_at hl 2 rfl) ?_
      refine cs_get (C := RX2) (T := TX2) (N := 4) hF in_X2 hw hK 5 rfl rfl 0 (by decide) q_69 rfl dX2_keepNeeded_6 ?_
      refine cs_getN (C := RX1) (T := TX1) (N := 3) hF in_X1 hw hK 2 rfl rfl 2 (by decide) (List.mem_of_getElem? (i := 3) rfl) rfl dX2_keepNeeded_9 ?_
      refine cs_vir hF (c_X3_length l D cy ad S 7 (by decide)) (cwV 0 hts g_X2_50 rfl rfl rfl kk_X3_length ⟨Nat.le_of_ble_eq_true rfl, Nat.le_of_ble_eq_true rfl⟩) (cs_recvR hK hw (by decide)) hw hK hS rfl hl.1 [.int v2] rfl (Nat.le_of_ble_eq_true rfl) dX2_keepNeeded_12 (fun r_1 H locs hq hw hS => ?_)
      replace hE := cs_letE hq hE
      clear hq
      refine lv_icmp_ge (tgt := 105) hx hb dX2_keepNeeded_15 (by decide) (fun c_2 => ?_) (fun c_2 => ?_)
      · replace hE := cs_T c_2 hE
        subst hE
        exact hk _ _ _ hw hS (lv_sub hl [0, 1, 2] rfl)
      · replace hE := cs_F c_2 hE
        refine lv_aload_n hx hb dX2_keepNeeded_18 rfl (lv_at hl 2 rfl) ?_
        refine cs_get (C := RX2) (T := TX2) (N := 4) hF in_X2 hw hK 5 rfl rfl 0 (by decide) q_69 rfl dX2_keepNeeded_19 ?_
        refine cs_getN (C := RX1) (T := TX1) (N := 3) hF in_X1 hw hK 2 rfl rfl 2 (by decide) (List.mem_of_getElem? (i := 3) rfl) rfl dX2_keepNeeded_22 ?_
        refine lv_iload_n hx hb dX2_keepNeeded_25 rfl (lv_at hl 0 rfl) ?_
        refine cs_vir hF (c_X3_at l D cy ad S 7 v2 (by decide)) (cwV 1 hts g_X2_37 rfl rfl rfl kk_X3_at ⟨Nat.le_of_ble_eq_true rfl, Nat.le_of_ble_eq_true rfl⟩) (cs_recvR hK hw (by decide)) hw hK hS rfl hl.1 [] rfl (Nat.le_of_ble_eq_true rfl) dX2_keepNeeded_26 (fun r_3 H locs hq hw hS => ?_)
        replace hE := cs_letE hq hE
        clear hq
        refine lv_istore_n (lv' := [(3, .int r_3), (2, .int v2), (1, .int v1), (0, .ref (ad 5))]) hx hb dX2_keepNeeded_29 rfl hl (by decide) rfl (fun ls hl => ?_)
        refine lv_aload_n hx hb dX2_keepNeeded_30 rfl (lv_at hl 3 rfl) ?_
        refine cs_get (C := RX2) (T := TX2) (N := 4) hF in_X2 hw hK 5 rfl rfl 2 (by decide) q_67 rfl dX2_keepNeeded_31 ?_
        refine lv_iload_n hx hb dX2_keepNeeded_34 rfl (lv_at hl 0 rfl) ?_
        refine cs_vir hF (c_X3_at l D cy ad S 17 r_3 (by decide)) (cwV 1 hts g_X2_37 rfl rfl rfl kk_X3_at ⟨Nat.le_of_ble_eq_true rfl, Nat.le_of_ble_eq_true rfl⟩) (cs_recvR hK hw (by decide)) hw hK hS rfl hl.1 [] rfl (Nat.le_of_ble_eq_true rfl) dX2_keepNeeded_35 (fun r_4 H locs hq hw hS => ?_)
        replace hE := cs_letE hq hE
        clear hq
        refine lv_iconst (v := 1) hx hb dX2_keepNeeded_38 (by decide) ?_
        refine lv_icmp_ne (tgt := 99) hx hb dX2_keepNeeded_39 (by decide) (fun c_5 => ?_) (fun c_5 => ?_)
        · replace hE := cs_F c_5 hE
          refine lv_iinc (v := v2 + 1) (lv' := [(2, .int (v2 + 1)), (3, .int r_3), (1, .int v1), (0, .ref (ad 5))]) hx hb dX2_keepNeeded_99 hl (k := 1) rfl rfl (by decide) rfl (fun ls hl => ?_)
          refine lv_goto (tgt := 4) hx hb dX2_keepNeeded_102 (by decide) ?_
          exact ih v1 (v2 + 1) S _ _ hw hS _ (lv_sub hl [0, 2, 3] rfl) (cs_up hm.1 c_2) hE
        · replace hE := cs_T c_5 hE
          refine lv_iload_n hx hb dX2_keepNeeded_42 rfl (lv_at hl 2 rfl) ?_
          refine lv_if_eq (tgt := 65) hx hb dX2_keepNeeded_43 (by decide) (fun c_6 => ?_) (fun c_6 => ?_)
          · replace hE := cs_T c_6 hE
            refine lv_iconst (v := 1) hx hb dX2_keepNeeded_65 (by decide) ?_
            refine lv_goto (tgt := 70) hx hb dX2_keepNeeded_66 (by decide) ?_
            refine lv_istore (lv' := [(4, .int 1), (3, .int r_3), (2, .int v2), (1, .int v1), (0, .ref (ad 5))]) hx hb dX2_keepNeeded_70 hl (by decide) rfl (fun ls hl => ?_)
            refine lv_iload hx hb dX2_keepNeeded_72 (lv_at hl 0 rfl) ?_
            refine lv_if_ne (tgt := 89) hx hb dX2_keepNeeded_74 (by decide) (fun c_7 => ?_) (fun c_7 => False.elim (by revert c_7; decide))
            refine lv_aload_n hx hb dX2_keepNeeded_89 rfl (lv_at hl 4 rfl) ?_
            refine cs_get (C := RX2) (T := TX2) (N := 4) hF in_X2 hw hK 5 rfl rfl 3 (by decide) q_68 rfl dX2_keepNeeded_90 ?_
            refine lv_iload_n hx hb dX2_keepNeeded_93 rfl (lv_at hl 1 rfl) ?_
            refine cs_vv hF (c_X3_append l D cy ad S 18 r_3 (by decide) (by decide)) (cwV 1 hts g_X2_63 rfl rfl rfl kk_X3_append ⟨Nat.le_of_ble_eq_true rfl, Nat.le_of_ble_eq_true rfl⟩) (cs_recvR hK hw (by decide)) hw hK hS rfl hl.1 [] rfl (Nat.le_of_ble_eq_true rfl) dX2_keepNeeded_94 (fun S_8 H locs hq hw hS => ?_)
            replace hE := cs_letE hq hE
            clear hq
            refine lv_iload_n hx hb dX2_keepNeeded_97 rfl (lv_at hl 1 rfl) ?_
            refine lv_istore_n (lv' := [(1, .int r_3), (4, .int 1), (3, .int r_3), (2, .int v2), (0, .ref (ad 5))]) hx hb dX2_keepNeeded_98 rfl hl (by decide) rfl (fun ls hl => ?_)
            refine lv_iinc (v := v2 + 1) (lv' := [(2, .int (v2 + 1)), (1, .int r_3), (4, .int 1), (3, .int r_3), (0, .ref (ad 5))]) hx hb dX2_keepNeeded_99 hl (k := 3) rfl rfl (by decide) rfl (fun ls hl => ?_)
            refine lv_goto (tgt := 4) hx hb dX2_keepNeeded_102 (by decide) ?_
            exact ih r_3 (v2 + 1) S_8 _ _ hw hS _ (lv_sub hl [0, 1, 4] rfl) (cs_up hm.1 c_2) hE
          · replace hE := cs_F c_6 hE
            refine lv_aload_n hx hb dX2_keepNeeded_46 rfl (lv_at hl 3 rfl) ?_
            refine cs_get (C := RX2) (T := TX2) (N := 4) hF in_X2 hw hK 5 rfl rfl 0 (by decide) q_69 rfl dX2_keepNeeded_47 ?_
            refine lv_iload_n hx hb dX2_keepNeeded_50 rfl (lv_at hl 2 rfl) ?_
            refine cs_vir hF (c_X1_key l D cy ad S v1) (cwV 1 hts g_X2_54 rfl rfl rfl kk_X1_key ⟨Nat.le_of_ble_eq_true rfl, Nat.le_of_ble_eq_true rfl⟩) (cs_recv hK hw (ci := 1) 2 rfl rfl) hw hK hS rfl hl.1 [] rfl (Nat.le_of_ble_eq_true rfl) dX2_keepNeeded_51 (fun r_9 H locs hq hw hS => ?_)
            replace hE := cs_letE hq hE
            clear hq
            refine lv_aload_n hx hb dX2_keepNeeded_54 rfl (lv_at hl 3 rfl) ?_
            refine cs_get (C := RX2) (T := TX2) (N := 4) hF in_X2 hw hK 5 rfl rfl 0 (by decide) q_69 rfl dX2_keepNeeded_55 ?_
            refine lv_iload_n hx hb dX2_keepNeeded_58 rfl (lv_at hl 0 rfl) ?_
            refine cs_vir hF (c_X1_key l D cy ad S r_3) (cwV 1 hts g_X2_54 rfl rfl rfl kk_X1_key ⟨Nat.le_of_ble_eq_true rfl, Nat.le_of_ble_eq_true rfl⟩) (cs_recv hK hw (ci := 1) 2 rfl rfl) hw hK hS rfl hl.1 [.int r_9] rfl (Nat.le_of_ble_eq_true rfl) dX2_keepNeeded_59 (fun r_10 H locs hq hw hS => ?_)
            replace hE := cs_letE hq hE
            clear hq
            refine lv_icmp_eq (tgt := 69) hx hb dX2_keepNeeded_62 (by decide) (fun c_11 => ?_) (fun c_11 => ?_)
            · replace hE := cs_T c_11 hE
              refine lv_iconst (v := 0) hx hb dX2_keepNeeded_69 (by decide) ?_
              refine lv_istore (lv' := [(4, .int 0), (3, .int r_3), (2, .int v2), (1, .int v1), (0, .ref (ad 5))]) hx hb dX2_keepNeeded_70 hl (by decide) rfl (fun ls hl => ?_)
              refine lv_iload hx hb dX2_keepNeeded_72 (lv_at hl 0 rfl) ?_
              refine lv_if_ne (tgt := 89) hx hb dX2_keepNeeded_74 (by decide) (fun c_12 => False.elim (by revert c_12; decide)) (fun c_12 => ?_)
              refine lv_aload_n hx hb dX2_keepNeeded_77 rfl (lv_at hl 4 rfl) ?_
              refine cs_get (C := RX2) (T := TX2) (N := 4) hF in_X2 hw hK 5 rfl rfl 1 (by decide) q_70 rfl dX2_keepNeeded_78 ?_
              refine lv_iload_n hx hb dX2_keepNeeded_81 rfl (lv_at hl 1 rfl) ?_
              refine lv_iload_n hx hb dX2_keepNeeded_82 rfl (lv_at hl 3 rfl) ?_
              refine cs_vir hF (c_X5_see l D cy ad S r_3 v1) (cwV 2 hts g_X2_57 rfl rfl rfl kk_X5_see ⟨Nat.le_of_ble_eq_true rfl, Nat.le_of_ble_eq_true rfl⟩) (cs_recv hK hw (ci := 5) 3 rfl rfl) hw hK hS rfl hl.1 [] rfl (Nat.le_of_ble_eq_true rfl) dX2_keepNeeded_83 (fun r_13 H locs hq hw hS => ?_)
              replace hE := cs_letE hq hE
              clear hq
              refine lv_if_eq (tgt := 97) hx hb dX2_keepNeeded_86 (by decide) (fun c_14 => ?_) (fun c_14 => ?_)
              · replace hE := cs_T c_14 hE
                refine lv_iload_n hx hb dX2_keepNeeded_97 rfl (lv_at hl 1 rfl) ?_
                refine lv_istore_n (lv' := [(1, .int r_3), (4, .int 0), (3, .int r_3), (2, .int v2), (0, .ref (ad 5))]) hx hb dX2_keepNeeded_98 rfl hl (by decide) rfl (fun ls hl => ?_)
                refine lv_iinc (v := v2 + 1) (lv' := [(2, .int (v2 + 1)), (1, .int r_3), (4, .int 0), (3, .int r_3), (0, .ref (ad 5))]) hx hb dX2_keepNeeded_99 hl (k := 3) rfl rfl (by decide) rfl (fun ls hl => ?_)
                refine lv_goto (tgt := 4) hx hb dX2_keepNeeded_102 (by decide) ?_
                exact ih r_3 (v2 + 1) S _ _ hw hS _ (lv_sub hl [0, 1, 4] rfl) (cs_up hm.1 c_2) hE
              · replace hE := cs_F c_14 hE
                refine lv_aload_n hx hb dX2_keepNeeded_89 rfl (lv_at hl 4 rfl) ?_
                refine cs_get (C := RX2) (T := TX2) (N := 4) hF in_X2 hw hK 5 rfl rfl 3 (by decide) q_68 rfl dX2_keepNeeded_90 ?_
                refine lv_iload_n hx hb dX2_keepNeeded_93 rfl (lv_at hl 1 rfl) ?_
                refine cs_vv hF (c_X3_append l D cy ad S 18 r_3 (by decide) (by decide)) (cwV 1 hts g_X2_63 rfl rfl rfl kk_X3_append ⟨Nat.le_of_ble_eq_true rfl, Nat.le_of_ble_eq_true rfl⟩) (cs_recvR hK hw (by decide)) hw hK hS rfl hl.1 [] rfl (Nat.le_of_ble_eq_true rfl) dX2_keepNeeded_94 (fun S_15 H locs hq hw hS => ?_)
                replace hE := cs_letE hq hE
                clear hq
                refine lv_iload_n hx hb dX2_keepNeeded_97 rfl (lv_at hl 1 rfl) ?_
                refine lv_istore_n (lv' := [(1, .int r_3), (4, .int 0), (3, .int r_3), (2, .int v2), (0, .ref (ad 5))]) hx hb dX2_keepNeeded_98 rfl hl (by decide) rfl (fun ls hl => ?_)
                refine lv_iinc (v := v2 + 1) (lv' := [(2, .int (v2 + 1)), (1, .int r_3), (4, .int 0), (3, .int r_3), (0, .ref (ad 5))]) hx hb dX2_keepNeeded_99 hl (k := 3) rfl rfl (by decide) rfl (fun ls hl => ?_)
                refine lv_goto (tgt := 4) hx hb dX2_keepNeeded_102 (by decide) ?_
                exact ih r_3 (v2 + 1) S_15 _ _ hw hS _ (lv_sub hl [0, 1, 4] rfl) (cs_up hm.1 c_2) hE
            · replace hE := cs_F c_11 hE
              refine lv_iconst (v := 1) hx hb dX2_keepNeeded_65 (by decide) ?_
              refine lv_goto (tgt := 70) hx hb dX2_keepNeeded_66 (by decide) ?_
              refine lv_istore (lv' := [(4, .int 1), (3, .int r_3), (2, .int v2), (1, .int v1), (0, .ref (ad 5))]) hx hb dX2_keepNeeded_70 hl (by decide) rfl (fun ls hl => ?_)
              refine lv_iload hx hb dX2_keepNeeded_72 (lv_at hl 0 rfl) ?_
              refine lv_if_ne (tgt := 89) hx hb dX2_keepNeeded_74 (by decide) (fun c_16 => ?_) (fun c_16 => False.elim (by revert c_16; decide))
              refine lv_aload_n hx hb dX2_keepNeeded_89 rfl (lv_at hl 4 rfl) ?_
              refine cs_get (C := RX2) (T := TX2) (N := 4) hF in_X2 hw hK 5 rfl rfl 3 (by decide) q_68 rfl dX2_keepNeeded_90 ?_
              refine lv_iload_n hx hb dX2_keepNeeded_93 rfl (lv_at hl 1 rfl) ?_
              refine cs_vv hF (c_X3_append l D cy ad S 18 r_3 (by decide) (by decide)) (cwV 1 hts g_X2_63 rfl rfl rfl kk_X3_append ⟨Nat.le_of_ble_eq_true rfl, Nat.le_of_ble_eq_true rfl⟩) (cs_recvR hK hw (by decide)) hw hK hS rfl hl.1 [] rfl (Nat.le_of_ble_eq_true rfl) dX2_keepNeeded_94 (fun S_17 H locs hq hw hS => ?_)
              replace hE := cs_letE hq hE
              clear hq
              refine lv_iload_n hx hb dX2_keepNeeded_97 rfl (lv_at hl 1 rfl) ?_
              refine lv_istore_n (lv' := [(1, .int r_3), (4, .int 1), (3, .int r_3), (2, .int v2), (0, .ref (ad 5))]) hx hb dX2_keepNeeded_98 rfl hl (by decide) rfl (fun ls hl => ?_)
              refine lv_iinc (v := v2 + 1) (lv' := [(2, .int (v2 + 1)), (1, .int r_3), (4, .int 1), (3, .int r_3), (0, .ref (ad 5))]) hx hb dX2_keepNeeded_99 hl (k := 3) rfl rfl (by decide) rfl (fun ls hl => ?_)
              refine lv_goto (tgt := 4) hx hb dX2_keepNeeded_102 (by decide) ?_
              exact ih r_3 (v2 + 1) S_17 _ _ hw hS _ (lv_sub hl [0, 1, 4] rfl) (cs_up hm.1 c_2) hE
  exact lp cs_N 0 0 S _ _ hw hS _ (lv_sub hl [0, 1, 2] rfl) (cs_up0 0) hq.symm
theorem kk_X2_keepNeeded : yX2_keepNeeded.cls = RX2 ∧ yX2_keepNeeded.cls ≠ "java/lang/invoke/MethodHandle" ∧ yX2_keepNeeded.cls ≠ "java/lang/invoke/VarHandle" ∧ (parseMethodDescriptor yX2_keepNeeded.desc).map (fun d => d.parameters.length) = some 0 := by decide +kernel
theorem g_X2_66 : GoodIn cs_WS (wsV RX2 66 RX1 yX1_isStone (cs_ws yX1_isStone cX1_isStone 2 (some .boolean))) := cs_goodV q_100 q_101 q_102 q_91 q_53
def m_X2_keepThere_L4 (u1 : Int32) : Nat → Int32 → Int32 → cs_St → Int32 × Int32 × cs_St
  | 0, _, _, S => (0, 0, S)
  | n + 1, v2, v3, S => cs_let (m_X3_length S 7) (fun r_1 => (if r_1 ≤ v3 then (v2, v3, S) else cs_let (m_X3_at S 7 v3) (fun r_3 => cs_let (m_X1_key S r_3) (fun r_4 => cs_let (m_X3_at S 17 r_3) (fun r_5 => (if r_5 = 1 then (if u1 < r_3 then m_X2_keepThere_L4 u1 n v2 (v3 + 1) S else (if r_4 = v2 then m_X2_keepThere_L4 u1 n v2 (v3 + 1) S else cs_let (m_X1_isStone S r_3) (fun r_9 => (if r_9 = 0 then cs_let (m_X3_append S 18 r_3) (fun S_11 => m_X2_keepThere_L4 u1 n r_4 (v3 + 1) S_11) else m_X2_keepThere_L4 u1 n r_4 (v3 + 1) S)))) else m_X2_keepThere_L4 u1 n v2 (v3 + 1) S))))))
theorem m_X2_keepThere_L4_s {u1 : Int32} {n : Nat} {v2 : Int32} {v3 : Int32} {S : cs_St} : m_X2_keepThere_L4 u1 (n + 1) v2 v3 S = cs_let (m_X3_length S 7) (fun r_1 => (if r_1 ≤ v3 then (v2, v3, S) else cs_let (m_X3_at S 7 v3) (fun r_3 => cs_let (m_X1_key S r_3) (fun r_4 => cs_let (m_X3_at S 17 r_3) (fun r_5 => (if r_5 = 1 then (if u1 < r_3 then m_X2_keepThere_L4 u1 n v2 (v3 + 1) S else (if r_4 = v2 then m_X2_keepThere_L4 u1 n v2 (v3 + 1) S else cs_let (m_X1_isStone S r_3) (fun r_9 => (if r_9 = 0 then cs_let (m_X3_append S 18 r_3) (fun S_11 => m_X2_keepThere_L4 u1 n r_4 (v3 + 1) S_11) else m_X2_keepThere_L4 u1 n r_4 (v3 + 1) S)))) else m_X2_keepThere_L4 u1 n v2 (v3 + 1) S)))))) := rfl
def m_X2_keepThere (S : cs_St) (a1 : Int32) : cs_St := cs_let (m_X2_keepThere_L4 a1 cs_N (-1) 0 S) (fun T_12 => T_12.2.2)
set_option maxHeartbeats 4000000 in
set_option maxRecDepth 100000 in
theorem c_X2_keepThere (l : Launch) (D : va_G) (cy : ClassId) (ad : Nat → Nat) (S : cs_St) (a1 : Int32) : Met l yX2_keepThere (cs_ws yX2_keepThere cX2_keepThere 6 none) (cs_rm 2 42) (cs_Pc D cy ad [.ref (ad 5), .int a1] S) (cs_Qv D cy ad (fun S1 => S1 = m_X2_keepThere S a1)) 0 0 (cs_A ad) := by
  refine cs_of RX2 (by decide) rfl (Nat.le_of_ble_eq_true rfl) ?_
  intro p e s m below meth c hF hr hlk hw hK ls hl
  obtain ⟨hx, hb, hml, hown, hts⟩ := id hF
  have hS : va_S (cs_A ad) s.heap s.heap [] := va_S.rf
  have hl : lv_has ls 6 [(0, .ref (ad 5)), (1, .int a1)] := hl
  generalize hRes : m_X2_keepThere S a1 = Res
  unfold m_X2_keepThere at hRes
  refine lv_iconst (v := -1) hx hb dX2_keepThere_0 (by decide) ?_
  refine lv_istore_n (lv' := [(2, .int (-1)), (0, .ref (ad 5)), (1, .int a1)]) hx hb dX2_keepThere_1 rfl hl (by decide) rfl (fun ls hl => ?_)
  refine lv_iconst (v := 0) hx hb dX2_keepThere_2 (by decide) ?_
  refine lv_istore_n (lv' := [(3, .int 0), (2, .int (-1)), (0, .ref (ad 5)), (1, .int a1)]) hx hb dX2_keepThere_3 rfl hl (by decide) rfl (fun ls hl => ?_)
  -- the loop at 4
  obtain ⟨T_12, hq⟩ : ∃ z, z = m_X2_keepThere_L4 a1 cs_N (-1) 0 S := ⟨_, rfl⟩
  replace hRes := cs_letE hq hRes
  have hk : ∀ (H : Heap) (locs : List Loc) (ls : Array Slot), cs_w D cy ad T_12.2.2 H → va_S (cs_A ad) s.heap H locs → lv_has ls 6 [(3, .int T_12.2.1), (2, .int T_12.1), (0, .ref (ad 5)), (1, .int a1)] → W p l e (cs_rm 2 42) s m ([.ref (ad 5), .int a1]).toArray below meth c H locs 0 0 (MQ below (cs_Qv D cy ad (fun S1 => S1 = Res)) ([.ref (ad 5), .int a1]).toArray s 0 0 (cs_A ad)) (F0 m 97 ls []) := by
    intro H locs ls hw hS hl
    exact cs_vret hF hr hlk hw hK hS dX2_keepThere_97 hRes
  have lp : ∀ (n : Nat) (v2 : Int32) (v3 : Int32) (S : cs_St) (H : Heap) (locs : List Loc), cs_w D cy ad S H → va_S (cs_A ad) s.heap H locs → ∀ (ls : Array Slot), lv_has ls 6 [(3, .int v3), (2, .int v2), (0, .ref (ad 5)), (1, .int a1)] → (2147483647 - v3.toInt < (n : Int) ∧ 0 < n) → m_X2_keepThere_L4 a1 n v2 v3 S = T_12 → W p l e (cs_rm 2 42) s m ([.ref (ad 5), .int a1]).toArray below meth c H locs 0 0 (MQ below (cs_Qv D cy ad (fun S1 => S1 = Res)) ([.ref (ad 5), .int a1]).toArray s 0 0 (cs_A ad)) (F0 m 4 ls []) := by
    intro n
    induction n with
    | zero => intro v2 v3 S H locs hw hS ls hl hm; exact absurd hm.2 (Nat.lt_irrefl 0)
    | succ n ih =>
      intro v2 v3 S H locs hw hS ls hl hm hE
      replace hE := m_X2_keepThere_L4_s.symm.trans hE
      refine lv_iload_n hx hb dX2_keepThere_4 rfl (lv_at hl 0 rfl) ?_
      refine lv_aload_n hx hb dX2_keepThere_5 rfl (lv_at hl 2 rfl) ?_
      refine cs_get (C := RX2) (T := TX2) (N := 4) hF in_X2 hw hK 5 rfl rfl 0 (by decide) q_69 rfl dX2_keepThere_6 ?_
      refine cs_getN (C := RX1) (T := TX1) (N := 3) hF in_X1 hw hK 2 rfl rfl 2 (by decide) (List.mem_of_getElem? (i := 3) rfl) rfl dX2_keepThere_9 ?_
      refine cs_vir hF (c_X3_length l D cy ad S 7 (by decide)) (cwV 0 hts g_X2_50 rfl rfl rfl kk_X3_length ⟨Nat.le_of_ble_eq_true rfl, Nat.le_of_ble_eq_true rfl⟩) (cs_recvR hK hw (by decide)) hw hK hS rfl hl.1 [.int v3] rfl (Nat.le_of_ble_eq_true rfl) dX2_keepThere_12 (fun r_1 H locs hq hw hS => ?_)
      replace hE := cs_letE hq hE
      clear hq
      refine lv_icmp_ge (tgt := 97) hx hb dX2_keepThere_15 (by decide) (fun c_2 => ?_) (fun c_2 => ?_)
      · replace hE := cs_T c_2 hE
        subst hE
        exact hk _ _ _ hw hS (lv_sub hl [0, 1, 2, 3] rfl)
      · replace hE := cs_F c_2 hE
        refine lv_aload_n hx hb dX2_keepThere_18 rfl (lv_at hl 2 rfl) ?_
        refine cs_get (C := RX2) (T := TX2) (N := 4) hF in_X2 hw hK 5 rfl rfl 0 (by decide) q_69 rfl dX2_keepThere_19 ?_
        refine cs_getN (C := RX1) (T := TX1) (N := 3) hF in_X1 hw hK 2 rfl rfl 2 (by decide) (List.mem_of_getElem? (i := 3) rfl) rfl dX2_keepThere_22 ?_
        refine lv_iload_n hx hb dX2_keepThere_25 rfl (lv_at hl 0 rfl) ?_
        refine cs_vir hF (c_X3_at l D cy ad S 7 v3 (by decide)) (cwV 1 hts g_X2_37 rfl rfl rfl kk_X3_at ⟨Nat.le_of_ble_eq_true rfl, Nat.le_of_ble_eq_true rfl⟩) (cs_recvR hK hw (by decide)) hw hK hS rfl hl.1 [] rfl (Nat.le_of_ble_eq_true rfl) dX2_keepThere_26 (fun r_3 H locs hq hw hS => ?_)
        replace hE := cs_letE hq hE
        clear hq
        refine lv_istore (lv' := [(4, .int r_3), (3, .int v3), (2, .int v2), (0, .ref (ad 5)), (1, .int a1)]) hx hb dX2_keepThere_29 hl (by decide) rfl (fun ls hl => ?_)
        refine lv_aload_n hx hb dX2_keepThere_31 rfl (lv_at hl 3 rfl) ?_
        refine cs_get (C := RX2) (T := TX2) (N := 4) hF in_X2 hw hK 5 rfl rfl 0 (by decide) q_69 rfl dX2_keepThere_32 ?_
        refine lv_iload hx hb dX2_keepThere_35 (lv_at hl 0 rfl) ?_
        refine cs_vir hF (c_X1_key l D cy ad S r_3) (cwV 1 hts g_X2_54 rfl rfl rfl kk_X1_key ⟨Nat.le_of_ble_eq_true rfl, Nat.le_of_ble_eq_true rfl⟩) (cs_recv hK hw (ci := 1) 2 rfl rfl) hw hK hS rfl hl.1 [] rfl (Nat.le_of_ble_eq_true rfl) dX2_keepThere_37 (fun r_4 H locs hq hw hS => ?_)
        replace hE := cs_letE hq hE
        clear hq
        refine lv_istore (lv' := [(5, .int r_4), (4, .int r_3), (3, .int v3), (2, .int v2), (0, .ref (ad 5)), (1, .int a1)]) hx hb dX2_keepThere_40 hl (by decide) rfl (fun ls hl => ?_)
        refine lv_aload_n hx hb dX2_keepThere_42 rfl (lv_at hl 4 rfl) ?_
        refine cs_get (C := RX2) (T := TX2) (N := 4) hF in_X2 hw hK 5 rfl rfl 2 (by decide) q_67 rfl dX2_keepThere_43 ?_
        refine lv_iload hx hb dX2_keepThere_46 (lv_at hl 1 rfl) ?_
        refine cs_vir hF (c_X3_at l D cy ad S 17 r_3 (by decide)) (cwV 1 hts g_X2_37 rfl rfl rfl kk_X3_at ⟨Nat.le_of_ble_eq_true rfl, Nat.le_of_ble_eq_true rfl⟩) (cs_recvR hK hw (by decide)) hw hK hS rfl hl.1 [] rfl (Nat.le_of_ble_eq_true rfl) dX2_keepThere_48 (fun r_5 H locs hq hw hS => ?_)
        replace hE := cs_letE hq hE
        clear hq
        refine lv_iconst (v := 1) hx hb dX2_keepThere_51 (by decide) ?_
        refine lv_icmp_ne (tgt := 91) hx hb dX2_keepThere_52 (by decide) (fun c_6 => ?_) (fun c_6 => ?_)
        · replace hE := cs_F c_6 hE
          refine lv_iinc (v := v3 + 1) (lv' := [(3, .int (v3 + 1)), (5, .int r_4), (4, .int r_3), (2, .int v2), (0, .ref (ad 5)), (1, .int a1)]) hx hb dX2_keepThere_91 hl (k := 2) rfl rfl (by decide) rfl (fun ls hl => ?_)
          refine lv_goto (tgt := 4) hx hb dX2_keepThere_94 (by decide) ?_
          exact ih v2 (v3 + 1) S _ _ hw hS _ (lv_sub hl [0, 3, 4, 5] rfl) (cs_up hm.1 c_2) hE
        · replace hE := cs_T c_6 hE
          refine lv_iload hx hb dX2_keepThere_55 (lv_at hl 1 rfl) ?_
          refine lv_iload_n hx hb dX2_keepThere_57 rfl (lv_at hl 5 rfl) ?_
          refine lv_icmp_gt (tgt := 91) hx hb dX2_keepThere_58 (by decide) (fun c_7 => ?_) (fun c_7 => ?_)
          · replace hE := cs_T c_7 hE
            refine lv_iinc (v := v3 + 1) (lv' := [(3, .int (v3 + 1)), (5, .int r_4), (4, .int r_3), (2, .int v2), (0, .ref (ad 5)), (1, .int a1)]) hx hb dX2_keepThere_91 hl (k := 2) rfl rfl (by decide) rfl (fun ls hl => ?_)
            refine lv_goto (tgt := 4) hx hb dX2_keepThere_94 (by decide) ?_
            exact ih v2 (v3 + 1) S _ _ hw hS _ (lv_sub hl [0, 3, 4, 5] rfl) (cs_up hm.1 c_2) hE
          · replace hE := cs_F c_7 hE
            refine lv_iload hx hb dX2_keepThere_61 (lv_at hl 0 rfl) ?_
            refine lv_iload_n hx hb dX2_keepThere_63 rfl (lv_at hl 3 rfl) ?_
            refine lv_icmp_eq (tgt := 91) hx hb dX2_keepThere_64 (by decide) (fun c_8 => ?_) (fun c_8 => ?_)
            · replace hE := cs_T c_8 hE
              refine lv_iinc (v := v3 + 1) (lv' := [(3, .int (v3 + 1)), (5, .int r_4), (4, .int r_3), (2, .int v2), (0, .ref (ad 5)), (1, .int a1)]) hx hb dX2_keepThere_91 hl (k := 2) rfl rfl (by decide) rfl (fun ls hl => ?_)
              refine lv_goto (tgt := 4) hx hb dX2_keepThere_94 (by decide) ?_
              exact ih v2 (v3 + 1) S _ _ hw hS _ (lv_sub hl [0, 3, 4, 5] rfl) (cs_up hm.1 c_2) hE
            · replace hE := cs_F c_8 hE
              refine lv_iload hx hb dX2_keepThere_67 (lv_at hl 0 rfl) ?_
              refine lv_istore_n (lv' := [(2, .int r_4), (5, .int r_4), (4, .int r_3), (3, .int v3), (0, .ref (ad 5)), (1, .int a1)]) hx hb dX2_keepThere_69 rfl hl (by decide) rfl (fun ls hl => ?_)
              refine lv_aload_n hx hb dX2_keepThere_70 rfl (lv_at hl 4 rfl) ?_
              refine cs_get (C := RX2) (T := TX2) (N := 4) hF in_X2 hw hK 5 rfl rfl 0 (by decide) q_69 rfl dX2_keepThere_71 ?_
              refine lv_iload hx hb dX2_keepThere_74 (lv_at hl 2 rfl) ?_
              refine cs_vir hF (c_X1_isStone l D cy ad S r_3) (cwV 1 hts g_X2_66 rfl rfl rfl kk_X1_isStone ⟨Nat.le_of_ble_eq_true rfl, Nat.le_of_ble_eq_true rfl⟩) (cs_recv hK hw (ci := 1) 2 rfl rfl) hw hK hS rfl hl.1 [] rfl (Nat.le_of_ble_eq_true rfl) dX2_keepThere_76 (fun r_9 H locs hq hw hS => ?_)
              replace hE := cs_letE hq hE
              clear hq
              refine lv_if_ne (tgt := 91) hx hb dX2_keepThere_79 (by decide) (fun c_10 => ?_) (fun c_10 => ?_)
              · replace hE := cs_F c_10 hE
                refine lv_iinc (v := v3 + 1) (lv' := [(3, .int (v3 + 1)), (2, .int r_4), (5, .int r_4), (4, .int r_3), (0, .ref (ad 5)), (1, .int a1)]) hx hb dX2_keepThere_91 hl (k := 3) rfl rfl (by decide) rfl (fun ls hl => ?_)
                refine lv_goto (tgt := 4) hx hb dX2_keepThere_94 (by decide) ?_
                exact ih r_4 (v3 + 1) S _ _ hw hS _ (lv_sub hl [0, 1, 4, 5] rfl) (cs_up hm.1 c_2) hE
              · replace hE := cs_T c_10 hE
                refine lv_aload_n hx hb dX2_keepThere_82 rfl (lv_at hl 4 rfl) ?_
                refine cs_get (C := RX2) (T := TX2) (N := 4) hF in_X2 hw hK 5 rfl rfl 3 (by decide) q_68 rfl dX2_keepThere_83 ?_
                refine lv_iload hx hb dX2_keepThere_86 (lv_at hl 2 rfl) ?_
                refine cs_vv hF (c_X3_append l D cy ad S 18 r_3 (by decide) (by decide)) (cwV 1 hts g_X2_63 rfl rfl rfl kk_X3_append ⟨Nat.le_of_ble_eq_true rfl, Nat.le_of_ble_eq_true rfl⟩) (cs_recvR hK hw (by decide)) hw hK hS rfl hl.1 [] rfl (Nat.le_of_ble_eq_true rfl) dX2_keepThere_88 (fun S_11 H locs hq hw hS => ?_)
                replace hE := cs_letE hq hE
                clear hq
                refine lv_iinc (v := v3 + 1) (lv' := [(3, .int (v3 + 1)), (2, .int r_4), (5, .int r_4), (4, .int r_3), (0, .ref (ad 5)), (1, .int a1)]) hx hb dX2_keepThere_91 hl (k := 3) rfl rfl (by decide) rfl (fun ls hl => ?_)
                refine lv_goto (tgt := 4) hx hb dX2_keepThere_94 (by decide) ?_
                exact ih r_4 (v3 + 1) S_11 _ _ hw hS _ (lv_sub hl [0, 1, 4, 5] rfl) (cs_up hm.1 c_2) hE
  exact lp cs_N (-1) 0 S _ _ hw hS _ (lv_sub hl [0, 1, 2, 3] rfl) (cs_up0 0) hq.symm
theorem kk_X2_keepThere : yX2_keepThere.cls = RX2 ∧ yX2_keepThere.cls ≠ "java/lang/invoke/MethodHandle" ∧ yX2_keepThere.cls ≠ "java/lang/invoke/VarHandle" ∧ (parseMethodDescriptor yX2_keepThere.desc).map (fun d => d.parameters.length) = some 1 := by decide +kernel
theorem g_X2_70 : GoodIn cs_WS (wsV RX2 70 RX1 yX1_newest (cs_ws yX1_newest cX1_newest 1 (some .int))) := cs_goodV q_104 q_105 q_106 q_91 q_46
theorem g_X2_73 : GoodIn cs_WS (wsV RX2 73 RX1 yX1_find (cs_ws yX1_find cX1_find 8 (some .int))) := cs_goodV q_107 q_108 q_109 q_91 q_63
theorem g_X2_77 : GoodIn cs_WS (wsV RX2 77 RX3 yX3_cut (cs_ws yX3_cut cX3_cut 3 none)) := cs_goodV q_110 q_30 q_31 q_10 q_23
def m_X2_dropStones_L16 (j1 : Nat) (u2 : Int32) : Nat → Int32 → Int32 → Int32 → cs_St → Int32 × Int32 × Int32 × cs_St
  | 0, _, _, _, S => (0, 0, 0, S)
  | n + 1, v3, v4, v5, S => (if v5 < 0 then (v3, v4, v5, S) else cs_let (m_X3_at S 18 v5) (fun r_3 => cs_let (m_X1_key S r_3) (fun r_4 => (if v4 = 0 then (if r_4 = v3 then m_X2_dropStones_L16 j1 u2 n r_4 0 (v5 + (-1)) S else cs_let (m_X1_isStone S r_3) (fun r_17 => (if r_17 = 0 then m_X2_dropStones_L16 j1 u2 n r_4 0 (v5 + (-1)) S else cs_let (m_X3_length S j1) (fun r_19 => cs_let (m_X1_newest S) (fun r_20 => cs_let (m_X1_find S j1 u2 r_19 r_4 r_20) (fun r_21 => (if r_21 = 0 then cs_let (m_X3_cut S 18 v5 (v5 + 1)) (fun S_23 => m_X2_dropStones_L16 j1 u2 n r_4 1 (v5 + (-1)) S_23) else m_X2_dropStones_L16 j1 u2 n r_4 0 (v5 + (-1)) S))))))) else cs_let (m_X1_isStone S r_3) (fun r_7 => (if r_7 = 0 then m_X2_dropStones_L16 j1 u2 n r_4 0 (v5 + (-1)) S else cs_let (m_X3_length S j1) (fun r_9 => cs_let (m_X1_newest S) (fun r_10 => cs_let (m_X1_find S j1 u2 r_9 r_4 r_10) (fun r_11 => (if r_11 = 0 then cs_let (m_X3_cut S 18 v5 (v5 + 1)) (fun S_13 => m_X2_dropStones_L16 j1 u2 n r_4 1 (v5 + (-1)) S_13) else m_X2_dropStones_L16 j1 u2 n r_4 0 (v5 + (-1)) S))))))))))
theorem m_X2_dropStones_L16_s {j1 : Nat} {u2 : Int32} {n : Nat} {v3 : Int32} {v4 : Int32} {v5 : Int32} {S : cs_St} : m_X2_dropStones_L16 j1 u2 (n + 1) v3 v4 v5 S = (if v5 < 0 then (v3, v4, v5, S) else cs_let (m_X3_at S 18 v5) (fun r_3 => cs_let (m_X1_key S r_3) (fun r_4 => (if v4 = 0 then (if r_4 = v3 then m_X2_dropStones_L16 j1 u2 n r_4 0 (v5 + (-1)) S else cs_let (m_X1_isStone S r_3) (fun r_17 => (if r_17 = 0 then m_X2_dropStones_L16 j1 u2 n r_4 0 (v5 + (-1)) S else cs_let (m_X3_length S j1) (fun r_19 => cs_let (m_X1_newest S) (fun r_20 => cs_let (m_X1_find S j1 u2 r_19 r_4 r_20) (fun r_21 => (if r_21 = 0 then cs_let (m_X3_cut S 18 v5 (v5 + 1)) (fun S_23 => m_X2_dropStones_L16 j1 u2 n r_4 1 (v5 + (-1)) S_23) else m_X2_dropStones_L16 j1 u2 n r_4 0 (v5 + (-1)) S))))))) else cs_let (m_X1_isStone S r_3) (fun r_7 => (if r_7 = 0 then m_X2_dropStones_L16 j1 u2 n r_4 0 (v5 + (-1)) S else cs_let (m_X3_length S j1) (fun r_9 => cs_let (m_X1_newest S) (fun r_10 => cs_let (m_X1_find S j1 u2 r_9 r_4 r_10) (fun r_11 => (if r_11 = 0 then cs_let (m_X3_cut S 18 v5 (v5 + 1)) (fun S_13 => m_X2_dropStones_L16 j1 u2 n r_4 1 (v5 + (-1)) S_13) else m_X2_dropStones_L16 j1 u2 n r_4 0 (v5 + (-1)) S)))))))))) := rfl
def m_X2_dropStones (S : cs_St) (j1 : Nat) (a2 : Int32) : cs_St := cs_let (m_X3_length S 18) (fun r_1 => cs_let (m_X2_dropStones_L16 j1 a2 cs_N (-1) 0 (r_1 - 1) S) (fun T_24 => T_24.2.2.2))
set_option maxHeartbeats 4000000 in
set_option maxRecDepth 100000 in
theorem c_X2_dropStones (l : Launch) (D : va_G) (cy : ClassId) (ad : Nat → Nat) (S : cs_St) (j1 : Nat) (a2 : Int32) (hj1 : j1 < 19) : Met l yX2_dropStones (cs_ws yX2_dropStones cX2_dropStones 8 none) (cs_rm 2 82) (cs_Pc D cy ad [.ref (ad 5), .ref (ad (6 + 2 * j1)), .int a2] S) (cs_Qv D cy ad (fun S1 => S1 = m_X2_dropStones S j1 a2)) 0 0 (cs_A ad) := by
  refine cs_of RX2 (by decide) rfl (Nat.le_of_ble_eq_true rfl) ?_
  intro p e s m below meth c hF hr hlk hw hK ls hl
  obtain ⟨hx, hb, hml, hown, hts⟩ := id hF
  have hS : va_S (cs_A ad) s.heap s.heap [] := va_S.rf
  have hl : lv_has ls 8 [(0, .ref (ad 5)), (1, .ref (ad (6 + 2 * j1))), (2, .int a2)] := hl
  generalize hRes : m_X2_dropStones S j1 a2 = Res
  unfold m_X2_dropStones at hRes
  refine lv_iconst (v := -1) hx hb dX2_dropStones_0 (by decide) ?_
  refine lv_istore_n (lv' := [(3, .int (-1)), (0, .ref (ad 5)), (1, .ref (ad (6 + 2 * j1))), (2, .int a2)]) hx hb dX2_dropStones_1 rfl hl (by decide) rfl (fun ls hl => ?_)
  refine lv_iconst (v := 0) hx hb dX2_dropStones_2 (by decide) ?_
  refine lv_istore (lv' := [(4, .int 0), (3, .int (-1)), (0, .ref (ad 5)), (1, .ref (ad (6 + 2 * j1))), (2, .int a2)]) hx hb dX2_dropStones_3 hl (by decide) rfl (fun ls hl => ?_)
  refine lv_aload_n hx hb dX2_dropStones_5 rfl (lv_at hl 2 rfl) ?_
  refine cs_get (C := RX2) (T := TX2) (N := 4) hF in_X2 hw hK 5 rfl rfl 3 (by decide) q_68 rfl dX2_dropStones_6 ?_
  refine cs_vir hF (c_X3_length l D cy ad S 18 (by decide)) (cwV 0 hts g_X2_50 rfl rfl rfl kk_X3_length ⟨Nat.le_of_ble_eq_true rfl, Nat.le_of_ble_eq_true rfl⟩) (cs_recvR hK hw (by decide)) hw hK hS rfl hl.1 [] rfl (Nat.le_of_ble_eq_true rfl) dX2_dropStones_9 (fun r_1 H locs hq hw hS => ?_)
  replace hRes := cs_letE hq hRes
  clear hq
  refine lv_iconst (v := 1) hx hb dX2_dropStones_12 (by decide) ?_
  refine lv_isub hx hb dX2_dropStones_13 ?_
  refine lv_istore (lv' := [(5, .int (r_1 - 1)), (4, .int 0), (3, .int (-1)), (0, .ref (ad 5)), (1, .ref (ad (6 + 2 * j1))), (2, .int a2)]) hx hb dX2_dropStones_14 hl (by decide) rfl (fun ls hl => ?_)
  -- the loop at 16
  obtain ⟨T_24, hq⟩ : ∃ z, z = m_X2_dropStones_L16 j1 a2 cs_N (-1) 0 (r_1 - 1) S := ⟨_, rfl⟩
  replace hRes := cs_letE hq hRes
  have hk : ∀ (H : Heap) (locs : List Loc) (ls : Array Slot), cs_w D cy ad T_24.2.2.2 H → va_S (cs_A ad) s.heap H locs → lv_has ls 8 [(5, .int T_24.2.2.1), (4, .int T_24.2.1), (3, .int T_24.1), (0, .ref (ad 5)), (1, .ref (ad (6 + 2 * j1))), (2, .int a2)] → W p l e (cs_rm 2 82) s m ([.ref (ad 5), .ref (ad (6 + 2 * j1)), .int a2]).toArray below meth c H locs 0 0 (MQ below (cs_Qv D cy ad (fun S1 => S1 = Res)) ([.ref (ad 5), .ref (ad (6 + 2 * j1)), .int a2]).toArray s 0 0 (cs_A ad)) (F0 m 131 ls []) := by
    intro H locs ls hw hS hl
    exact cs_vret hF hr hlk hw hK hS dX2_dropStones_131 hRes
  have lp : ∀ (n : Nat) (v3 : Int32) (v4 : Int32) (v5 : Int32) (S : cs_St) (H : Heap) (locs : List Loc), cs_w D cy ad S H → va_S (cs_A ad) s.heap H locs → ∀ (ls : Array Slot), lv_has ls 8 [(5, .int v5), (4, .int v4), (3, .int v3), (0, .ref (ad 5)), (1, .ref (ad (6 + 2 * j1))), (2, .int a2)] → (v5.toInt + 1 < (n : Int) ∧ 0 < n) → m_X2_dropStones_L16 j1 a2 n v3 v4 v5 S = T_24 → W p l e (cs_rm 2 82) s m ([.ref (ad 5), .ref (ad (6 + 2 * j1)), .int a2]).toArray below meth c H locs 0 0 (MQ below (cs_Qv D cy ad (fun S1 => S1 = Res)) ([.ref (ad 5), .ref (ad (6 + 2 * j1)), .int a2]).toArray s 0 0 (cs_A ad)) (F0 m 16 ls []) := by
    intro n
    induction n with
    | zero => intro v3 v4 v5 S H locs hw hS ls hl hm; exact absurd hm.2 (Nat.lt_irrefl 0)
    | succ n ih =>
      intro v3 v4 v5 S H locs hw hS ls hl hm hE
      replace hE := m_X2_dropStones_L16_s.symm.trans hE
      refine lv_iload hx hb dX2_dropStones_16 (lv_at hl 0 rfl) ?_
      refine lv_if_lt (tgt := 131) hx hb dX2_dropStones_18 (by decide) (fun c_2 => ?_) (fun c_2 => ?_)
      · replace hE := cs_T c_2 hE
        subst hE
        exact hk _ _ _ hw hS (lv_sub hl [0, 1, 2, 3, 4, 5] rfl)
      · replace hE := cs_F c_2 hE
        refine lv_aload_n hx hb dX2_dropStones_21 rfl (lv_at hl 3 rfl) ?_
        refine cs_get (C := RX2) (T := TX2) (N := 4) hF in_X2 hw hK 5 rfl rfl 3 (by decide) q_68 rfl dX2_dropStones_22 ?_
        refine lv_iload hx hb dX2_dropStones_25 (lv_at hl 0 rfl) ?_
        refine cs_vir hF (c_X3_at l D cy ad S 18 v5 (by decide)) (cwV 1 hts g_X2_37 rfl rfl rfl kk_X3_at ⟨Nat.le_of_ble_eq_true rfl, Nat.le_of_ble_eq_true rfl⟩) (cs_recvR hK hw (by decide)) hw hK hS rfl hl.1 [] rfl (Nat.le_of_ble_eq_true rfl) dX2_dropStones_27 (fun r_3 H locs hq hw hS => ?_)
        replace hE := cs_letE hq hE
        clear hq
        refine lv_istore (lv' := [(6, .int r_3), (5, .int v5), (4, .int v4), (3, .int v3), (0, .ref (ad 5)), (1, .ref (ad (6 + 2 * j1))), (2, .int a2)]) hx hb dX2_dropStones_30 hl (by decide) rfl (fun ls hl => ?_)
        refine lv_aload_n hx hb dX2_dropStones_32 rfl (lv_at hl 4 rfl) ?_
        refine cs_get (C := RX2) (T := TX2) (N := 4) hF in_X2 hw hK 5 rfl rfl 0 (by decide) q_69 rfl dX2_dropStones_33 ?_
        refine lv_iload hx hb dX2_dropStones_36 (lv_at hl 0 rfl) ?_
        refine cs_vir hF (c_X1_key l D cy ad S r_3) (cwV 1 hts g_X2_54 rfl rfl rfl kk_X1_key ⟨Nat.le_of_ble_eq_true rfl, Nat.le_of_ble_eq_true rfl⟩) (cs_recv hK hw (ci := 1) 2 rfl rfl) hw hK hS rfl hl.1 [] rfl (Nat.le_of_ble_eq_true rfl) dX2_dropStones_38 (fun r_4 H locs hq hw hS => ?_)
        replace hE := cs_letE hq hE
        clear hq
        refine lv_istore (lv' := [(7, .int r_4), (6, .int r_3), (5, .int v5), (4, .int v4), (3, .int v3), (0, .ref (ad 5)), (1, .ref (ad (6 + 2 * j1))), (2, .int a2)]) hx hb dX2_dropStones_41 hl (by decide) rfl (fun ls hl => ?_)
        refine lv_iload hx hb dX2_dropStones_43 (lv_at hl 3 rfl) ?_
        refine lv_if_ne (tgt := 54) hx hb dX2_dropStones_45 (by decide) (fun c_5 => ?_) (fun c_5 => ?_)
        · replace hE := cs_F c_5 hE
          refine lv_iconst (v := 1) hx hb dX2_dropStones_54 (by decide) ?_
          refine lv_goto (tgt := 59) hx hb dX2_dropStones_55 (by decide) ?_
          refine lv_istore (lv' := [(4, .int 1), (7, .int r_4), (6, .int r_3), (5, .int v5), (3, .int v3), (0, .ref (ad 5)), (1, .ref (ad (6 + 2 * j1))), (2, .int a2)]) hx hb dX2_dropStones_59 hl (by decide) rfl (fun ls hl => ?_)
          refine lv_iload hx hb dX2_dropStones_61 (lv_at hl 1 rfl) ?_
          refine lv_istore_n (lv' := [(3, .int r_4), (4, .int 1), (7, .int r_4), (6, .int r_3), (5, .int v5), (0, .ref (ad 5)), (1, .ref (ad (6 + 2 * j1))), (2, .int a2)]) hx hb dX2_dropStones_63 rfl hl (by decide) rfl (fun ls hl => ?_)
          refine lv_iload hx hb dX2_dropStones_64 (lv_at hl 1 rfl) ?_
          refine lv_if_eq (tgt := 122) hx hb dX2_dropStones_66 (by decide) (fun c_6 => False.elim (by revert c_6; decide)) (fun c_6 => ?_)
          refine lv_aload_n hx hb dX2_dropStones_69 rfl (lv_at hl 5 rfl) ?_
          refine cs_get (C := RX2) (T := TX2) (N := 4) hF in_X2 hw hK 5 rfl rfl 0 (by decide) q_69 rfl dX2_dropStones_70 ?_
          refine lv_iload hx hb dX2_dropStones_73 (lv_at hl 3 rfl) ?_
          refine cs_vir hF (c_X1_isStone l D cy ad S r_3) (cwV 1 hts g_X2_66 rfl rfl rfl kk_X1_isStone ⟨Nat.le_of_ble_eq_true rfl, Nat.le_of_ble_eq_true rfl⟩) (cs_recv hK hw (ci := 1) 2 rfl rfl) hw hK hS rfl hl.1 [] rfl (Nat.le_of_ble_eq_true rfl) dX2_dropStones_75 (fun r_7 H locs hq hw hS => ?_)
          replace hE := cs_letE hq hE
          clear hq
          refine lv_if_eq (tgt := 122) hx hb dX2_dropStones_78 (by decide) (fun c_8 => ?_) (fun c_8 => ?_)
          · replace hE := cs_T c_8 hE
            refine lv_iconst (v := 0) hx hb dX2_dropStones_122 (by decide) ?_
            refine lv_istore (lv' := [(4, .int 0), (3, .int r_4), (7, .int r_4), (6, .int r_3), (5, .int v5), (0, .ref (ad 5)), (1, .ref (ad (6 + 2 * j1))), (2, .int a2)]) hx hb dX2_dropStones_123 hl (by decide) rfl (fun ls hl => ?_)
            refine lv_iinc (v := v5 + (-1)) (lv' := [(5, .int (v5 + (-1))), (4, .int 0), (3, .int r_4), (7, .int r_4), (6, .int r_3), (0, .ref (ad 5)), (1, .ref (ad (6 + 2 * j1))), (2, .int a2)]) hx hb dX2_dropStones_125 hl (k := 4) rfl rfl (by decide) rfl (fun ls hl => ?_)
            refine lv_goto (tgt := 16) hx hb dX2_dropStones_128 (by decide) ?_
            exact ih r_4 0 (v5 + (-1)) S _ _ hw hS _ (lv_sub hl [0, 1, 2, 5, 6, 7] rfl) (cs_dn hm.1 c_2) hE
          · replace hE := cs_F c_8 hE
            refine lv_aload_n hx hb dX2_dropStones_81 rfl (lv_at hl 5 rfl) ?_
            refine cs_get (C := RX2) (T := TX2) (N := 4) hF in_X2 hw hK 5 rfl rfl 0 (by decide) q_69 rfl dX2_dropStones_82 ?_
            refine lv_aload_n hx hb dX2_dropStones_85 rfl (lv_at hl 6 rfl) ?_
            refine lv_iload_n hx hb dX2_dropStones_86 rfl (lv_at hl 7 rfl) ?_
            refine lv_aload_n hx hb dX2_dropStones_87 rfl (lv_at hl 6 rfl) ?_
            refine cs_vir hF (c_X3_length l D cy ad S j1 hj1) (cwV 0 hts g_X2_50 rfl rfl rfl kk_X3_length ⟨Nat.le_of_ble_eq_true rfl, Nat.le_of_ble_eq_true rfl⟩) (cs_recvR hK hw hj1) hw hK hS rfl hl.1 [.int a2, .ref (ad (6 + 2 * j1)), .ref (ad 2)] rfl (Nat.le_of_ble_eq_true rfl) dX2_dropStones_88 (fun r_9 H locs hq hw hS => ?_)
            replace hE := cs_letE hq hE
            clear hq
            refine lv_iload hx hb dX2_dropStones_91 (lv_at hl 2 rfl) ?_
            refine lv_aload_n hx hb dX2_dropStones_93 rfl (lv_at hl 5 rfl) ?_
            refine cs_get (C := RX2) (T := TX2) (N := 4) hF in_X2 hw hK 5 rfl rfl 0 (by decide) q_69 rfl dX2_dropStones_94 ?_
            refine cs_vir hF (c_X1_newest l D cy ad S) (cwV 0 hts g_X2_70 rfl rfl rfl kk_X1_newest ⟨Nat.le_of_ble_eq_true rfl, Nat.le_of_ble_eq_true rfl⟩) (cs_recv hK hw (ci := 1) 2 rfl rfl) hw hK hS rfl hl.1 [.int r_4, .int r_9, .int a2, .ref (ad (6 + 2 * j1)), .ref (ad 2)] rfl (Nat.le_of_ble_eq_true rfl) dX2_dropStones_97 (fun r_10 H locs hq hw hS => ?_)
            replace hE := cs_letE hq hE
            clear hq
            refine cs_vir hF (c_X1_find l D cy ad S j1 a2 r_9 r_4 r_10 hj1) (cwV 5 hts g_X2_73 rfl rfl rfl kk_X1_find ⟨Nat.le_of_ble_eq_true rfl, Nat.le_of_ble_eq_true rfl⟩) (cs_recv hK hw (ci := 1) 2 rfl rfl) hw hK hS rfl hl.1 [] rfl (Nat.le_of_ble_eq_true rfl) dX2_dropStones_100 (fun r_11 H locs hq hw hS => ?_)
            replace hE := cs_letE hq hE
            clear hq
            refine lv_if_ne (tgt := 122) hx hb dX2_dropStones_103 (by decide) (fun c_12 => ?_) (fun c_12 => ?_)
            · replace hE := cs_F c_12 hE
              refine lv_iconst (v := 0) hx hb dX2_dropStones_122 (by decide) ?_
              refine lv_istore (lv' := [(4, .int 0), (3, .int r_4), (7, .int r_4), (6, .int r_3), (5, .int v5), (0, .ref (ad 5)), (1, .ref (ad (6 + 2 * j1))), (2, .int a2)]) hx hb dX2_dropStones_123 hl (by decide) rfl (fun ls hl => ?_)
              refine lv_iinc (v := v5 + (-1)) (lv' := [(5, .int (v5 + (-1))), (4, .int 0), (3, .int r_4), (7, .int r_4), (6, .int r_3), (0, .ref (ad 5)), (1, .ref (ad (6 + 2 * j1))), (2, .int a2)]) hx hb dX2_dropStones_125 hl (k := 4) rfl rfl (by decide) rfl (fun ls hl => ?_)
              refine lv_goto (tgt := 16) hx hb dX2_dropStones_128 (by decide) ?_
              exact ih r_4 0 (v5 + (-1)) S _ _ hw hS _ (lv_sub hl [0, 1, 2, 5, 6, 7] rfl) (cs_dn hm.1 c_2) hE
            · replace hE := cs_T c_12 hE
              refine lv_aload_n hx hb dX2_dropStones_106 rfl (lv_at hl 5 rfl) ?_
              refine cs_get (C := RX2) (T := TX2) (N := 4) hF in_X2 hw hK 5 rfl rfl 3 (by decide) q_68 rfl dX2_dropStones_107 ?_
              refine lv_iload hx hb dX2_dropStones_110 (lv_at hl 4 rfl) ?_
              refine lv_iload hx hb dX2_dropStones_112 (lv_at hl 4 rfl) ?_
              refine lv_iconst (v := 1) hx hb dX2_dropStones_114 (by decide) ?_
              refine lv_iadd hx hb dX2_dropStones_115 ?_
              refine cs_vv hF (c_X3_cut l D cy ad S 18 v5 (v5 + 1) (by decide)) (cwV 2 hts g_X2_77 rfl rfl rfl kk_X3_cut ⟨Nat.le_of_ble_eq_true rfl, Nat.le_of_ble_eq_true rfl⟩) (cs_recvR hK hw (by decide)) hw hK hS rfl hl.1 [] rfl (Nat.le_of_ble_eq_true rfl) dX2_dropStones_116 (fun S_13 H locs hq hw hS => ?_)
              replace hE := cs_letE hq hE
              clear hq
              refine lv_goto (tgt := 125) hx hb dX2_dropStones_119 (by decide) ?_
              refine lv_iinc (v := v5 + (-1)) (lv' := [(5, .int (v5 + (-1))), (3, .int r_4), (4, .int 1), (7, .int r_4), (6, .int r_3), (0, .ref (ad 5)), (1, .ref (ad (6 + 2 * j1))), (2, .int a2)]) hx hb dX2_dropStones_125 hl (k := 4) rfl rfl (by decide) rfl (fun ls hl => ?_)
              refine lv_goto (tgt := 16) hx hb dX2_dropStones_128 (by decide) ?_
              exact ih r_4 1 (v5 + (-1)) S_13 _ _ hw hS _ (lv_sub hl [0, 2, 1, 5, 6, 7] rfl) (cs_dn hm.1 c_2) hE
        · replace hE := cs_T c_5 hE
          refine lv_iload hx hb dX2_dropStones_48 (lv_at hl 0 rfl) ?_
          refine lv_iload_n hx hb dX2_dropStones_50 rfl (lv_at hl 4 rfl) ?_
          refine lv_icmp_eq (tgt := 58) hx hb dX2_dropStones_51 (by decide) (fun c_14 => ?_) (fun c_14 => ?_)
          · replace hE := cs_T c_14 hE
            refine lv_iconst (v := 0) hx hb dX2_dropStones_58 (by decide) ?_
            refine lv_istore (lv' := [(4, .int 0), (7, .int r_4), (6, .int r_3), (5, .int v5), (3, .int v3), (0, .ref (ad 5)), (1, .ref (ad (6 + 2 * j1))), (2, .int a2)]) hx hb dX2_dropStones_59 hl (by decide) rfl (fun ls hl => ?_)
            refine lv_iload hx hb dX2_dropStones_61 (lv_at hl 1 rfl) ?_
            refine lv_istore_n (lv' := [(3, .int r_4), (4, .int 0), (7, .int r_4), (6, .int r_3), (5, .int v5), (0, .ref (ad 5)), (1, .ref (ad (6 + 2 * j1))), (2, .int a2)]) hx hb dX2_dropStones_63 rfl hl (by decide) rfl (fun ls hl => ?_)
            refine lv_iload hx hb dX2_dropStones_64 (lv_at hl 1 rfl) ?_
            refine lv_if_eq (tgt := 122) hx hb dX2_dropStones_66 (by decide) (fun c_15 => ?_) (fun c_15 => False.elim (by revert c_15; decide))
            refine lv_iconst (v := 0) hx hb dX2_dropStones_122 (by decide) ?_
            refine lv_istore (lv' := [(4, .int 0), (3, .int r_4), (7, .int r_4), (6, .int r_3), (5, .int v5), (0, .ref (ad 5)), (1, .ref (ad (6 + 2 * j1))), (2, .int a2)]) hx hb dX2_dropStones_123 hl (by decide) rfl (fun ls hl => ?_)
            refine lv_iinc (v := v5 + (-1)) (lv' := [(5, .int (v5 + (-1))), (4, .int 0), (3, .int r_4), (7, .int r_4), (6, .int r_3), (0, .ref (ad 5)), (1, .ref (ad (6 + 2 * j1))), (2, .int a2)]) hx hb dX2_dropStones_125 hl (k := 4) rfl rfl (by decide) rfl (fun ls hl => ?_)
            refine lv_goto (tgt := 16) hx hb dX2_dropStones_128 (by decide) ?_
            exact ih r_4 0 (v5 + (-1)) S _ _ hw hS _ (lv_sub hl [0, 1, 2, 5, 6, 7] rfl) (cs_dn hm.1 c_2) hE
          · replace hE := cs_F c_14 hE
            refine lv_iconst (v := 1) hx hb dX2_dropStones_54 (by decide) ?_
            refine lv_goto (tgt := 59) hx hb dX2_dropStones_55 (by decide) ?_
            refine lv_istore (lv' := [(4, .int 1), (7, .int r_4), (6, .int r_3), (5, .int v5), (3, .int v3), (0, .ref (ad 5)), (1, .ref (ad (6 + 2 * j1))), (2, .int a2)]) hx hb dX2_dropStones_59 hl (by decide) rfl (fun ls hl => ?_)
            refine lv_iload hx hb dX2_dropStones_61 (lv_at hl 1 rfl) ?_
            refine lv_istore_n (lv' := [(3, .int r_4), (4, .int 1), (7, .int r_4), (6, .int r_3), (5, .int v5), (0, .ref (ad 5)), (1, .ref (ad (6 + 2 * j1))), (2, .int a2)]) hx hb dX2_dropStones_63 rfl hl (by decide) rfl (fun ls hl => ?_)
            refine lv_iload hx hb dX2_dropStones_64 (lv_at hl 1 rfl) ?_
            refine lv_if_eq (tgt := 122) hx hb dX2_dropStones_66 (by decide) (fun c_16 => False.elim (by revert c_16; decide)) (fun c_16 => ?_)
            refine lv_aload_n hx hb dX2_dropStones_69 rfl (lv_at hl 5 rfl) ?_
            refine cs_get (C := RX2) (T := TX2) (N := 4) hF in_X2 hw hK 5 rfl rfl 0 (by decide) q_69 rfl dX2_dropStones_70 ?_
            refine lv_iload hx hb dX2_dropStones_73 (lv_at hl 3 rfl) ?_
            refine cs_vir hF (c_X1_isStone l D cy ad S r_3) (cwV 1 hts g_X2_66 rfl rfl rfl kk_X1_isStone ⟨Nat.le_of_ble_eq_true rfl, Nat.le_of_ble_eq_true rfl⟩) (cs_recv hK hw (ci := 1) 2 rfl rfl) hw hK hS rfl hl.1 [] rfl (Nat.le_of_ble_eq_true rfl) dX2_dropStones_75 (fun r_17 H locs hq hw hS => ?_)
            replace hE := cs_letE hq hE
            clear hq
            refine lv_if_eq (tgt := 122) hx hb dX2_dropStones_78 (by decide) (fun c_18 => ?_) (fun c_18 => ?_)
            · replace hE := cs_T c_18 hE
              refine lv_iconst (v := 0) hx hb dX2_dropStones_122 (by decide) ?_
              refine lv_istore (lv' := [(4, .int 0), (3, .int r_4), (7, .int r_4), (6, .int r_3), (5, .int v5), (0, .ref (ad 5)), (1, .ref (ad (6 + 2 * j1))), (2, .int a2)]) hx hb dX2_dropStones_123 hl (by decide) rfl (fun ls hl => ?_)
              refine lv_iinc (v := v5 + (-1)) (lv' := [(5, .int (v5 + (-1))), (4, .int 0), (3, .int r_4), (7, .int r_4), (6, .int r_3), (0, .ref (ad 5)), (1, .ref (ad (6 + 2 * j1))), (2, .int a2)]) hx hb dX2_dropStones_125 hl (k := 4) rfl rfl (by decide) rfl (fun ls hl => ?_)
              refine lv_goto (tgt := 16) hx hb dX2_dropStones_128 (by decide) ?_
              exact ih r_4 0 (v5 + (-1)) S _ _ hw hS _ (lv_sub hl [0, 1, 2, 5, 6, 7] rfl) (cs_dn hm.1 c_2) hE
            · replace hE := cs_F c_18 hE
              refine lv_aload_n hx hb dX2_dropStones_81 rfl (lv_at hl 5 rfl) ?_
              refine cs_get (C := RX2) (T := TX2) (N := 4) hF in_X2 hw hK 5 rfl rfl 0 (by decide) q_69 rfl dX2_dropStones_82 ?_
              refine lv_aload_n hx hb dX2_dropStones_85 rfl (lv_at hl 6 rfl) ?_
              refine lv_iload_n hx hb dX2_dropStones_86 rfl (lv_at hl 7 rfl) ?_
              refine lv_aload_n hx hb dX2_dropStones_87 rfl (lv_at hl 6 rfl) ?_
              refine cs_vir hF (c_X3_length l D cy ad S j1 hj1) (cwV 0 hts g_X2_50 rfl rfl rfl kk_X3_length ⟨Nat.le_of_ble_eq_true rfl, Nat.le_of_ble_eq_true rfl⟩) (cs_recvR hK hw hj1) hw hK hS rfl hl.1 [.int a2, .ref (ad (6 + 2 * j1)), .ref (ad 2)] rfl (Nat.le_of_ble_eq_true rfl) dX2_dropStones_88 (fun r_19 H locs hq hw hS => ?_)
              replace hE := cs_letE hq hE
              clear hq
              refine lv_iload hx hb dX2_dropStones_91 (lv_at hl 2 rfl) ?_
              refine lv_aload_n hx hb dX2_dropStones_93 rfl (lv_at hl 5 rfl) ?_
              refine cs_get (C := RX2) (T := TX2) (N := 4) hF in_X2 hw hK 5 rfl rfl 0 (by decide) q_69 rfl dX2_dropStones_94 ?_
              refine cs_vir hF (c_X1_newest l D cy ad S) (cwV 0 hts g_X2_70 rfl rfl rfl kk_X1_newest ⟨Nat.le_of_ble_eq_true rfl, Nat.le_of_ble_eq_true rfl⟩) (cs_recv hK hw (ci := 1) 2 rfl rfl) hw hK hS rfl hl.1 [.int r_4, .int r_19, .int a2, .ref (ad (6 + 2 * j1)), .ref (ad 2)] rfl (Nat.le_of_ble_eq_true rfl) dX2_dropStones_97 (fun r_20 H locs hq hw hS => ?_)
              replace hE := cs_letE hq hE
              clear hq
              refine cs_vir hF (c_X1_find l D cy ad S j1 a2 r_19 r_4 r_20 hj1) (cwV 5 hts g_X2_73 rfl rfl rfl kk_X1_find ⟨Nat.le_of_ble_eq_true rfl, Nat.le_of_ble_eq_true rfl⟩) (cs_recv hK hw (ci := 1) 2 rfl rfl) hw hK hS rfl hl.1 [] rfl (Nat.le_of_ble_eq_true rfl) dX2_dropStones_100 (fun r_21 H locs hq hw hS => ?_)
              replace hE := cs_letE hq hE
              clear hq
              refine lv_if_ne (tgt := 122) hx hb dX2_dropStones_103 (by decide) (fun c_22 => ?_) (fun c_22 => ?_)
              · replace hE := cs_F c_22 hE
                refine lv_iconst (v := 0) hx hb dX2_dropStones_122 (by decide) ?_
                refine lv_istore (lv' := [(4, .int 0), (3, .int r_4), (7, .int r_4), (6, .int r_3), (5, .int v5), (0, .ref (ad 5)), (1, .ref (ad (6 + 2 * j1))), (2, .int a2)]) hx hb dX2_dropStones_123 hl (by decide) rfl (fun ls hl => ?_)
                refine lv_iinc (v := v5 + (-1)) (lv' := [(5, .int (v5 + (-1))), (4, .int 0), (3, .int r_4), (7, .int r_4), (6, .int r_3), (0, .ref (ad 5)), (1, .ref (ad (6 + 2 * j1))), (2, .int a2)]) hx hb dX2_dropStones_125 hl (k := 4) rfl rfl (by decide) rfl (fun ls hl => ?_)
                refine lv_goto (tgt := 16) hx hb dX2_dropStones_128 (by decide) ?_
                exact ih r_4 0 (v5 + (-1)) S _ _ hw hS _ (lv_sub hl [0, 1, 2, 5, 6, 7] rfl) (cs_dn hm.1 c_2) hE
              · replace hE := cs_T c_22 hE
                refine lv_aload_n hx hb dX2_dropStones_106 rfl (lv_at hl 5 rfl) ?_
                refine cs_get (C := RX2) (T := TX2) (N := 4) hF in_X2 hw hK 5 rfl rfl 3 (by decide) q_68 rfl dX2_dropStones_107 ?_
                refine lv_iload hx hb dX2_dropStones_110 (lv_at hl 4 rfl) ?_
                refine lv_iload hx hb dX2_dropStones_112 (lv_at hl 4 rfl) ?_
                refine lv_iconst (v := 1) hx hb dX2_dropStones_114 (by decide) ?_
                refine lv_iadd hx hb dX2_dropStones_115 ?_
                refine cs_vv hF (c_X3_cut l D cy ad S 18 v5 (v5 + 1) (by decide)) (cwV 2 hts g_X2_77 rfl rfl rfl kk_X3_cut ⟨Nat.le_of_ble_eq_true rfl, Nat.le_of_ble_eq_true rfl⟩) (cs_recvR hK hw (by decide)) hw hK hS rfl hl.1 [] rfl (Nat.le_of_ble_eq_true rfl) dX2_dropStones_116 (fun S_23 H locs hq hw hS => ?_)
                replace hE := cs_letE hq hE
                clear hq
                refine lv_goto (tgt := 125) hx hb dX2_dropStones_119 (by decide) ?_
                refine lv_iinc (v := v5 + (-1)) (lv' := [(5, .int (v5 + (-1))), (3, .int r_4), (4, .int 1), (7, .int r_4), (6, .int r_3), (0, .ref (ad 5)), (1, .ref (ad (6 + 2 * j1))), (2, .int a2)]) hx hb dX2_dropStones_125 hl (k := 4) rfl rfl (by decide) rfl (fun ls hl => ?_)
                refine lv_goto (tgt := 16) hx hb dX2_dropStones_128 (by decide) ?_
                exact ih r_4 1 (v5 + (-1)) S_23 _ _ hw hS _ (lv_sub hl [0, 2, 1, 5, 6, 7] rfl) (cs_dn hm.1 c_2) hE
  exact lp cs_N (-1) 0 (r_1 - 1) S _ _ hw hS _ (lv_sub hl [0, 1, 2, 3, 4, 5] rfl) (cs_dn0 (r_1 - 1)) hq.symm
theorem kk_X2_dropStones : yX2_dropStones.cls = RX2 ∧ yX2_dropStones.cls ≠ "java/lang/invoke/MethodHandle" ∧ yX2_dropStones.cls ≠ "java/lang/invoke/VarHandle" ∧ (parseMethodDescriptor yX2_dropStones.desc).map (fun d => d.parameters.length) = some 2 := by decide +kernel
def m_X2_pieceEnd_L7 (S : cs_St) (u1 : Int32) (u2 : Int32) : Nat → Int32 → Int32 → Int32
  | 0, _, _ => 0
  | n + 1, v3, v4 => cs_let (m_X3_length S 18) (fun r_1 => (if r_1 < v4 then v3 else cs_let (m_X3_length S 18) (fun r_3 => (if v4 = r_3 then (if v3 ≤ u1 then m_X2_pieceEnd_L7 S u1 u2 n v4 (v4 + 1) else (if (v4 - u1) ≤ u2 then m_X2_pieceEnd_L7 S u1 u2 n v4 (v4 + 1) else v3)) else cs_let (m_X3_at S 18 v4) (fun r_10 => cs_let (m_X1_key S r_10) (fun r_11 => cs_let (m_X3_at S 18 (v4 - 1)) (fun r_12 => cs_let (m_X1_key S r_12) (fun r_13 => (if r_11 = r_13 then m_X2_pieceEnd_L7 S u1 u2 n v3 (v4 + 1) else (if v3 ≤ u1 then m_X2_pieceEnd_L7 S u1 u2 n v4 (v4 + 1) else (if (v4 - u1) ≤ u2 then m_X2_pieceEnd_L7 S u1 u2 n v4 (v4 + 1) else v3)))))))))))
theorem m_X2_pieceEnd_L7_s {S : cs_St} {u1 : Int32} {u2 : Int32} {n : Nat} {v3 : Int32} {v4 : Int32} : m_X2_pieceEnd_L7 S u1 u2 (n + 1) v3 v4 = cs_let (m_X3_length S 18) (fun r_1 => (if r_1 < v4 then v3 else cs_let (m_X3_length S 18) (fun r_3 => (if v4 = r_3 then (if v3 ≤ u1 then m_X2_pieceEnd_L7 S u1 u2 n v4 (v4 + 1) else (if (v4 - u1) ≤ u2 then m_X2_pieceEnd_L7 S u1 u2 n v4 (v4 + 1) else v3)) else cs_let (m_X3_at S 18 v4) (fun r_10 => cs_let (m_X1_key S r_10) (fun r_11 => cs_let (m_X3_at S 18 (v4 - 1)) (fun r_12 => cs_let (m_X1_key S r_12) (fun r_13 => (if r_11 = r_13 then m_X2_pieceEnd_L7 S u1 u2 n v3 (v4 + 1) else (if v3 ≤ u1 then m_X2_pieceEnd_L7 S u1 u2 n v4 (v4 + 1) else (if (v4 - u1) ≤ u2 then m_X2_pieceEnd_L7 S u1 u2 n v4 (v4 + 1) else v3))))))))))) := rfl
def m_X2_pieceEnd (S : cs_St) (a1 : Int32) (a2 : Int32) : Int32 := m_X2_pieceEnd_L7 S a1 a2 cs_N a1 (a1 + 1)
set_option maxHeartbeats 4000000 in
set_option maxRecDepth 100000 in
theorem c_X2_pieceEnd (l : Launch) (D : va_G) (cy : ClassId) (ad : Nat → Nat) (S : cs_St) (a1 : Int32) (a2 : Int32) : Met l yX2_pieceEnd (cs_ws yX2_pieceEnd cX2_pieceEnd 6 (some .int)) (cs_rm 2 42) (cs_Pc D cy ad [.ref (ad 5), .int a1, .int a2] S) (cs_Qi D cy ad (fun r S1 => r = m_X2_pieceEnd S a1 a2 ∧ S1 = S)) 0 0 (cs_A ad) := by
  refine cs_of RX2 (by decide) rfl (Nat.le_of_ble_eq_true rfl) ?_
  intro p e s m below meth c hF hr hlk hw hK ls hl
  obtain ⟨hx, hb, hml, hown, hts⟩ := id hF
  have hS : va_S (cs_A ad) s.heap s.heap [] := va_S.rf
  have hl : lv_has ls 6 [(0, .ref (ad 5)), (1, .int a1), (2, .int a2)] := hl
  generalize hRes : m_X2_pieceEnd S a1 a2 = Res
  unfold m_X2_pieceEnd at hRes
  refine lv_iload_n hx hb dX2_pieceEnd_0 rfl (lv_at hl 1 rfl) ?_
  refine lv_istore_n (lv' := [(3, .int a1), (0, .ref (ad 5)), (1, .int a1), (2, .int a2)]) hx hb dX2_pieceEnd_1 rfl hl (by decide) rfl (fun ls hl => ?_)
  refine lv_iload_n hx hb dX2_pieceEnd_2 rfl (lv_at hl 2 rfl) ?_
  refine lv_iconst (v := 1) hx hb dX2_pieceEnd_3 (by decide) ?_
  refine lv_iadd hx hb dX2_pieceEnd_4 ?_
  refine lv_istore (lv' := [(4, .int (a1 + 1)), (3, .int a1), (0, .ref (ad 5)), (1, .int a1), (2, .int a2)]) hx hb dX2_pieceEnd_5 hl (by decide) rfl (fun ls hl => ?_)
  -- the loop at 7
  have lp : ∀ (n : Nat) (v3 : Int32) (v4 : Int32) (H : Heap) (locs : List Loc), cs_w D cy ad S H → va_S (cs_A ad) s.heap H locs → ∀ (ls : Array Slot), lv_has ls 6 [(4, .int v4), (3, .int v3), (0, .ref (ad 5)), (1, .int a1), (2, .int a2)] → (2147483647 - v4.toInt < (n : Int) ∧ 0 < n) → m_X2_pieceEnd_L7 S a1 a2 n v3 v4 = Res → W p l e (cs_rm 2 42) s m ([.ref (ad 5), .int a1, .int a2]).toArray below meth c H locs 0 0 (MQ below (cs_Qi D cy ad (fun r S1 => r = Res ∧ S1 = S)) ([.ref (ad 5), .int a1, .int a2]).toArray s 0 0 (cs_A ad)) (F0 m 7 ls []) := by
    intro n
    induction n with
    | zero => intro v3 v4 H locs hw hS ls hl hm; exact absurd hm.2 (Nat.lt_irrefl 0)
    | succ n ih =>
      intro v3 v4 H locs hw hS ls hl hm hRes
      replace hRes := m_X2_pieceEnd_L7_s.symm.trans hRes
      refine lv_iload hx hb dX2_pieceEnd_7 (lv_at hl 0 rfl) ?_
      refine lv_aload_n hx hb dX2_pieceEnd_9 rfl (lv_at hl 2 rfl) ?_
      refine cs_get (C := RX2) (T := TX2) (N := 4) hF in_X2 hw hK 5 rfl rfl 3 (by decide) q_68 rfl dX2_pieceEnd_10 ?_
      refine cs_vir hF (c_X3_length l D cy ad S 18 (by decide)) (cwV 0 hts g_X2_50 rfl rfl rfl kk_X3_length ⟨Nat.le_of_ble_eq_true rfl, Nat.le_of_ble_eq_true rfl⟩) (cs_recvR hK hw (by decide)) hw hK hS rfl hl.1 [.int v4] rfl (Nat.le_of_ble_eq_true rfl) dX2_pieceEnd_13 (fun r_1 H locs hq hw hS => ?_)
      replace hRes := cs_letE hq hRes
      have g1 : r_1 ≤ 513 := by rw [hq]; exact cs_le5 hw.1 18 (by decide)
      clear hq
      refine lv_icmp_gt (tgt := 109) hx hb dX2_pieceEnd_16 (by decide) (fun c_2 => ?_) (fun c_2 => ?_)
      · replace hRes := cs_T c_2 hRes
        refine lv_iload_n hx hb dX2_pieceEnd_109 rfl (lv_at hl 1 rfl) ?_
        exact cs_iret hF hr hlk hw hK hS dX2_pieceEnd_110 ⟨hRes, rfl⟩
      · replace hRes := cs_F c_2 hRes
        refine lv_iload hx hb dX2_pieceEnd_19 (lv_at hl 0 rfl) ?_
        refine lv_aload_n hx hb dX2_pieceEnd_21 rfl (lv_at hl 2 rfl) ?_
        refine cs_get (C := RX2) (T := TX2) (N := 4) hF in_X2 hw hK 5 rfl rfl 3 (by decide) q_68 rfl dX2_pieceEnd_22 ?_
        refine cs_vir hF (c_X3_length l D cy ad S 18 (by decide)) (cwV 0 hts g_X2_50 rfl rfl rfl kk_X3_length ⟨Nat.le_of_ble_eq_true rfl, Nat.le_of_ble_eq_true rfl⟩) (cs_recvR hK hw (by decide)) hw hK hS rfl hl.1 [.int v4] rfl (Nat.le_of_ble_eq_true rfl) dX2_pieceEnd_25 (fun r_3 H locs hq hw hS => ?_)
        replace hRes := cs_letE hq hRes
        clear hq
        refine lv_icmp_eq (tgt := 68) hx hb dX2_pieceEnd_28 (by decide) (fun c_4 => ?_) (fun c_4 => ?_)
        · replace hRes := cs_T c_4 hRes
          refine lv_iconst (v := 1) hx hb dX2_pieceEnd_68 (by decide) ?_
          refine lv_goto (tgt := 73) hx hb dX2_pieceEnd_69 (by decide) ?_
          refine lv_istore (lv' := [(5, .int 1), (4, .int v4), (3, .int v3), (0, .ref (ad 5)), (1, .int a1), (2, .int a2)]) hx hb dX2_pieceEnd_73 hl (by decide) rfl (fun ls hl => ?_)
          refine lv_iload hx hb dX2_pieceEnd_75 (lv_at hl 0 rfl) ?_
          refine lv_if_eq (tgt := 95) hx hb dX2_pieceEnd_77 (by decide) (fun c_5 => False.elim (by revert c_5; decide)) (fun c_5 => ?_)
          refine lv_iload_n hx hb dX2_pieceEnd_80 rfl (lv_at hl 2 rfl) ?_
          refine lv_iload_n hx hb dX2_pieceEnd_81 rfl (lv_at hl 4 rfl) ?_
          refine lv_icmp_le (tgt := 95) hx hb dX2_pieceEnd_82 (by decide) (fun c_6 => ?_) (fun c_6 => ?_)
          · replace hRes := cs_T c_6 hRes
            refine lv_iload hx hb dX2_pieceEnd_95 (lv_at hl 0 rfl) ?_
            refine lv_if_eq (tgt := 103) hx hb dX2_pieceEnd_97 (by decide) (fun c_7 => False.elim (by revert c_7; decide)) (fun c_7 => ?_)
            refine lv_iload hx hb dX2_pieceEnd_100 (lv_at hl 1 rfl) ?_
            refine lv_istore_n (lv' := [(3, .int v4), (5, .int 1), (4, .int v4), (0, .ref (ad 5)), (1, .int a1), (2, .int a2)]) hx hb dX2_pieceEnd_102 rfl hl (by decide) rfl (fun ls hl => ?_)
            refine lv_iinc (v := v4 + 1) (lv' := [(4, .int (v4 + 1)), (3, .int v4), (5, .int 1), (0, .ref (ad 5)), (1, .int a1), (2, .int a2)]) hx hb dX2_pieceEnd_103 hl (k := 2) rfl rfl (by decide) rfl (fun ls hl => ?_)
            refine lv_goto (tgt := 7) hx hb dX2_pieceEnd_106 (by decide) ?_
            exact ih v4 (v4 + 1) _ _ hw hS _ (lv_sub hl [0, 1, 3, 4, 5] rfl) (cs_up5 hm.1 c_2 g1) hRes
          · replace hRes := cs_F c_6 hRes
            refine lv_iload hx hb dX2_pieceEnd_85 (lv_at hl 1 rfl) ?_
            refine lv_iload_n hx hb dX2_pieceEnd_87 rfl (lv_at hl 4 rfl) ?_
            refine lv_isub hx hb dX2_pieceEnd_88 ?_
            refine lv_iload_n hx hb dX2_pieceEnd_89 rfl (lv_at hl 5 rfl) ?_
            refine lv_icmp_le (tgt := 95) hx hb dX2_pieceEnd_90 (by decide) (fun c_8 => ?_) (fun c_8 => ?_)
            · replace hRes := cs_T c_8 hRes
              refine lv_iload hx hb dX2_pieceEnd_95 (lv_at hl 0 rfl) ?_
              refine lv_if_eq (tgt := 103) hx hb dX2_pieceEnd_97 (by decide) (fun c_9 => False.elim (by revert c_9; decide)) (fun c_9 => ?_)
              refine lv_iload hx hb dX2_pieceEnd_100 (lv_at hl 1 rfl) ?_
              refine lv_istore_n (lv' := [(3, .int v4), (5, .int 1), (4, .int v4), (0, .ref (ad 5)), (1, .int a1), (2, .int a2)]) hx hb dX2_pieceEnd_102 rfl hl (by decide) rfl (fun ls hl => ?_)
              refine lv_iinc (v := v4 + 1) (lv' := [(4, .int (v4 + 1)), (3, .int v4), (5, .int 1), (0, .ref (ad 5)), (1, .int a1), (2, .int a2)]) hx hb dX2_pieceEnd_103 hl (k := 2) rfl rfl (by decide) rfl (fun ls hl => ?_)
              refine lv_goto (tgt := 7) hx hb dX2_pieceEnd_106 (by decide) ?_
              exact ih v4 (v4 + 1) _ _ hw hS _ (lv_sub hl [0, 1, 3, 4, 5] rfl) (cs_up5 hm.1 c_2 g1) hRes
            · replace hRes := cs_F c_8 hRes
              refine lv_iload_n hx hb dX2_pieceEnd_93 rfl (lv_at hl 2 rfl) ?_
              exact cs_iret hF hr hlk hw hK hS dX2_pieceEnd_94 ⟨hRes, rfl⟩
        · replace hRes := cs_F c_4 hRes
          refine lv_aload_n hx hb dX2_pieceEnd_31 rfl (lv_at hl 2 rfl) ?_
          refine cs_get (C := RX2) (T := TX2) (N := 4) hF in_X2 hw hK 5 rfl rfl 0 (by decide) q_69 rfl dX2_pieceEnd_32 ?_
          refine lv_aload_n hx hb dX2_pieceEnd_35 rfl (lv_at hl 2 rfl) ?_
          refine cs_get (C := RX2) (T := TX2) (N := 4) hF in_X2 hw hK 5 rfl rfl 3 (by decide) q_68 rfl dX2_pieceEnd_36 ?_
          refine lv_iload hx hb dX2_pieceEnd_39 (lv_at hl 0 rfl) ?_
          refine cs_vir hF (c_X3_at l D cy ad S 18 v4 (by decide)) (cwV 1 hts g_X2_37 rfl rfl rfl kk_X3_at ⟨Nat.le_of_ble_eq_true rfl, Nat.le_of_ble_eq_true rfl⟩) (cs_recvR hK hw (by decide)) hw hK hS rfl hl.1 [.ref (ad 2)] rfl (Nat.le_of_ble_eq_true rfl) dX2_pieceEnd_41 (fun r_10 H locs hq hw hS => ?_)
          replace hRes := cs_letE hq hRes
          clear hq
          refine cs_vir hF (c_X1_key l D cy ad S r_10) (cwV 1 hts g_X2_54 rfl rfl rfl kk_X1_key ⟨Nat.le_of_ble_eq_true rfl, Nat.le_of_ble_eq_true rfl⟩) (cs_recv hK hw (ci := 1) 2 rfl rfl) hw hK hS rfl hl.1 [] rfl (Nat.le_of_ble_eq_true rfl) dX2_pieceEnd_44 (fun r_11 H locs hq hw hS => ?_)
          replace hRes := cs_letE hq hRes
          clear hq
          refine lv_aload_n hx hb dX2_pieceEnd_47 rfl (lv_at hl 2 rfl) ?_
          refine cs_get (C := RX2) (T := TX2) (N := 4) hF in_X2 hw hK 5 rfl rfl 0 (by decide) q_69 rfl dX2_pieceEnd_48 ?_
          refine lv_aload_n hx hb dX2_pieceEnd_51 rfl (lv_at hl 2 rfl) ?_
          refine cs_get (C := RX2) (T := TX2) (N := 4) hF in_X2 hw hK 5 rfl rfl 3 (by decide) q_68 rfl dX2_pieceEnd_52 ?_
          refine lv_iload hx hb dX2_pieceEnd_55 (lv_at hl 0 rfl) ?_
          refine lv_iconst (v := 1) hx hb dX2_pieceEnd_57 (by decide) ?_
          refine lv_isub hx hb dX2_pieceEnd_58 ?_
          refine cs_vir hF (c_X3_at l D cy ad S 18 (v4 - 1) (by decide)) (cwV 1 hts g_X2_37 rfl rfl rfl kk_X3_at ⟨Nat.le_of_ble_eq_true rfl, Nat.le_of_ble_eq_true rfl⟩) (cs_recvR hK hw (by decide)) hw hK hS rfl hl.1 [.ref (ad 2), .int r_11] rfl (Nat.le_of_ble_eq_true rfl) dX2_pieceEnd_59 (fun r_12 H locs hq hw hS => ?_)
          replace hRes := cs_letE hq hRes
          clear hq
          refine cs_vir hF (c_X1_key l D cy ad S r_12) (cwV 1 hts g_X2_54 rfl rfl rfl kk_X1_key ⟨Nat.le_of_ble_eq_true rfl, Nat.le_of_ble_eq_true rfl⟩) (cs_recv hK hw (ci := 1) 2 rfl rfl) hw hK hS rfl hl.1 [.int r_11] rfl (Nat.le_of_ble_eq_true rfl) dX2_pieceEnd_62 (fun r_13 H locs hq hw hS => ?_)
          replace hRes := cs_letE hq hRes
          clear hq
          refine lv_icmp_eq (tgt := 72) hx hb dX2_pieceEnd_65 (by decide) (fun c_14 => ?_) (fun c_14 => ?_)
          · replace hRes := cs_T c_14 hRes
            refine lv_iconst (v := 0) hx hb dX2_pieceEnd_72 (by decide) ?_
            refine lv_istore (lv' := [(5, .int 0), (4, .int v4), (3, .int v3), (0, .ref (ad 5)), (1, .int a1), (2, .int a2)]) hx hb dX2_pieceEnd_73 hl (by decide) rfl (fun ls hl => ?_)
            refine lv_iload hx hb dX2_pieceEnd_75 (lv_at hl 0 rfl) ?_
            refine lv_if_eq (tgt := 95) hx hb dX2_pieceEnd_77 (by decide) (fun c_15 => ?_) (fun c_15 => False.elim (by revert c_15; decide))
            refine lv_iload hx hb dX2_pieceEnd_95 (lv_at hl 0 rfl) ?_
            refine lv_if_eq (tgt := 103) hx hb dX2_pieceEnd_97 (by decide) (fun c_16 => ?_) (fun c_16 => False.elim (by revert c_16; decide))
            refine lv_iinc (v := v4 + 1) (lv' := [(4, .int (v4 + 1)), (5, .int 0), (3, .int v3), (0, .ref (ad 5)), (1, .int a1), (2, .int a2)]) hx hb dX2_pieceEnd_103 hl (k := 1) rfl rfl (by decide) rfl (fun ls hl => ?_)
            refine lv_goto (tgt := 7) hx hb dX2_pieceEnd_106 (by decide) ?_
            exact ih v3 (v4 + 1) _ _ hw hS _ (lv_sub hl [0, 2, 3, 4, 5] rfl) (cs_up5 hm.1 c_2 g1) hRes
          · replace hRes := cs_F c_14 hRes
            refine lv_iconst (v := 1) hx hb dX2_pieceEnd_68 (by decide) ?_
            refine lv_goto (tgt := 73) hx hb dX2_pieceEnd_69 (by decide) ?_
            refine lv_istore (lv' := [(5, .int 1), (4, .int v4), (3, .int v3), (0, .ref (ad 5)), (1, .int a1), (2, .int a2)]) hx hb dX2_pieceEnd_73 hl (by decide) rfl (fun ls hl => ?_)
            refine lv_iload hx hb dX2_pieceEnd_75 (lv_at hl 0 rfl) ?_
            refine lv_if_eq (tgt := 95) hx hb dX2_pieceEnd_77 (by decide) (fun c_17 => False.elim (by revert c_17; decide)) (fun c_17 => ?_)
            refine lv_iload_n hx hb dX2_pieceEnd_80 rfl (lv_at hl 2 rfl) ?_
            refine lv_iload_n hx hb dX2_pieceEnd_81 rfl (lv_at hl 4 rfl) ?_
            refine lv_icmp_le (tgt := 95) hx hb dX2_pieceEnd_82 (by decide) (fun c_18 => ?_) (fun c_18 => ?_)
            · replace hRes := cs_T c_18 hRes
              refine lv_iload hx hb dX2_pieceEnd_95 (lv_at hl 0 rfl) ?_
              refine lv_if_eq (tgt := 103) hx hb dX2_pieceEnd_97 (by decide) (fun c_19 => False.elim (by revert c_19; decide)) (fun c_19 => ?_)
              refine lv_iload hx hb dX2_pieceEnd_100 (lv_at hl 1 rfl) ?_
              refine lv_istore_n (lv' := [(3, .int v4), (5, .int 1), (4, .int v4), (0, .ref (ad 5)), (1, .int a1), (2, .int a2)]) hx hb dX2_pieceEnd_102 rfl hl (by decide) rfl (fun ls hl => ?_)
              refine lv_iinc (v := v4 + 1) (lv' := [(4, .int (v4 + 1)), (3, .int v4), (5, .int 1), (0, .ref (ad 5)), (1, .int a1), (2, .int a2)]) hx hb dX2_pieceEnd_103 hl (k := 2) rfl rfl (by decide) rfl (fun ls hl => ?_)
              refine lv_goto (tgt := 7) hx hb dX2_pieceEnd_106 (by decide) ?_
              exact ih v4 (v4 + 1) _ _ hw hS _ (lv_sub hl [0, 1, 3, 4, 5] rfl) (cs_up5 hm.1 c_2 g1) hRes
            · replace hRes := cs_F c_18 hRes
              refine lv_iload hx hb dX2_pieceEnd_85 (lv_at hl 1 rfl) ?_
              refine lv_iload_n hx hb dX2_pieceEnd_87 rfl (lv_at hl 4 rfl) ?_
              refine lv_isub hx hb dX2_pieceEnd_88 ?_
              refine lv_iload_n hx hb dX2_pieceEnd_89 rfl (lv_at hl 5 rfl) ?_
              refine lv_icmp_le (tgt := 95) hx hb dX2_pieceEnd_90 (by decide) (fun c_20 => ?_) (fun c_20 => ?_)
              · replace hRes := cs_T c_20 hRes
                refine lv_iload hx hb dX2_pieceEnd_95 (lv_at hl 0 rfl) ?_
                refine lv_if_eq (tgt := 103) hx hb dX2_pieceEnd_97 (by decide) (fun c_21 => False.elim (by revert c_21; decide)) (fun c_21 => ?_)
                refine lv_iload hx hb dX2_pieceEnd_100 (lv_at hl 1 rfl) ?_
                refine lv_istore_n (lv' := [(3, .int v4), (5, .int 1), (4, .int v4), (0, .ref (ad 5)), (1, .int a1), (2, .int a2)]) hx hb dX2_pieceEnd_102 rfl hl (by decide) rfl (fun ls hl => ?_)
                refine lv_iinc (v := v4 + 1) (lv' := [(4, .int (v4 + 1)), (3, .int v4), (5, .int 1), (0, .ref (ad 5)), (1, .int a1), (2, .int a2)]) hx hb dX2_pieceEnd_103 hl (k := 2) rfl rfl (by decide) rfl (fun ls hl => ?_)
                refine lv_goto (tgt := 7) hx hb dX2_pieceEnd_106 (by decide) ?_
                exact ih v4 (v4 + 1) _ _ hw hS _ (lv_sub hl [0, 1, 3, 4, 5] rfl) (cs_up5 hm.1 c_2 g1) hRes
              · replace hRes := cs_F c_20 hRes
                refine lv_iload_n hx hb dX2_pieceEnd_93 rfl (lv_at hl 2 rfl) ?_
                exact cs_iret hF hr hlk hw hK hS dX2_pieceEnd_94 ⟨hRes, rfl⟩
  exact lp cs_N a1 (a1 + 1) _ _ hw hS _ (lv_sub hl [0, 1, 2, 3, 4] rfl) (cs_up0 (a1 + 1)) hRes
theorem kk_X2_pieceEnd : yX2_pieceEnd.cls = RX2 ∧ yX2_pieceEnd.cls ≠ "java/lang/invoke/MethodHandle" ∧ yX2_pieceEnd.cls ≠ "java/lang/invoke/VarHandle" ∧ (parseMethodDescriptor yX2_pieceEnd.desc).map (fun d => d.parameters.length) = some 2 := by decide +kernel
