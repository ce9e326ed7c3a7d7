theorem g_X4_42 : GoodIn cs_WS (wsV RX4 42 RX3 yX3_length (cs_ws yX3_length cX3_length 1 (some .int))) := cs_goodV q_130 q_20 q_21 q_10 q_15
def m_X4_total (S : cs_St) : Int32 := cs_let (m_X3_length S 11) (fun r_1 => r_1)
set_option maxHeartbeats 4000000 in
set_option maxRecDepth 100000 in
theorem c_X4_total (l : Launch) (D : va_G) (cy : ClassId) (ad : Nat → Nat) (S : cs_St) : Met l yX4_total (cs_ws yX4_total cX4_total 1 (some .int)) (cs_rm 1 20) (cs_Pc D cy ad [.ref (ad 4)] S) (cs_Qi D cy ad (fun r S1 => r = m_X4_total S ∧ S1 = S)) 0 0 (cs_A ad) := by
  refine cs_of RX4 (by decide) rfl (Nat.le_of_ble_eq_true rfl) ?_
  intro p e s m below meth c hF hr hlk hw hK ls hl
  obtain ⟨hx, hb, hml, hown, hts⟩ := id hF
  have hS : va_S (cs_A ad) s.heap s.heap [] := va_S.rf
  have hl : lv_has ls 1 [(0, .ref (ad 4))] := hl
  generalize hRes : m_X4_total S = Res
  unfold m_X4_total at hRes
  refine lv_aload_n hx hb dX4_total_0 rfl (lv_at hl 0 rfl) ?_
  refine cs_get (C := RX4) (T := TX4) (N := 8) hF in_X4 hw hK 4 rfl rfl 2 (by decide) q_121 rfl dX4_total_1 ?_
  refine cs_vir hF (c_X3_length l D cy ad S 11 (by decide)) (cwV 0 hts g_X4_42 rfl rfl rfl kk_X3_length ⟨Nat.le_of_ble_eq_true rfl, Nat.le_of_ble_eq_true rfl⟩) (cs_recvR hK hw (by decide)) hw hK hS rfl hl.1 [] rfl (Nat.le_of_ble_eq_true rfl) dX4_total_4 (fun r_1 H locs hq hw hS => ?_)
  replace hRes := cs_letE hq hRes
  clear hq
  exact cs_iret hF hr hlk hw hK hS dX4_total_7 ⟨hRes, rfl⟩
theorem kk_X4_total : yX4_total.cls = RX4 ∧ yX4_total.cls ≠ "java/lang/invoke/MethodHandle" ∧ yX4_total.cls ≠ "java/lang/invoke/VarHandle" ∧ (parseMethodDescriptor yX4_total.desc).map (fun d => d.parameters.length) = some 0 := by decide +kernel
theorem g_X4_46 : GoodIn cs_WS (wsV RX4 46 RX3 yX3_at (cs_ws yX3_at cX3_at 2 (some .int))) := cs_goodV q_132 q_50 q_51 q_10 q_47
def m_X4_count (S : cs_St) (a1 : Int32) : Int32 := cs_let (m_X3_at S 16 a1) (fun r_1 => r_1)
set_option maxHeartbeats 4000000 in
set_option maxRecDepth 100000 in
theorem c_X4_count (l : Launch) (D : va_G) (cy : ClassId) (ad : Nat → Nat) (S : cs_St) (a1 : Int32) : Met l yX4_count (cs_ws yX4_count cX4_count 2 (some .int)) (cs_rm 1 21) (cs_Pc D cy ad [.ref (ad 4), .int a1] S) (cs_Qi D cy ad (fun r S1 => r = m_X4_count S a1 ∧ S1 = S)) 0 0 (cs_A ad) := by
  refine cs_of RX4 (by decide) rfl (Nat.le_of_ble_eq_true rfl) ?_
  intro p e s m below meth c hF hr hlk hw hK ls hl
  obtain ⟨hx, hb, hml, hown, hts⟩ := id hF
  have hS : va_S (cs_A ad) s.heap s.heap [] := va_S.rf
  have hl : lv_has ls 2 [(0, .ref (ad 4)), (1, .int a1)] := hl
  generalize hRes : m_X4_count S a1 = Res
  unfold m_X4_count at hRes
  refine lv_aload_n hx hb dX4_count_0 rfl (lv_at hl 0 rfl) ?_
  refine cs_get (C := RX4) (T := TX4) (N := 8) hF in_X4 hw hK 4 rfl rfl 7 (by decide) q_126 rfl dX4_count_1 ?_
  refine lv_iload_n hx hb dX4_count_4 rfl (lv_at hl 1 rfl) ?_
  refine cs_vir hF (c_X3_at l D cy ad S 16 a1 (by decide)) (cwV 1 hts g_X4_46 rfl rfl rfl kk_X3_at ⟨Nat.le_of_ble_eq_true rfl, Nat.le_of_ble_eq_true rfl⟩) (cs_recvR hK hw (by decide)) hw hK hS rfl hl.1 [] rfl (Nat.le_of_ble_eq_true rfl) dX4_count_5 (fun r_1 H locs hq hw hS => ?_)
  replace hRes := cs_letE hq hRes
  clear hq
  exact cs_iret hF hr hlk hw hK hS dX4_count_8 ⟨hRes, rfl⟩
theorem kk_X4_count : yX4_count.cls = RX4 ∧ yX4_count.cls ≠ "java/lang/invoke/MethodHandle" ∧ yX4_count.cls ≠ "java/lang/invoke/VarHandle" ∧ (parseMethodDescriptor yX4_count.desc).map (fun d => d.parameters.length) = some 1 := by decide +kernel
def m_X4_first_L4 (S : cs_St) (u1 : Int32) : Nat → Int32 → Int32 → Int32 × Int32
  | 0, _, _ => (0, 0)
  | n + 1, v2, v3 => (if u1 ≤ v3 then (v2, v3) else cs_let (m_X3_at S 16 v3) (fun r_2 => m_X4_first_L4 S u1 n (v2 + r_2) (v3 + 1)))
theorem m_X4_first_L4_s {S : cs_St} {u1 : Int32} {n : Nat} {v2 : Int32} {v3 : Int32} : m_X4_first_L4 S u1 (n + 1) v2 v3 = (if u1 ≤ v3 then (v2, v3) else cs_let (m_X3_at S 16 v3) (fun r_2 => m_X4_first_L4 S u1 n (v2 + r_2) (v3 + 1))) := rfl
def m_X4_first (S : cs_St) (a1 : Int32) : Int32 := cs_let (m_X4_first_L4 S a1 cs_N 0 0) (fun T_3 => T_3.1)
set_option maxHeartbeats 4000000 in
set_option maxRecDepth 100000 in
theorem c_X4_first (l : Launch) (D : va_G) (cy : ClassId) (ad : Nat → Nat) (S : cs_St) (a1 : Int32) : Met l yX4_first (cs_ws yX4_first cX4_first 4 (some .int)) (cs_rm 1 21) (cs_Pc D cy ad [.ref (ad 4), .int a1] S) (cs_Qi D cy ad (fun r S1 => r = m_X4_first S a1 ∧ S1 = S)) 0 0 (cs_A ad) := by
  refine cs_of RX4 (by decide) rfl (Nat.le_of_ble_eq_true rfl) ?_
  intro p e s m below meth c hF hr hlk hw hK ls hl
  obtain ⟨hx, hb, hml, hown, hts⟩ := id hF
  have hS : va_S (cs_A ad) s.heap s.heap [] := va_S.rf
  have hl : lv_has ls 4 [(0, .ref (ad 4)), (1, .int a1)] := hl
  generalize hRes : m_X4_first S a1 = Res
  unfold m_X4_first at hRes
  refine lv_iconst (v := 0) hx hb dX4_first_0 (by decide) ?_
  refine lv_istore_n (lv' := [(2, .int 0), (0, .ref (ad 4)), (1, .int a1)]) hx hb dX4_first_1 rfl hl (by decide) rfl (fun ls hl => ?_)
  refine lv_iconst (v := 0) hx hb dX4_first_2 (by decide) ?_
  refine lv_istore_n (lv' := [(3, .int 0), (2, .int 0), (0, .ref (ad 4)), (1, .int a1)]) hx hb dX4_first_3 rfl hl (by decide) rfl (fun ls hl => ?_)
  -- the loop at 4
  obtain ⟨T_3, hq⟩ : ∃ z, z = m_X4_first_L4 S a1 cs_N 0 0 := ⟨_, rfl⟩
  replace hRes := cs_letE hq hRes
  have hk : ∀ (H : Heap) (locs : List Loc) (ls : Array Slot), cs_w D cy ad S H → va_S (cs_A ad) s.heap H locs → lv_has ls 4 [(3, .int T_3.2), (2, .int T_3.1), (0, .ref (ad 4)), (1, .int a1)] → W p l e (cs_rm 1 21) s m ([.ref (ad 4), .int a1]).toArray below meth c H locs 0 0 (MQ below (cs_Qi D cy ad (fun r S1 => r = Res ∧ S1 = S)) ([.ref (ad 4), .int a1]).toArray s 0 0 (cs_A ad)) (F0 m 26 ls []) := by
    intro H locs ls hw hS hl
    refine lv_iload_n hx hb dX4_first_26 rfl (lv_at hl 1 rfl) ?_
    exact cs_iret hF hr hlk hw hK hS dX4_first_27 ⟨hRes, rfl⟩
  have lp : ∀ (n : Nat) (v2 : Int32) (v3 : Int32) (H : Heap) (locs : List Loc), cs_w D cy ad S H → va_S (cs_A ad) s.heap H locs → ∀ (ls : Array Slot), lv_has ls 4 [(3, .int v3), (2, .int v2), (0, .ref (ad 4)), (1, .int a1)] → (2147483647 - v3.toInt < (n : Int) ∧ 0 < n) → m_X4_first_L4 S a1 n v2 v3 = T_3 → W p l e (cs_rm 1 21) s m ([.ref (ad 4), .int a1]).toArray below meth c H locs 0 0 (MQ below (cs_Qi D cy ad (fun r S1 => r = Res ∧ S1 = S)) ([.ref (ad 4), .int a1]).toArray s 0 0 (cs_A ad)) (F0 m 4 ls []) := by
    intro n
    induction n with
    | zero => intro v2 v3 H locs hw hS ls hl hm; exact absurd hm.2 (Nat.lt_irrefl 0)
    | succ n ih =>
      intro v2 v3 H locs hw hS ls hl hm hE
      replace hE := m_X4_first_L4_s.symm.trans hE
      refine lv_iload_n hx hb dX4_first_4 rfl (lv_at hl 0 rfl) ?_
      refine lv_iload_n hx hb dX4_first_5 rfl (lv_at hl 3 rfl) ?_
      refine lv_icmp_ge (tgt := 26) hx hb dX4_first_6 (by decide) (fun c_1 => ?_) (fun c_1 => ?_)
      · replace hE := cs_T c_1 hE
        subst hE
        exact hk _ _ _ hw hS (lv_sub hl [0, 1, 2, 3] rfl)
      · replace hE := cs_F c_1 hE
        refine lv_iload_n hx hb dX4_first_9 rfl (lv_at hl 1 rfl) ?_
        refine lv_aload_n hx hb dX4_first_10 rfl (lv_at hl 2 rfl) ?_
        refine cs_get (C := RX4) (T := TX4) (N := 8) hF in_X4 hw hK 4 rfl rfl 7 (by decide) q_126 rfl dX4_first_11 ?_
        refine lv_iload_n hx hb dX4_first_14 rfl (lv_at hl 0 rfl) ?_
        refine cs_vir hF (c_X3_at l D cy ad S 16 v3 (by decide)) (cwV 1 hts g_X4_46 rfl rfl rfl kk_X3_at ⟨Nat.le_of_ble_eq_true rfl, Nat.le_of_ble_eq_true rfl⟩) (cs_recvR hK hw (by decide)) hw hK hS rfl hl.1 [.int v2] rfl (Nat.le_of_ble_eq_true rfl) dX4_first_15 (fun r_2 H locs hq hw hS => ?_)
        replace hE := cs_letE hq hE
        clear hq
        refine lv_iadd hx hb dX4_first_18 ?_
        refine lv_istore_n (lv' := [(2, .int (v2 + r_2)), (3, .int v3), (0, .ref (ad 4)), (1, .int a1)]) hx hb dX4_first_19 rfl hl (by decide) rfl (fun ls hl => ?_)
        refine lv_iinc (v := v3 + 1) (lv' := [(3, .int (v3 + 1)), (2, .int (v2 + r_2)), (0, .ref (ad 4)), (1, .int a1)]) hx hb dX4_first_20 hl (k := 1) rfl rfl (by decide) rfl (fun ls hl => ?_)
        refine lv_goto (tgt := 4) hx hb dX4_first_23 (by decide) ?_
        exact ih (v2 + r_2) (v3 + 1) _ _ hw hS _ (lv_sub hl [0, 1, 2, 3] rfl) (cs_up hm.1 c_1) hE
  exact lp cs_N 0 0 _ _ hw hS _ (lv_sub hl [0, 1, 2, 3] rfl) (cs_up0 0) hq.symm
theorem kk_X4_first : yX4_first.cls = RX4 ∧ yX4_first.cls ≠ "java/lang/invoke/MethodHandle" ∧ yX4_first.cls ≠ "java/lang/invoke/VarHandle" ∧ (parseMethodDescriptor yX4_first.desc).map (fun d => d.parameters.length) = some 1 := by decide +kernel
def m_X4_begin (S : cs_St) (a1 : Int32) : Int32 := (if a1 ≤ 0 then 0 else cs_let (m_X3_at S 11 (a1 - 1)) (fun r_2 => r_2))
set_option maxHeartbeats 4000000 in
set_option maxRecDepth 100000 in
theorem c_X4_begin (l : Launch) (D : va_G) (cy : ClassId) (ad : Nat → Nat) (S : cs_St) (a1 : Int32) : Met l yX4_begin (cs_ws yX4_begin cX4_begin 2 (some .int)) (cs_rm 1 21) (cs_Pc D cy ad [.ref (ad 4), .int a1] S) (cs_Qi D cy ad (fun r S1 => r = m_X4_begin S a1 ∧ S1 = S)) 0 0 (cs_A ad) := by
  refine cs_of RX4 (by decide) rfl (Nat.le_of_ble_eq_true rfl) ?_
  intro p e s m below meth c hF hr hlk hw hK ls hl
  obtain ⟨hx, hb, hml, hown, hts⟩ := id hF
  have hS : va_S (cs_A ad) s.heap s.heap [] := va_S.rf
  have hl : lv_has ls 2 [(0, .ref (ad 4)), (1, .int a1)] := hl
  generalize hRes : m_X4_begin S a1 = Res
  unfold m_X4_begin at hRes
  refine lv_iload_n hx hb dX4_begin_0 rfl (lv_at hl 1 rfl) ?_
  refine lv_if_le (tgt := 17) hx hb dX4_begin_1 (by decide) (fun c_1 => ?_) (fun c_1 => ?_)
  · replace hRes := cs_T c_1 hRes
    refine lv_iconst (v := 0) hx hb dX4_begin_17 (by decide) ?_
    exact cs_iret hF hr hlk hw hK hS dX4_begin_18 ⟨hRes, rfl⟩
  · replace hRes := cs_F c_1 hRes
    refine lv_aload_n hx hb dX4_begin_4 rfl (lv_at hl 0 rfl) ?_
    refine cs_get (C := RX4) (T := TX4) (N := 8) hF in_X4 hw hK 4 rfl rfl 2 (by decide) q_121 rfl dX4_begin_5 ?_
    refine lv_iload_n hx hb dX4_begin_8 rfl (lv_at hl 1 rfl) ?_
    refine lv_iconst (v := 1) hx hb dX4_begin_9 (by decide) ?_
    refine lv_isub hx hb dX4_begin_10 ?_
    refine cs_vir hF (c_X3_at l D cy ad S 11 (a1 - 1) (by decide)) (cwV 1 hts g_X4_46 rfl rfl rfl kk_X3_at ⟨Nat.le_of_ble_eq_true rfl, Nat.le_of_ble_eq_true rfl⟩) (cs_recvR hK hw (by decide)) hw hK hS rfl hl.1 [] rfl (Nat.le_of_ble_eq_true rfl) dX4_begin_11 (fun r_2 H locs hq hw hS => ?_)
    replace hRes := cs_letE hq hRes
    clear hq
    refine lv_goto (tgt := 18) hx hb dX4_begin_14 (by decide) ?_
    exact cs_iret hF hr hlk hw hK hS dX4_begin_18 ⟨hRes, rfl⟩
theorem kk_X4_begin : yX4_begin.cls = RX4 ∧ yX4_begin.cls ≠ "java/lang/invoke/MethodHandle" ∧ yX4_begin.cls ≠ "java/lang/invoke/VarHandle" ∧ (parseMethodDescriptor yX4_begin.desc).map (fun d => d.parameters.length) = some 1 := by decide +kernel
theorem g_X4_50 : GoodIn cs_WS (wsV RX4 50 RX4 yX4_begin (cs_ws yX4_begin cX4_begin 2 (some .int))) := cs_goodV q_136 q_137 q_138 q_139 q_134
def m_X4_length (S : cs_St) (a1 : Int32) : Int32 := cs_let (m_X3_at S 11 a1) (fun r_1 => cs_let (m_X4_begin S a1) (fun r_2 => (r_1 - r_2)))
set_option maxHeartbeats 4000000 in
set_option maxRecDepth 100000 in
theorem c_X4_length (l : Launch) (D : va_G) (cy : ClassId) (ad : Nat → Nat) (S : cs_St) (a1 : Int32) : Met l yX4_length (cs_ws yX4_length cX4_length 2 (some .int)) (cs_rm 2 42) (cs_Pc D cy ad [.ref (ad 4), .int a1] S) (cs_Qi D cy ad (fun r S1 => r = m_X4_length S a1 ∧ S1 = S)) 0 0 (cs_A ad) := by
  refine cs_of RX4 (by decide) rfl (Nat.le_of_ble_eq_true rfl) ?_
  intro p e s m below meth c hF hr hlk hw hK ls hl
  obtain ⟨hx, hb, hml, hown, hts⟩ := id hF
  have hS : va_S (cs_A ad) s.heap s.heap [] := va_S.rf
  have hl : lv_has ls 2 [(0, .ref (ad 4)), (1, .int a1)] := hl
  generalize hRes : m_X4_length S a1 = Res
  unfold m_X4_length at hRes
  refine lv_aload_n hx hb dX4_length_0 rfl (lv_at hl 0 rfl) ?_
  refine cs_get (C := RX4) (T := TX4) (N := 8) hF in_X4 hw hK 4 rfl rfl 2 (by decide) q_121 rfl dX4_length_1 ?_
  refine lv_iload_n hx hb dX4_length_4 rfl (lv_at hl 1 rfl) ?_
  refine cs_vir hF (c_X3_at l D cy ad S 11 a1 (by decide)) (cwV 1 hts g_X4_46 rfl rfl rfl kk_X3_at ⟨Nat.le_of_ble_eq_true rfl, Nat.le_of_ble_eq_true rfl⟩) (cs_recvR hK hw (by decide)) hw hK hS rfl hl.1 [] rfl (Nat.le_of_ble_eq_true rfl) dX4_length_5 (fun r_1 H locs hq hw hS => ?_)
  replace hRes := cs_letE hq hRes
  clear hq
  refine lv_aload_n hx hb dX4_length_8 rfl (lv_at hl 0 rfl) ?_
  refine lv_iload_n hx hb dX4_length_9 rfl (lv_at hl 1 rfl) ?_
  refine cs_vir hF (c_X4_begin l D cy ad S a1) (cwV 1 hts g_X4_50 rfl rfl rfl kk_X4_begin ⟨Nat.le_of_ble_eq_true rfl, Nat.le_of_ble_eq_true rfl⟩) (cs_recv hK hw (ci := 4) 4 rfl rfl) hw hK hS rfl hl.1 [.int r_1] rfl (Nat.le_of_ble_eq_true rfl) dX4_length_10 (fun r_2 H locs hq hw hS => ?_)
  replace hRes := cs_letE hq hRes
  clear hq
  refine lv_isub hx hb dX4_length_13 ?_
  exact cs_iret hF hr hlk hw hK hS dX4_length_14 ⟨hRes, rfl⟩
theorem kk_X4_length : yX4_length.cls = RX4 ∧ yX4_length.cls ≠ "java/lang/invoke/MethodHandle" ∧ yX4_length.cls ≠ "java/lang/invoke/VarHandle" ∧ (parseMethodDescriptor yX4_length.desc).map (fun d => d.parameters.length) = some 1 := by decide +kernel
theorem g_X4_53 : GoodIn cs_WS (wsV RX4 53 RX4 yX4_first (cs_ws yX4_first cX4_first 4 (some .int))) := cs_goodV q_141 q_142 q_143 q_139 q_133
def m_X4_entriesOn (S : cs_St) (a1 : Int32) : Int32 := cs_let (m_X4_first S (a1 + 1)) (fun r_1 => cs_let (m_X4_begin S r_1) (fun r_2 => cs_let (m_X4_first S a1) (fun r_3 => cs_let (m_X4_begin S r_3) (fun r_4 => (r_2 - r_4)))))
set_option maxHeartbeats 4000000 in
set_option maxRecDepth 100000 in
theorem c_X4_entriesOn (l : Launch) (D : va_G) (cy : ClassId) (ad : Nat → Nat) (S : cs_St) (a1 : Int32) : Met l yX4_entriesOn (cs_ws yX4_entriesOn cX4_entriesOn 2 (some .int)) (cs_rm 2 44) (cs_Pc D cy ad [.ref (ad 4), .int a1] S) (cs_Qi D cy ad (fun r S1 => r = m_X4_entriesOn S a1 ∧ S1 = S)) 0 0 (cs_A ad) := by
  refine cs_of RX4 (by decide) rfl (Nat.le_of_ble_eq_true rfl) ?_
  intro p e s m below meth c hF hr hlk hw hK ls hl
  obtain ⟨hx, hb, hml, hown, hts⟩ := id hF
  have hS : va_S (cs_A ad) s.heap s.heap [] := va_S.rf
  have hl : lv_has ls 2 [(0, .ref (ad 4)), (1, .int a1)] := hl
  generalize hRes : m_X4_entriesOn S a1 = Res
  unfold m_X4_entriesOn at hRes
  refine lv_aload_n hx hb dX4_entriesOn_0 rfl (lv_at hl 0 rfl) ?_
  refine lv_aload_n hx hb dX4_entriesOn_1 rfl (lv_at hl 0 rfl) ?_
  refine lv_iload_n hx hb dX4_entriesOn_2 rfl (lv_at hl 1 rfl) ?_
  refine lv_iconst (v := 1) hx hb dX4_entriesOn_3 (by decide) ?_
  refine lv_iadd hx hb dX4_entriesOn_4 ?_
  refine cs_vir hF (c_X4_first l D cy ad S (a1 + 1)) (cwV 1 hts g_X4_53 rfl rfl rfl kk_X4_first ⟨Nat.le_of_ble_eq_true rfl, Nat.le_of_ble_eq_true rfl⟩) (cs_recv hK hw (ci := 4) 4 rfl rfl) hw hK hS rfl hl.1 [.ref (ad 4)] rfl (Nat.le_of_ble_eq_true rfl) dX4_entriesOn_5 (fun r_1 H locs hq hw hS => ?_)
  replace hRes := cs_letE hq hRes
  clear hq
  refine cs_vir hF (c_X4_begin l D cy ad S r_1) (cwV 1 hts g_X4_50 rfl rfl rfl kk_X4_begin ⟨Nat.le_of_ble_eq_true rfl, Nat.le_of_ble_eq_true rfl⟩) (cs_recv hK hw (ci := 4) 4 rfl rfl) hw hK hS rfl hl.1 [] rfl (Nat.le_of_ble_eq_true rfl) dX4_entriesOn_8 (fun r_2 H locs hq hw hS => ?_)
  replace hRes := cs_letE hq hRes
  clear hq
  refine lv_aload_n hx hb dX4_entriesOn_11 rfl (lv_at hl 0 rfl) ?_
  refine lv_aload_n hx hb dX4_entriesOn_12 rfl (lv_at hl 0 rfl) ?_
  refine lv_iload_n hx hb dX4_entriesOn_13 rfl (lv_at hl 1 rfl) ?_
  refine cs_vir hF (c_X4_first l D cy ad S a1) (cwV 1 hts g_X4_53 rfl rfl rfl kk_X4_first ⟨Nat.le_of_ble_eq_true rfl, Nat.le_of_ble_eq_true rfl⟩) (cs_recv hK hw (ci := 4) 4 rfl rfl) hw hK hS rfl hl.1 [.ref (ad 4), .int r_2] rfl (Nat.le_of_ble_eq_true rfl) dX4_entriesOn_14 (fun r_3 H locs hq hw hS => ?_)
  replace hRes := cs_letE hq hRes
  clear hq
  refine cs_vir hF (c_X4_begin l D cy ad S r_3) (cwV 1 hts g_X4_50 rfl rfl rfl kk_X4_begin ⟨Nat.le_of_ble_eq_true rfl, Nat.le_of_ble_eq_true rfl⟩) (cs_recv hK hw (ci := 4) 4 rfl rfl) hw hK hS rfl hl.1 [.int r_2] rfl (Nat.le_of_ble_eq_true rfl) dX4_entriesOn_17 (fun r_4 H locs hq hw hS => ?_)
  replace hRes := cs_letE hq hRes
  clear hq
  refine lv_isub hx hb dX4_entriesOn_20 ?_
  exact cs_iret hF hr hlk hw hK hS dX4_entriesOn_21 ⟨hRes, rfl⟩
theorem kk_X4_entriesOn : yX4_entriesOn.cls = RX4 ∧ yX4_entriesOn.cls ≠ "java/lang/invoke/MethodHandle" ∧ yX4_entriesOn.cls ≠ "java/lang/invoke/VarHandle" ∧ (parseMethodDescriptor yX4_entriesOn.desc).map (fun d => d.parameters.length) = some 1 := by decide +kernel
def m_X4_age (S : cs_St) (a1 : Int32) (a2 : Int32) : Int32 := cs_let (m_X4_begin S a1) (fun r_1 => cs_let (m_X3_at S 10 (r_1 + a2)) (fun r_2 => r_2))
set_option maxHeartbeats 4000000 in
set_option maxRecDepth 100000 in
theorem c_X4_age (l : Launch) (D : va_G) (cy : ClassId) (ad : Nat → Nat) (S : cs_St) (a1 : Int32) (a2 : Int32) : Met l yX4_age (cs_ws yX4_age cX4_age 3 (some .int)) (cs_rm 2 42) (cs_Pc D cy ad [.ref (ad 4), .int a1, .int a2] S) (cs_Qi D cy ad (fun r S1 => r = m_X4_age S a1 a2 ∧ S1 = S)) 0 0 (cs_A ad) := by
  refine cs_of RX4 (by decide) rfl (Nat.le_of_ble_eq_true rfl) ?_
  intro p e s m below meth c hF hr hlk hw hK ls hl
  obtain ⟨hx, hb, hml, hown, hts⟩ := id hF
  have hS : va_S (cs_A ad) s.heap s.heap [] := va_S.rf
  have hl : lv_has ls 3 [(0, .ref (ad 4)), (1, .int a1), (2, .int a2)] := hl
  generalize hRes : m_X4_age S a1 a2 = Res
  unfold m_X4_age at hRes
  refine lv_aload_n hx hb dX4_age_0 rfl (lv_at hl 0 rfl) ?_
  refine cs_get (C := RX4) (T := TX4) (N := 8) hF in_X4 hw hK 4 rfl rfl 1 (by decide) q_120 rfl dX4_age_1 ?_
  refine lv_aload_n hx hb dX4_age_4 rfl (lv_at hl 0 rfl) ?_
  refine lv_iload_n hx hb dX4_age_5 rfl (lv_at hl 1 rfl) ?_
  refine cs_vir hF (c_X4_begin l D cy ad S a1) (cwV 1 hts g_X4_50 rfl rfl rfl kk_X4_begin ⟨Nat.le_of_ble_eq_true rfl, Nat.le_of_ble_eq_true rfl⟩) (cs_recv hK hw (ci := 4) 4 rfl rfl) hw hK hS rfl hl.1 [.ref (ad 26)] rfl (Nat.le_of_ble_eq_true rfl) dX4_age_6 (fun r_1 H locs hq hw hS => ?_)
  replace hRes := cs_letE hq hRes
  clear hq
  refine lv_iload_n hx hb dX4_age_9 rfl (lv_at hl 2 rfl) ?_
  refine lv_iadd hx hb dX4_age_10 ?_
  refine cs_vir hF (c_X3_at l D cy ad S 10 (r_1 + a2) (by decide)) (cwV 1 hts g_X4_46 rfl rfl rfl kk_X3_at ⟨Nat.le_of_ble_eq_true rfl, Nat.le_of_ble_eq_true rfl⟩) (cs_recvR hK hw (by decide)) hw hK hS rfl hl.1 [] rfl (Nat.le_of_ble_eq_true rfl) dX4_age_11 (fun r_2 H locs hq hw hS => ?_)
  replace hRes := cs_letE hq hRes
  clear hq
  exact cs_iret hF hr hlk hw hK hS dX4_age_14 ⟨hRes, rfl⟩
theorem kk_X4_age : yX4_age.cls = RX4 ∧ yX4_age.cls ≠ "java/lang/invoke/MethodHandle" ∧ yX4_age.cls ≠ "java/lang/invoke/VarHandle" ∧ (parseMethodDescriptor yX4_age.desc).map (fun d => d.parameters.length) = some 2 := by decide +kernel
theorem g_X4_56 : GoodIn cs_WS (wsV RX4 56 RX1 yX1_key (cs_ws yX1_key cX1_key 2 (some .int))) := cs_goodV q_146 q_89 q_90 q_91 q_48
def m_X4_least (S : cs_St) (a1 : Int32) : Int32 := cs_let (m_X4_begin S a1) (fun r_1 => cs_let (m_X3_at S 10 r_1) (fun r_2 => cs_let (m_X1_key S r_2) (fun r_3 => r_3)))
set_option maxHeartbeats 4000000 in
set_option maxRecDepth 100000 in
theorem c_X4_least (l : Launch) (D : va_G) (cy : ClassId) (ad : Nat → Nat) (S : cs_St) (a1 : Int32) : Met l yX4_least (cs_ws yX4_least cX4_least 2 (some .int)) (cs_rm 2 42) (cs_Pc D cy ad [.ref (ad 4), .int a1] S) (cs_Qi D cy ad (fun r S1 => r = m_X4_least S a1 ∧ S1 = S)) 0 0 (cs_A ad) := by
  refine cs_of RX4 (by decide) rfl (Nat.le_of_ble_eq_true rfl) ?_
  intro p e s m below meth c hF hr hlk hw hK ls hl
  obtain ⟨hx, hb, hml, hown, hts⟩ := id hF
  have hS : va_S (cs_A ad) s.heap s.heap [] := va_S.rf
  have hl : lv_has ls 2 [(0, .ref (ad 4)), (1, .int a1)] := hl
  generalize hRes : m_X4_least S a1 = Res
  unfold m_X4_least at hRes
  refine lv_aload_n hx hb dX4_least_0 rfl (lv_at hl 0 rfl) ?_
  refine cs_get (C := RX4) (T := TX4) (N := 8) hF in_X4 hw hK 4 rfl rfl 0 (by decide) q_127 rfl dX4_least_1 ?_
  refine lv_aload_n hx hb dX4_least_4 rfl (lv_at hl 0 rfl) ?_
  refine cs_get (C := RX4) (T := TX4) (N := 8) hF in_X4 hw hK 4 rfl rfl 1 (by decide) q_120 rfl dX4_least_5 ?_
  refine lv_aload_n hx hb dX4_least_8 rfl (lv_at hl 0 rfl) ?_
  refine lv_iload_n hx hb dX4_least_9 rfl (lv_at hl 1 rfl) ?_
  refine cs_vir hF (c_X4_begin l D cy ad S a1) (cwV 1 hts g_X4_50 rfl rfl rfl kk_X4_begin ⟨Nat.le_of_ble_eq_true rfl, Nat.le_of_ble_eq_true rfl⟩) (cs_recv hK hw (ci := 4) 4 rfl rfl) hw hK hS rfl hl.1 [.ref (ad 26), .ref (ad 2)] rfl (Nat.le_of_ble_eq_true rfl) dX4_least_10 (fun r_1 H locs hq hw hS => ?_)
  replace hRes := cs_letE hq hRes
  clear hq
  refine cs_vir hF (c_X3_at l D cy ad S 10 r_1 (by decide)) (cwV 1 hts g_X4_46 rfl rfl rfl kk_X3_at ⟨Nat.le_of_ble_eq_true rfl, Nat.le_of_ble_eq_true rfl⟩) (cs_recvR hK hw (by decide)) hw hK hS rfl hl.1 [.ref (ad 2)] rfl (Nat.le_of_ble_eq_true rfl) dX4_least_13 (fun r_2 H locs hq hw hS => ?_)
  replace hRes := cs_letE hq hRes
  clear hq
  refine cs_vir hF (c_X1_key l D cy ad S r_2) (cwV 1 hts g_X4_56 rfl rfl rfl kk_X1_key ⟨Nat.le_of_ble_eq_true rfl, Nat.le_of_ble_eq_true rfl⟩) (cs_recv hK hw (ci := 1) 2 rfl rfl) hw hK hS rfl hl.1 [] rfl (Nat.le_of_ble_eq_true rfl) dX4_least_16 (fun r_3 H locs hq hw hS => ?_)
  replace hRes := cs_letE hq hRes
  clear hq
  exact cs_iret hF hr hlk hw hK hS dX4_least_19 ⟨hRes, rfl⟩
theorem kk_X4_least : yX4_least.cls = RX4 ∧ yX4_least.cls ≠ "java/lang/invoke/MethodHandle" ∧ yX4_least.cls ≠ "java/lang/invoke/VarHandle" ∧ (parseMethodDescriptor yX4_least.desc).map (fun d => d.parameters.length) = some 1 := by decide +kernel
def m_X4_greatest (S : cs_St) (a1 : Int32) : Int32 := cs_let (m_X3_at S 11 a1) (fun r_1 => cs_let (m_X3_at S 10 (r_1 - 1)) (fun r_2 => cs_let (m_X1_key S r_2) (fun r_3 => r_3)))
set_option maxHeartbeats 4000000 in
set_option maxRecDepth 100000 in
theorem c_X4_greatest (l : Launch) (D : va_G) (cy : ClassId) (ad : Nat → Nat) (S : cs_St) (a1 : Int32) : Met l yX4_greatest (cs_ws yX4_greatest cX4_greatest 2 (some .int)) (cs_rm 2 42) (cs_Pc D cy ad [.ref (ad 4), .int a1] S) (cs_Qi D cy ad (fun r S1 => r = m_X4_greatest S a1 ∧ S1 = S)) 0 0 (cs_A ad) := by
  refine cs_of RX4 (by decide) rfl (Nat.le_of_ble_eq_true rfl) ?_
  intro p e s m below meth c hF hr hlk hw hK ls hl
  obtain ⟨hx, hb, hml, hown, hts⟩ := id hF
  have hS : va_S (cs_A ad) s.heap s.heap [] := va_S.rf
  have hl : lv_has ls 2 [(0, .ref (ad 4)), (1, .int a1)] := hl
  generalize hRes : m_X4_greatest S a1 = Res
  unfold m_X4_greatest at hRes
  refine lv_aload_n hx hb dX4_greatest_0 rfl (lv_at hl 0 rfl) ?_
  refine cs_get (C := RX4) (T := TX4) (N := 8) hF in_X4 hw hK 4 rfl rfl 0 (by decide) q_127 rfl dX4_greatest_1 ?_
  refine lv_aload_n hx hb dX4_greatest_4 rfl (lv_at hl 0 rfl) ?_
  refine cs_get (C := RX4) (T := TX4) (N := 8) hF in_X4 hw hK 4 rfl rfl 1 (by decide) q_120 rfl dX4_greatest_5 ?_
  refine lv_aload_n hx hb dX4_greatest_8 rfl (lv_at hl 0 rfl) ?_
  refine cs_get (C := RX4) (T := TX4) (N := 8) hF in_X4 hw hK 4 rfl rfl 2 (by decide) q_121 rfl dX4_greatest_9 ?_
  refine lv_iload_n hx hb dX4_greatest_12 rfl (lv_at hl 1 rfl) ?_
  refine cs_vir hF (c_X3_at l D cy ad S 11 a1 (by decide)) (cwV 1 hts g_X4_46 rfl rfl rfl kk_X3_at ⟨Nat.le_of_ble_eq_true rfl, Nat.le_of_ble_eq_true rfl⟩) (cs_recvR hK hw (by decide)) hw hK hS rfl hl.1 [.ref (ad 26), .ref (ad 2)] rfl (Nat.le_of_ble_eq_true rfl) dX4_greatest_13 (fun r_1 H locs hq hw hS => ?_)
  replace hRes := cs_letE hq hRes
  clear hq
  refine lv_iconst (v := 1) hx hb dX4_greatest_16 (by decide) ?_
  refine lv_isub hx hb dX4_greatest_17 ?_
  refine cs_vir hF (c_X3_at l D cy ad S 10 (r_1 - 1) (by decide)) (cwV 1 hts g_X4_46 rfl rfl rfl kk_X3_at ⟨Nat.le_of_ble_eq_true rfl, Nat.le_of_ble_eq_true rfl⟩) (cs_recvR hK hw (by decide)) hw hK hS rfl hl.1 [.ref (ad 2)] rfl (Nat.le_of_ble_eq_true rfl) dX4_greatest_18 (fun r_2 H locs hq hw hS => ?_)
  replace hRes := cs_letE hq hRes
  clear hq
  refine cs_vir hF (c_X1_key l D cy ad S r_2) (cwV 1 hts g_X4_56 rfl rfl rfl kk_X1_key ⟨Nat.le_of_ble_eq_true rfl, Nat.le_of_ble_eq_true rfl⟩) (cs_recv hK hw (ci := 1) 2 rfl rfl) hw hK hS rfl hl.1 [] rfl (Nat.le_of_ble_eq_true rfl) dX4_greatest_21 (fun r_3 H locs hq hw hS => ?_)
  replace hRes := cs_letE hq hRes
  clear hq
  exact cs_iret hF hr hlk hw hK hS dX4_greatest_24 ⟨hRes, rfl⟩
theorem kk_X4_greatest : yX4_greatest.cls = RX4 ∧ yX4_greatest.cls ≠ "java/lang/invoke/MethodHandle" ∧ yX4_greatest.cls ≠ "java/lang/invoke/VarHandle" ∧ (parseMethodDescriptor yX4_greatest.desc).map (fun d => d.parameters.length) = some 1 := by decide +kernel
theorem g_X4_61 : GoodIn cs_WS (wsV RX4 61 RX4 yX4_least (cs_ws yX4_least cX4_least 2 (some .int))) := cs_goodV q_149 q_150 q_151 q_139 q_145
theorem g_X4_64 : GoodIn cs_WS (wsV RX4 64 RX4 yX4_greatest (cs_ws yX4_greatest cX4_greatest 2 (some .int))) := cs_goodV q_152 q_153 q_154 q_139 q_147
def m_X4_spans (S : cs_St) (a1 : Int32) (a2 : Int32) : Int32 := cs_let (m_X4_least S a1) (fun r_1 => (if a2 < r_1 then 0 else cs_let (m_X4_greatest S a1) (fun r_3 => (if r_3 < a2 then 0 else 1))))
set_option maxHeartbeats 4000000 in
set_option maxRecDepth 100000 in
theorem c_X4_spans (l : Launch) (D : va_G) (cy : ClassId) (ad : Nat → Nat) (S : cs_St) (a1 : Int32) (a2 : Int32) : Met l yX4_spans (cs_ws yX4_spans cX4_spans 3 (some .boolean)) (cs_rm 3 63) (cs_Pc D cy ad [.ref (ad 4), .int a1, .int a2] S) (cs_Qi D cy ad (fun r S1 => r = m_X4_spans S a1 a2 ∧ S1 = S)) 0 0 (cs_A ad) := by
  refine cs_of RX4 (by decide) rfl (Nat.le_of_ble_eq_true rfl) ?_
  intro p e s m below meth c hF hr hlk hw hK ls hl
  obtain ⟨hx, hb, hml, hown, hts⟩ := id hF
  have hS : va_S (cs_A ad) s.heap s.heap [] := va_S.rf
  have hl : lv_has ls 3 [(0, .ref (ad 4)), (1, .int a1), (2, .int a2)] := hl
  generalize hRes : m_X4_spans S a1 a2 = Res
  unfold m_X4_spans at hRes
  refine lv_aload_n hx hb dX4_spans_0 rfl (lv_at hl 0 rfl) ?_
  refine lv_iload_n hx hb dX4_spans_1 rfl (lv_at hl 1 rfl) ?_
  refine cs_vir hF (c_X4_least l D cy ad S a1) (cwV 1 hts g_X4_61 rfl rfl rfl kk_X4_least ⟨Nat.le_of_ble_eq_true rfl, Nat.le_of_ble_eq_true rfl⟩) (cs_recv hK hw (ci := 4) 4 rfl rfl) hw hK hS rfl hl.1 [] rfl (Nat.le_of_ble_eq_true rfl) dX4_spans_2 (fun r_1 H locs hq hw hS => ?_)
  replace hRes := cs_letE hq hRes
  clear hq
  refine lv_iload_n hx hb dX4_spans_5 rfl (lv_at hl 2 rfl) ?_
  refine lv_icmp_gt (tgt := 22) hx hb dX4_spans_6 (by decide) (fun c_2 => ?_) (fun c_2 => ?_)
  · replace hRes := cs_T c_2 hRes
    refine lv_iconst (v := 0) hx hb dX4_spans_22 (by decide) ?_
    exact cs_zret hF hr hlk hw hK hS dX4_spans_23 ⟨hRes, rfl⟩
  · replace hRes := cs_F c_2 hRes
    refine lv_iload_n hx hb dX4_spans_9 rfl (lv_at hl 2 rfl) ?_
    refine lv_aload_n hx hb dX4_spans_10 rfl (lv_at hl 0 rfl) ?_
    refine lv_iload_n hx hb dX4_spans_11 rfl (lv_at hl 1 rfl) ?_
    refine cs_vir hF (c_X4_greatest l D cy ad S a1) (cwV 1 hts g_X4_64 rfl rfl rfl kk_X4_greatest ⟨Nat.le_of_ble_eq_true rfl, Nat.le_of_ble_eq_true rfl⟩) (cs_recv hK hw (ci := 4) 4 rfl rfl) hw hK hS rfl hl.1 [.int a2] rfl (Nat.le_of_ble_eq_true rfl) dX4_spans_12 (fun r_3 H locs hq hw hS => ?_)
    replace hRes := cs_letE hq hRes
    clear hq
    refine lv_icmp_gt (tgt := 22) hx hb dX4_spans_15 (by decide) (fun c_4 => ?_) (fun c_4 => ?_)
    · replace hRes := cs_T c_4 hRes
      refine lv_iconst (v := 0) hx hb dX4_spans_22 (by decide) ?_
      exact cs_zret hF hr hlk hw hK hS dX4_spans_23 ⟨hRes, rfl⟩
    · replace hRes := cs_F c_4 hRes
      refine lv_iconst (v := 1) hx hb dX4_spans_18 (by decide) ?_
      refine lv_goto (tgt := 23) hx hb dX4_spans_19 (by decide) ?_
      exact cs_zret hF hr hlk hw hK hS dX4_spans_23 ⟨hRes, rfl⟩
theorem kk_X4_spans : yX4_spans.cls = RX4 ∧ yX4_spans.cls ≠ "java/lang/invoke/MethodHandle" ∧ yX4_spans.cls ≠ "java/lang/invoke/VarHandle" ∧ (parseMethodDescriptor yX4_spans.desc).map (fun d => d.parameters.length) = some 2 := by decide +kernel
theorem g_X4_67 : GoodIn cs_WS (wsV RX4 67 RX1 yX1_find (cs_ws yX1_find cX1_find 8 (some .int))) := cs_goodV q_156 q_108 q_109 q_91 q_63
def m_X4_find (S : cs_St) (a1 : Int32) (a2 : Int32) (a3 : Int32) : Int32 := cs_let (m_X4_begin S a1) (fun r_1 => cs_let (m_X3_at S 11 a1) (fun r_2 => cs_let (m_X1_find S 10 r_1 r_2 a2 a3) (fun r_3 => r_3)))
set_option maxHeartbeats 4000000 in
set_option maxRecDepth 100000 in
theorem c_X4_find (l : Launch) (D : va_G) (cy : ClassId) (ad : Nat → Nat) (S : cs_St) (a1 : Int32) (a2 : Int32) (a3 : Int32) : Met l yX4_find (cs_ws yX4_find cX4_find 4 (some .int)) (cs_rm 2 48) (cs_Pc D cy ad [.ref (ad 4), .int a1, .int a2, .int a3] S) (cs_Qi D cy ad (fun r S1 => r = m_X4_find S a1 a2 a3 ∧ S1 = S)) 0 0 (cs_A ad) := by
  refine cs_of RX4 (by decide) rfl (Nat.le_of_ble_eq_true rfl) ?_
  intro p e s m below meth c hF hr hlk hw hK ls hl
  obtain ⟨hx, hb, hml, hown, hts⟩ := id hF
  have hS : va_S (cs_A ad) s.heap s.heap [] := va_S.rf
  have hl : lv_has ls 4 [(0, .ref (ad 4)), (1, .int a1), (2, .int a2), (3, .int a3)] := hl
  generalize hRes : m_X4_find S a1 a2 a3 = Res
  unfold m_X4_find at hRes
  refine lv_aload_n hx hb dX4_find_0 rfl (lv_at hl 0 rfl) ?_
  refine cs_get (C := RX4) (T := TX4) (N := 8) hF in_X4 hw hK 4 rfl rfl 0 (by decide) q_127 rfl dX4_find_1 ?_
  refine lv_aload_n hx hb dX4_find_4 rfl (lv_at hl 0 rfl) ?_
  refine cs_get (C := RX4) (T := TX4) (N := 8) hF in_X4 hw hK 4 rfl rfl 1 (by decide) q_120 rfl dX4_find_5 ?_
  refine lv_aload_n hx hb dX4_find_8 rfl (lv_at hl 0 rfl) ?_
  refine lv_iload_n hx hb dX4_find_9 rfl (lv_at hl 1 rfl) ?_
  refine cs_vir hF (c_X4_begin l D cy ad S a1) (cwV 1 hts g_X4_50 rfl rfl rfl kk_X4_begin ⟨Nat.le_of_ble_eq_true rfl, Nat.le_of_ble_eq_true rfl⟩) (cs_recv hK hw (ci := 4) 4 rfl rfl) hw hK hS rfl hl.1 [.ref (ad 26), .ref (ad 2)] rfl (Nat.le_of_ble_eq_true rfl) dX4_find_10 (fun r_1 H locs hq hw hS => ?_)
  replace hRes := cs_letE hq hRes
  clear hq
  refine lv_aload_n hx hb dX4_find_13 rfl (lv_at hl 0 rfl) ?_
  refine cs_get (C := RX4) (T := TX4) (N := 8) hF in_X4 hw hK 4 rfl rfl 2 (by decide) q_121 rfl dX4_find_14 ?_
  refine lv_iload_n hx hb dX4_find_17 rfl (lv_at hl 1 rfl) ?_
  refine cs_vir hF (c_X3_at l D cy ad S 11 a1 (by decide)) (cwV 1 hts g_X4_46 rfl rfl rfl kk_X3_at ⟨Nat.le_of_ble_eq_true rfl, Nat.le_of_ble_eq_true rfl⟩) (cs_recvR hK hw (by decide)) hw hK hS rfl hl.1 [.int r_1, .ref (ad 26), .ref (ad 2)] rfl (Nat.le_of_ble_eq_true rfl) dX4_find_18 (fun r_2 H locs hq hw hS => ?_)
  replace hRes := cs_letE hq hRes
  clear hq
  refine lv_iload_n hx hb dX4_find_21 rfl (lv_at hl 2 rfl) ?_
  refine lv_iload_n hx hb dX4_find_22 rfl (lv_at hl 3 rfl) ?_
  refine cs_vir hF (c_X1_find l D cy ad S 10 r_1 r_2 a2 a3 (by decide)) (cwV 5 hts g_X4_67 rfl rfl rfl kk_X1_find ⟨Nat.le_of_ble_eq_true rfl, Nat.le_of_ble_eq_true rfl⟩) (cs_recv hK hw (ci := 1) 2 rfl rfl) hw hK hS rfl hl.1 [] rfl (Nat.le_of_ble_eq_true rfl) dX4_find_23 (fun r_3 H locs hq hw hS => ?_)
  replace hRes := cs_letE hq hRes
  clear hq
  exact cs_iret hF hr hlk hw hK hS dX4_find_26 ⟨hRes, rfl⟩
theorem kk_X4_find : yX4_find.cls = RX4 ∧ yX4_find.cls ≠ "java/lang/invoke/MethodHandle" ∧ yX4_find.cls ≠ "java/lang/invoke/VarHandle" ∧ (parseMethodDescriptor yX4_find.desc).map (fun d => d.parameters.length) = some 3 := by decide +kernel
def m_X4_leastOf_L7 (S : cs_St) (u1 : Int32) (u2 : Int32) : Nat → Int32 → Int32 → Int32 × Int32
  | 0, _, _ => (0, 0)
  | n + 1, v3, v4 => (if u2 ≤ v4 then (v3, v4) else cs_let (m_X4_least S v4) (fun r_2 => cs_let (if r_2 < v3 then r_2 else v3) (fun r_3 => m_X4_leastOf_L7 S u1 u2 n r_3 (v4 + 1))))
theorem m_X4_leastOf_L7_s {S : cs_St} {u1 : Int32} {u2 : Int32} {n : Nat} {v3 : Int32} {v4 : Int32} : m_X4_leastOf_L7 S u1 u2 (n + 1) v3 v4 = (if u2 ≤ v4 then (v3, v4) else cs_let (m_X4_least S v4) (fun r_2 => cs_let (if r_2 < v3 then r_2 else v3) (fun r_3 => m_X4_leastOf_L7 S u1 u2 n r_3 (v4 + 1)))) := rfl
def m_X4_leastOf (S : cs_St) (a1 : Int32) (a2 : Int32) : Int32 := cs_let (m_X4_leastOf_L7 S a1 a2 cs_N 9999 a1) (fun T_4 => T_4.1)
set_option maxHeartbeats 4000000 in
set_option maxRecDepth 100000 in
theorem c_X4_leastOf (l : Launch) (D : va_G) (cy : ClassId) (ad : Nat → Nat) (S : cs_St) (a1 : Int32) (a2 : Int32) : Met l yX4_leastOf (cs_ws yX4_leastOf cX4_leastOf 5 (some .int)) (cs_rm 3 63) (cs_Pc D cy ad [.ref (ad 4), .int a1, .int a2] S) (cs_Qi D cy ad (fun r S1 => r = m_X4_leastOf S a1 a2 ∧ S1 = S)) 0 0 (cs_A ad) := by
  refine cs_of RX4 (by decide) rfl (Nat.le_of_ble_eq_true rfl) ?_
  intro p e s m below meth c hF hr hlk hw hK ls hl
  obtain ⟨hx, hb, hml, hown, hts⟩ := id hF
  have hS : va_S (cs_A ad) s.heap s.heap [] := va_S.rf
  have hl : lv_has ls 5 [(0, .ref (ad 4)), (1, .int a1), (2, .int a2)] := hl
  generalize hRes : m_X4_leastOf S a1 a2 = Res
  unfold m_X4_leastOf at hRes
  refine lv_sipush (v := 9999) hx hb dX4_leastOf_0 (by decide) ?_
  refine lv_istore_n (lv' := [(3, .int 9999), (0, .ref (ad 4)), (1, .int a1), (2, .int a2)]) hx hb dX4_leastOf_3 rfl hl (by decide) rfl (fun ls hl => ?_)
  refine lv_iload_n hx hb dX4_leastOf_4 rfl (lv_at hl 2 rfl) ?_
  refine lv_istore (lv' := [(4, .int a1), (3, .int 9999), (0, .ref (ad 4)), (1, .int a1), (2, .int a2)]) hx hb dX4_leastOf_5 hl (by decide) rfl (fun ls hl => ?_)
  -- the loop at 7
  obtain ⟨T_4, hq⟩ : ∃ z, z = m_X4_leastOf_L7 S a1 a2 cs_N 9999 a1 := ⟨_, rfl⟩
  replace hRes := cs_letE hq hRes
  have hk : ∀ (H : Heap) (locs : List Loc) (ls : Array Slot), cs_w D cy ad S H → va_S (cs_A ad) s.heap H locs → lv_has ls 5 [(4, .int T_4.2), (3, .int T_4.1), (0, .ref (ad 4)), (1, .int a1), (2, .int a2)] → W p l e (cs_rm 3 63) s m ([.ref (ad 4), .int a1, .int a2]).toArray below meth c H locs 0 0 (MQ below (cs_Qi D cy ad (fun r S1 => r = Res ∧ S1 = S)) ([.ref (ad 4), .int a1, .int a2]).toArray s 0 0 (cs_A ad)) (F0 m 30 ls []) := by
    intro H locs ls hw hS hl
    refine lv_iload_n hx hb dX4_leastOf_30 rfl (lv_at hl 1 rfl) ?_
    exact cs_iret hF hr hlk hw hK hS dX4_leastOf_31 ⟨hRes, rfl⟩
  have lp : ∀ (n : Nat) (v3 : Int32) (v4 : Int32) (H : Heap) (locs : List Loc), cs_w D cy ad S H → va_S (cs_A ad) s.heap H locs → ∀ (ls : Array Slot), lv_has ls 5 [(4, .int v4), (3, .int v3), (0, .ref (ad 4)), (1, .int a1), (2, .int a2)] → (2147483647 - v4.toInt < (n : Int) ∧ 0 < n) → m_X4_leastOf_L7 S a1 a2 n v3 v4 = T_4 → W p l e (cs_rm 3 63) s m ([.ref (ad 4), .int a1, .int a2]).toArray below meth c H locs 0 0 (MQ below (cs_Qi D cy ad (fun r S1 => r = Res ∧ S1 = S)) ([.ref (ad 4), .int a1, .int a2]).toArray s 0 0 (cs_A ad)) (F0 m 7 ls []) := by
    intro n
    induction n with
    | zero => intro v3 v4 H locs hw hS ls hl hm; exact absurd hm.2 (Nat.lt_irrefl 0)
    | succ n ih =>
      intro v3 v4 H locs hw hS ls hl hm hE
      replace hE := m_X4_leastOf_L7_s.symm.trans hE
      refine lv_iload hx hb dX4_leastOf_7 (lv_at hl 0 rfl) ?_
      refine lv_iload_n hx hb dX4_leastOf_9 rfl (lv_at hl 4 rfl) ?_
      refine lv_icmp_ge (tgt := 30) hx hb dX4_leastOf_10 (by decide) (fun c_1 => ?_) (fun c_1 => ?_)
      · replace hE := cs_T c_1 hE
        subst hE
        exact hk _ _ _ hw hS (lv_sub hl [0, 1, 2, 3, 4] rfl)
      · replace hE := cs_F c_1 hE
        refine lv_iload_n hx hb dX4_leastOf_13 rfl (lv_at hl 1 rfl) ?_
        refine lv_aload_n hx hb dX4_leastOf_14 rfl (lv_at hl 2 rfl) ?_
        refine lv_iload hx hb dX4_leastOf_15 (lv_at hl 0 rfl) ?_
        refine cs_vir hF (c_X4_least l D cy ad S v4) (cwV 1 hts g_X4_61 rfl rfl rfl kk_X4_least ⟨Nat.le_of_ble_eq_true rfl, Nat.le_of_ble_eq_true rfl⟩) (cs_recv hK hw (ci := 4) 4 rfl rfl) hw hK hS rfl hl.1 [.int v3] rfl (Nat.le_of_ble_eq_true rfl) dX4_leastOf_17 (fun r_2 H locs hq hw hS => ?_)
        replace hE := cs_letE hq hE
        clear hq
        refine va_mmin hx hb (hml.trans hl.1.symm) hown (hts _ q_158) (hts _ q_159) (hts _ q_160) (hts _ q_161) (Nat.le_of_ble_eq_true rfl) (Nat.le_of_ble_eq_true rfl) (Nat.zero_le _) (Nat.zero_le _) dX4_leastOf_20 ?_
        refine lv_topi (fun r_3 hq => ?_)
        replace hE := cs_letE hq hE
        clear hq
        refine lv_istore_n (lv' := [(3, .int r_3), (4, .int v4), (0, .ref (ad 4)), (1, .int a1), (2, .int a2)]) hx hb dX4_leastOf_23 rfl hl (by decide) rfl (fun ls hl => ?_)
        refine lv_iinc (v := v4 + 1) (lv' := [(4, .int (v4 + 1)), (3, .int r_3), (0, .ref (ad 4)), (1, .int a1), (2, .int a2)]) hx hb dX4_leastOf_24 hl (k := 1) rfl rfl (by decide) rfl (fun ls hl => ?_)
        refine lv_goto (tgt := 7) hx hb dX4_leastOf_27 (by decide) ?_
        exact ih r_3 (v4 + 1) _ _ hw hS _ (lv_sub hl [0, 1, 2, 3, 4] rfl) (cs_up hm.1 c_1) hE
  exact lp cs_N 9999 a1 _ _ hw hS _ (lv_sub hl [0, 1, 2, 3, 4] rfl) (cs_up0 a1) hq.symm
theorem kk_X4_leastOf : yX4_leastOf.cls = RX4 ∧ yX4_leastOf.cls ≠ "java/lang/invoke/MethodHandle" ∧ yX4_leastOf.cls ≠ "java/lang/invoke/VarHandle" ∧ (parseMethodDescriptor yX4_leastOf.desc).map (fun d => d.parameters.length) = some 2 := by decide +kernel
def m_X4_greatestOf_L5 (S : cs_St) (u1 : Int32) (u2 : Int32) : Nat → Int32 → Int32 → Int32 × Int32
  | 0, _, _ => (0, 0)
  | n + 1, v3, v4 => (if u2 ≤ v4 then (v3, v4) else cs_let (m_X4_greatest S v4) (fun r_2 => cs_let (if v3 < r_2 then r_2 else v3) (fun r_3 => m_X4_greatestOf_L5 S u1 u2 n r_3 (v4 + 1))))
theorem m_X4_greatestOf_L5_s {S : cs_St} {u1 : Int32} {u2 : Int32} {n : Nat} {v3 : Int32} {v4 : Int32} : m_X4_greatestOf_L5 S u1 u2 (n + 1) v3 v4 = (if u2 ≤ v4 then (v3, v4) else cs_let (m_X4_greatest S v4) (fun r_2 => cs_let (if v3 < r_2 then r_2 else v3) (fun r_3 => m_X4_greatestOf_L5 S u1 u2 n r_3 (v4 + 1)))) := rfl
def m_X4_greatestOf (S : cs_St) (a1 : Int32) (a2 : Int32) : Int32 := cs_let (m_X4_greatestOf_L5 S a1 a2 cs_N 0 a1) (fun T_4 => T_4.1)
set_option maxHeartbeats 4000000 in
set_option maxRecDepth 100000 in
theorem c_X4_greatestOf (l : Launch) (D : va_G) (cy : ClassId) (ad : Nat → Nat) (S : cs_St) (a1 : Int32) (a2 : Int32) : Met l yX4_greatestOf (cs_ws yX4_greatestOf cX4_greatestOf 5 (some .int)) (cs_rm 3 63) (cs_Pc D cy ad [.ref (ad 4), .int a1, .int a2] S) (cs_Qi D cy ad (fun r S1 => r = m_X4_greatestOf S a1 a2 ∧ S1 = S)) 0 0 (cs_A ad) := by
  refine cs_of RX4 (by decide) rfl (Nat.le_of_ble_eq_true rfl) ?_
  intro p e s m below meth c hF hr hlk hw hK ls hl
  obtain ⟨hx, hb, hml, hown, hts⟩ := id hF
  have hS : va_S (cs_A ad) s.heap s.heap [] := va_S.rf
  have hl : lv_has ls 5 [(0, .ref (ad 4)), (1, .int a1), (2, .int a2)] := hl
  generalize hRes : m_X4_greatestOf S a1 a2 = Res
  unfold m_X4_greatestOf at hRes
  refine lv_iconst (v := 0) hx hb dX4_greatestOf_0 (by decide) ?_
  refine lv_istore_n (lv' := [(3, .int 0), (0, .ref (ad 4)), (1, .int a1), (2, .int a2)]) hx hb dX4_greatestOf_1 rfl hl (by decide) rfl (fun ls hl => ?_)
  refine lv_iload_n hx hb dX4_greatestOf_2 rfl (lv_at hl 2 rfl) ?_
  refine lv_istore (lv' := [(4, .int a1), (3, .int 0), (0, .ref (ad 4)), (1, .int a1), (2, .int a2)]) hx hb dX4_greatestOf_3 hl (by decide) rfl (fun ls hl => ?_)
  -- the loop at 5
  obtain ⟨T_4, hq⟩ : ∃ z, z = m_X4_greatestOf_L5 S a1 a2 cs_N 0 a1 := ⟨_, rfl⟩
  replace hRes := cs_letE hq hRes
  have hk : ∀ (H : Heap) (locs : List Loc) (ls : Array Slot), cs_w D cy ad S H → va_S (cs_A ad) s.heap H locs → lv_has ls 5 [(4, .int T_4.2), (3, .int T_4.1), (0, .ref (ad 4)), (1, .int a1), (2, .int a2)] → W p l e (cs_rm 3 63) s m ([.ref (ad 4), .int a1, .int a2]).toArray below meth c H locs 0 0 (MQ below (cs_Qi D cy ad (fun r S1 => r = Res ∧ S1 = S)) ([.ref (ad 4), .int a1, .int a2]).toArray s 0 0 (cs_A ad)) (F0 m 28 ls []) := by
    intro H locs ls hw hS hl
    refine lv_iload_n hx hb dX4_greatestOf_28 rfl (lv_at hl 1 rfl) ?_
    exact cs_iret hF hr hlk hw hK hS dX4_greatestOf_29 ⟨hRes, rfl⟩
  have lp : ∀ (n : Nat) (v3 : Int32) (v4 : Int32) (H : Heap) (locs : List Loc), cs_w D cy ad S H → va_S (cs_A ad) s.heap H locs → ∀ (ls : Array Slot), lv_has ls 5 [(4, .int v4), (3, .int v3), (0, .ref (ad 4)), (1, .int a1), (2, .int a2)] → (2147483647 - v4.toInt < (n : Int) ∧ 0 < n) → m_X4_greatestOf_L5 S a1 a2 n v3 v4 = T_4 → W p l e (cs_rm 3 63) s m ([.ref (ad 4), .int a1, .int a2]).toArray below meth c H locs 0 0 (MQ below (cs_Qi D cy ad (fun r S1 => r = Res ∧ S1 = S)) ([.ref (ad 4), .int a1, .int a2]).toArray s 0 0 (cs_A ad)) (F0 m 5 ls []) := by
    intro n
    induction n with
    | zero => intro v3 v4 H locs hw hS ls hl hm; exact absurd hm.2 (Nat.lt_irrefl 0)
    | succ n ih =>
      intro v3 v4 H locs hw hS ls hl hm hE
      replace hE := m_X4_greatestOf_L5_s.symm.trans hE
      refine lv_iload hx hb dX4_greatestOf_5 (lv_at hl 0 rfl) ?_
      refine lv_iload_n hx hb dX4_greatestOf_7 rfl (lv_at hl 4 rfl) ?_
      refine lv_icmp_ge (tgt := 28) hx hb dX4_greatestOf_8 (by decide) (fun c_1 => ?_) (fun c_1 => ?_)
      · replace hE := cs_T c_1 hE
        subst hE
        exact hk _ _ _ hw hS (lv_sub hl [0, 1, 2, 3, 4] rfl)
      · replace hE := cs_F c_1 hE
        refine lv_iload_n hx hb dX4_greatestOf_11 rfl (lv_at hl 1 rfl) ?_
        refine lv_aload_n hx hb dX4_greatestOf_12 rfl (lv_at hl 2 rfl) ?_
        refine lv_iload hx hb dX4_greatestOf_13 (lv_at hl 0 rfl) ?_
        refine cs_vir hF (c_X4_greatest l D cy ad S v4) (cwV 1 hts g_X4_64 rfl rfl rfl kk_X4_greatest ⟨Nat.le_of_ble_eq_true rfl, Nat.le_of_ble_eq_true rfl⟩) (cs_recv hK hw (ci := 4) 4 rfl rfl) hw hK hS rfl hl.1 [.int v3] rfl (Nat.le_of_ble_eq_true rfl) dX4_greatestOf_15 (fun r_2 H locs hq hw hS => ?_)
        replace hE := cs_letE hq hE
        clear hq
        refine va_mmax hx hb (hml.trans hl.1.symm) hown (hts _ q_163) (hts _ q_164) (hts _ q_160) (hts _ q_165) (Nat.le_of_ble_eq_true rfl) (Nat.le_of_ble_eq_true rfl) (Nat.zero_le _) (Nat.zero_le _) dX4_greatestOf_18 ?_
        refine lv_topi (fun r_3 hq => ?_)
        replace hE := cs_letE hq hE
        clear hq
        refine lv_istore_n (lv' := [(3, .int r_3), (4, .int v4), (0, .ref (ad 4)), (1, .int a1), (2, .int a2)]) hx hb dX4_greatestOf_21 rfl hl (by decide) rfl (fun ls hl => ?_)
        refine lv_iinc (v := v4 + 1) (lv' := [(4, .int (v4 + 1)), (3, .int r_3), (0, .ref (ad 4)), (1, .int a1), (2, .int a2)]) hx hb dX4_greatestOf_22 hl (k := 1) rfl rfl (by decide) rfl (fun ls hl => ?_)
        refine lv_goto (tgt := 5) hx hb dX4_greatestOf_25 (by decide) ?_
        exact ih r_3 (v4 + 1) _ _ hw hS _ (lv_sub hl [0, 1, 2, 3, 4] rfl) (cs_up hm.1 c_1) hE
  exact lp cs_N 0 a1 _ _ hw hS _ (lv_sub hl [0, 1, 2, 3, 4] rfl) (cs_up0 a1) hq.symm
theorem kk_X4_greatestOf : yX4_greatestOf.cls = RX4 ∧ yX4_greatestOf.cls ≠ "java/lang/invoke/MethodHandle" ∧ yX4_greatestOf.cls ≠ "java/lang/invoke/VarHandle" ∧ (parseMethodDescriptor yX4_greatestOf.desc).map (fun d => d.parameters.length) = some 2 := by decide +kernel
def m_X4_firstBeyond_L9 (S : cs_St) (u3 : Int32) (u1 : Int32) (u2 : Int32) : Nat → Int32 → Int32
  | 0, _ => 0
  | n + 1, v4 => cs_let (m_X3_at S 16 u1) (fun r_2 => (if r_2 ≤ v4 then cs_let (m_X3_at S 16 u1) (fun r_4 => r_4) else cs_let (m_X4_least S (u3 + v4)) (fun r_5 => (if r_5 ≤ u2 then m_X4_firstBeyond_L9 S u3 u1 u2 n (v4 + 1) else v4))))
theorem m_X4_firstBeyond_L9_s {S : cs_St} {u3 : Int32} {u1 : Int32} {u2 : Int32} {n : Nat} {v4 : Int32} : m_X4_firstBeyond_L9 S u3 u1 u2 (n + 1) v4 = cs_let (m_X3_at S 16 u1) (fun r_2 => (if r_2 ≤ v4 then cs_let (m_X3_at S 16 u1) (fun r_4 => r_4) else cs_let (m_X4_least S (u3 + v4)) (fun r_5 => (if r_5 ≤ u2 then m_X4_firstBeyond_L9 S u3 u1 u2 n (v4 + 1) else v4)))) := rfl
def m_X4_firstBeyond (S : cs_St) (a1 : Int32) (a2 : Int32) : Int32 := cs_let (m_X4_first S a1) (fun r_1 => m_X4_firstBeyond_L9 S r_1 a1 a2 cs_N 0)
set_option maxHeartbeats 4000000 in
set_option maxRecDepth 100000 in
theorem c_X4_firstBeyond (l : Launch) (D : va_G) (cy : ClassId) (ad : Nat → Nat) (S : cs_St) (a1 : Int32) (a2 : Int32) : Met l yX4_firstBeyond (cs_ws yX4_firstBeyond cX4_firstBeyond 5 (some .int)) (cs_rm 3 63) (cs_Pc D cy ad [.ref (ad 4), .int a1, .int a2] S) (cs_Qi D cy ad (fun r S1 => r = m_X4_firstBeyond S a1 a2 ∧ S1 = S)) 0 0 (cs_A ad) := by
  refine cs_of RX4 (by decide) rfl (Nat.le_of_ble_eq_true rfl) ?_
  intro p e s m below meth c hF hr hlk hw hK ls hl
  obtain ⟨hx, hb, hml, hown, hts⟩ := id hF
  have hS : va_S (cs_A ad) s.heap s.heap [] := va_S.rf
  have hl : lv_has ls 5 [(0, .ref (ad 4)), (1, .int a1), (2, .int a2)] := hl
  generalize hRes : m_X4_firstBeyond S a1 a2 = Res
  unfold m_X4_firstBeyond at hRes
  refine lv_aload_n hx hb dX4_firstBeyond_0 rfl (lv_at hl 0 rfl) ?_
  refine lv_iload_n hx hb dX4_firstBeyond_1 rfl (lv_at hl 1 rfl) ?_
  refine cs_vir hF (c_X4_first l D cy ad S a1) (cwV 1 hts g_X4_53 rfl rfl rfl kk_X4_first ⟨Nat.le_of_ble_eq_true rfl, Nat.le_of_ble_eq_true rfl⟩) (cs_recv hK hw (ci := 4) 4 rfl rfl) hw hK hS rfl hl.1 [] rfl (Nat.le_of_ble_eq_true rfl) dX4_firstBeyond_2 (fun r_1 H locs hq hw hS => ?_)
  replace hRes := cs_letE hq hRes
  clear hq
  refine lv_istore_n (lv' := [(3, .int r_1), (0, .ref (ad 4)), (1, .int a1), (2, .int a2)]) hx hb dX4_firstBeyond_5 rfl hl (by decide) rfl (fun ls hl => ?_)
  refine lv_iconst (v := 0) hx hb dX4_firstBeyond_6 (by decide) ?_
  refine lv_istore (lv' := [(4, .int 0), (3, .int r_1), (0, .ref (ad 4)), (1, .int a1), (2, .int a2)]) hx hb dX4_firstBeyond_7 hl (by decide) rfl (fun ls hl => ?_)
  -- the loop at 9
  have lp : ∀ (n : Nat) (v4 : Int32) (H : Heap) (locs : List Loc), cs_w D cy ad S H → va_S (cs_A ad) s.heap H locs → ∀ (ls : Array Slot), lv_has ls 5 [(4, .int v4), (3, .int r_1), (0, .ref (ad 4)), (1, .int a1), (2, .int a2)] → (2147483647 - v4.toInt < (n : Int) ∧ 0 < n) → m_X4_firstBeyond_L9 S r_1 a1 a2 n v4 = Res → W p l e (cs_rm 3 63) s m ([.ref (ad 4), .int a1, .int a2]).toArray below meth c H locs 0 0 (MQ below (cs_Qi D cy ad (fun r S1 => r = Res ∧ S1 = S)) ([.ref (ad 4), .int a1, .int a2]).toArray s 0 0 (cs_A ad)) (F0 m 9 ls []) := by
    intro n
    induction n with
    | zero => intro v4 H locs hw hS ls hl hm; exact absurd hm.2 (Nat.lt_irrefl 0)
    | succ n ih =>
      intro v4 H locs hw hS ls hl hm hRes
      replace hRes := m_X4_firstBeyond_L9_s.symm.trans hRes
      refine lv_iload hx hb dX4_firstBeyond_9 (lv_at hl 0 rfl) ?_
      refine lv_aload_n hx hb dX4_firstBeyond_11 rfl (lv_at hl 2 rfl) ?_
      refine cs_get (C := RX4) (T := TX4) (N := 8) hF in_X4 hw hK 4 rfl rfl 7 (by decide) q_126 rfl dX4_firstBeyond_12 ?_
      refine lv_iload_n hx hb dX4_firstBeyond_15 rfl (lv_at hl 3 rfl) ?_
      refine cs_vir hF (c_X3_at l D cy ad S 16 a1 (by decide)) (cwV 1 hts g_X4_46 rfl rfl rfl kk_X3_at ⟨Nat.le_of_ble_eq_true rfl, Nat.le_of_ble_eq_true rfl⟩) (cs_recvR hK hw (by decide)) hw hK hS rfl hl.1 [.int v4] rfl (Nat.le_of_ble_eq_true rfl) dX4_firstBeyond_16 (fun r_2 H locs hq hw hS => ?_)
      replace hRes := cs_letE hq hRes
      clear hq
      refine lv_icmp_ge (tgt := 43) hx hb dX4_firstBeyond_19 (by decide) (fun c_3 => ?_) (fun c_3 => ?_)
      · replace hRes := cs_T c_3 hRes
        refine lv_aload_n hx hb dX4_firstBeyond_43 rfl (lv_at hl 2 rfl) ?_
        refine cs_get (C := RX4) (T := TX4) (N := 8) hF in_X4 hw hK 4 rfl rfl 7 (by decide) q_126 rfl dX4_firstBeyond_44 ?_
        refine lv_iload_n hx hb dX4_firstBeyond_47 rfl (lv_at hl 3 rfl) ?_
        refine cs_vir hF (c_X3_at l D cy ad S 16 a1 (by decide)) (cwV 1 hts g_X4_46 rfl rfl rfl kk_X3_at ⟨Nat.le_of_ble_eq_true rfl, Nat.le_of_ble_eq_true rfl⟩) (cs_recvR hK hw (by decide)) hw hK hS rfl hl.1 [] rfl (Nat.le_of_ble_eq_true rfl) dX4_firstBeyond_48 (fun r_4 H locs hq hw hS => ?_)
        replace hRes := cs_letE hq hRes
        clear hq
        exact cs_iret hF hr hlk hw hK hS dX4_firstBeyond_51 ⟨hRes, rfl⟩
      · replace hRes := cs_F c_3 hRes
        refine lv_aload_n hx hb dX4_firstBeyond_22 rfl (lv_at hl 2 rfl) ?_
        refine lv_iload_n hx hb dX4_firstBeyond_23 rfl (lv_at hl 1 rfl) ?_
        refine lv_iload hx hb dX4_firstBeyond_24 (lv_at hl 0 rfl) ?_
        refine lv_iadd hx hb dX4_firstBeyond_26 ?_
        refine cs_vir hF (c_X4_least l D cy ad S (r_1 + v4)) (cwV 1 hts g_X4_61 rfl rfl rfl kk_X4_least ⟨Nat.le_of_ble_eq_true rfl, Nat.le_of_ble_eq_true rfl⟩) (cs_recv hK hw (ci := 4) 4 rfl rfl) hw hK hS rfl hl.1 [] rfl (Nat.le_of_ble_eq_true rfl) dX4_firstBeyond_27 (fun r_5 H locs hq hw hS => ?_)
        replace hRes := cs_letE hq hRes
        clear hq
        refine lv_iload_n hx hb dX4_firstBeyond_30 rfl (lv_at hl 4 rfl) ?_
        refine lv_icmp_le (tgt := 37) hx hb dX4_firstBeyond_31 (by decide) (fun c_6 => ?_) (fun c_6 => ?_)
        · replace hRes := cs_T c_6 hRes
          refine lv_iinc (v := v4 + 1) (lv' := [(4, .int (v4 + 1)), (3, .int r_1), (0, .ref (ad 4)), (1, .int a1), (2, .int a2)]) hx hb dX4_firstBeyond_37 hl (k := 0) rfl rfl (by decide) rfl (fun ls hl => ?_)
          refine lv_goto (tgt := 9) hx hb dX4_firstBeyond_40 (by decide) ?_
          exact ih (v4 + 1) _ _ hw hS _ (lv_sub hl [0, 1, 2, 3, 4] rfl) (cs_up hm.1 c_3) hRes
        · replace hRes := cs_F c_6 hRes
          refine lv_iload hx hb dX4_firstBeyond_34 (lv_at hl 0 rfl) ?_
          exact cs_iret hF hr hlk hw hK hS dX4_firstBeyond_36 ⟨hRes, rfl⟩
  exact lp cs_N 0 _ _ hw hS _ (lv_sub hl [0, 1, 2, 3, 4] rfl) (cs_up0 0) hRes
theorem kk_X4_firstBeyond : yX4_firstBeyond.cls = RX4 ∧ yX4_firstBeyond.cls ≠ "java/lang/invoke/MethodHandle" ∧ yX4_firstBeyond.cls ≠ "java/lang/invoke/VarHandle" ∧ (parseMethodDescriptor yX4_firstBeyond.desc).map (fun d => d.parameters.length) = some 2 := by decide +kernel
def m_X4_firstReaching_L9 (S : cs_St) (u3 : Int32) (u1 : Int32) (u2 : Int32) : Nat → Int32 → Int32
  | 0, _ => 0
  | n + 1, v4 => cs_let (m_X3_at S 16 u1) (fun r_2 => (if r_2 ≤ v4 then cs_let (m_X3_at S 16 u1) (fun r_4 => r_4) else cs_let (m_X4_greatest S (u3 + v4)) (fun r_5 => (if r_5 < u2 then m_X4_firstReaching_L9 S u3 u1 u2 n (v4 + 1) else v4))))
theorem m_X4_firstReaching_L9_s {S : cs_St} {u3 : Int32} {u1 : Int32} {u2 : Int32} {n : Nat} {v4 : Int32} : m_X4_firstReaching_L9 S u3 u1 u2 (n + 1) v4 = cs_let (m_X3_at S 16 u1) (fun r_2 => (if r_2 ≤ v4 then cs_let (m_X3_at S 16 u1) (fun r_4 => r_4) else cs_let (m_X4_greatest S (u3 + v4)) (fun r_5 => (if r_5 < u2 then m_X4_firstReaching_L9 S u3 u1 u2 n (v4 + 1) else v4)))) := rfl
def m_X4_firstReaching (S : cs_St) (a1 : Int32) (a2 : Int32) : Int32 := cs_let (m_X4_first S a1) (fun r_1 => m_X4_firstReaching_L9 S r_1 a1 a2 cs_N 0)
set_option maxHeartbeats 4000000 in
set_option maxRecDepth 100000 in
theorem c_X4_firstReaching (l : Launch) (D : va_G) (cy : ClassId) (ad : Nat → Nat) (S : cs_St) (a1 : Int32) (a2 : Int32) : Met l yX4_firstReaching (cs_ws yX4_firstReaching cX4_firstReaching 5 (some .int)) (cs_rm 3 63) (cs_Pc D cy ad [.ref (ad 4), .int a1, .int a2] S) (cs_Qi D cy ad (fun r S1 => r = m_X4_firstReaching S a1 a2 ∧ S1 = S)) 0 0 (cs_A ad) := by
  refine cs_of RX4 (by decide) rfl (Nat.le_of_ble_eq_true rfl) ?_
  intro p e s m below meth c hF hr hlk hw hK ls hl
  obtain ⟨hx, hb, hml, hown, hts⟩ := id hF
  have hS : va_S (cs_A ad) s.heap s.heap [] := va_S.rf
  have hl : lv_has ls 5 [(0, .ref (ad 4)), (1, .int a1), (2, .int a2)] := hl
  generalize hRes : m_X4_firstReaching S a1 a2 = Res
  unfold m_X4_firstReaching at hRes
  refine lv_aload_n hx hb dX4_firstReaching_0 rfl (lv_at hl 0 rfl) ?_
  refine lv_iload_n hx hb dX4_firstReaching_1 rfl (lv_at hl 1 rfl) ?_
  refine cs_vir hF (c_X4_first l D cy ad S a1) (cwV 1 hts g_X4_53 rfl rfl rfl kk_X4_first ⟨Nat.le_of_ble_eq_true rfl, Nat.le_of_ble_eq_true rfl⟩) (cs_recv hK hw (ci := 4) 4 rfl rfl) hw hK hS rfl hl.1 [] rfl (Nat.le_of_ble_eq_true rfl) dX4_firstReaching_2 (fun r_1 H locs hq hw hS => ?_)
  replace hRes := cs_letE hq hRes
  clear hq
  refine lv_istore_n (lv' := [(3, .int r_1), (0, .ref (ad 4)), (1, .int a1), (2, .int a2)]) hx hb dX4_firstReaching_5 rfl hl (by decide) rfl (fun ls hl => ?_)
  refine lv_iconst (v := 0) hx hb dX4_firstReaching_6 (by decide) ?_
  refine lv_istore (lv' := [(4, .int 0), (3, .int r_1), (0, .ref (ad 4)), (1, .int a1), (2, .int a2)]) hx hb dX4_firstReaching_7 hl (by decide) rfl (fun ls hl => ?_)
  -- the loop at 9
  have lp : ∀ (n : Nat) (v4 : Int32) (H : Heap) (locs : List Loc), cs_w D cy ad S H → va_S (cs_A ad) s.heap H locs → ∀ (ls : Array Slot), lv_has ls 5 [(4, .int v4), (3, .int r_1), (0, .ref (ad 4)), (1, .int a1), (2, .int a2)] → (2147483647 - v4.toInt < (n : Int) ∧ 0 < n) → m_X4_firstReaching_L9 S r_1 a1 a2 n v4 = Res → W p l e (cs_rm 3 63) s m ([.ref (ad 4), .int a1, .int a2]).toArray below meth c H locs 0 0 (MQ below (cs_Qi D cy ad (fun r S1 => r = Res ∧ S1 = S)) ([.ref (ad 4), .int a1, .int a2]).toArray s 0 0 (cs_A ad)) (F0 m 9 ls []) := by
    intro n
    induction n with
    | zero => intro v4 H locs hw hS ls hl hm; exact absurd hm.2 (Nat.lt_irrefl 0)
    | succ n ih =>
      intro v4 H locs hw hS ls hl hm hRes
      replace hRes := m_X4_firstReaching_L9_s.symm.trans hRes
      refine lv_iload hx hb dX4_firstReaching_9 (lv_at hl 0 rfl) ?_
      refine lv_aload_n hx hb dX4_firstReaching_11 rfl (lv_at hl 2 rfl) ?_
      refine cs_get (C := RX4) (T := TX4) (N := 8) hF in_X4 hw hK 4 rfl rfl 7 (by decide) q_126 rfl dX4_firstReaching_12 ?_
      refine lv_iload_n hx hb dX4_firstReaching_15 rfl (lv_at hl 3 rfl) ?_
      refine cs_vir hF (c_X3_at l D cy ad S 16 a1 (by decide)) (cwV 1 hts g_X4_46 rfl rfl rfl kk_X3_at ⟨Nat.le_of_ble_eq_true rfl, Nat.le_of_ble_eq_true rfl⟩) (cs_recvR hK hw (by decide)) hw hK hS rfl hl.1 [.int v4] rfl (Nat.le_of_ble_eq_true rfl) dX4_firstReaching_16 (fun r_2 H locs hq hw hS => ?_)
      replace hRes := cs_letE hq hRes
      clear hq
      refine lv_icmp_ge (tgt := 43) hx hb dX4_firstReaching_19 (by decide) (fun c_3 => ?_) (fun c_3 => ?_)
      · replace hRes := cs_T c_3 hRes
        refine lv_aload_n hx hb dX4_firstReaching_43 rfl (lv_at hl 2 rfl) ?_
        refine cs_get (C := RX4) (T := TX4) (N := 8) hF in_X4 hw hK 4 rfl rfl 7 (by decide) q_126 rfl dX4_firstReaching_44 ?_
        refine lv_iload_n hx hb dX4_firstReaching_47 rfl (lv_at hl 3 rfl) ?_
        refine cs_vir hF (c_X3_at l D cy ad S 16 a1 (by decide)) (cwV 1 hts g_X4_46 rfl rfl rfl kk_X3_at ⟨Nat.le_of_ble_eq_true rfl, Nat.le_of_ble_eq_true rfl⟩) (cs_recvR hK hw (by decide)) hw hK hS rfl hl.1 [] rfl (Nat.le_of_ble_eq_true rfl) dX4_firstReaching_48 (fun r_4 H locs hq hw hS => ?_)
        replace hRes := cs_letE hq hRes
        clear hq
        exact cs_iret hF hr hlk hw hK hS dX4_firstReaching_51 ⟨hRes, rfl⟩
      · replace hRes := cs_F c_3 hRes
        refine lv_aload_n hx hb dX4_firstReaching_22 rfl (lv_at hl 2 rfl) ?_
        refine lv_iload_n hx hb dX4_firstReaching_23 rfl (lv_at hl 1 rfl) ?_
        refine lv_iload hx hb dX4_firstReaching_24 (lv_at hl 0 rfl) ?_
        refine lv_iadd hx hb dX4_firstReaching_26 ?_
        refine cs_vir hF (c_X4_greatest l D cy ad S (r_1 + v4)) (cwV 1 hts g_X4_64 rfl rfl rfl kk_X4_greatest ⟨Nat.le_of_ble_eq_true rfl, Nat.le_of_ble_eq_true rfl⟩) (cs_recv hK hw (ci := 4) 4 rfl rfl) hw hK hS rfl hl.1 [] rfl (Nat.le_of_ble_eq_true rfl) dX4_firstReaching_27 (fun r_5 H locs hq hw hS => ?_)
        replace hRes := cs_letE hq hRes
        clear hq
        refine lv_iload_n hx hb dX4_firstReaching_30 rfl (lv_at hl 4 rfl) ?_
        refine lv_icmp_lt (tgt := 37) hx hb dX4_firstReaching_31 (by decide) (fun c_6 => ?_) (fun c_6 => ?_)
        · replace hRes := cs_T c_6 hRes
          refine lv_iinc (v := v4 + 1) (lv' := [(4, .int (v4 + 1)), (3, .int r_1), (0, .ref (ad 4)), (1, .int a1), (2, .int a2)]) hx hb dX4_firstReaching_37 hl (k := 0) rfl rfl (by decide) rfl (fun ls hl => ?_)
          refine lv_goto (tgt := 9) hx hb dX4_firstReaching_40 (by decide) ?_
          exact ih (v4 + 1) _ _ hw hS _ (lv_sub hl [0, 1, 2, 3, 4] rfl) (cs_up hm.1 c_3) hRes
        · replace hRes := cs_F c_6 hRes
          refine lv_iload hx hb dX4_firstReaching_34 (lv_at hl 0 rfl) ?_
          exact cs_iret hF hr hlk hw hK hS dX4_firstReaching_36 ⟨hRes, rfl⟩
  exact lp cs_N 0 _ _ hw hS _ (lv_sub hl [0, 1, 2, 3, 4] rfl) (cs_up0 0) hRes
theorem kk_X4_firstReaching : yX4_firstReaching.cls = RX4 ∧ yX4_firstReaching.cls ≠ "java/lang/invoke/MethodHandle" ∧ yX4_firstReaching.cls ≠ "java/lang/invoke/VarHandle" ∧ (parseMethodDescriptor yX4_firstReaching.desc).map (fun d => d.parameters.length) = some 2 := by decide +kernel
def m_X4_filterOf (S : cs_St) (a1 : Int32) : Int64 := cs_let (m_X3_at S 15 a1) (fun r_1 => cs_let (m_X3_at S 14 a1) (fun r_2 => ((r_1.toInt64 <<< ((32 : Int32).toInt64 &&& 63)) ||| (r_2.toInt64 &&& 4294967295))))
set_option maxHeartbeats 4000000 in
set_option maxRecDepth 100000 in
theorem c_X4_filterOf (l : Launch) (D : va_G) (cy : ClassId) (ad : Nat → Nat) (S : cs_St) (a1 : Int32) : Met l yX4_filterOf (cs_ws yX4_filterOf cX4_filterOf 2 (some .long)) (cs_rm 1 21) (cs_Pc D cy ad [.ref (ad 4), .int a1] S) (cs_Ql D cy ad (fun r S1 => r = m_X4_filterOf S a1 ∧ S1 = S)) 0 0 (cs_A ad) := by
  refine cs_of RX4 (by decide) rfl (Nat.le_of_ble_eq_true rfl) ?_
  intro p e s m below meth c hF hr hlk hw hK ls hl
  obtain ⟨hx, hb, hml, hown, hts⟩ := id hF
  have hS : va_S (cs_A ad) s.heap s.heap [] := va_S.rf
  have hl : lv_has ls 2 [(0, .ref (ad 4)), (1, .int a1)] := hl
  generalize hRes : m_X4_filterOf S a1 = Res
  unfold m_X4_filterOf at hRes
  refine lv_aload_n hx hb dX4_filterOf_0 rfl (lv_at hl 0 rfl) ?_
  refine cs_get (C := RX4) (T := TX4) (N := 8) hF in_X4 hw hK 4 rfl rfl 6 (by decide) q_125 rfl dX4_filterOf_1 ?_
  refine lv_iload_n hx hb dX4_filterOf_4 rfl (lv_at hl 1 rfl) ?_
  refine cs_vir hF (c_X3_at l D cy ad S 15 a1 (by decide)) (cwV 1 hts g_X4_46 rfl rfl rfl kk_X3_at ⟨Nat.le_of_ble_eq_true rfl, Nat.le_of_ble_eq_true rfl⟩) (cs_recvR hK hw (by decide)) hw hK hS rfl hl.1 [] rfl (Nat.le_of_ble_eq_true rfl) dX4_filterOf_5 (fun r_1 H locs hq hw hS => ?_)
  replace hRes := cs_letE hq hRes
  clear hq
  refine lv_i2l (v := r_1.toInt64) hx hb dX4_filterOf_8 rfl ?_
  refine lv_bipush (v := 32) hx hb dX4_filterOf_9 (by decide) ?_
  refine lv_lshl (v := r_1.toInt64 <<< ((32 : Int32).toInt64 &&& 63)) hx hb dX4_filterOf_11 rfl ?_
  refine lv_aload_n hx hb dX4_filterOf_12 rfl (lv_at hl 0 rfl) ?_
  refine cs_get (C := RX4) (T := TX4) (N := 8) hF in_X4 hw hK 4 rfl rfl 5 (by decide) q_124 rfl dX4_filterOf_13 ?_
  refine lv_iload_n hx hb dX4_filterOf_16 rfl (lv_at hl 1 rfl) ?_
  refine cs_vir hF (c_X3_at l D cy ad S 14 a1 (by decide)) (cwV 1 hts g_X4_46 rfl rfl rfl kk_X3_at ⟨Nat.le_of_ble_eq_true rfl, Nat.le_of_ble_eq_true rfl⟩) (cs_recvR hK hw (by decide)) hw hK hS rfl hl.1 [.long (r_1.toInt64 <<< ((32 : Int32).toInt64 &&& 63))] rfl (Nat.le_of_ble_eq_true rfl) dX4_filterOf_17 (fun r_2 H locs hq hw hS => ?_)
  replace hRes := cs_letE hq hRes
  clear hq
  refine lv_i2l (v := r_2.toInt64) hx hb dX4_filterOf_20 rfl ?_
  refine lv_ldc2 (v := 4294967295) hx hb hown (hts _ q_184) dX4_filterOf_21 ?_
  refine lv_land hx hb dX4_filterOf_24 ?_
  refine lv_lor hx hb dX4_filterOf_25 ?_
  exact cs_lret hF hr hlk hw hK hS dX4_filterOf_26 ⟨hRes, rfl⟩
theorem kk_X4_filterOf : yX4_filterOf.cls = RX4 ∧ yX4_filterOf.cls ≠ "java/lang/invoke/MethodHandle" ∧ yX4_filterOf.cls ≠ "java/lang/invoke/VarHandle" ∧ (parseMethodDescriptor yX4_filterOf.desc).map (fun d => d.parameters.length) = some 1 := by decide +kernel
def m_X4_bitsOf_L9 (S : cs_St) (u0 : Int32) (u1 : Int32) (u2 : Int32) : Nat → Int64 → Int32 → Int64 × Int32
  | 0, _, _ => (0, 0)
  | n + 1, v3, v5 => (if u2 < v5 then (v3, v5) else cs_let (v3 ||| ((1 : Int64) <<< ((((u0 * ((2 * v5) + 1)) + (7 * v5)) - ((u0 * ((2 * v5) + 1)) + (7 * v5)) / u1 * u1).toInt64 &&& 63))) (fun r_3 => m_X4_bitsOf_L9 S u0 u1 u2 n r_3 (v5 + 1)))
theorem m_X4_bitsOf_L9_s {S : cs_St} {u0 : Int32} {u1 : Int32} {u2 : Int32} {n : Nat} {v3 : Int64} {v5 : Int32} : m_X4_bitsOf_L9 S u0 u1 u2 (n + 1) v3 v5 = (if u2 < v5 then (v3, v5) else cs_let (v3 ||| ((1 : Int64) <<< ((((u0 * ((2 * v5) + 1)) + (7 * v5)) - ((u0 * ((2 * v5) + 1)) + (7 * v5)) / u1 * u1).toInt64 &&& 63))) (fun r_3 => m_X4_bitsOf_L9 S u0 u1 u2 n r_3 (v5 + 1))) := rfl
def m_X4_bitsOf (S : cs_St) (a0 : Int32) (a1 : Int32) (a2 : Int32) : Int64 := (if a1 ≤ 0 then 0 else cs_let (m_X4_bitsOf_L9 S a0 a1 a2 cs_N 0 1) (fun T_4 => T_4.1))
set_option maxHeartbeats 4000000 in
set_option maxRecDepth 100000 in
theorem c_X4_bitsOf (l : Launch) (D : va_G) (cy : ClassId) (ad : Nat → Nat) (S : cs_St) (a0 : Int32) (a1 : Int32) (a2 : Int32) (g3 : a2 ≤ 3) : Met l yX4_bitsOf (cs_ws yX4_bitsOf cX4_bitsOf 6 (some .long)) (cs_rm 0 0) (cs_Pc D cy ad [.int a0, .int a1, .int a2] S) (cs_Ql D cy ad (fun r S1 => r = m_X4_bitsOf S a0 a1 a2 ∧ S1 = S)) 0 0 (cs_A ad) := by
  refine cs_of RX4 (by decide) rfl (Nat.le_of_ble_eq_true rfl) ?_
  intro p e s m below meth c hF hr hlk hw hK ls hl
  obtain ⟨hx, hb, hml, hown, hts⟩ := id hF
  have hS : va_S (cs_A ad) s.heap s.heap [] := va_S.rf
  have hl : lv_has ls 6 [(0, .int a0), (1, .int a1), (2, .int a2)] := hl
  generalize hRes : m_X4_bitsOf S a0 a1 a2 = Res
  unfold m_X4_bitsOf at hRes
  refine lv_lconst (v := 0) hx hb dX4_bitsOf_0 rfl ?_
  refine lv_lstore_n (lv' := [(3, .long 0), (0, .int a0), (1, .int a1), (2, .int a2)]) hx hb dX4_bitsOf_1 rfl hl (by decide) rfl (fun ls hl => ?_)
  refine lv_iload_n hx hb dX4_bitsOf_2 rfl (lv_at hl 2 rfl) ?_
  refine lv_if_le (tgt := 42) hx hb dX4_bitsOf_3 (by decide) (fun c_1 => ?_) (fun c_1 => ?_)
  · replace hRes := cs_T c_1 hRes
    refine lv_lload_n hx hb dX4_bitsOf_42 rfl (lv_at hl 0 rfl) ?_
    exact cs_lret hF hr hlk hw hK hS dX4_bitsOf_43 ⟨hRes, rfl⟩
  · replace hRes := cs_F c_1 hRes
    refine lv_iconst (v := 1) hx hb dX4_bitsOf_6 (by decide) ?_
    refine lv_istore (lv' := [(5, .int 1), (3, .long 0), (0, .int a0), (1, .int a1), (2, .int a2)]) hx hb dX4_bitsOf_7 hl (by decide) rfl (fun ls hl => ?_)
    -- the loop at 9
    obtain ⟨T_4, hq⟩ : ∃ z, z = m_X4_bitsOf_L9 S a0 a1 a2 cs_N 0 1 := ⟨_, rfl⟩
    replace hRes := cs_letE hq hRes
    have hk : ∀ (H : Heap) (locs : List Loc) (ls : Array Slot), cs_w D cy ad S H → va_S (cs_A ad) s.heap H locs → lv_has ls 6 [(5, .int T_4.2), (3, .long T_4.1), (0, .int a0), (1, .int a1), (2, .int a2)] → W p l e (cs_rm 0 0) s m ([.int a0, .int a1, .int a2]).toArray below meth c H locs 0 0 (MQ below (cs_Ql D cy ad (fun r S1 => r = Res ∧ S1 = S)) ([.int a0, .int a1, .int a2]).toArray s 0 0 (cs_A ad)) (F0 m 42 ls []) := by
      intro H locs ls hw hS hl
      refine lv_lload_n hx hb dX4_bitsOf_42 rfl (lv_at hl 1 rfl) ?_
      exact cs_lret hF hr hlk hw hK hS dX4_bitsOf_43 ⟨hRes, rfl⟩
    have lp : ∀ (n : Nat) (v3 : Int64) (v5 : Int32) (H : Heap) (locs : List Loc), cs_w D cy ad S H → va_S (cs_A ad) s.heap H locs → ∀ (ls : Array Slot), lv_has ls 6 [(5, .int v5), (3, .long v3), (0, .int a0), (1, .int a1), (2, .int a2)] → (2147483647 - v5.toInt < (n : Int) ∧ 0 < n) → m_X4_bitsOf_L9 S a0 a1 a2 n v3 v5 = T_4 → W p l e (cs_rm 0 0) s m ([.int a0, .int a1, .int a2]).toArray below meth c H locs 0 0 (MQ below (cs_Ql D cy ad (fun r S1 => r = Res ∧ S1 = S)) ([.int a0, .int a1, .int a2]).toArray s 0 0 (cs_A ad)) (F0 m 9 ls []) := by
      intro n
      induction n with
      | zero => intro v3 v5 H locs hw hS ls hl hm; exact absurd hm.2 (Nat.lt_irrefl 0)
      | succ n ih =>
        intro v3 v5 H locs hw hS ls hl hm hE
        replace hE := m_X4_bitsOf_L9_s.symm.trans hE
        refine lv_iload hx hb dX4_bitsOf_9 (lv_at hl 0 rfl) ?_
        refine lv_iload_n hx hb dX4_bitsOf_11 rfl (lv_at hl 4 rfl) ?_
        refine lv_icmp_gt (tgt := 42) hx hb dX4_bitsOf_12 (by decide) (fun c_2 => ?_) (fun c_2 => ?_)
        · replace hE := cs_T c_2 hE
          subst hE
          exact hk _ _ _ hw hS (lv_sub hl [0, 1, 2, 3, 4] rfl)
        · replace hE := cs_F c_2 hE
          refine lv_lload_n hx hb dX4_bitsOf_15 rfl (lv_at hl 1 rfl) ?_
          refine lv_lconst (v := 1) hx hb dX4_bitsOf_16 rfl ?_
          refine lv_iload_n hx hb dX4_bitsOf_17 rfl (lv_at hl 2 rfl) ?_
          refine lv_iconst (v := 2) hx hb dX4_bitsOf_18 (by decide) ?_
          refine lv_iload hx hb dX4_bitsOf_19 (lv_at hl 0 rfl) ?_
          refine lv_imul hx hb dX4_bitsOf_21 ?_
          refine lv_iconst (v := 1) hx hb dX4_bitsOf_22 (by decide) ?_
          refine lv_iadd hx hb dX4_bitsOf_23 ?_
          refine lv_imul hx hb dX4_bitsOf_24 ?_
          refine lv_bipush (v := 7) hx hb dX4_bitsOf_25 (by decide) ?_
          refine lv_iload hx hb dX4_bitsOf_27 (lv_at hl 0 rfl) ?_
          refine lv_imul hx hb dX4_bitsOf_29 ?_
          refine lv_iadd hx hb dX4_bitsOf_30 ?_
          refine lv_iload_n hx hb dX4_bitsOf_31 rfl (lv_at hl 3 rfl) ?_
          refine lv_irem hx hb dX4_bitsOf_32 (fun h => c_1 (by rw [h]; decide)) ?_
          refine lv_lshl (v := (1 : Int64) <<< ((((a0 * ((2 * v5) + 1)) + (7 * v5)) - ((a0 * ((2 * v5) + 1)) + (7 * v5)) / a1 * a1).toInt64 &&& 63)) hx hb dX4_bitsOf_33 rfl ?_
          refine lv_lor hx hb dX4_bitsOf_34 ?_
          refine lv_topl (fun r_3 hq => ?_)
          replace hE := cs_letE hq hE
          clear hq
          refine lv_lstore_n (lv' := [(3, .long r_3), (5, .int v5), (0, .int a0), (1, .int a1), (2, .int a2)]) hx hb dX4_bitsOf_35 rfl hl (by decide) rfl (fun ls hl => ?_)
          refine lv_iinc (v := v5 + 1) (lv' := [(5, .int (v5 + 1)), (3, .long r_3), (0, .int a0), (1, .int a1), (2, .int a2)]) hx hb dX4_bitsOf_36 hl (k := 1) rfl rfl (by decide) rfl (fun ls hl => ?_)
          refine lv_goto (tgt := 9) hx hb dX4_bitsOf_39 (by decide) ?_
          exact ih r_3 (v5 + 1) _ _ hw hS _ (lv_sub hl [0, 1, 2, 3, 4] rfl) (cs_up3 hm.1 c_2 g3) hE
    exact lp cs_N 0 1 _ _ hw hS _ (lv_sub hl [0, 1, 2, 3, 4] rfl) (cs_up0 1) hq.symm
theorem kk_X4_bitsOf : yX4_bitsOf.cls ≠ "java/lang/invoke/MethodHandle" ∧ yX4_bitsOf.cls ≠ "java/lang/invoke/VarHandle" ∧ (parseMethodDescriptor yX4_bitsOf.desc).map (fun d => d.parameters.length) = some 3 := by decide +kernel
theorem cs_at13 {S : cs_St} (h : cs_ok S) (x : Int32) : m_X3_at S 13 x ≤ 3 := cs_at13' h
theorem g_X4_87 : GoodIn cs_WS (va_wsS RX4 87 yX4_bitsOf (cs_ws yX4_bitsOf cX4_bitsOf 6 (some .long))) := cs_goodS q_173 q_174 q_139 q_168
theorem g_X4_100 : GoodIn cs_WS (wsV RX4 100 RX4 yX4_filterOf (cs_ws yX4_filterOf cX4_filterOf 2 (some .long))) := cs_goodV q_186 q_187 q_188 q_139 q_183
def m_X4_passes (S : cs_St) (a1 : Int32) (a2 : Int32) : Int32 := cs_let (m_X3_at S 12 a1) (fun r_1 => cs_let (m_X3_at S 13 a1) (fun r_2 => cs_let (m_X4_bitsOf S a2 r_1 r_2) (fun r_3 => cs_let (m_X4_filterOf S a1) (fun r_4 => (if (lg_cmp (r_4 &&& r_3) r_3) = 0 then 1 else 0)))))
set_option maxHeartbeats 4000000 in
set_option maxRecDepth 100000 in
theorem c_X4_passes (l : Launch) (D : va_G) (cy : ClassId) (ad : Nat → Nat) (S : cs_St) (a1 : Int32) (a2 : Int32) : Met l yX4_passes (cs_ws yX4_passes cX4_passes 5 (some .boolean)) (cs_rm 2 42) (cs_Pc D cy ad [.ref (ad 4), .int a1, .int a2] S) (cs_Qi D cy ad (fun r S1 => r = m_X4_passes S a1 a2 ∧ S1 = S)) 0 0 (cs_A ad) := by
  refine cs_of RX4 (by decide) rfl (Nat.le_of_ble_eq_true rfl) ?_
  intro p e s m below meth c hF hr hlk hw hK ls hl
  obtain ⟨hx, hb, hml, hown, hts⟩ := id hF
  have hS : va_S (cs_A ad) s.heap s.heap [] := va_S.rf
  have hl : lv_has ls 5 [(0, .ref (ad 4)), (1, .int a1), (2, .int a2)] := hl
  generalize hRes : m_X4_passes S a1 a2 = Res
  unfold m_X4_passes at hRes
  refine lv_iload_n hx hb dX4_passes_0 rfl (lv_at hl 2 rfl) ?_
  refine lv_aload_n hx hb dX4_passes_1 rfl (lv_at hl 0 rfl) ?_
  refine cs_get (C := RX4) (T := TX4) (N := 8) hF in_X4 hw hK 4 rfl rfl 3 (by decide) q_122 rfl dX4_passes_2 ?_
  refine lv_iload_n hx hb dX4_passes_5 rfl (lv_at hl 1 rfl) ?_
  refine cs_vir hF (c_X3_at l D cy ad S 12 a1 (by decide)) (cwV 1 hts g_X4_46 rfl rfl rfl kk_X3_at ⟨Nat.le_of_ble_eq_true rfl, Nat.le_of_ble_eq_true rfl⟩) (cs_recvR hK hw (by decide)) hw hK hS rfl hl.1 [.int a2] rfl (Nat.le_of_ble_eq_true rfl) dX4_passes_6 (fun r_1 H locs hq hw hS => ?_)
  replace hRes := cs_letE hq hRes
  clear hq
  refine lv_aload_n hx hb dX4_passes_9 rfl (lv_at hl 0 rfl) ?_
  refine cs_get (C := RX4) (T := TX4) (N := 8) hF in_X4 hw hK 4 rfl rfl 4 (by decide) q_123 rfl dX4_passes_10 ?_
  refine lv_iload_n hx hb dX4_passes_13 rfl (lv_at hl 1 rfl) ?_
  refine cs_vir hF (c_X3_at l D cy ad S 13 a1 (by decide)) (cwV 1 hts g_X4_46 rfl rfl rfl kk_X3_at ⟨Nat.le_of_ble_eq_true rfl, Nat.le_of_ble_eq_true rfl⟩) (cs_recvR hK hw (by decide)) hw hK hS rfl hl.1 [.int r_1, .int a2] rfl (Nat.le_of_ble_eq_true rfl) dX4_passes_14 (fun r_2 H locs hq hw hS => ?_)
  replace hRes := cs_letE hq hRes
  have g3 : r_2 ≤ 3 := by rw [hq]; exact cs_at13 hw.1 _
  clear hq
  refine cs_slr hF (c_X4_bitsOf l D cy ad S a2 r_1 r_2 (g3)) (va_cwS 3 hts g_X4_87 rfl rfl rfl kk_X4_bitsOf ⟨Nat.le_of_ble_eq_true rfl, Nat.le_of_ble_eq_true rfl⟩) hw hK hS rfl hl.1 [] rfl (Nat.le_of_ble_eq_true rfl) dX4_passes_17 (fun r_3 H locs hq hw hS => ?_)
  replace hRes := cs_letE hq hRes
  clear hq
  refine lv_lstore_n (lv' := [(3, .long r_3), (0, .ref (ad 4)), (1, .int a1), (2, .int a2)]) hx hb dX4_passes_20 rfl hl (by decide) rfl (fun ls hl => ?_)
  refine lv_aload_n hx hb dX4_passes_21 rfl (lv_at hl 1 rfl) ?_
  refine lv_iload_n hx hb dX4_passes_22 rfl (lv_at hl 2 rfl) ?_
  refine cs_vlr hF (c_X4_filterOf l D cy ad S a1) (cwV 1 hts g_X4_100 rfl rfl rfl kk_X4_filterOf ⟨Nat.le_of_ble_eq_true rfl, Nat.le_of_ble_eq_true rfl⟩) (cs_recv hK hw (ci := 4) 4 rfl rfl) hw hK hS rfl hl.1 [] rfl (Nat.le_of_ble_eq_true rfl) dX4_passes_23 (fun r_4 H locs hq hw hS => ?_)
  replace hRes := cs_letE hq hRes
  clear hq
  refine lv_lload_n hx hb dX4_passes_26 rfl (lv_at hl 0 rfl) ?_
  refine lv_land hx hb dX4_passes_27 ?_
  refine lv_lload_n hx hb dX4_passes_28 rfl (lv_at hl 0 rfl) ?_
  refine W.lcmp hx hb dX4_passes_29 ?_
  refine lv_if_ne (tgt := 37) hx hb dX4_passes_30 (by decide) (fun c_5 => ?_) (fun c_5 => ?_)
  · replace hRes := cs_F c_5 hRes
    refine lv_iconst (v := 0) hx hb dX4_passes_37 (by decide) ?_
    exact cs_zret hF hr hlk hw hK hS dX4_passes_38 ⟨hRes, rfl⟩
  · replace hRes := cs_T c_5 hRes
    refine lv_iconst (v := 1) hx hb dX4_passes_33 (by decide) ?_
    refine lv_goto (tgt := 38) hx hb dX4_passes_34 (by decide) ?_
    exact cs_zret hF hr hlk hw hK hS dX4_passes_38 ⟨hRes, rfl⟩
theorem kk_X4_passes : yX4_passes.cls = RX4 ∧ yX4_passes.cls ≠ "java/lang/invoke/MethodHandle" ∧ yX4_passes.cls ≠ "java/lang/invoke/VarHandle" ∧ (parseMethodDescriptor yX4_passes.desc).map (fun d => d.parameters.length) = some 2 := by decide +kernel
theorem m_X4_passes_01 (S : cs_St) (a1 a2 : Int32) : m_X4_passes S a1 a2 = 0 ∨ m_X4_passes S a1 a2 = 1 := by
  unfold m_X4_passes
  simp only [cs_let]
  split <;> first | exact Or.inl rfl | exact Or.inr rfl
theorem g_X4_80 : GoodIn cs_WS (wsV RX4 80 RX3 yX3_open (cs_ws yX3_open cX3_open 3 none)) := cs_goodV q_170 q_61 q_62 q_10 q_55
def m_X4_openRun (S : cs_St) (a1 : Int32) : cs_St := cs_let (m_X3_open S 11 a1 1) (fun S_1 => cs_let (m_X3_open S_1 12 a1 1) (fun S_2 => cs_let (m_X3_open S_2 13 a1 1) (fun S_3 => cs_let (m_X3_open S_3 14 a1 1) (fun S_4 => cs_let (m_X3_open S_4 15 a1 1) (fun S_5 => S_5)))))
set_option maxHeartbeats 4000000 in
set_option maxRecDepth 100000 in
theorem c_X4_openRun (l : Launch) (D : va_G) (cy : ClassId) (ad : Nat → Nat) (S : cs_St) (a1 : Int32) : Met l yX4_openRun (cs_ws yX4_openRun cX4_openRun 2 none) (cs_rm 2 82) (cs_Pc D cy ad [.ref (ad 4), .int a1] S) (cs_Qv D cy ad (fun S1 => S1 = m_X4_openRun S a1)) 0 0 (cs_A ad) := by
  refine cs_of RX4 (by decide) rfl (Nat.le_of_ble_eq_true rfl) ?_
  intro p e s m below meth c hF hr hlk hw hK ls hl
  obtain ⟨hx, hb, hml, hown, hts⟩ := id hF
  have hS : va_S (cs_A ad) s.heap s.heap [] := va_S.rf
  have hl : lv_has ls 2 [(0, .ref (ad 4)), (1, .int a1)] := hl
  generalize hRes : m_X4_openRun S a1 = Res
  unfold m_X4_openRun at hRes
  refine lv_aload_n hx hb dX4_openRun_0 rfl (lv_at hl 0 rfl) ?_
  refine cs_get (C := RX4) (T := TX4) (N := 8) hF in_X4 hw hK 4 rfl rfl 2 (by decide) q_121 rfl dX4_openRun_1 ?_
  refine lv_iload_n hx hb dX4_openRun_4 rfl (lv_at hl 1 rfl) ?_
  refine lv_iconst (v := 1) hx hb dX4_openRun_5 (by decide) ?_
  refine cs_vv hF (c_X3_open l D cy ad S 11 a1 1 (by decide)) (cwV 2 hts g_X4_80 rfl rfl rfl kk_X3_open ⟨Nat.le_of_ble_eq_true rfl, Nat.le_of_ble_eq_true rfl⟩) (cs_recvR hK hw (by decide)) hw hK hS rfl hl.1 [] rfl (Nat.le_of_ble_eq_true rfl) dX4_openRun_6 (fun S_1 H locs hq hw hS => ?_)
  replace hRes := cs_letE hq hRes
  clear hq
  refine lv_aload_n hx hb dX4_openRun_9 rfl (lv_at hl 0 rfl) ?_
  refine cs_get (C := RX4) (T := TX4) (N := 8) hF in_X4 hw hK 4 rfl rfl 3 (by decide) q_122 rfl dX4_openRun_10 ?_
  refine lv_iload_n hx hb dX4_openRun_13 rfl (lv_at hl 1 rfl) ?_
  refine lv_iconst (v := 1) hx hb dX4_openRun_14 (by decide) ?_
  refine cs_vv hF (c_X3_open l D cy ad S_1 12 a1 1 (by decide)) (cwV 2 hts g_X4_80 rfl rfl rfl kk_X3_open ⟨Nat.le_of_ble_eq_true rfl, Nat.le_of_ble_eq_true rfl⟩) (cs_recvR hK hw (by decide)) hw hK hS rfl hl.1 [] rfl (Nat.le_of_ble_eq_true rfl) dX4_openRun_15 (fun S_2 H locs hq hw hS => ?_)
  replace hRes := cs_letE hq hRes
  clear hq
  refine lv_aload_n hx hb dX4_openRun_18 rfl (lv_at hl 0 rfl) ?_
  refine cs_get (C := RX4) (T := TX4) (N := 8) hF in_X4 hw hK 4 rfl rfl 4 (by decide) q_123 rfl dX4_openRun_19 ?_
  refine lv_iload_n hx hb dX4_openRun_22 rfl (lv_at hl 1 rfl) ?_
  refine lv_iconst (v := 1) hx hb dX4_openRun_23 (by decide) ?_
  refine cs_vv hF (c_X3_open l D cy ad S_2 13 a1 1 (by decide)) (cwV 2 hts g_X4_80 rfl rfl rfl kk_X3_open ⟨Nat.le_of_ble_eq_true rfl, Nat.le_of_ble_eq_true rfl⟩) (cs_recvR hK hw (by decide)) hw hK hS rfl hl.1 [] rfl (Nat.le_of_ble_eq_true rfl) dX4_openRun_24 (fun S_3 H locs hq hw hS => ?_)
  replace hRes := cs_letE hq hRes
  clear hq
  refine lv_aload_n hx hb dX4_openRun_27 rfl (lv_at hl 0 rfl) ?_
  refine cs_get (C := RX4) (T := TX4) (N := 8) hF in_X4 hw hK 4 rfl rfl 5 (by decide) q_124 rfl dX4_openRun_28 ?_
  refine lv_iload_n hx hb dX4_openRun_31 rfl (lv_at hl 1 rfl) ?_
  refine lv_iconst (v := 1) hx hb dX4_openRun_32 (by decide) ?_
  refine cs_vv hF (c_X3_open l D cy ad S_3 14 a1 1 (by decide)) (cwV 2 hts g_X4_80 rfl rfl rfl kk_X3_open ⟨Nat.le_of_ble_eq_true rfl, Nat.le_of_ble_eq_true rfl⟩) (cs_recvR hK hw (by decide)) hw hK hS rfl hl.1 [] rfl (Nat.le_of_ble_eq_true rfl) dX4_openRun_33 (fun S_4 H locs hq hw hS => ?_)
  replace hRes := cs_letE hq hRes
  clear hq
  refine lv_aload_n hx hb dX4_openRun_36 rfl (lv_at hl 0 rfl) ?_
  refine cs_get (C := RX4) (T := TX4) (N := 8) hF in_X4 hw hK 4 rfl rfl 6 (by decide) q_125 rfl dX4_openRun_37 ?_
  refine lv_iload_n hx hb dX4_openRun_40 rfl (lv_at hl 1 rfl) ?_
  refine lv_iconst (v := 1) hx hb dX4_openRun_41 (by decide) ?_
  refine cs_vv hF (c_X3_open l D cy ad S_4 15 a1 1 (by decide)) (cwV 2 hts g_X4_80 rfl rfl rfl kk_X3_open ⟨Nat.le_of_ble_eq_true rfl, Nat.le_of_ble_eq_true rfl⟩) (cs_recvR hK hw (by decide)) hw hK hS rfl hl.1 [] rfl (Nat.le_of_ble_eq_true rfl) dX4_openRun_42 (fun S_5 H locs hq hw hS => ?_)
  replace hRes := cs_letE hq hRes
  clear hq
  exact cs_vret hF hr hlk hw hK hS dX4_openRun_45 hRes
theorem kk_X4_openRun : yX4_openRun.cls = RX4 ∧ yX4_openRun.cls ≠ "java/lang/invoke/MethodHandle" ∧ yX4_openRun.cls ≠ "java/lang/invoke/VarHandle" ∧ (parseMethodDescriptor yX4_openRun.desc).map (fun d => d.parameters.length) = some 1 := by decide +kernel
theorem g_X4_84 : GoodIn cs_WS (wsV RX4 84 RX3 yX3_write (cs_ws yX3_write cX3_write 3 none)) := cs_goodV q_172 q_58 q_59 q_10 q_54
theorem g_X4_91 : GoodIn cs_WS (wsV RX4 91 RX4 yX4_openRun (cs_ws yX4_openRun cX4_openRun 2 none)) := cs_goodV q_175 q_176 q_177 q_139 q_169
theorem g_X4_94 : GoodIn cs_WS (wsV RX4 94 RX3 yX3_raise (cs_ws yX3_raise cX3_raise 3 none)) := cs_goodV q_178 q_179 q_180 q_10 q_112
def m_X4_insert_L41 (j3 : Nat) (u10 : Int32) (u9 : Int32) (u8 : Int32) (u1 : Int32) (u2 : Int32) (u4 : Int32) (u5 : Int32) (u6 : Int32) (u7 : Int32) : Nat → Int64 → Int32 → cs_St → Int64 × Int32 × cs_St
  | 0, _, _, S => (0, 0, S)
  | n + 1, v11, v13, S => (if u10 ≤ v13 then (v11, v13, S) else cs_let (m_X3_at S j3 (u4 + v13)) (fun r_5 => cs_let (m_X3_write S 10 (u9 + v13) r_5) (fun S_6 => cs_let (m_X1_key S_6 r_5) (fun r_7 => cs_let (m_X4_bitsOf S_6 r_7 u6 u7) (fun r_8 => m_X4_insert_L41 j3 u10 u9 u8 u1 u2 u4 u5 u6 u7 n (v11 ||| r_8) (v13 + 1) S_6)))))
theorem m_X4_insert_L41_s {j3 : Nat} {u10 : Int32} {u9 : Int32} {u8 : Int32} {u1 : Int32} {u2 : Int32} {u4 : Int32} {u5 : Int32} {u6 : Int32} {u7 : Int32} {n : Nat} {v11 : Int64} {v13 : Int32} {S : cs_St} : m_X4_insert_L41 j3 u10 u9 u8 u1 u2 u4 u5 u6 u7 (n + 1) v11 v13 S = (if u10 ≤ v13 then (v11, v13, S) else cs_let (m_X3_at S j3 (u4 + v13)) (fun r_5 => cs_let (m_X3_write S 10 (u9 + v13) r_5) (fun S_6 => cs_let (m_X1_key S_6 r_5) (fun r_7 => cs_let (m_X4_bitsOf S_6 r_7 u6 u7) (fun r_8 => m_X4_insert_L41 j3 u10 u9 u8 u1 u2 u4 u5 u6 u7 n (v11 ||| r_8) (v13 + 1) S_6))))) := rfl
def m_X4_insert_L126 (j3 : Nat) (u11 : Int64) (u10 : Int32) (u9 : Int32) (u8 : Int32) (u1 : Int32) (u2 : Int32) (u4 : Int32) (u5 : Int32) (u6 : Int32) (u7 : Int32) : Nat → Int32 → cs_St → Int32 × cs_St
  | 0, _, S => (0, S)
  | n + 1, v13, S => cs_let (m_X3_length S 11) (fun r_12 => (if r_12 ≤ v13 then (v13, S) else cs_let (m_X3_raise S 11 v13 u10) (fun S_14 => m_X4_insert_L126 j3 u11 u10 u9 u8 u1 u2 u4 u5 u6 u7 n (v13 + 1) S_14)))
theorem m_X4_insert_L126_s {j3 : Nat} {u11 : Int64} {u10 : Int32} {u9 : Int32} {u8 : Int32} {u1 : Int32} {u2 : Int32} {u4 : Int32} {u5 : Int32} {u6 : Int32} {u7 : Int32} {n : Nat} {v13 : Int32} {S : cs_St} : m_X4_insert_L126 j3 u11 u10 u9 u8 u1 u2 u4 u5 u6 u7 (n + 1) v13 S = cs_let (m_X3_length S 11) (fun r_12 => (if r_12 ≤ v13 then (v13, S) else cs_let (m_X3_raise S 11 v13 u10) (fun S_14 => m_X4_insert_L126 j3 u11 u10 u9 u8 u1 u2 u4 u5 u6 u7 n (v13 + 1) S_14))) := rfl
def m_X4_insert (S : cs_St) (a1 : Int32) (a2 : Int32) (j3 : Nat) (a4 : Int32) (a5 : Int32) (a6 : Int32) (a7 : Int32) : cs_St := cs_let (m_X4_first S a1) (fun r_1 => cs_let (m_X4_begin S (r_1 + a2)) (fun r_2 => cs_let (m_X3_open S 10 r_2 (a5 - a4)) (fun S_3 => cs_let (m_X4_insert_L41 j3 (a5 - a4) r_2 (r_1 + a2) a1 a2 a4 a5 a6 a7 cs_N 0 0 S_3) (fun T_9 => cs_let (m_X4_openRun T_9.2.2 (r_1 + a2)) (fun S_10 => cs_let (m_X3_write S_10 11 (r_1 + a2) (r_2 + (a5 - a4))) (fun S_11 => cs_let (m_X4_insert_L126 j3 T_9.1 (a5 - a4) r_2 (r_1 + a2) a1 a2 a4 a5 a6 a7 cs_N ((r_1 + a2) + 1) S_11) (fun T_15 => cs_let (m_X3_write T_15.2 12 (r_1 + a2) a6) (fun S_16 => cs_let (m_X3_write S_16 13 (r_1 + a2) a7) (fun S_17 => cs_let (m_X3_write S_17 14 (r_1 + a2) T_9.1.toInt32) (fun S_18 => cs_let (m_X3_write S_18 15 (r_1 + a2) (((T_9.1.toUInt64 >>> ((32 : Int32).toInt64.toUInt64 &&& Int64.toUInt64 63)).toInt64).toInt32)) (fun S_19 => cs_let (m_X3_raise S_19 16 a1 1) (fun S_20 => S_20))))))))))))
set_option maxHeartbeats 4000000 in
set_option maxRecDepth 100000 in
theorem c_X4_insert (l : Launch) (D : va_G) (cy : ClassId) (ad : Nat → Nat) (S : cs_St) (a1 : Int32) (a2 : Int32) (j3 : Nat) (a4 : Int32) (a5 : Int32) (a6 : Int32) (a7 : Int32) (hj3 : j3 < 19) (g7 : a7 ≤ 3) : Met l yX4_insert (cs_ws yX4_insert cX4_insert 15 none) (cs_rm 3 103) (cs_Pc D cy ad [.ref (ad 4), .int a1, .int a2, .ref (ad (6 + 2 * j3)), .int a4, .int a5, .int a6, .int a7] S) (cs_Qv D cy ad (fun S1 => S1 = m_X4_insert S a1 a2 j3 a4 a5 a6 a7)) 0 0 (cs_A ad) := by
  refine cs_of RX4 (by decide) rfl (Nat.le_of_ble_eq_true rfl) ?_
  intro p e s m below meth c hF hr hlk hw hK ls hl
  obtain ⟨hx, hb, hml, hown, hts⟩ := id hF
  have hS : va_S (cs_A ad) s.heap s.heap [] := va_S.rf
  have hl : lv_has ls 15 [(0, .ref (ad 4)), (1, .int a1), (2, .int a2), (3, .ref (ad (6 + 2 * j3))), (4, .int a4), (5, .int a5), (6, .int a6), (7, .int a7)] := hl
  generalize hRes : m_X4_insert S a1 a2 j3 a4 a5 a6 a7 = Res
  unfold m_X4_insert at hRes
  refine lv_aload_n hx hb dX4_insert_0 rfl (lv_at hl 0 rfl) ?_
  refine lv_iload_n hx hb dX4_insert_1 rfl (lv_at hl 1 rfl) ?_
  refine cs_vir hF (c_X4_first l D cy ad S a1) (cwV 1 hts g_X4_53 rfl rfl rfl kk_X4_first ⟨Nat.le_of_ble_eq_true rfl, Nat.le_of_ble_eq_true rfl⟩) (cs_recv hK hw (ci := 4) 4 rfl rfl) hw hK hS rfl hl.1 [] rfl (Nat.le_of_ble_eq_true rfl) dX4_insert_2 (fun r_1 H locs hq hw hS => ?_)
  replace hRes := cs_letE hq hRes
  clear hq
  refine lv_iload_n hx hb dX4_insert_5 rfl (lv_at hl 2 rfl) ?_
  refine lv_iadd hx hb dX4_insert_6 ?_
  refine lv_istore (lv' := [(8, .int (r_1 + a2)), (0, .ref (ad 4)), (1, .int a1), (2, .int a2), (3, .ref (ad (6 + 2 * j3))), (4, .int a4), (5, .int a5), (6, .int a6), (7, .int a7)]) hx hb dX4_insert_7 hl (by decide) rfl (fun ls hl => ?_)
  refine lv_aload_n hx hb dX4_insert_9 rfl (lv_at hl 1 rfl) ?_
  refine lv_iload hx hb dX4_insert_10 (lv_at hl 0 rfl) ?_
  refine cs_vir hF (c_X4_begin l D cy ad S (r_1 + a2)) (cwV 1 hts g_X4_50 rfl rfl rfl kk_X4_begin ⟨Nat.le_of_ble_eq_true rfl, Nat.le_of_ble_eq_true rfl⟩) (cs_recv hK hw (ci := 4) 4 rfl rfl) hw hK hS rfl hl.1 [] rfl (Nat.le_of_ble_eq_true rfl) dX4_insert_12 (fun r_2 H locs hq hw hS => ?_)
  replace hRes := cs_letE hq hRes
  clear hq
  refine lv_istore (lv' := [(9, .int r_2), (8, .int (r_1 + a2)), (0, .ref (ad 4)), (1, .int a1), (2, .int a2), (3, .ref (ad (6 + 2 * j3))), (4, .int a4), (5, .int a5), (6, .int a6), (7, .int a7)]) hx hb dX4_insert_15 hl (by decide) rfl (fun ls hl => ?_)
  refine lv_iload hx hb dX4_insert_17 (lv_at hl 7 rfl) ?_
  refine lv_iload hx hb dX4_insert_19 (lv_at hl 6 rfl) ?_
  refine lv_isub hx hb dX4_insert_21 ?_
  refine lv_istore (lv' := [(10, .int (a5 - a4)), (9, .int r_2), (8, .int (r_1 + a2)), (0, .ref (ad 4)), (1, .int a1), (2, .int a2), (3, .ref (ad (6 + 2 * j3))), (4, .int a4), (5, .int a5), (6, .int a6), (7, .int a7)]) hx hb dX4_insert_22 hl (by decide) rfl (fun ls hl => ?_)
  refine lv_lconst (v := 0) hx hb dX4_insert_24 rfl ?_
  refine lv_lstore (lv' := [(11, .long 0), (10, .int (a5 - a4)), (9, .int r_2), (8, .int (r_1 + a2)), (0, .ref (ad 4)), (1, .int a1), (2, .int a2), (3, .ref (ad (6 + 2 * j3))), (4, .int a4), (5, .int a5), (6, .int a6), (7, .int a7)]) hx hb dX4_insert_25 hl (by decide) rfl (fun ls hl => ?_)
  refine lv_aload_n hx hb dX4_insert_27 rfl (lv_at hl 4 rfl) ?_
  refine cs_get (C := RX4) (T := TX4) (N := 8) hF in_X4 hw hK 4 rfl rfl 1 (by decide) q_120 rfl dX4_insert_28 ?_
  refine lv_iload hx hb dX4_insert_31 (lv_at hl 2 rfl) ?_
  refine lv_iload hx hb dX4_insert_33 (lv_at hl 1 rfl) ?_
  refine cs_vv hF (c_X3_open l D cy ad S 10 r_2 (a5 - a4) (by decide)) (cwV 2 hts g_X4_80 rfl rfl rfl kk_X3_open ⟨Nat.le_of_ble_eq_true rfl, Nat.le_of_ble_eq_true rfl⟩) (cs_recvR hK hw (by decide)) hw hK hS rfl hl.1 [] rfl (Nat.le_of_ble_eq_true rfl) dX4_insert_35 (fun S_3 H locs hq hw hS => ?_)
  replace hRes := cs_letE hq hRes
  clear hq
  refine lv_iconst (v := 0) hx hb dX4_insert_38 (by decide) ?_
  refine lv_istore (lv' := [(13, .int 0), (11, .long 0), (10, .int (a5 - a4)), (9, .int r_2), (8, .int (r_1 + a2)), (0, .ref (ad 4)), (1, .int a1), (2, .int a2), (3, .ref (ad (6 + 2 * j3))), (4, .int a4), (5, .int a5), (6, .int a6), (7, .int a7)]) hx hb dX4_insert_39 hl (by decide) rfl (fun ls hl => ?_)
  -- the loop at 41
  obtain ⟨T_9, hq⟩ : ∃ z, z = m_X4_insert_L41 j3 (a5 - a4) r_2 (r_1 + a2) a1 a2 a4 a5 a6 a7 cs_N 0 0 S_3 := ⟨_, rfl⟩
  replace hRes := cs_letE hq hRes
  have hk : ∀ (H : Heap) (locs : List Loc) (ls : Array Slot), cs_w D cy ad T_9.2.2 H → va_S (cs_A ad) s.heap H locs → lv_has ls 15 [(13, .int T_9.2.1), (11, .long T_9.1), (10, .int (a5 - a4)), (9, .int r_2), (8, .int (r_1 + a2)), (0, .ref (ad 4)), (1, .int a1), (2, .int a2), (3, .ref (ad (6 + 2 * j3))), (4, .int a4), (5, .int a5), (6, .int a6), (7, .int a7)] → W p l e (cs_rm 3 103) s m ([.ref (ad 4), .int a1, .int a2, .ref (ad (6 + 2 * j3)), .int a4, .int a5, .int a6, .int a7]).toArray below meth c H locs 0 0 (MQ below (cs_Qv D cy ad (fun S1 => S1 = Res)) ([.ref (ad 4), .int a1, .int a2, .ref (ad (6 + 2 * j3)), .int a4, .int a5, .int a6, .int a7]).toArray s 0 0 (cs_A ad)) (F0 m 100 ls []) := by
    intro H locs ls hw hS hl
    refine lv_aload_n hx hb dX4_insert_100 rfl (lv_at hl 5 rfl) ?_
    refine lv_iload hx hb dX4_insert_101 (lv_at hl 4 rfl) ?_
    refine cs_vv hF (c_X4_openRun l D cy ad T_9.2.2 (r_1 + a2)) (cwV 1 hts g_X4_91 rfl rfl rfl kk_X4_openRun ⟨Nat.le_of_ble_eq_true rfl, Nat.le_of_ble_eq_true rfl⟩) (cs_recv hK hw (ci := 4) 4 rfl rfl) hw hK hS rfl hl.1 [] rfl (Nat.le_of_ble_eq_true rfl) dX4_insert_103 (fun S_10 H locs hq hw hS => ?_)
    replace hRes := cs_letE hq hRes
    clear hq
    refine lv_aload_n hx hb dX4_insert_106 rfl (lv_at hl 5 rfl) ?_
    refine cs_get (C := RX4) (T := TX4) (N := 8) hF in_X4 hw hK 4 rfl rfl 2 (by decide) q_121 rfl dX4_insert_107 ?_
    refine lv_iload hx hb dX4_insert_110 (lv_at hl 4 rfl) ?_
    refine lv_iload hx hb dX4_insert_112 (lv_at hl 3 rfl) ?_
    refine lv_iload hx hb dX4_insert_114 (lv_at hl 2 rfl) ?_
    refine lv_iadd hx hb dX4_insert_116 ?_
    refine cs_vv hF (c_X3_write l D cy ad S_10 11 (r_1 + a2) (r_2 + (a5 - a4)) (by decide) (fun h => absurd h (by decide))) (cwV 2 hts g_X4_84 rfl rfl rfl kk_X3_write ⟨Nat.le_of_ble_eq_true rfl, Nat.le_of_ble_eq_true rfl⟩) (cs_recvR hK hw (by decide)) hw hK hS rfl hl.1 [] rfl (Nat.le_of_ble_eq_true rfl) dX4_insert_117 (fun S_11 H locs hq hw hS => ?_)
    replace hRes := cs_letE hq hRes
    clear hq
    refine lv_iload hx hb dX4_insert_120 (lv_at hl 4 rfl) ?_
    refine lv_iconst (v := 1) hx hb dX4_insert_122 (by decide) ?_
    refine lv_iadd hx hb dX4_insert_123 ?_
    refine lv_istore (lv' := [(13, .int ((r_1 + a2) + 1)), (11, .long T_9.1), (10, .int (a5 - a4)), (9, .int r_2), (8, .int (r_1 + a2)), (0, .ref (ad 4)), (1, .int a1), (2, .int a2), (3, .ref (ad (6 + 2 * j3))), (4, .int a4), (5, .int a5), (6, .int a6), (7, .int a7)]) hx hb dX4_insert_124 hl (by decide) rfl (fun ls hl => ?_)
    -- the loop at 126
    obtain ⟨T_15, hq⟩ : ∃ z, z = m_X4_insert_L126 j3 T_9.1 (a5 - a4) r_2 (r_1 + a2) a1 a2 a4 a5 a6 a7 cs_N ((r_1 + a2) + 1) S_11 := ⟨_, rfl⟩
    replace hRes := cs_letE hq hRes
    have hk : ∀ (H : Heap) (locs : List Loc) (ls : Array Slot), cs_w D cy ad T_15.2 H → va_S (cs_A ad) s.heap H locs → lv_has ls 15 [(13, .int T_15.1), (11, .long T_9.1), (10, .int (a5 - a4)), (9, .int r_2), (8, .int (r_1 + a2)), (0, .ref (ad 4)), (1, .int a1), (2, .int a2), (3, .ref (ad (6 + 2 * j3))), (4, .int a4), (5, .int a5), (6, .int a6), (7, .int a7)] → W p l e (cs_rm 3 103) s m ([.ref (ad 4), .int a1, .int a2, .ref (ad (6 + 2 * j3)), .int a4, .int a5, .int a6, .int a7]).toArray below meth c H locs 0 0 (MQ below (cs_Qv D cy ad (fun S1 => S1 = Res)) ([.ref (ad 4), .int a1, .int a2, .ref (ad (6 + 2 * j3)), .int a4, .int a5, .int a6, .int a7]).toArray s 0 0 (cs_A ad)) (F0 m 155 ls []) := by
      intro H locs ls hw hS hl
      refine lv_aload_n hx hb dX4_insert_155 rfl (lv_at hl 5 rfl) ?_
      refine cs_get (C := RX4) (T := TX4) (N := 8) hF in_X4 hw hK 4 rfl rfl 3 (by decide) q_122 rfl dX4_insert_156 ?_
      refine lv_iload hx hb dX4_insert_159 (lv_at hl 4 rfl) ?_
      refine lv_iload hx hb dX4_insert_161 (lv_at hl 11 rfl) ?_
      refine cs_vv hF (c_X3_write l D cy ad T_15.2 12 (r_1 + a2) a6 (by decide) (fun h => absurd h (by decide))) (cwV 2 hts g_X4_84 rfl rfl rfl kk_X3_write ⟨Nat.le_of_ble_eq_true rfl, Nat.le_of_ble_eq_true rfl⟩) (cs_recvR hK hw (by decide)) hw hK hS rfl hl.1 [] rfl (Nat.le_of_ble_eq_true rfl) dX4_insert_163 (fun S_16 H locs hq hw hS => ?_)
      replace hRes := cs_letE hq hRes
      clear hq
      refine lv_aload_n hx hb dX4_insert_166 rfl (lv_at hl 5 rfl) ?_
      refine cs_get (C := RX4) (T := TX4) (N := 8) hF in_X4 hw hK 4 rfl rfl 4 (by decide) q_123 rfl dX4_insert_167 ?_
      refine lv_iload hx hb dX4_insert_170 (lv_at hl 4 rfl) ?_
      refine lv_iload hx hb dX4_insert_172 (lv_at hl 12 rfl) ?_
      refine cs_vv hF (c_X3_write l D cy ad S_16 13 (r_1 + a2) a7 (by decide) (fun _ => g7)) (cwV 2 hts g_X4_84 rfl rfl rfl kk_X3_write ⟨Nat.le_of_ble_eq_true rfl, Nat.le_of_ble_eq_true rfl⟩) (cs_recvR hK hw (by decide)) hw hK hS rfl hl.1 [] rfl (Nat.le_of_ble_eq_true rfl) dX4_insert_174 (fun S_17 H locs hq hw hS => ?_)
      replace hRes := cs_letE hq hRes
      clear hq
      refine lv_aload_n hx hb dX4_insert_177 rfl (lv_at hl 5 rfl) ?_
      refine cs_get (C := RX4) (T := TX4) (N := 8) hF in_X4 hw hK 4 rfl rfl 5 (by decide) q_124 rfl dX4_insert_178 ?_
      refine lv_iload hx hb dX4_insert_181 (lv_at hl 4 rfl) ?_
      refine lv_lload hx hb dX4_insert_183 (lv_at hl 1 rfl) ?_
      refine lv_l2i (v := T_9.1.toInt32) hx hb dX4_insert_185 rfl ?_
      refine cs_vv hF (c_X3_write l D cy ad S_17 14 (r_1 + a2) T_9.1.toInt32 (by decide) (fun h => absurd h (by decide))) (cwV 2 hts g_X4_84 rfl rfl rfl kk_X3_write ⟨Nat.le_of_ble_eq_true rfl, Nat.le_of_ble_eq_true rfl⟩) (cs_recvR hK hw (by decide)) hw hK hS rfl hl.1 [] rfl (Nat.le_of_ble_eq_true rfl) dX4_insert_186 (fun S_18 H locs hq hw hS => ?_)
      replace hRes := cs_letE hq hRes
      clear hq
      refine lv_aload_n hx hb dX4_insert_189 rfl (lv_at hl 5 rfl) ?_
      refine cs_get (C := RX4) (T := TX4) (N := 8) hF in_X4 hw hK 4 rfl rfl 6 (by decide) q_125 rfl dX4_insert_190 ?_
      refine lv_iload hx hb dX4_insert_193 (lv_at hl 4 rfl) ?_
      refine lv_lload hx hb dX4_insert_195 (lv_at hl 1 rfl) ?_
      refine lv_bipush (v := 32) hx hb dX4_insert_197 (by decide) ?_
      refine lv_lushr (v := (T_9.1.toUInt64 >>> ((32 : Int32).toInt64.toUInt64 &&& Int64.toUInt64 63)).toInt64) hx hb dX4_insert_199 rfl ?_
      refine lv_l2i (v := ((T_9.1.toUInt64 >>> ((32 : Int32).toInt64.toUInt64 &&& Int64.toUInt64 63)).toInt64).toInt32) hx hb dX4_insert_200 rfl ?_
      refine cs_vv hF (c_X3_write l D cy ad S_18 15 (r_1 + a2) (((T_9.1.toUInt64 >>> ((32 : Int32).toInt64.toUInt64 &&& Int64.toUInt64 63)).toInt64).toInt32) (by decide) (fun h => absurd h (by decide))) (cwV 2 hts g_X4_84 rfl rfl rfl kk_X3_write ⟨Nat.le_of_ble_eq_true rfl, Nat.le_of_ble_eq_true rfl⟩) (cs_recvR hK hw (by decide)) hw hK hS rfl hl.1 [] rfl (Nat.le_of_ble_eq_true rfl) dX4_insert_201 (fun S_19 H locs hq hw hS => ?_)
      replace hRes := cs_letE hq hRes
      clear hq
      refine lv_aload_n hx hb dX4_insert_204 rfl (lv_at hl 5 rfl) ?_
      refine cs_get (C := RX4) (T := TX4) (N := 8) hF in_X4 hw hK 4 rfl rfl 7 (by decide) q_126 rfl dX4_insert_205 ?_
      refine lv_iload_n hx hb dX4_insert_208 rfl (lv_at hl 6 rfl) ?_
      refine lv_iconst (v := 1) hx hb dX4_insert_209 (by decide) ?_
      refine cs_vv hF (c_X3_raise l D cy ad S_19 16 a1 1 (by decide) (by decide)) (cwV 2 hts g_X4_94 rfl rfl rfl kk_X3_raise ⟨Nat.le_of_ble_eq_true rfl, Nat.le_of_ble_eq_true rfl⟩) (cs_recvR hK hw (by decide)) hw hK hS rfl hl.1 [] rfl (Nat.le_of_ble_eq_true rfl) dX4_insert_210 (fun S_20 H locs hq hw hS => ?_)
      replace hRes := cs_letE hq hRes
      clear hq
      exact cs_vret hF hr hlk hw hK hS dX4_insert_213 hRes
    have lp : ∀ (n : Nat) (v13 : Int32) (S : cs_St) (H : Heap) (locs : List Loc), cs_w D cy ad S H → va_S (cs_A ad) s.heap H locs → ∀ (ls : Array Slot), lv_has ls 15 [(13, .int v13), (11, .long T_9.1), (10, .int (a5 - a4)), (9, .int r_2), (8, .int (r_1 + a2)), (0, .ref (ad 4)), (1, .int a1), (2, .int a2), (3, .ref (ad (6 + 2 * j3))), (4, .int a4), (5, .int a5), (6, .int a6), (7, .int a7)] → (2147483647 - v13.toInt < (n : Int) ∧ 0 < n) → m_X4_insert_L126 j3 T_9.1 (a5 - a4) r_2 (r_1 + a2) a1 a2 a4 a5 a6 a7 n v13 S = T_15 → W p l e (cs_rm 3 103) s m ([.ref (ad 4), .int a1, .int a2, .ref (ad (6 + 2 * j3)), .int a4, .int a5, .int a6, .int a7]).toArray below meth c H locs 0 0 (MQ below (cs_Qv D cy ad (fun S1 => S1 = Res)) ([.ref (ad 4), .int a1, .int a2, .ref (ad (6 + 2 * j3)), .int a4, .int a5, .int a6, .int a7]).toArray s 0 0 (cs_A ad)) (F0 m 126 ls []) := by
      intro n
      induction n with
      | zero => intro v13 S H locs hw hS ls hl hm; exact absurd hm.2 (Nat.lt_irrefl 0)
      | succ n ih =>
        intro v13 S H locs hw hS ls hl hm hE
        replace hE := m_X4_insert_L126_s.symm.trans hE
        refine lv_iload hx hb dX4_insert_126 (lv_at hl 0 rfl) ?_
        refine lv_aload_n hx hb dX4_insert_128 rfl (lv_at hl 5 rfl) ?_
        refine cs_get (C := RX4) (T := TX4) (N := 8) hF in_X4 hw hK 4 rfl rfl 2 (by decide) q_121 rfl dX4_insert_129 ?_
        refine cs_vir hF (c_X3_length l D cy ad S 11 (by decide)) (cwV 0 hts g_X4_42 rfl rfl rfl kk_X3_length ⟨Nat.le_of_ble_eq_true rfl, Nat.le_of_ble_eq_true rfl⟩) (cs_recvR hK hw (by decide)) hw hK hS rfl hl.1 [.int v13] rfl (Nat.le_of_ble_eq_true rfl) dX4_insert_132 (fun r_12 H locs hq hw hS => ?_)
        replace hE := cs_letE hq hE
        clear hq
        refine lv_icmp_ge (tgt := 155) hx hb dX4_insert_135 (by decide) (fun c_13 => ?_) (fun c_13 => ?_)
        · replace hE := cs_T c_13 hE
          subst hE
          exact hk _ _ _ hw hS (lv_sub hl [0, 1, 2, 3, 4, 5, 6, 7, 8, 9, 10, 11, 12] rfl)
        · replace hE := cs_F c_13 hE
          refine lv_aload_n hx hb dX4_insert_138 rfl (lv_at hl 5 rfl) ?_
          refine cs_get (C := RX4) (T := TX4) (N := 8) hF in_X4 hw hK 4 rfl rfl 2 (by decide) q_121 rfl dX4_insert_139 ?_
          refine lv_iload hx hb dX4_insert_142 (lv_at hl 0 rfl) ?_
          refine lv_iload hx hb dX4_insert_144 (lv_at hl 2 rfl) ?_
          refine cs_vv hF (c_X3_raise l D cy ad S 11 v13 (a5 - a4) (by decide) (by decide)) (cwV 2 hts g_X4_94 rfl rfl rfl kk_X3_raise ⟨Nat.le_of_ble_eq_true rfl, Nat.le_of_ble_eq_true rfl⟩) (cs_recvR hK hw (by decide)) hw hK hS rfl hl.1 [] rfl (Nat.le_of_ble_eq_true rfl) dX4_insert_146 (fun S_14 H locs hq hw hS => ?_)
          replace hE := cs_letE hq hE
          clear hq
          refine lv_iinc (v := v13 + 1) (lv' := [(13, .int (v13 + 1)), (11, .long T_9.1), (10, .int (a5 - a4)), (9, .int r_2), (8, .int (r_1 + a2)), (0, .ref (ad 4)), (1, .int a1), (2, .int a2), (3, .ref (ad (6 + 2 * j3))), (4, .int a4), (5, .int a5), (6, .int a6), (7, .int a7)]) hx hb dX4_insert_149 hl (k := 0) rfl rfl (by decide) rfl (fun ls hl => ?_)
          refine lv_goto (tgt := 126) hx hb dX4_insert_152 (by decide) ?_
          exact ih (v13 + 1) S_14 _ _ hw hS _ (lv_sub hl [0, 1, 2, 3, 4, 5, 6, 7, 8, 9, 10, 11, 12] rfl) (cs_up hm.1 c_13) hE
    exact lp cs_N ((r_1 + a2) + 1) S_11 _ _ hw hS _ (lv_sub hl [0, 1, 2, 3, 4, 5, 6, 7, 8, 9, 10, 11, 12] rfl) (cs_up0 ((r_1 + a2) + 1)) hq.symm
  have lp : ∀ (n : Nat) (v11 : Int64) (v13 : Int32) (S : cs_St) (H : Heap) (locs : List Loc), cs_w D cy ad S H → va_S (cs_A ad) s.heap H locs → ∀ (ls : Array Slot), lv_has ls 15 [(13, .int v13), (11, .long v11), (10, .int (a5 - a4)), (9, .int r_2), (8, .int (r_1 + a2)), (0, .ref (ad 4)), (1, .int a1), (2, .int a2), (3, .ref (ad (6 + 2 * j3))), (4, .int a4), (5, .int a5), (6, .int a6), (7, .int a7)] → (2147483647 - v13.toInt < (n : Int) ∧ 0 < n) → m_X4_insert_L41 j3 (a5 - a4) r_2 (r_1 + a2) a1 a2 a4 a5 a6 a7 n v11 v13 S = T_9 → W p l e (cs_rm 3 103) s m ([.ref (ad 4), .int a1, .int a2, .ref (ad (6 + 2 * j3)), .int a4, .int a5, .int a6, .int a7]).toArray below meth c H locs 0 0 (MQ below (cs_Qv D cy ad (fun S1 => S1 = Res)) ([.ref (ad 4), .int a1, .int a2, .ref (ad (6 + 2 * j3)), .int a4, .int a5, .int a6, .int a7]).toArray s 0 0 (cs_A ad)) (F0 m 41 ls []) := by
    intro n
    induction n with
    | zero => intro v11 v13 S H locs hw hS ls hl hm; exact absurd hm.2 (Nat.lt_irrefl 0)
    | succ n ih =>
      intro v11 v13 S H locs hw hS ls hl hm hE
      replace hE := m_X4_insert_L41_s.symm.trans hE
      refine lv_iload hx hb dX4_insert_41 (lv_at hl 0 rfl) ?_
      refine lv_iload hx hb dX4_insert_43 (lv_at hl 2 rfl) ?_
      refine lv_icmp_ge (tgt := 100) hx hb dX4_insert_45 (by decide) (fun c_4 => ?_) (fun c_4 => ?_)
      · replace hE := cs_T c_4 hE
        subst hE
        exact hk _ _ _ hw hS (lv_sub hl [0, 1, 2, 3, 4, 5, 6, 7, 8, 9, 10, 11, 12] rfl)
      · replace hE := cs_F c_4 hE
        refine lv_aload_n hx hb dX4_insert_48 rfl (lv_at hl 8 rfl) ?_
        refine lv_iload hx hb dX4_insert_49 (lv_at hl 9 rfl) ?_
        refine lv_iload hx hb dX4_insert_51 (lv_at hl 0 rfl) ?_
        refine lv_iadd hx hb dX4_insert_53 ?_
        refine cs_vir hF (c_X3_at l D cy ad S j3 (a4 + v13) hj3) (cwV 1 hts g_X4_46 rfl rfl rfl kk_X3_at ⟨Nat.le_of_ble_eq_true rfl, Nat.le_of_ble_eq_true rfl⟩) (cs_recvR hK hw hj3) hw hK hS rfl hl.1 [] rfl (Nat.le_of_ble_eq_true rfl) dX4_insert_54 (fun r_5 H locs hq hw hS => ?_)
        replace hE := cs_letE hq hE
        clear hq
        refine lv_istore (lv' := [(14, .int r_5), (13, .int v13), (11, .long v11), (10, .int (a5 - a4)), (9, .int r_2), (8, .int (r_1 + a2)), (0, .ref (ad 4)), (1, .int a1), (2, .int a2), (3, .ref (ad (6 + 2 * j3))), (4, .int a4), (5, .int a5), (6, .int a6), (7, .int a7)]) hx hb dX4_insert_57 hl (by decide) rfl (fun ls hl => ?_)
        refine lv_aload_n hx hb dX4_insert_59 rfl (lv_at hl 6 rfl) ?_
        refine cs_get (C := RX4) (T := TX4) (N := 8) hF in_X4 hw hK 4 rfl rfl 1 (by decide) q_120 rfl dX4_insert_60 ?_
        refine lv_iload hx hb dX4_insert_63 (lv_at hl 4 rfl) ?_
        refine lv_iload hx hb dX4_insert_65 (lv_at hl 1 rfl) ?_
        refine lv_iadd hx hb dX4_insert_67 ?_
        refine lv_iload hx hb dX4_insert_68 (lv_at hl 0 rfl) ?_
        refine cs_vv hF (c_X3_write l D cy ad S 10 (r_2 + v13) r_5 (by decide) (fun h => absurd h (by decide))) (cwV 2 hts g_X4_84 rfl rfl rfl kk_X3_write ⟨Nat.le_of_ble_eq_true rfl, Nat.le_of_ble_eq_true rfl⟩) (cs_recvR hK hw (by decide)) hw hK hS rfl hl.1 [] rfl (Nat.le_of_ble_eq_true rfl) dX4_insert_70 (fun S_6 H locs hq hw hS => ?_)
        replace hE := cs_letE hq hE
        clear hq
        refine lv_lload hx hb dX4_insert_73 (lv_at hl 2 rfl) ?_
        refine lv_aload_n hx hb dX4_insert_75 rfl (lv_at hl 6 rfl) ?_
        refine cs_get (C := RX4) (T := TX4) (N := 8) hF in_X4 hw hK 4 rfl rfl 0 (by decide) q_127 rfl dX4_insert_76 ?_
        refine lv_iload hx hb dX4_insert_79 (lv_at hl 0 rfl) ?_
        refine cs_vir hF (c_X1_key l D cy ad S_6 r_5) (cwV 1 hts g_X4_56 rfl rfl rfl kk_X1_key ⟨Nat.le_of_ble_eq_true rfl, Nat.le_of_ble_eq_true rfl⟩) (cs_recv hK hw (ci := 1) 2 rfl rfl) hw hK hS rfl hl.1 [.long v11] rfl (Nat.le_of_ble_eq_true rfl) dX4_insert_81 (fun r_7 H locs hq hw hS => ?_)
        replace hE := cs_letE hq hE
        clear hq
        refine lv_iload hx hb dX4_insert_84 (lv_at hl 12 rfl) ?_
        refine lv_iload hx hb dX4_insert_86 (lv_at hl 13 rfl) ?_
        refine cs_slr hF (c_X4_bitsOf l D cy ad S_6 r_7 a6 a7 (g7)) (va_cwS 3 hts g_X4_87 rfl rfl rfl kk_X4_bitsOf ⟨Nat.le_of_ble_eq_true rfl, Nat.le_of_ble_eq_true rfl⟩) hw hK hS rfl hl.1 [.long v11] rfl (Nat.le_of_ble_eq_true rfl) dX4_insert_88 (fun r_8 H locs hq hw hS => ?_)
        replace hE := cs_letE hq hE
        clear hq
        refine lv_lor hx hb dX4_insert_91 ?_
        refine lv_lstore (lv' := [(11, .long (v11 ||| r_8)), (14, .int r_5), (13, .int v13), (10, .int (a5 - a4)), (9, .int r_2), (8, .int (r_1 + a2)), (0, .ref (ad 4)), (1, .int a1), (2, .int a2), (3, .ref (ad (6 + 2 * j3))), (4, .int a4), (5, .int a5), (6, .int a6), (7, .int a7)]) hx hb dX4_insert_92 hl (by decide) rfl (fun ls hl => ?_)
        refine lv_iinc (v := v13 + 1) (lv' := [(13, .int (v13 + 1)), (11, .long (v11 ||| r_8)), (14, .int r_5), (10, .int (a5 - a4)), (9, .int r_2), (8, .int (r_1 + a2)), (0, .ref (ad 4)), (1, .int a1), (2, .int a2), (3, .ref (ad (6 + 2 * j3))), (4, .int a4), (5, .int a5), (6, .int a6), (7, .int a7)]) hx hb dX4_insert_94 hl (k := 2) rfl rfl (by decide) rfl (fun ls hl => ?_)
        refine lv_goto (tgt := 41) hx hb dX4_insert_97 (by decide) ?_
        exact ih (v11 ||| r_8) (v13 + 1) S_6 _ _ hw hS _ (lv_sub hl [0, 1, 3, 4, 5, 6, 7, 8, 9, 10, 11, 12, 13] rfl) (cs_up hm.1 c_4) hE
  exact lp cs_N 0 0 S_3 _ _ hw hS _ (lv_sub hl [0, 1, 2, 3, 4, 5, 6, 7, 8, 9, 10, 11, 12] rfl) (cs_up0 0) hq.symm
theorem kk_X4_insert : yX4_insert.cls = RX4 ∧ yX4_insert.cls ≠ "java/lang/invoke/MethodHandle" ∧ yX4_insert.cls ≠ "java/lang/invoke/VarHandle" ∧ (parseMethodDescriptor yX4_insert.desc).map (fun d => d.parameters.length) = some 7 := by decide +kernel
theorem g_X4_97 : GoodIn cs_WS (wsV RX4 97 RX3 yX3_cut (cs_ws yX3_cut cX3_cut 3 none)) := cs_goodV q_182 q_30 q_31 q_10 q_23
def m_X4_cut_L105 (u8 : Int32) (u7 : Int32) (u6 : Int32) (u5 : Int32) (u4 : Int32) (u1 : Int32) (u2 : Int32) (u3 : Int32) : Nat → Int32 → cs_St → Int32 × cs_St
  | 0, _, S => (0, S)
  | n + 1, v9, S => cs_let (m_X3_length S 11) (fun r_10 => (if r_10 ≤ v9 then (v9, S) else cs_let (m_X3_raise S 11 v9 (u7 - u8)) (fun S_12 => m_X4_cut_L105 u8 u7 u6 u5 u4 u1 u2 u3 n (v9 + 1) S_12)))
theorem m_X4_cut_L105_s {u8 : Int32} {u7 : Int32} {u6 : Int32} {u5 : Int32} {u4 : Int32} {u1 : Int32} {u2 : Int32} {u3 : Int32} {n : Nat} {v9 : Int32} {S : cs_St} : m_X4_cut_L105 u8 u7 u6 u5 u4 u1 u2 u3 (n + 1) v9 S = cs_let (m_X3_length S 11) (fun r_10 => (if r_10 ≤ v9 then (v9, S) else cs_let (m_X3_raise S 11 v9 (u7 - u8)) (fun S_12 => m_X4_cut_L105 u8 u7 u6 u5 u4 u1 u2 u3 n (v9 + 1) S_12))) := rfl
def m_X4_cut (S : cs_St) (a1 : Int32) (a2 : Int32) (a3 : Int32) : cs_St := cs_let (m_X4_first S a1) (fun r_1 => cs_let (m_X4_begin S (r_1 + a2)) (fun r_2 => cs_let (m_X4_begin S (r_1 + a3)) (fun r_3 => cs_let (m_X3_cut S 10 r_2 r_3) (fun S_4 => cs_let (m_X3_cut S_4 11 (r_1 + a2) (r_1 + a3)) (fun S_5 => cs_let (m_X3_cut S_5 12 (r_1 + a2) (r_1 + a3)) (fun S_6 => cs_let (m_X3_cut S_6 13 (r_1 + a2) (r_1 + a3)) (fun S_7 => cs_let (m_X3_cut S_7 14 (r_1 + a2) (r_1 + a3)) (fun S_8 => cs_let (m_X3_cut S_8 15 (r_1 + a2) (r_1 + a3)) (fun S_9 => cs_let (m_X4_cut_L105 r_3 r_2 (r_1 + a3) (r_1 + a2) r_1 a1 a2 a3 cs_N (r_1 + a2) S_9) (fun T_13 => cs_let (m_X3_raise T_13.2 16 a1 (a2 - a3)) (fun S_14 => S_14)))))))))))
set_option maxHeartbeats 4000000 in
set_option maxRecDepth 100000 in
theorem c_X4_cut (l : Launch) (D : va_G) (cy : ClassId) (ad : Nat → Nat) (S : cs_St) (a1 : Int32) (a2 : Int32) (a3 : Int32) : Met l yX4_cut (cs_ws yX4_cut cX4_cut 10 none) (cs_rm 2 82) (cs_Pc D cy ad [.ref (ad 4), .int a1, .int a2, .int a3] S) (cs_Qv D cy ad (fun S1 => S1 = m_X4_cut S a1 a2 a3)) 0 0 (cs_A ad) := by
  refine cs_of RX4 (by decide) rfl (Nat.le_of_ble_eq_true rfl) ?_
  intro p e s m below meth c hF hr hlk hw hK ls hl
  obtain ⟨hx, hb, hml, hown, hts⟩ := id hF
  have hS : va_S (cs_A ad) s.heap s.heap [] := va_S.rf
  have hl : lv_has ls 10 [(0, .ref (ad 4)), (1, .int a1), (2, .int a2), (3, .int a3)] := hl
  generalize hRes : m_X4_cut S a1 a2 a3 = Res
  unfold m_X4_cut at hRes
  refine lv_aload_n hx hb dX4_cut_0 rfl (lv_at hl 0 rfl) ?_
  refine lv_iload_n hx hb dX4_cut_1 rfl (lv_at hl 1 rfl) ?_
  refine cs_vir hF (c_X4_first l D cy ad S a1) (cwV 1 hts g_X4_53 rfl rfl rfl kk_X4_first ⟨Nat.le_of_ble_eq_true rfl, Nat.le_of_ble_eq_true rfl⟩) (cs_recv hK hw (ci := 4) 4 rfl rfl) hw hK hS rfl hl.1 [] rfl (Nat.le_of_ble_eq_true rfl) dX4_cut_2 (fun r_1 H locs hq hw hS => ?_)
  replace hRes := cs_letE hq hRes
  clear hq
  refine lv_istore (lv' := [(4, .int r_1), (0, .ref (ad 4)), (1, .int a1), (2, .int a2), (3, .int a3)]) hx hb dX4_cut_5 hl (by decide) rfl (fun ls hl => ?_)
  refine lv_iload hx hb dX4_cut_7 (lv_at hl 0 rfl) ?_
  refine lv_iload_n hx hb dX4_cut_9 rfl (lv_at hl 3 rfl) ?_
  refine lv_iadd hx hb dX4_cut_10 ?_
  refine lv_istore (lv' := [(5, .int (r_1 + a2)), (4, .int r_1), (0, .ref (ad 4)), (1, .int a1), (2, .int a2), (3, .int a3)]) hx hb dX4_cut_11 hl (by decide) rfl (fun ls hl => ?_)
  refine lv_iload hx hb dX4_cut_13 (lv_at hl 1 rfl) ?_
  refine lv_iload_n hx hb dX4_cut_15 rfl (lv_at hl 5 rfl) ?_
  refine lv_iadd hx hb dX4_cut_16 ?_
  refine lv_istore (lv' := [(6, .int (r_1 + a3)), (5, .int (r_1 + a2)), (4, .int r_1), (0, .ref (ad 4)), (1, .int a1), (2, .int a2), (3, .int a3)]) hx hb dX4_cut_17 hl (by decide) rfl (fun ls hl => ?_)
  refine lv_aload_n hx hb dX4_cut_19 rfl (lv_at hl 3 rfl) ?_
  refine lv_iload hx hb dX4_cut_20 (lv_at hl 1 rfl) ?_
  refine cs_vir hF (c_X4_begin l D cy ad S (r_1 + a2)) (cwV 1 hts g_X4_50 rfl rfl rfl kk_X4_begin ⟨Nat.le_of_ble_eq_true rfl, Nat.le_of_ble_eq_true rfl⟩) (cs_recv hK hw (ci := 4) 4 rfl rfl) hw hK hS rfl hl.1 [] rfl (Nat.le_of_ble_eq_true rfl) dX4_cut_22 (fun r_2 H locs hq hw hS => ?_)
  replace hRes := cs_letE hq hRes
  clear hq
  refine lv_istore (lv' := [(7, .int r_2), (6, .int (r_1 + a3)), (5, .int (r_1 + a2)), (4, .int r_1), (0, .ref (ad 4)), (1, .int a1), (2, .int a2), (3, .int a3)]) hx hb dX4_cut_25 hl (by decide) rfl (fun ls hl => ?_)
  refine lv_aload_n hx hb dX4_cut_27 rfl (lv_at hl 4 rfl) ?_
  refine lv_iload hx hb dX4_cut_28 (lv_at hl 1 rfl) ?_
  refine cs_vir hF (c_X4_begin l D cy ad S (r_1 + a3)) (cwV 1 hts g_X4_50 rfl rfl rfl kk_X4_begin ⟨Nat.le_of_ble_eq_true rfl, Nat.le_of_ble_eq_true rfl⟩) (cs_recv hK hw (ci := 4) 4 rfl rfl) hw hK hS rfl hl.1 [] rfl (Nat.le_of_ble_eq_true rfl) dX4_cut_30 (fun r_3 H locs hq hw hS => ?_)
  replace hRes := cs_letE hq hRes
  clear hq
  refine lv_istore (lv' := [(8, .int r_3), (7, .int r_2), (6, .int (r_1 + a3)), (5, .int (r_1 + a2)), (4, .int r_1), (0, .ref (ad 4)), (1, .int a1), (2, .int a2), (3, .int a3)]) hx hb dX4_cut_33 hl (by decide) rfl (fun ls hl => ?_)
  refine lv_aload_n hx hb dX4_cut_35 rfl (lv_at hl 5 rfl) ?_
  refine cs_get (C := RX4) (T := TX4) (N := 8) hF in_X4 hw hK 4 rfl rfl 1 (by decide) q_120 rfl dX4_cut_36 ?_
  refine lv_iload hx hb dX4_cut_39 (lv_at hl 1 rfl) ?_
  refine lv_iload hx hb dX4_cut_41 (lv_at hl 0 rfl) ?_
  refine cs_vv hF (c_X3_cut l D cy ad S 10 r_2 r_3 (by decide)) (cwV 2 hts g_X4_97 rfl rfl rfl kk_X3_cut ⟨Nat.le_of_ble_eq_true rfl, Nat.le_of_ble_eq_true rfl⟩) (cs_recvR hK hw (by decide)) hw hK hS rfl hl.1 [] rfl (Nat.le_of_ble_eq_true rfl) dX4_cut_43 (fun S_4 H locs hq hw hS => ?_)
  replace hRes := cs_letE hq hRes
  clear hq
  refine lv_aload_n hx hb dX4_cut_46 rfl (lv_at hl 5 rfl) ?_
  refine cs_get (C := RX4) (T := TX4) (N := 8) hF in_X4 hw hK 4 rfl rfl 2 (by decide) q_121 rfl dX4_cut_47 ?_
  refine lv_iload hx hb dX4_cut_50 (lv_at hl 3 rfl) ?_
  refine lv_iload hx hb dX4_cut_52 (lv_at hl 2 rfl) ?_
  refine cs_vv hF (c_X3_cut l D cy ad S_4 11 (r_1 + a2) (r_1 + a3) (by decide)) (cwV 2 hts g_X4_97 rfl rfl rfl kk_X3_cut ⟨Nat.le_of_ble_eq_true rfl, Nat.le_of_ble_eq_true rfl⟩) (cs_recvR hK hw (by decide)) hw hK hS rfl hl.1 [] rfl (Nat.le_of_ble_eq_true rfl) dX4_cut_54 (fun S_5 H locs hq hw hS => ?_)
  replace hRes := cs_letE hq hRes
  clear hq
  refine lv_aload_n hx hb dX4_cut_57 rfl (lv_at hl 5 rfl) ?_
  refine cs_get (C := RX4) (T := TX4) (N := 8) hF in_X4 hw hK 4 rfl rfl 3 (by decide) q_122 rfl dX4_cut_58 ?_
  refine lv_iload hx hb dX4_cut_61 (lv_at hl 3 rfl) ?_
  refine lv_iload hx hb dX4_cut_63 (lv_at hl 2 rfl) ?_
  refine cs_vv hF (c_X3_cut l D cy ad S_5 12 (r_1 + a2) (r_1 + a3) (by decide)) (cwV 2 hts g_X4_97 rfl rfl rfl kk_X3_cut ⟨Nat.le_of_ble_eq_true rfl, Nat.le_of_ble_eq_true rfl⟩) (cs_recvR hK hw (by decide)) hw hK hS rfl hl.1 [] rfl (Nat.le_of_ble_eq_true rfl) dX4_cut_65 (fun S_6 H locs hq hw hS => ?_)
  replace hRes := cs_letE hq hRes
  clear hq
  refine lv_aload_n hx hb dX4_cut_68 rfl (lv_at hl 5 rfl) ?_
  refine cs_get (C := RX4) (T := TX4) (N := 8) hF in_X4 hw hK 4 rfl rfl 4 (by decide) q_123 rfl dX4_cut_69 ?_
  refine lv_iload hx hb dX4_cut_72 (lv_at hl 3 rfl) ?_
  refine lv_iload hx hb dX4_cut_74 (lv_at hl 2 rfl) ?_
  refine cs_vv hF (c_X3_cut l D cy ad S_6 13 (r_1 + a2) (r_1 + a3) (by decide)) (cwV 2 hts g_X4_97 rfl rfl rfl kk_X3_cut ⟨Nat.le_of_ble_eq_true rfl, Nat.le_of_ble_eq_true rfl⟩) (cs_recvR hK hw (by decide)) hw hK hS rfl hl.1 [] rfl (Nat.le_of_ble_eq_true rfl) dX4_cut_76 (fun S_7 H locs hq hw hS => ?_)
  replace hRes := cs_letE hq hRes
  clear hq
  refine lv_aload_n hx hb dX4_cut_79 rfl (lv_at hl 5 rfl) ?_
  refine cs_get (C := RX4) (T := TX4) (N := 8) hF in_X4 hw hK 4 rfl rfl 5 (by decide) q_124 rfl dX4_cut_80 ?_
  refine lv_iload hx hb dX4_cut_83 (lv_at hl 3 rfl) ?_
  refine lv_iload hx hb dX4_cut_85 (lv_at hl 2 rfl) ?_
  refine cs_vv hF (c_X3_cut l D cy ad S_7 14 (r_1 + a2) (r_1 + a3) (by decide)) (cwV 2 hts g_X4_97 rfl rfl rfl kk_X3_cut ⟨Nat.le_of_ble_eq_true rfl, Nat.le_of_ble_eq_true rfl⟩) (cs_recvR hK hw (by decide)) hw hK hS rfl hl.1 [] rfl (Nat.le_of_ble_eq_true rfl) dX4_cut_87 (fun S_8 H locs hq hw hS => ?_)
  replace hRes := cs_letE hq hRes
  clear hq
  refine lv_aload_n hx hb dX4_cut_90 rfl (lv_at hl 5 rfl) ?_
  refine cs_get (C := RX4) (T := TX4) (N := 8) hF in_X4 hw hK 4 rfl rfl 6 (by decide) q_125 rfl dX4_cut_91 ?_
  refine lv_iload hx hb dX4_cut_94 (lv_at hl 3 rfl) ?_
  refine lv_iload hx hb dX4_cut_96 (lv_at hl 2 rfl) ?_
  refine cs_vv hF (c_X3_cut l D cy ad S_8 15 (r_1 + a2) (r_1 + a3) (by decide)) (cwV 2 hts g_X4_97 rfl rfl rfl kk_X3_cut ⟨Nat.le_of_ble_eq_true rfl, Nat.le_of_ble_eq_true rfl⟩) (cs_recvR hK hw (by decide)) hw hK hS rfl hl.1 [] rfl (Nat.le_of_ble_eq_true rfl) dX4_cut_98 (fun S_9 H locs hq hw hS => ?_)
  replace hRes := cs_letE hq hRes
  clear hq
  refine lv_iload hx hb dX4_cut_101 (lv_at hl 3 rfl) ?_
  refine lv_istore (lv' := [(9, .int (r_1 + a2)), (8, .int r_3), (7, .int r_2), (6, .int (r_1 + a3)), (5, .int (r_1 + a2)), (4, .int r_1), (0, .ref (ad 4)), (1, .int a1), (2, .int a2), (3, .int a3)]) hx hb dX4_cut_103 hl (by decide) rfl (fun ls hl => ?_)
  -- the loop at 105
  obtain ⟨T_13, hq⟩ : ∃ z, z = m_X4_cut_L105 r_3 r_2 (r_1 + a3) (r_1 + a2) r_1 a1 a2 a3 cs_N (r_1 + a2) S_9 := ⟨_, rfl⟩
  replace hRes := cs_letE hq hRes
  have hk : ∀ (H : Heap) (locs : List Loc) (ls : Array Slot), cs_w D cy ad T_13.2 H → va_S (cs_A ad) s.heap H locs → lv_has ls 10 [(9, .int T_13.1), (8, .int r_3), (7, .int r_2), (6, .int (r_1 + a3)), (5, .int (r_1 + a2)), (4, .int r_1), (0, .ref (ad 4)), (1, .int a1), (2, .int a2), (3, .int a3)] → W p l e (cs_rm 2 82) s m ([.ref (ad 4), .int a1, .int a2, .int a3]).toArray below meth c H locs 0 0 (MQ below (cs_Qv D cy ad (fun S1 => S1 = Res)) ([.ref (ad 4), .int a1, .int a2, .int a3]).toArray s 0 0 (cs_A ad)) (F0 m 137 ls []) := by
    intro H locs ls hw hS hl
    refine lv_aload_n hx hb dX4_cut_137 rfl (lv_at hl 6 rfl) ?_
    refine cs_get (C := RX4) (T := TX4) (N := 8) hF in_X4 hw hK 4 rfl rfl 7 (by decide) q_126 rfl dX4_cut_138 ?_
    refine lv_iload_n hx hb dX4_cut_141 rfl (lv_at hl 7 rfl) ?_
    refine lv_iload_n hx hb dX4_cut_142 rfl (lv_at hl 8 rfl) ?_
    refine lv_iload_n hx hb dX4_cut_143 rfl (lv_at hl 9 rfl) ?_
    refine lv_isub hx hb dX4_cut_144 ?_
    refine cs_vv hF (c_X3_raise l D cy ad T_13.2 16 a1 (a2 - a3) (by decide) (by decide)) (cwV 2 hts g_X4_94 rfl rfl rfl kk_X3_raise ⟨Nat.le_of_ble_eq_true rfl, Nat.le_of_ble_eq_true rfl⟩) (cs_recvR hK hw (by decide)) hw hK hS rfl hl.1 [] rfl (Nat.le_of_ble_eq_true rfl) dX4_cut_145 (fun S_14 H locs hq hw hS => ?_)
    replace hRes := cs_letE hq hRes
    clear hq
    exact cs_vret hF hr hlk hw hK hS dX4_cut_148 hRes
  have lp : ∀ (n : Nat) (v9 : Int32) (S : cs_St) (H : Heap) (locs : List Loc), cs_w D cy ad S H → va_S (cs_A ad) s.heap H locs → ∀ (ls : Array Slot), lv_has ls 10 [(9, .int v9), (8, .int r_3), (7, .int r_2), (6, .int (r_1 + a3)), (5, .int (r_1 + a2)), (4, .int r_1), (0, .ref (ad 4)), (1, .int a1), (2, .int a2), (3, .int a3)] → (2147483647 - v9.toInt < (n : Int) ∧ 0 < n) → m_X4_cut_L105 r_3 r_2 (r_1 + a3) (r_1 + a2) r_1 a1 a2 a3 n v9 S = T_13 → W p l e (cs_rm 2 82) s m ([.ref (ad 4), .int a1, .int a2, .int a3]).toArray below meth c H locs 0 0 (MQ below (cs_Qv D cy ad (fun S1 => S1 = Res)) ([.ref (ad 4), .int a1, .int a2, .int a3]).toArray s 0 0 (cs_A ad)) (F0 m 105 ls []) := by
    intro n
    induction n with
    | zero => intro v9 S H locs hw hS ls hl hm; exact absurd hm.2 (Nat.lt_irrefl 0)
    | succ n ih =>
      intro v9 S H locs hw hS ls hl hm hE
      replace hE := m_X4_cut_L105_s.symm.trans hE
      refine lv_iload hx hb dX4_cut_105 (lv_at hl 0 rfl) ?_
      refine lv_aload_n hx hb dX4_cut_107 rfl (lv_at hl 6 rfl) ?_
      refine cs_get (C := RX4) (T := TX4) (N := 8) hF in_X4 hw hK 4 rfl rfl 2 (by decide) q_121 rfl dX4_cut_108 ?_
      refine cs_vir hF (c_X3_length l D cy ad S 11 (by decide)) (cwV 0 hts g_X4_42 rfl rfl rfl kk_X3_length ⟨Nat.le_of_ble_eq_true rfl, Nat.le_of_ble_eq_true rfl⟩) (cs_recvR hK hw (by decide)) hw hK hS rfl hl.1 [.int v9] rfl (Nat.le_of_ble_eq_true rfl) dX4_cut_111 (fun r_10 H locs hq hw hS => ?_)
      replace hE := cs_letE hq hE
      clear hq
      refine lv_icmp_ge (tgt := 137) hx hb dX4_cut_114 (by decide) (fun c_11 => ?_) (fun c_11 => ?_)
      · replace hE := cs_T c_11 hE
        subst hE
        exact hk _ _ _ hw hS (lv_sub hl [0, 1, 2, 3, 4, 5, 6, 7, 8, 9] rfl)
      · replace hE := cs_F c_11 hE
        refine lv_aload_n hx hb dX4_cut_117 rfl (lv_at hl 6 rfl) ?_
        refine cs_get (C := RX4) (T := TX4) (N := 8) hF in_X4 hw hK 4 rfl rfl 2 (by decide) q_121 rfl dX4_cut_118 ?_
        refine lv_iload hx hb dX4_cut_121 (lv_at hl 0 rfl) ?_
        refine lv_iload hx hb dX4_cut_123 (lv_at hl 2 rfl) ?_
        refine lv_iload hx hb dX4_cut_125 (lv_at hl 1 rfl) ?_
        refine lv_isub hx hb dX4_cut_127 ?_
        refine cs_vv hF (c_X3_raise l D cy ad S 11 v9 (r_2 - r_3) (by decide) (by decide)) (cwV 2 hts g_X4_94 rfl rfl rfl kk_X3_raise ⟨Nat.le_of_ble_eq_true rfl, Nat.le_of_ble_eq_true rfl⟩) (cs_recvR hK hw (by decide)) hw hK hS rfl hl.1 [] rfl (Nat.le_of_ble_eq_true rfl) dX4_cut_128 (fun S_12 H locs hq hw hS => ?_)
        replace hE := cs_letE hq hE
        clear hq
        refine lv_iinc (v := v9 + 1) (lv' := [(9, .int (v9 + 1)), (8, .int r_3), (7, .int r_2), (6, .int (r_1 + a3)), (5, .int (r_1 + a2)), (4, .int r_1), (0, .ref (ad 4)), (1, .int a1), (2, .int a2), (3, .int a3)]) hx hb dX4_cut_131 hl (k := 0) rfl rfl (by decide) rfl (fun ls hl => ?_)
        refine lv_goto (tgt := 105) hx hb dX4_cut_134 (by decide) ?_
        exact ih (v9 + 1) S_12 _ _ hw hS _ (lv_sub hl [0, 1, 2, 3, 4, 5, 6, 7, 8, 9] rfl) (cs_up hm.1 c_11) hE
  exact lp cs_N (r_1 + a2) S_9 _ _ hw hS _ (lv_sub hl [0, 1, 2, 3, 4, 5, 6, 7, 8, 9] rfl) (cs_up0 (r_1 + a2)) hq.symm
theorem kk_X4_cut : yX4_cut.cls = RX4 ∧ yX4_cut.cls ≠ "java/lang/invoke/MethodHandle" ∧ yX4_cut.cls ≠ "java/lang/invoke/VarHandle" ∧ (parseMethodDescriptor yX4_cut.desc).map (fun d => d.parameters.length) = some 3 := by decide +kernel
