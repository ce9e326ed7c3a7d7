def m_X3_length (S : cs_St) (j : Nat) : Int32 := (nI (S.1 j).2)
set_option maxHeartbeats 4000000 in
set_option maxRecDepth 100000 in
theorem c_X3_length (l : Launch) (D : va_G) (cy : ClassId) (ad : Nat → Nat) (S : cs_St) (j : Nat) (hj : j < 19) : Met l yX3_length (cs_ws yX3_length cX3_length 1 (some .int)) (cs_rm 0 0) (cs_Pc D cy ad [.ref (ad (6 + 2 * j))] S) (cs_Qi D cy ad (fun r S1 => r = m_X3_length S j ∧ S1 = S)) 0 0 (cs_A ad) := by
  refine cs_of RX3 (by decide) rfl (Nat.le_of_ble_eq_true rfl) ?_
  intro p e s m below meth c hF hr hlk hw hK ls hl
  obtain ⟨hx, hb, hml, hown, hts⟩ := id hF
  have hS : va_S (cs_A ad) s.heap s.heap [] := va_S.rf
  have hl : lv_has ls 1 [(0, .ref (ad (6 + 2 * j)))] := hl
  have hok := hw.1.1 j hj
  generalize hRes : m_X3_length S j = Res
  unfold m_X3_length at hRes
  refine lv_aload_n hx hb dX3_length_0 rfl (lv_at hl 0 rfl) ?_
  refine cs_get (C := RX3) (T := TX3) (N := 2) hF in_X3 hw hK (6 + 2 * j) (cs_gO cy ad S j hj) rfl 1 (by decide) q_16 rfl dX3_length_1 ?_
  exact cs_iret hF hr hlk hw hK hS dX3_length_4 ⟨hRes, rfl⟩
theorem kk_X3_length : yX3_length.cls = RX3 ∧ yX3_length.cls ≠ "java/lang/invoke/MethodHandle" ∧ yX3_length.cls ≠ "java/lang/invoke/VarHandle" ∧ (parseMethodDescriptor yX3_length.desc).map (fun d => d.parameters.length) = some 0 := by decide +kernel
def m_X3_at (S : cs_St) (j : Nat) (a1 : Int32) : Int32 := (if a1 < 0 then 0 else (if (nI (cs_cap j)) ≤ a1 then 0 else ((S.1 j).1 a1.toNatClampNeg)))
set_option maxHeartbeats 4000000 in
set_option maxRecDepth 100000 in
theorem c_X3_at (l : Launch) (D : va_G) (cy : ClassId) (ad : Nat → Nat) (S : cs_St) (j : Nat) (a1 : Int32) (hj : j < 19) : Met l yX3_at (cs_ws yX3_at cX3_at 2 (some .int)) (cs_rm 0 0) (cs_Pc D cy ad [.ref (ad (6 + 2 * j)), .int a1] S) (cs_Qi D cy ad (fun r S1 => r = m_X3_at S j a1 ∧ S1 = S)) 0 0 (cs_A ad) := by
  refine cs_of RX3 (by decide) rfl (Nat.le_of_ble_eq_true rfl) ?_
  intro p e s m below meth c hF hr hlk hw hK ls hl
  obtain ⟨hx, hb, hml, hown, hts⟩ := id hF
  have hS : va_S (cs_A ad) s.heap s.heap [] := va_S.rf
  have hl : lv_has ls 2 [(0, .ref (ad (6 + 2 * j))), (1, .int a1)] := hl
  have hok := hw.1.1 j hj
  generalize hRes : m_X3_at S j a1 = Res
  unfold m_X3_at at hRes
  refine lv_iload_n hx hb dX3_at_0 rfl (lv_at hl 1 rfl) ?_
  refine lv_if_lt (tgt := 22) hx hb dX3_at_1 (by decide) (fun c_1 => ?_) (fun c_1 => ?_)
  · replace hRes := cs_T c_1 hRes
    refine lv_iconst (v := 0) hx hb dX3_at_22 (by decide) ?_
    exact cs_iret hF hr hlk hw hK hS dX3_at_23 ⟨hRes, rfl⟩
  · replace hRes := cs_F c_1 hRes
    refine lv_iload_n hx hb dX3_at_4 rfl (lv_at hl 1 rfl) ?_
    refine lv_aload_n hx hb dX3_at_5 rfl (lv_at hl 0 rfl) ?_
    refine cs_get (C := RX3) (T := TX3) (N := 2) hF in_X3 hw hK (6 + 2 * j) (cs_gO cy ad S j hj) rfl 0 (by decide) q_5 rfl dX3_at_6 ?_
    refine cs_len hF hw hK j hj dX3_at_9 ?_
    refine lv_icmp_ge (tgt := 22) hx hb dX3_at_10 (by decide) (fun c_2 => ?_) (fun c_2 => ?_)
    · replace hRes := cs_T c_2 hRes
      refine lv_iconst (v := 0) hx hb dX3_at_22 (by decide) ?_
      exact cs_iret hF hr hlk hw hK hS dX3_at_23 ⟨hRes, rfl⟩
    · replace hRes := cs_F c_2 hRes
      refine lv_aload_n hx hb dX3_at_13 rfl (lv_at hl 0 rfl) ?_
      refine cs_get (C := RX3) (T := TX3) (N := 2) hF in_X3 hw hK (6 + 2 * j) (cs_gO cy ad S j hj) rfl 0 (by decide) q_5 rfl dX3_at_14 ?_
      refine lv_iload_n hx hb dX3_at_17 rfl (lv_at hl 1 rfl) ?_
      refine cs_ald hF hw hK j hj c_1 c_2 dX3_at_18 ?_
      refine lv_goto (tgt := 23) hx hb dX3_at_19 (by decide) ?_
      exact cs_iret hF hr hlk hw hK hS dX3_at_23 ⟨hRes, rfl⟩
theorem kk_X3_at : yX3_at.cls = RX3 ∧ yX3_at.cls ≠ "java/lang/invoke/MethodHandle" ∧ yX3_at.cls ≠ "java/lang/invoke/VarHandle" ∧ (parseMethodDescriptor yX3_at.desc).map (fun d => d.parameters.length) = some 1 := by decide +kernel
def m_X3_write (S : cs_St) (j : Nat) (a1 : Int32) (a2 : Int32) : cs_St := (if a1 < 0 then S else (if (nI (cs_cap j)) ≤ a1 then S else cs_let (cs_sR S j (upd (S.1 j).1 a1.toNatClampNeg a2, (S.1 j).2)) (fun S_3 => S_3)))
set_option maxHeartbeats 4000000 in
set_option maxRecDepth 100000 in
theorem c_X3_write (l : Launch) (D : va_G) (cy : ClassId) (ad : Nat → Nat) (S : cs_St) (j : Nat) (a1 : Int32) (a2 : Int32) (hj : j < 19) (hx13 : j = 13 → a2 ≤ 3) : Met l yX3_write (cs_ws yX3_write cX3_write 3 none) (cs_rm 0 0) (cs_Pc D cy ad [.ref (ad (6 + 2 * j)), .int a1, .int a2] S) (cs_Qv D cy ad (fun S1 => S1 = m_X3_write S j a1 a2)) 0 0 (cs_A ad) := by
  refine cs_of RX3 (by decide) rfl (Nat.le_of_ble_eq_true rfl) ?_
  intro p e s m below meth c hF hr hlk hw hK ls hl
  obtain ⟨hx, hb, hml, hown, hts⟩ := id hF
  have hS : va_S (cs_A ad) s.heap s.heap [] := va_S.rf
  have hl : lv_has ls 3 [(0, .ref (ad (6 + 2 * j))), (1, .int a1), (2, .int a2)] := hl
  have hok := hw.1.1 j hj
  generalize hRes : m_X3_write S j a1 a2 = Res
  unfold m_X3_write at hRes
  refine lv_iload_n hx hb dX3_write_0 rfl (lv_at hl 1 rfl) ?_
  refine lv_if_lt (tgt := 20) hx hb dX3_write_1 (by decide) (fun c_1 => ?_) (fun c_1 => ?_)
  · replace hRes := cs_T c_1 hRes
    exact cs_vret hF hr hlk hw hK hS dX3_write_20 hRes
  · replace hRes := cs_F c_1 hRes
    refine lv_iload_n hx hb dX3_write_4 rfl (lv_at hl 1 rfl) ?_
    refine lv_aload_n hx hb dX3_write_5 rfl (lv_at hl 0 rfl) ?_
    refine cs_get (C := RX3) (T := TX3) (N := 2) hF in_X3 hw hK (6 + 2 * j) (cs_gO cy ad S j hj) rfl 0 (by decide) q_5 rfl dX3_write_6 ?_
    refine cs_len hF hw hK j hj dX3_write_9 ?_
    refine lv_icmp_ge (tgt := 20) hx hb dX3_write_10 (by decide) (fun c_2 => ?_) (fun c_2 => ?_)
    · replace hRes := cs_T c_2 hRes
      exact cs_vret hF hr hlk hw hK hS dX3_write_20 hRes
    · replace hRes := cs_F c_2 hRes
      refine lv_aload_n hx hb dX3_write_13 rfl (lv_at hl 0 rfl) ?_
      refine cs_get (C := RX3) (T := TX3) (N := 2) hF in_X3 hw hK (6 + 2 * j) (cs_gO cy ad S j hj) rfl 0 (by decide) q_5 rfl dX3_write_14 ?_
      refine lv_iload_n hx hb dX3_write_17 rfl (lv_at hl 1 rfl) ?_
      refine lv_iload_n hx hb dX3_write_18 rfl (lv_at hl 2 rfl) ?_
      refine cs_ast hF hw hK hS j hj c_1 c_2 (hx13) dX3_write_19 (fun S_3 H locs hq hw hS => ?_)
      replace hRes := cs_letE hq hRes
      have hu : (S_3.1 j).2 = (S.1 j).2 := by rw [hq, cs_sR_1]
      clear hq
      exact cs_vret hF hr hlk hw hK hS dX3_write_20 hRes
theorem kk_X3_write : yX3_write.cls = RX3 ∧ yX3_write.cls ≠ "java/lang/invoke/MethodHandle" ∧ yX3_write.cls ≠ "java/lang/invoke/VarHandle" ∧ (parseMethodDescriptor yX3_write.desc).map (fun d => d.parameters.length) = some 2 := by decide +kernel
def m_X3_raise (S : cs_St) (j : Nat) (a1 : Int32) (a2 : Int32) : cs_St := (if a1 < 0 then S else (if (nI (cs_cap j)) ≤ a1 then S else cs_let (cs_sR S j (upd (S.1 j).1 a1.toNatClampNeg (((S.1 j).1 a1.toNatClampNeg) + a2), (S.1 j).2)) (fun S_3 => S_3)))
set_option maxHeartbeats 4000000 in
set_option maxRecDepth 100000 in
theorem c_X3_raise (l : Launch) (D : va_G) (cy : ClassId) (ad : Nat → Nat) (S : cs_St) (j : Nat) (a1 : Int32) (a2 : Int32) (hj : j < 19) (hx13 : j ≠ 13) : Met l yX3_raise (cs_ws yX3_raise cX3_raise 3 none) (cs_rm 0 0) (cs_Pc D cy ad [.ref (ad (6 + 2 * j)), .int a1, .int a2] S) (cs_Qv D cy ad (fun S1 => S1 = m_X3_raise S j a1 a2)) 0 0 (cs_A ad) := by
  refine cs_of RX3 (by decide) rfl (Nat.le_of_ble_eq_true rfl) ?_
  intro p e s m below meth c hF hr hlk hw hK ls hl
  obtain ⟨hx, hb, hml, hown, hts⟩ := id hF
  have hS : va_S (cs_A ad) s.heap s.heap [] := va_S.rf
  have hl : lv_has ls 3 [(0, .ref (ad (6 + 2 * j))), (1, .int a1), (2, .int a2)] := hl
  have hok := hw.1.1 j hj
  generalize hRes : m_X3_raise S j a1 a2 = Res
  unfold m_X3_raise at hRes
  refine lv_iload_n hx hb dX3_raise_0 rfl (lv_at hl 1 rfl) ?_
  refine lv_if_lt (tgt := 23) hx hb dX3_raise_1 (by decide) (fun c_1 => ?_) (fun c_1 => ?_)
  · replace hRes := cs_T c_1 hRes
    exact cs_vret hF hr hlk hw hK hS dX3_raise_23 hRes
  · replace hRes := cs_F c_1 hRes
    refine lv_iload_n hx hb dX3_raise_4 rfl (lv_at hl 1 rfl) ?_
    refine lv_aload_n hx hb dX3_raise_5 rfl (lv_at hl 0 rfl) ?_
    refine cs_get (C := RX3) (T := TX3) (N := 2) hF in_X3 hw hK (6 + 2 * j) (cs_gO cy ad S j hj) rfl 0 (by decide) q_5 rfl dX3_raise_6 ?_
    refine cs_len hF hw hK j hj dX3_raise_9 ?_
    refine lv_icmp_ge (tgt := 23) hx hb dX3_raise_10 (by decide) (fun c_2 => ?_) (fun c_2 => ?_)
    · replace hRes := cs_T c_2 hRes
      exact cs_vret hF hr hlk hw hK hS dX3_raise_23 hRes
    · replace hRes := cs_F c_2 hRes
      refine lv_aload_n hx hb dX3_raise_13 rfl (lv_at hl 0 rfl) ?_
      refine cs_get (C := RX3) (T := TX3) (N := 2) hF in_X3 hw hK (6 + 2 * j) (cs_gO cy ad S j hj) rfl 0 (by decide) q_5 rfl dX3_raise_14 ?_
      refine lv_iload_n hx hb dX3_raise_17 rfl (lv_at hl 1 rfl) ?_
      refine lv_dup2_11 hx hb dX3_raise_18 rfl rfl ?_
      refine cs_ald hF hw hK j hj c_1 c_2 dX3_raise_19 ?_
      refine lv_iload_n hx hb dX3_raise_20 rfl (lv_at hl 2 rfl) ?_
      refine lv_iadd hx hb dX3_raise_21 ?_
      refine cs_ast hF hw hK hS j hj c_1 c_2 (fun h => absurd h hx13) dX3_raise_22 (fun S_3 H locs hq hw hS => ?_)
      replace hRes := cs_letE hq hRes
      have hu : (S_3.1 j).2 = (S.1 j).2 := by rw [hq, cs_sR_1]
      clear hq
      exact cs_vret hF hr hlk hw hK hS dX3_raise_23 hRes
theorem kk_X3_raise : yX3_raise.cls = RX3 ∧ yX3_raise.cls ≠ "java/lang/invoke/MethodHandle" ∧ yX3_raise.cls ≠ "java/lang/invoke/VarHandle" ∧ (parseMethodDescriptor yX3_raise.desc).map (fun d => d.parameters.length) = some 2 := by decide +kernel
def m_X3_append (S : cs_St) (j : Nat) (a1 : Int32) : cs_St := (if (nI (S.1 j).2) < 0 then S else (if (nI (cs_cap j)) ≤ (nI (S.1 j).2) then S else cs_let (cs_sR S j (upd (S.1 j).1 (nI (S.1 j).2).toNatClampNeg a1, (S.1 j).2)) (fun S_3 => cs_let (cs_sR S_3 j ((S_3.1 j).1, (S_3.1 j).2 + 1)) (fun S_4 => S_4))))
set_option maxHeartbeats 4000000 in
set_option maxRecDepth 100000 in
theorem c_X3_append (l : Launch) (D : va_G) (cy : ClassId) (ad : Nat → Nat) (S : cs_St) (j : Nat) (a1 : Int32) (hj : j < 19) (hx13 : j ≠ 13) : Met l yX3_append (cs_ws yX3_append cX3_append 2 none) (cs_rm 0 0) (cs_Pc D cy ad [.ref (ad (6 + 2 * j)), .int a1] S) (cs_Qv D cy ad (fun S1 => S1 = m_X3_append S j a1)) 0 0 (cs_A ad) := by
  refine cs_of RX3 (by decide) rfl (Nat.le_of_ble_eq_true rfl) ?_
  intro p e s m below meth c hF hr hlk hw hK ls hl
  obtain ⟨hx, hb, hml, hown, hts⟩ := id hF
  have hS : va_S (cs_A ad) s.heap s.heap [] := va_S.rf
  have hl : lv_has ls 2 [(0, .ref (ad (6 + 2 * j))), (1, .int a1)] := hl
  have hok := hw.1.1 j hj
  generalize hRes : m_X3_append S j a1 = Res
  unfold m_X3_append at hRes
  refine lv_aload_n hx hb dX3_append_0 rfl (lv_at hl 0 rfl) ?_
  refine cs_get (C := RX3) (T := TX3) (N := 2) hF in_X3 hw hK (6 + 2 * j) (cs_gO cy ad S j hj) rfl 1 (by decide) q_16 rfl dX3_append_1 ?_
  refine lv_if_lt (tgt := 39) hx hb dX3_append_4 (by decide) (fun c_1 => ?_) (fun c_1 => ?_)
  · replace hRes := cs_T c_1 hRes
    exact cs_vret hF hr hlk hw hK hS dX3_append_39 hRes
  · replace hRes := cs_F c_1 hRes
    refine lv_aload_n hx hb dX3_append_7 rfl (lv_at hl 0 rfl) ?_
    refine cs_get (C := RX3) (T := TX3) (N := 2) hF in_X3 hw hK (6 + 2 * j) (cs_gO cy ad S j hj) rfl 1 (by decide) q_16 rfl dX3_append_8 ?_
    refine lv_aload_n hx hb dX3_append_11 rfl (lv_at hl 0 rfl) ?_
    refine cs_get (C := RX3) (T := TX3) (N := 2) hF in_X3 hw hK (6 + 2 * j) (cs_gO cy ad S j hj) rfl 0 (by decide) q_5 rfl dX3_append_12 ?_
    refine cs_len hF hw hK j hj dX3_append_15 ?_
    refine lv_icmp_ge (tgt := 39) hx hb dX3_append_16 (by decide) (fun c_2 => ?_) (fun c_2 => ?_)
    · replace hRes := cs_T c_2 hRes
      exact cs_vret hF hr hlk hw hK hS dX3_append_39 hRes
    · replace hRes := cs_F c_2 hRes
      refine lv_aload_n hx hb dX3_append_19 rfl (lv_at hl 0 rfl) ?_
      refine cs_get (C := RX3) (T := TX3) (N := 2) hF in_X3 hw hK (6 + 2 * j) (cs_gO cy ad S j hj) rfl 0 (by decide) q_5 rfl dX3_append_20 ?_
      refine lv_aload_n hx hb dX3_append_23 rfl (lv_at hl 0 rfl) ?_
      refine cs_get (C := RX3) (T := TX3) (N := 2) hF in_X3 hw hK (6 + 2 * j) (cs_gO cy ad S j hj) rfl 1 (by decide) q_16 rfl dX3_append_24 ?_
      refine lv_iload_n hx hb dX3_append_27 rfl (lv_at hl 1 rfl) ?_
      refine cs_ast hF hw hK hS j hj c_1 c_2 (fun h => absurd h hx13) dX3_append_28 (fun S_3 H locs hq hw hS => ?_)
      replace hRes := cs_letE hq hRes
      have hu : (S_3.1 j).2 = (S.1 j).2 := by rw [hq, cs_sR_1]
      clear hq
      refine lv_aload_n hx hb dX3_append_29 rfl (lv_at hl 0 rfl) ?_
      refine lv_dup hx hb dX3_append_30 rfl ?_
      refine cs_get (C := RX3) (T := TX3) (N := 2) hF in_X3 hw hK (6 + 2 * j) (cs_gO cy ad S_3 j hj) rfl 1 (by decide) q_16 rfl dX3_append_31 ?_
      refine lv_iconst (v := 1) hx hb dX3_append_34 (by decide) ?_
      refine lv_iadd hx hb dX3_append_35 ?_
      refine cs_putU hF hw hK hS j hj q_16 ((S_3.1 j).2 + 1) (nI_1 _) (by rw [hu]; exact cs_ltU (hok) c_2) dX3_append_36 (fun S_4 H locs hq hw hS => ?_)
      replace hRes := cs_letE hq hRes
      clear hq
      exact cs_vret hF hr hlk hw hK hS dX3_append_39 hRes
theorem kk_X3_append : yX3_append.cls = RX3 ∧ yX3_append.cls ≠ "java/lang/invoke/MethodHandle" ∧ yX3_append.cls ≠ "java/lang/invoke/VarHandle" ∧ (parseMethodDescriptor yX3_append.desc).map (fun d => d.parameters.length) = some 1 := by decide +kernel
def m_X3_open (S : cs_St) (j : Nat) (a1 : Int32) (a2 : Int32) : cs_St := (if a1 < 0 then S else (if (nI (S.1 j).2) < a1 then S else (if a2 ≤ 0 then S else (if ((nI (cs_cap j)) - (nI (S.1 j).2)) < a2 then S else cs_let (cs_sR S j (va_cpy (S.1 j).1 (S.1 j).1 a1.toNatClampNeg (a1 + a2).toNatClampNeg ((nI (S.1 j).2) - a1).toNatClampNeg, (S.1 j).2)) (fun S_5 => cs_let (cs_sR S_5 j ((S_5.1 j).1, (S_5.1 j).2 + a2.toNatClampNeg)) (fun S_6 => S_6))))))
set_option maxHeartbeats 4000000 in
set_option maxRecDepth 100000 in
theorem c_X3_open (l : Launch) (D : va_G) (cy : ClassId) (ad : Nat → Nat) (S : cs_St) (j : Nat) (a1 : Int32) (a2 : Int32) (hj : j < 19) : Met l yX3_open (cs_ws yX3_open cX3_open 3 none) (cs_rm 1 60) (cs_Pc D cy ad [.ref (ad (6 + 2 * j)), .int a1, .int a2] S) (cs_Qv D cy ad (fun S1 => S1 = m_X3_open S j a1 a2)) 0 0 (cs_A ad) := by
  refine cs_of RX3 (by decide) rfl (Nat.le_of_ble_eq_true rfl) ?_
  intro p e s m below meth c hF hr hlk hw hK ls hl
  obtain ⟨hx, hb, hml, hown, hts⟩ := id hF
  have hS : va_S (cs_A ad) s.heap s.heap [] := va_S.rf
  have hl : lv_has ls 3 [(0, .ref (ad (6 + 2 * j))), (1, .int a1), (2, .int a2)] := hl
  have hok := hw.1.1 j hj
  generalize hRes : m_X3_open S j a1 a2 = Res
  unfold m_X3_open at hRes
  refine lv_iload_n hx hb dX3_open_0 rfl (lv_at hl 1 rfl) ?_
  refine lv_if_lt (tgt := 61) hx hb dX3_open_1 (by decide) (fun c_1 => ?_) (fun c_1 => ?_)
  · replace hRes := cs_T c_1 hRes
    exact cs_vret hF hr hlk hw hK hS dX3_open_61 hRes
  · replace hRes := cs_F c_1 hRes
    refine lv_iload_n hx hb dX3_open_4 rfl (lv_at hl 1 rfl) ?_
    refine lv_aload_n hx hb dX3_open_5 rfl (lv_at hl 0 rfl) ?_
    refine cs_get (C := RX3) (T := TX3) (N := 2) hF in_X3 hw hK (6 + 2 * j) (cs_gO cy ad S j hj) rfl 1 (by decide) q_16 rfl dX3_open_6 ?_
    refine lv_icmp_gt (tgt := 61) hx hb dX3_open_9 (by decide) (fun c_2 => ?_) (fun c_2 => ?_)
    · replace hRes := cs_T c_2 hRes
      exact cs_vret hF hr hlk hw hK hS dX3_open_61 hRes
    · replace hRes := cs_F c_2 hRes
      refine lv_iload_n hx hb dX3_open_12 rfl (lv_at hl 2 rfl) ?_
      refine lv_if_le (tgt := 61) hx hb dX3_open_13 (by decide) (fun c_3 => ?_) (fun c_3 => ?_)
      · replace hRes := cs_T c_3 hRes
        exact cs_vret hF hr hlk hw hK hS dX3_open_61 hRes
      · replace hRes := cs_F c_3 hRes
        refine lv_iload_n hx hb dX3_open_16 rfl (lv_at hl 2 rfl) ?_
        refine lv_aload_n hx hb dX3_open_17 rfl (lv_at hl 0 rfl) ?_
        refine cs_get (C := RX3) (T := TX3) (N := 2) hF in_X3 hw hK (6 + 2 * j) (cs_gO cy ad S j hj) rfl 0 (by decide) q_5 rfl dX3_open_18 ?_
        refine cs_len hF hw hK j hj dX3_open_21 ?_
        refine lv_aload_n hx hb dX3_open_22 rfl (lv_at hl 0 rfl) ?_
        refine cs_get (C := RX3) (T := TX3) (N := 2) hF in_X3 hw hK (6 + 2 * j) (cs_gO cy ad S j hj) rfl 1 (by decide) q_16 rfl dX3_open_23 ?_
        refine lv_isub hx hb dX3_open_26 ?_
        refine lv_icmp_gt (tgt := 61) hx hb dX3_open_27 (by decide) (fun c_4 => ?_) (fun c_4 => ?_)
        · replace hRes := cs_T c_4 hRes
          exact cs_vret hF hr hlk hw hK hS dX3_open_61 hRes
        · replace hRes := cs_F c_4 hRes
          refine lv_aload_n hx hb dX3_open_30 rfl (lv_at hl 0 rfl) ?_
          refine cs_get (C := RX3) (T := TX3) (N := 2) hF in_X3 hw hK (6 + 2 * j) (cs_gO cy ad S j hj) rfl 0 (by decide) q_5 rfl dX3_open_31 ?_
          refine lv_iload_n hx hb dX3_open_34 rfl (lv_at hl 1 rfl) ?_
          refine lv_aload_n hx hb dX3_open_35 rfl (lv_at hl 0 rfl) ?_
          refine cs_get (C := RX3) (T := TX3) (N := 2) hF in_X3 hw hK (6 + 2 * j) (cs_gO cy ad S j hj) rfl 0 (by decide) q_5 rfl dX3_open_36 ?_
          refine lv_iload_n hx hb dX3_open_39 rfl (lv_at hl 1 rfl) ?_
          refine lv_iload_n hx hb dX3_open_40 rfl (lv_at hl 2 rfl) ?_
          refine lv_iadd hx hb dX3_open_41 ?_
          refine lv_aload_n hx hb dX3_open_42 rfl (lv_at hl 0 rfl) ?_
          refine cs_get (C := RX3) (T := TX3) (N := 2) hF in_X3 hw hK (6 + 2 * j) (cs_gO cy ad S j hj) rfl 1 (by decide) q_16 rfl dX3_open_43 ?_
          refine lv_iload_n hx hb dX3_open_46 rfl (lv_at hl 1 rfl) ?_
          refine lv_isub hx hb dX3_open_47 ?_
          obtain ⟨g1, g2, g3, g4, g5, g6⟩ := cs_opn hok c_1 c_2 c_3 c_4
          refine cs_cpy hF (hml.trans hl.1.symm) hw hK hS j hj q_24 q_25 q_26 q_27 c_1 g1 g2 g3 g4 (Nat.le_of_ble_eq_true rfl) (Nat.le_of_ble_eq_true rfl) dX3_open_48 (fun S_5 H locs hq hw hS => ?_)
          replace hRes := cs_letE hq hRes
          have hu : (S_5.1 j).2 = (S.1 j).2 := by rw [hq, cs_sR_1]
          clear hq
          refine lv_aload_n hx hb dX3_open_51 rfl (lv_at hl 0 rfl) ?_
          refine lv_dup hx hb dX3_open_52 rfl ?_
          refine cs_get (C := RX3) (T := TX3) (N := 2) hF in_X3 hw hK (6 + 2 * j) (cs_gO cy ad S_5 j hj) rfl 1 (by decide) q_16 rfl dX3_open_53 ?_
          refine lv_iload_n hx hb dX3_open_56 rfl (lv_at hl 2 rfl) ?_
          refine lv_iadd hx hb dX3_open_57 ?_
          refine cs_putU hF hw hK hS j hj q_16 ((S_5.1 j).2 + a2.toNatClampNeg) (by rw [hu]; exact g5) (by rw [hu]; exact g6) dX3_open_58 (fun S_6 H locs hq hw hS => ?_)
          replace hRes := cs_letE hq hRes
          clear hq
          exact cs_vret hF hr hlk hw hK hS dX3_open_61 hRes
theorem kk_X3_open : yX3_open.cls = RX3 ∧ yX3_open.cls ≠ "java/lang/invoke/MethodHandle" ∧ yX3_open.cls ≠ "java/lang/invoke/VarHandle" ∧ (parseMethodDescriptor yX3_open.desc).map (fun d => d.parameters.length) = some 2 := by decide +kernel
def m_X3_cut (S : cs_St) (j : Nat) (a1 : Int32) (a2 : Int32) : cs_St := (if a1 < 0 then S else (if a2 ≤ a1 then S else (if (nI (S.1 j).2) < a2 then S else cs_let (cs_sR S j (va_cpy (S.1 j).1 (S.1 j).1 a2.toNatClampNeg a1.toNatClampNeg ((nI (S.1 j).2) - a2).toNatClampNeg, (S.1 j).2)) (fun S_4 => cs_let (cs_sR S_4 j ((S_4.1 j).1, (S_4.1 j).2 - (a2 - a1).toNatClampNeg)) (fun S_5 => S_5)))))
set_option maxHeartbeats 4000000 in
set_option maxRecDepth 100000 in
theorem c_X3_cut (l : Launch) (D : va_G) (cy : ClassId) (ad : Nat → Nat) (S : cs_St) (j : Nat) (a1 : Int32) (a2 : Int32) (hj : j < 19) : Met l yX3_cut (cs_ws yX3_cut cX3_cut 3 none) (cs_rm 1 60) (cs_Pc D cy ad [.ref (ad (6 + 2 * j)), .int a1, .int a2] S) (cs_Qv D cy ad (fun S1 => S1 = m_X3_cut S j a1 a2)) 0 0 (cs_A ad) := by
  refine cs_of RX3 (by decide) rfl (Nat.le_of_ble_eq_true rfl) ?_
  intro p e s m below meth c hF hr hlk hw hK ls hl
  obtain ⟨hx, hb, hml, hown, hts⟩ := id hF
  have hS : va_S (cs_A ad) s.heap s.heap [] := va_S.rf
  have hl : lv_has ls 3 [(0, .ref (ad (6 + 2 * j))), (1, .int a1), (2, .int a2)] := hl
  have hok := hw.1.1 j hj
  generalize hRes : m_X3_cut S j a1 a2 = Res
  unfold m_X3_cut at hRes
  refine lv_iload_n hx hb dX3_cut_0 rfl (lv_at hl 1 rfl) ?_
  refine lv_if_lt (tgt := 48) hx hb dX3_cut_1 (by decide) (fun c_1 => ?_) (fun c_1 => ?_)
  · replace hRes := cs_T c_1 hRes
    exact cs_vret hF hr hlk hw hK hS dX3_cut_48 hRes
  · replace hRes := cs_F c_1 hRes
    refine lv_iload_n hx hb dX3_cut_4 rfl (lv_at hl 1 rfl) ?_
    refine lv_iload_n hx hb dX3_cut_5 rfl (lv_at hl 2 rfl) ?_
    refine lv_icmp_ge (tgt := 48) hx hb dX3_cut_6 (by decide) (fun c_2 => ?_) (fun c_2 => ?_)
    · replace hRes := cs_T c_2 hRes
      exact cs_vret hF hr hlk hw hK hS dX3_cut_48 hRes
    · replace hRes := cs_F c_2 hRes
      refine lv_iload_n hx hb dX3_cut_9 rfl (lv_at hl 2 rfl) ?_
      refine lv_aload_n hx hb dX3_cut_10 rfl (lv_at hl 0 rfl) ?_
      refine cs_get (C := RX3) (T := TX3) (N := 2) hF in_X3 hw hK (6 + 2 * j) (cs_gO cy ad S j hj) rfl 1 (by decide) q_16 rfl dX3_cut_11 ?_
      refine lv_icmp_gt (tgt := 48) hx hb dX3_cut_14 (by decide) (fun c_3 => ?_) (fun c_3 => ?_)
      · replace hRes := cs_T c_3 hRes
        exact cs_vret hF hr hlk hw hK hS dX3_cut_48 hRes
      · replace hRes := cs_F c_3 hRes
        refine lv_aload_n hx hb dX3_cut_17 rfl (lv_at hl 0 rfl) ?_
        refine cs_get (C := RX3) (T := TX3) (N := 2) hF in_X3 hw hK (6 + 2 * j) (cs_gO cy ad S j hj) rfl 0 (by decide) q_5 rfl dX3_cut_18 ?_
        refine lv_iload_n hx hb dX3_cut_21 rfl (lv_at hl 2 rfl) ?_
        refine lv_aload_n hx hb dX3_cut_22 rfl (lv_at hl 0 rfl) ?_
        refine cs_get (C := RX3) (T := TX3) (N := 2) hF in_X3 hw hK (6 + 2 * j) (cs_gO cy ad S j hj) rfl 0 (by decide) q_5 rfl dX3_cut_23 ?_
        refine lv_iload_n hx hb dX3_cut_26 rfl (lv_at hl 1 rfl) ?_
        refine lv_aload_n hx hb dX3_cut_27 rfl (lv_at hl 0 rfl) ?_
        refine cs_get (C := RX3) (T := TX3) (N := 2) hF in_X3 hw hK (6 + 2 * j) (cs_gO cy ad S j hj) rfl 1 (by decide) q_16 rfl dX3_cut_28 ?_
        refine lv_iload_n hx hb dX3_cut_31 rfl (lv_at hl 2 rfl) ?_
        refine lv_isub hx hb dX3_cut_32 ?_
        obtain ⟨g1, g2, g3, g4, g5, g6⟩ := cs_ctt hok c_1 c_2 c_3
        refine cs_cpy hF (hml.trans hl.1.symm) hw hK hS j hj q_24 q_25 q_26 q_27 g1 c_1 g2 g3 g4 (Nat.le_of_ble_eq_true rfl) (Nat.le_of_ble_eq_true rfl) dX3_cut_33 (fun S_4 H locs hq hw hS => ?_)
        replace hRes := cs_letE hq hRes
        have hu : (S_4.1 j).2 = (S.1 j).2 := by rw [hq, cs_sR_1]
        clear hq
        refine lv_aload_n hx hb dX3_cut_36 rfl (lv_at hl 0 rfl) ?_
        refine lv_dup hx hb dX3_cut_37 rfl ?_
        refine cs_get (C := RX3) (T := TX3) (N := 2) hF in_X3 hw hK (6 + 2 * j) (cs_gO cy ad S_4 j hj) rfl 1 (by decide) q_16 rfl dX3_cut_38 ?_
        refine lv_iload_n hx hb dX3_cut_41 rfl (lv_at hl 2 rfl) ?_
        refine lv_iload_n hx hb dX3_cut_42 rfl (lv_at hl 1 rfl) ?_
        refine lv_isub hx hb dX3_cut_43 ?_
        refine lv_isub hx hb dX3_cut_44 ?_
        refine cs_putU hF hw hK hS j hj q_16 ((S_4.1 j).2 - (a2 - a1).toNatClampNeg) (by rw [hu]; exact g5) (by rw [hu]; exact g6) dX3_cut_45 (fun S_5 H locs hq hw hS => ?_)
        replace hRes := cs_letE hq hRes
        clear hq
        exact cs_vret hF hr hlk hw hK hS dX3_cut_48 hRes
theorem kk_X3_cut : yX3_cut.cls = RX3 ∧ yX3_cut.cls ≠ "java/lang/invoke/MethodHandle" ∧ yX3_cut.cls ≠ "java/lang/invoke/VarHandle" ∧ (parseMethodDescriptor yX3_cut.desc).map (fun d => d.parameters.length) = some 2 := by decide +kernel
def m_X3_empty (S : cs_St) (j : Nat) : cs_St := cs_let (cs_sR S j ((S.1 j).1, 0)) (fun S_1 => S_1)
set_option maxHeartbeats 4000000 in
set_option maxRecDepth 100000 in
theorem c_X3_empty (l : Launch) (D : va_G) (cy : ClassId) (ad : Nat → Nat) (S : cs_St) (j : Nat) (hj : j < 19) : Met l yX3_empty (cs_ws yX3_empty cX3_empty 1 none) (cs_rm 0 0) (cs_Pc D cy ad [.ref (ad (6 + 2 * j))] S) (cs_Qv D cy ad (fun S1 => S1 = m_X3_empty S j)) 0 0 (cs_A ad) := by
  refine cs_of RX3 (by decide) rfl (Nat.le_of_ble_eq_true rfl) ?_
  intro p e s m below meth c hF hr hlk hw hK ls hl
  obtain ⟨hx, hb, hml, hown, hts⟩ := id hF
  have hS : va_S (cs_A ad) s.heap s.heap [] := va_S.rf
  have hl : lv_has ls 1 [(0, .ref (ad (6 + 2 * j)))] := hl
  have hok := hw.1.1 j hj
  generalize hRes : m_X3_empty S j = Res
  unfold m_X3_empty at hRes
  refine lv_aload_n hx hb dX3_empty_0 rfl (lv_at hl 0 rfl) ?_
  refine lv_iconst (v := 0) hx hb dX3_empty_1 (by decide) ?_
  refine cs_putU hF hw hK hS j hj q_16 (0) (rfl) (Nat.zero_le _) dX3_empty_2 (fun S_1 H locs hq hw hS => ?_)
  replace hRes := cs_letE hq hRes
  clear hq
  exact cs_vret hF hr hlk hw hK hS dX3_empty_5 hRes
theorem kk_X3_empty : yX3_empty.cls = RX3 ∧ yX3_empty.cls ≠ "java/lang/invoke/MethodHandle" ∧ yX3_empty.cls ≠ "java/lang/invoke/VarHandle" ∧ (parseMethodDescriptor yX3_empty.desc).map (fun d => d.parameters.length) = some 0 := by decide +kernel
def m_X3_wipe_L2 (j : Nat) : Nat → Int32 → cs_St → Int32 × cs_St
  | 0, _, S => (0, S)
  | n + 1, v1, S => (if (nI (cs_cap j)) ≤ v1 then (v1, S) else cs_let (cs_sR S j (upd (S.1 j).1 v1.toNatClampNeg 0, (S.1 j).2)) (fun S_2 => m_X3_wipe_L2 j n (v1 + 1) S_2))
theorem m_X3_wipe_L2_s {j : Nat} {n : Nat} {v1 : Int32} {S : cs_St} : m_X3_wipe_L2 j (n + 1) v1 S = (if (nI (cs_cap j)) ≤ v1 then (v1, S) else cs_let (cs_sR S j (upd (S.1 j).1 v1.toNatClampNeg 0, (S.1 j).2)) (fun S_2 => m_X3_wipe_L2 j n (v1 + 1) S_2)) := rfl
def m_X3_wipe (S : cs_St) (j : Nat) : cs_St := cs_let (m_X3_wipe_L2 j cs_N 0 S) (fun T_3 => T_3.2)
set_option maxHeartbeats 4000000 in
set_option maxRecDepth 100000 in
theorem c_X3_wipe (l : Launch) (D : va_G) (cy : ClassId) (ad : Nat → Nat) (S : cs_St) (j : Nat) (hj : j < 19) : Met l yX3_wipe (cs_ws yX3_wipe cX3_wipe 2 none) (cs_rm 0 0) (cs_Pc D cy ad [.ref (ad (6 + 2 * j))] S) (cs_Qv D cy ad (fun S1 => S1 = m_X3_wipe S j)) 0 0 (cs_A ad) := by
  refine cs_of RX3 (by decide) rfl (Nat.le_of_ble_eq_true rfl) ?_
  intro p e s m below meth c hF hr hlk hw hK ls hl
  obtain ⟨hx, hb, hml, hown, hts⟩ := id hF
  have hS : va_S (cs_A ad) s.heap s.heap [] := va_S.rf
  have hl : lv_has ls 2 [(0, .ref (ad (6 + 2 * j)))] := hl
  have hok := hw.1.1 j hj
  generalize hRes : m_X3_wipe S j = Res
  unfold m_X3_wipe at hRes
  refine lv_iconst (v := 0) hx hb dX3_wipe_0 (by decide) ?_
  refine lv_istore_n (lv' := [(1, .int 0), (0, .ref (ad (6 + 2 * j)))]) hx hb dX3_wipe_1 rfl hl (by decide) rfl (fun ls hl => ?_)
  -- the loop at 2
  obtain ⟨T_3, hq⟩ : ∃ z, z = m_X3_wipe_L2 j cs_N 0 S := ⟨_, rfl⟩
  replace hRes := cs_letE hq hRes
  have hk : ∀ (H : Heap) (locs : List Loc) (ls : Array Slot), cs_w D cy ad T_3.2 H → va_S (cs_A ad) s.heap H locs → lv_has ls 2 [(1, .int T_3.1), (0, .ref (ad (6 + 2 * j)))] → W p l e (cs_rm 0 0) s m ([.ref (ad (6 + 2 * j))]).toArray below meth c H locs 0 0 (MQ below (cs_Qv D cy ad (fun S1 => S1 = Res)) ([.ref (ad (6 + 2 * j))]).toArray s 0 0 (cs_A ad)) (F0 m 24 ls []) := by
    intro H locs ls hw hS hl
    exact cs_vret hF hr hlk hw hK hS dX3_wipe_24 hRes
  have lp : ∀ (n : Nat) (v1 : Int32) (S : cs_St) (H : Heap) (locs : List Loc), cs_w D cy ad S H → va_S (cs_A ad) s.heap H locs → ∀ (ls : Array Slot), lv_has ls 2 [(1, .int v1), (0, .ref (ad (6 + 2 * j)))] → (2147483647 - v1.toInt < (n : Int) ∧ 0 < n) → (¬ v1 < 0) → m_X3_wipe_L2 j n v1 S = T_3 → W p l e (cs_rm 0 0) s m ([.ref (ad (6 + 2 * j))]).toArray below meth c H locs 0 0 (MQ below (cs_Qv D cy ad (fun S1 => S1 = Res)) ([.ref (ad (6 + 2 * j))]).toArray s 0 0 (cs_A ad)) (F0 m 2 ls []) := by
    intro n
    induction n with
    | zero => intro v1 S H locs hw hS ls hl hm; exact absurd hm.2 (Nat.lt_irrefl 0)
    | succ n ih =>
      intro v1 S H locs hw hS ls hl hm hi hE
      replace hE := m_X3_wipe_L2_s.symm.trans hE
      refine lv_iload_n hx hb dX3_wipe_2 rfl (lv_at hl 0 rfl) ?_
      refine lv_aload_n hx hb dX3_wipe_3 rfl (lv_at hl 1 rfl) ?_
      refine cs_get (C := RX3) (T := TX3) (N := 2) hF in_X3 hw hK (6 + 2 * j) (cs_gO cy ad S j hj) rfl 0 (by decide) q_5 rfl dX3_wipe_4 ?_
      refine cs_len hF hw hK j hj dX3_wipe_7 ?_
      refine lv_icmp_ge (tgt := 24) hx hb dX3_wipe_8 (by decide) (fun c_1 => ?_) (fun c_1 => ?_)
      · replace hE := cs_T c_1 hE
        subst hE
        exact hk _ _ _ hw hS (lv_sub hl [0, 1] rfl)
      · replace hE := cs_F c_1 hE
        refine lv_aload_n hx hb dX3_wipe_11 rfl (lv_at hl 1 rfl) ?_
        refine cs_get (C := RX3) (T := TX3) (N := 2) hF in_X3 hw hK (6 + 2 * j) (cs_gO cy ad S j hj) rfl 0 (by decide) q_5 rfl dX3_wipe_12 ?_
        refine lv_iload_n hx hb dX3_wipe_15 rfl (lv_at hl 0 rfl) ?_
        refine lv_iconst (v := 0) hx hb dX3_wipe_16 (by decide) ?_
        refine cs_ast hF hw hK hS j hj hi c_1 (fun _ => by decide) dX3_wipe_17 (fun S_2 H locs hq hw hS => ?_)
        replace hE := cs_letE hq hE
        have hu : (S_2.1 j).2 = (S.1 j).2 := by rw [hq, cs_sR_1]
        clear hq
        refine lv_iinc (v := v1 + 1) (lv' := [(1, .int (v1 + 1)), (0, .ref (ad (6 + 2 * j)))]) hx hb dX3_wipe_18 hl (k := 0) rfl rfl (by decide) rfl (fun ls hl => ?_)
        refine lv_goto (tgt := 2) hx hb dX3_wipe_21 (by decide) ?_
        exact ih (v1 + 1) S_2 _ _ hw hS _ (lv_sub hl [0, 1] rfl) (cs_up hm.1 c_1) (cs_nn hi c_1) hE
  exact lp cs_N 0 S _ _ hw hS _ (lv_sub hl [0, 1] rfl) (cs_up0 0) (by decide) hq.symm
theorem kk_X3_wipe : yX3_wipe.cls = RX3 ∧ yX3_wipe.cls ≠ "java/lang/invoke/MethodHandle" ∧ yX3_wipe.cls ≠ "java/lang/invoke/VarHandle" ∧ (parseMethodDescriptor yX3_wipe.desc).map (fun d => d.parameters.length) = some 0 := by decide +kernel
theorem g_X3_23 : GoodIn cs_WS (wsV RX3 23 RX3 yX3_length (cs_ws yX3_length cX3_length 1 (some .int))) := cs_goodV q_114 q_20 q_21 q_10 q_15
theorem g_X3_27 : GoodIn cs_WS (wsV RX3 27 RX3 yX3_at (cs_ws yX3_at cX3_at 2 (some .int))) := cs_goodV q_115 q_50 q_51 q_10 q_47
theorem g_X3_31 : GoodIn cs_WS (wsV RX3 31 RX3 yX3_append (cs_ws yX3_append cX3_append 2 none)) := cs_goodV q_116 q_97 q_98 q_10 q_85
def m_X3_copy_L7 (j : Nat) (j1 : Nat) : Nat → Int32 → cs_St → Int32 × cs_St
  | 0, _, S => (0, S)
  | n + 1, v2, S => cs_let (m_X3_length S j1) (fun r_2 => (if r_2 ≤ v2 then (v2, S) else cs_let (m_X3_at S j1 v2) (fun r_4 => cs_let (m_X3_append S j r_4) (fun S_5 => m_X3_copy_L7 j j1 n (v2 + 1) S_5))))
theorem m_X3_copy_L7_s {j : Nat} {j1 : Nat} {n : Nat} {v2 : Int32} {S : cs_St} : m_X3_copy_L7 j j1 (n + 1) v2 S = cs_let (m_X3_length S j1) (fun r_2 => (if r_2 ≤ v2 then (v2, S) else cs_let (m_X3_at S j1 v2) (fun r_4 => cs_let (m_X3_append S j r_4) (fun S_5 => m_X3_copy_L7 j j1 n (v2 + 1) S_5)))) := rfl
def m_X3_copy (S : cs_St) (j : Nat) (j1 : Nat) : cs_St := cs_let (cs_sR S j ((S.1 j).1, 0)) (fun S_1 => cs_let (m_X3_copy_L7 j j1 cs_N 0 S_1) (fun T_6 => T_6.2))
set_option maxHeartbeats 4000000 in
set_option maxRecDepth 100000 in
theorem c_X3_copy (l : Launch) (D : va_G) (cy : ClassId) (ad : Nat → Nat) (S : cs_St) (j : Nat) (j1 : Nat) (hj : j < 19) (hj1 : j1 < 19) (nj : j ≠ 13) : Met l yX3_copy (cs_ws yX3_copy cX3_copy 3 none) (cs_rm 1 21) (cs_Pc D cy ad [.ref (ad (6 + 2 * j)), .ref (ad (6 + 2 * j1))] S) (cs_Qv D cy ad (fun S1 => S1 = m_X3_copy S j j1)) 0 0 (cs_A ad) := by
  refine cs_of RX3 (by decide) rfl (Nat.le_of_ble_eq_true rfl) ?_
  intro p e s m below meth c hF hr hlk hw hK ls hl
  obtain ⟨hx, hb, hml, hown, hts⟩ := id hF
  have hS : va_S (cs_A ad) s.heap s.heap [] := va_S.rf
  have hl : lv_has ls 3 [(0, .ref (ad (6 + 2 * j))), (1, .ref (ad (6 + 2 * j1)))] := hl
  have hok := hw.1.1 j hj
  generalize hRes : m_X3_copy S j j1 = Res
  unfold m_X3_copy at hRes
  refine lv_aload_n hx hb dX3_copy_0 rfl (lv_at hl 0 rfl) ?_
  refine lv_iconst (v := 0) hx hb dX3_copy_1 (by decide) ?_
  refine cs_putU hF hw hK hS j hj q_16 (0) (rfl) (Nat.zero_le _) dX3_copy_2 (fun S_1 H locs hq hw hS => ?_)
  replace hRes := cs_letE hq hRes
  clear hq
  refine lv_iconst (v := 0) hx hb dX3_copy_5 (by decide) ?_
  refine lv_istore_n (lv' := [(2, .int 0), (0, .ref (ad (6 + 2 * j))), (1, .ref (ad (6 + 2 * j1)))]) hx hb dX3_copy_6 rfl hl (by decide) rfl (fun ls hl => ?_)
  -- the loop at 7
  obtain ⟨T_6, hq⟩ : ∃ z, z = m_X3_copy_L7 j j1 cs_N 0 S_1 := ⟨_, rfl⟩
  replace hRes := cs_letE hq hRes
  have hk : ∀ (H : Heap) (locs : List Loc) (ls : Array Slot), cs_w D cy ad T_6.2 H → va_S (cs_A ad) s.heap H locs → lv_has ls 3 [(2, .int T_6.1), (0, .ref (ad (6 + 2 * j))), (1, .ref (ad (6 + 2 * j1)))] → W p l e (cs_rm 1 21) s m ([.ref (ad (6 + 2 * j)), .ref (ad (6 + 2 * j1))]).toArray below meth c H locs 0 0 (MQ below (cs_Qv D cy ad (fun S1 => S1 = Res)) ([.ref (ad (6 + 2 * j)), .ref (ad (6 + 2 * j1))]).toArray s 0 0 (cs_A ad)) (F0 m 30 ls []) := by
    intro H locs ls hw hS hl
    exact cs_vret hF hr hlk hw hK hS dX3_copy_30 hRes
  have lp : ∀ (n : Nat) (v2 : Int32) (S : cs_St) (H : Heap) (locs : List Loc), cs_w D cy ad S H → va_S (cs_A ad) s.heap H locs → ∀ (ls : Array Slot), lv_has ls 3 [(2, .int v2), (0, .ref (ad (6 + 2 * j))), (1, .ref (ad (6 + 2 * j1)))] → (2147483647 - v2.toInt < (n : Int) ∧ 0 < n) → m_X3_copy_L7 j j1 n v2 S = T_6 → W p l e (cs_rm 1 21) s m ([.ref (ad (6 + 2 * j)), .ref (ad (6 + 2 * j1))]).toArray below meth c H locs 0 0 (MQ below (cs_Qv D cy ad (fun S1 => S1 = Res)) ([.ref (ad (6 + 2 * j)), .ref (ad (6 + 2 * j1))]).toArray s 0 0 (cs_A ad)) (F0 m 7 ls []) := by
    intro n
    induction n with
    | zero => intro v2 S H locs hw hS ls hl hm; exact absurd hm.2 (Nat.lt_irrefl 0)
    | succ n ih =>
      intro v2 S H locs hw hS ls hl hm hE
      replace hE := m_X3_copy_L7_s.symm.trans hE
      refine lv_iload_n hx hb dX3_copy_7 rfl (lv_at hl 0 rfl) ?_
      refine lv_aload_n hx hb dX3_copy_8 rfl (lv_at hl 2 rfl) ?_
      refine cs_vir hF (c_X3_length l D cy ad S j1 hj1) (cwV 0 hts g_X3_23 rfl rfl rfl kk_X3_length ⟨Nat.le_of_ble_eq_true rfl, Nat.le_of_ble_eq_true rfl⟩) (cs_recvR hK hw hj1) hw hK hS rfl hl.1 [.int v2] rfl (Nat.le_of_ble_eq_true rfl) dX3_copy_9 (fun r_2 H locs hq hw hS => ?_)
      replace hE := cs_letE hq hE
      clear hq
      refine lv_icmp_ge (tgt := 30) hx hb dX3_copy_12 (by decide) (fun c_3 => ?_) (fun c_3 => ?_)
      · replace hE := cs_T c_3 hE
        subst hE
        exact hk _ _ _ hw hS (lv_sub hl [0, 1, 2] rfl)
      · replace hE := cs_F c_3 hE
        refine lv_aload_n hx hb dX3_copy_15 rfl (lv_at hl 1 rfl) ?_
        refine lv_aload_n hx hb dX3_copy_16 rfl (lv_at hl 2 rfl) ?_
        refine lv_iload_n hx hb dX3_copy_17 rfl (lv_at hl 0 rfl) ?_
        refine cs_vir hF (c_X3_at l D cy ad S j1 v2 hj1) (cwV 1 hts g_X3_27 rfl rfl rfl kk_X3_at ⟨Nat.le_of_ble_eq_true rfl, Nat.le_of_ble_eq_true rfl⟩) (cs_recvR hK hw hj1) hw hK hS rfl hl.1 [.ref (ad (6 + 2 * j))] rfl (Nat.le_of_ble_eq_true rfl) dX3_copy_18 (fun r_4 H locs hq hw hS => ?_)
        replace hE := cs_letE hq hE
        clear hq
        refine cs_vv hF (c_X3_append l D cy ad S j r_4 hj (nj)) (cwV 1 hts g_X3_31 rfl rfl rfl kk_X3_append ⟨Nat.le_of_ble_eq_true rfl, Nat.le_of_ble_eq_true rfl⟩) (cs_recvR hK hw hj) hw hK hS rfl hl.1 [] rfl (Nat.le_of_ble_eq_true rfl) dX3_copy_21 (fun S_5 H locs hq hw hS => ?_)
        replace hE := cs_letE hq hE
        clear hq
        refine lv_iinc (v := v2 + 1) (lv' := [(2, .int (v2 + 1)), (0, .ref (ad (6 + 2 * j))), (1, .ref (ad (6 + 2 * j1)))]) hx hb dX3_copy_24 hl (k := 0) rfl rfl (by decide) rfl (fun ls hl => ?_)
        refine lv_goto (tgt := 7) hx hb dX3_copy_27 (by decide) ?_
        exact ih (v2 + 1) S_5 _ _ hw hS _ (lv_sub hl [0, 1, 2] rfl) (cs_up hm.1 c_3) hE
  exact lp cs_N 0 S_1 _ _ hw hS _ (lv_sub hl [0, 1, 2] rfl) (cs_up0 0) hq.symm
theorem kk_X3_copy : yX3_copy.cls = RX3 ∧ yX3_copy.cls ≠ "java/lang/invoke/MethodHandle" ∧ yX3_copy.cls ≠ "java/lang/invoke/VarHandle" ∧ (parseMethodDescriptor yX3_copy.desc).map (fun d => d.parameters.length) = some 1 := by decide +kernel
