/-! the law's body from its entry -/
theorem setWay_is (S : cs_St) (a b c : Int32) : (m_X6_setWay S a b c).2 = cs_sS (cs_sS (cs_sS S 1 a) 2 b) 3 c := by rw [m_X6_setWay]; simp only [cs_lx]
theorem setRoom_is (S : cs_St) (a : Int32) : (m_X6_setRoom S a).2 = cs_sS S 0 a := by rw [m_X6_setRoom]; simp only [cs_lx]
theorem setEvery_is (S : cs_St) (a : Int32) : (m_X6_setEvery S a).2 = cs_sS S 6 a := by rw [m_X6_setEvery]; simp only [cs_lx]
theorem setFilter_is (S : cs_St) (a b : Int32) : (m_X6_setFilter S a b).2 = cs_sS (cs_sS S 4 a) 5 b := by rw [m_X6_setFilter]; split <;> simp only [cs_lx]
def St0 (S : cs_St) (way fan pc : Nat) : Prop := S.1 = cs_S0.1 ∧ S.2 1 = nI way ∧ S.2 2 = nI fan ∧ S.2 3 = nI pc ∧ S.2 7 = 0 ∧ S.2 8 = 0
theorem St0.sc {S : cs_St} {way fan pc k : Nat} {v : Int32} (h : St0 S way fan pc) (h1 : k ≠ 1) (h2 : k ≠ 2) (h3 : k ≠ 3) (h7 : k ≠ 7) (h8 : k ≠ 8) : St0 (cs_sS S k v) way fan pc := by
  obtain ⟨a, b, c, d, e, f⟩ := h
  refine ⟨a, ?_, ?_, ?_, ?_, ?_⟩
  · show (if 1 = k then v else S.2 1) = _; rw [if_neg (fun z => h1 z.symm)]; exact b
  · show (if 2 = k then v else S.2 2) = _; rw [if_neg (fun z => h2 z.symm)]; exact c
  · show (if 3 = k then v else S.2 3) = _; rw [if_neg (fun z => h3 z.symm)]; exact d
  · show (if 7 = k then v else S.2 7) = _; rw [if_neg (fun z => h7 z.symm)]; exact e
  · show (if 8 = k then v else S.2 8) = _; rw [if_neg (fun z => h8 z.symm)]; exact f
theorem w2_ok {S : cs_St} (h : cs_ok S) (i : Nat) (hi : i < 4) : cs_ok (m_X3_write S 2 (nI i) (-1)) := by
  rw [write_eq (show i < cs_cap 2 from hi)]
  exact cs_sR_ok h (h.1 2 (by decide)) (fun z => absurd z (by decide))
theorem cs_S0_ok : cs_ok cs_S0 := w2_ok (w2_ok (w2_ok (w2_ok cs_S00_ok 0 (by decide)) 1 (by decide)) 2 (by decide)) 3 (by decide)
theorem S0_0 : cs_S0.2 = cs_S00.2 := S0_fr.1
theorem total0 : m_X4_total cs_S0 = 0 := by
  rw [m_X4_total]; simp only [cs_lx]; rw [len_eq, S0_fr.2 11 (by decide)]; rfl
theorem way0 (way fan pc : Nat) : St0 (cs_sS (cs_sS (cs_sS cs_S0 1 (nI way)) 2 (nI fan)) 3 (nI pc)) way fan pc := by
  refine ⟨rfl, rfl, rfl, rfl, ?_, ?_⟩
  · show cs_S0.2 7 = 0; rw [S0_0]; rfl
  · show cs_S0.2 8 = 0; rw [S0_0]; rfl
theorem start_J {S : cs_St} {way fan pc wide : Nat} (h : St0 S way fan pc) (h1 : way ≤ 1) (h2 : 2 ≤ fan) (h4 : fan ≤ 4) (hp1 : 1 ≤ pc) (hp : pc ≤ 20) (f : Nat → Int32) : J S way fan pc wide (-1) f 0 0 0 := by
  obtain ⟨a, b, c, d, e, e8⟩ := h
  refine ⟨0, _, _, _, _, _, _, _, _, start_gd a e ⟨b, h1, c, h2, h4, d, hp1, hp⟩, fun a z1 z2 => absurd z1 (by omega), Nat.le_refl 0, e8, Or.inl ⟨rfl, rfl, ?_⟩⟩
  rw [a, S0_fr.2 8 (by decide)]
  exact ⟨rfl, fun i x hx => by simp at hx⟩
section ALL
variable {p : Program} {l : Launch} {e : Env} {s : State} {m : MethodId} {args : Array Value} {below : List Frame} {meth : Method} {c : Code} {Q : State → Prop}
set_option maxHeartbeats 4000000 in
set_option maxRecDepth 100000 in
theorem law_all (hx : p.tables.exec = Jvm.exec) (hb : c.code = cL_law) (hml : c.maxLocals = 19) (hown : s.vm.findClass RL = some m.cls) (htb : ∀ w ∈ lw_tbl, w.before args s = true) {b0 nL : Nat} {xs : Nat → Int32} (hX : va_X b0 nL xs s s.heap) (hbl : b0 < s.heap.size) (hnL : nL ≤ 260)
    (kk : ∀ (H : Heap) (locs : List Loc) (ls : Array Slot) (cells slots : Nat), cells ≤ 200 → slots ≤ 20000 → va_S (lA s) s.heap H locs → W p l e room_1 s m args below meth c H locs cells slots Q (F0 m 706 ls [.int 1])) (ls : Array Slot) (hl : lv_has ls 19 [(0, .ref b0)]) : W p l e room_1 s m args below meth c s.heap [] 0 0 Q (F0 m 0 ls []) := by
  have hL : ∀ w ∈ cs_WL, w.before args s = true := fun w h => htb w (tb_all w h)
  have hts : ∀ w ∈ cs_WS, w.before args s = true := fun w h => hL w (ql_w h)
  have hF : CallFix p m c cL_law 19 s args cs_WS RL := ⟨hx, hb, hml, hown, hts⟩
  have hbA : ¬ lA s b0 := Nat.not_le.mpr hbl
  have hA : ∀ q : Nat, s.heap.size ≤ q → lA s q := fun _ h => h
  have hAr : (Cond.arrayClass .int).before args s = true := hL _ (ql_w q_4)
  obtain ⟨k0, i0, hKn0⟩ := u_known (C := RX0) (T := TX0) (N := 3) (n := 3) hts in_X0 (hL _ (ql_w q_226))
  obtain ⟨k1, i1, hKn1⟩ := u_known (C := RX1) (T := TX1) (N := 3) (n := 3) hts in_X1 (hL _ (ql_w q_230))
  obtain ⟨k2, i2, hKn2⟩ := u_known (C := RX2) (T := TX2) (N := 4) (n := 4) hts in_X2 (hL _ (ql_w q_239))
  obtain ⟨k3, i3, hKn3⟩ := u_known (C := RX3) (T := TX3) (N := 2) (n := 2) hts in_X3 (hL _ (ql_w q_9))
  obtain ⟨k4, i4, hKn4⟩ := u_known (C := RX4) (T := TX4) (N := 8) (n := 8) hts in_X4 (hL _ (ql_w q_236))
  obtain ⟨k5, i5, hKn5⟩ := u_known (C := RX5) (T := TX5) (N := 3) (n := 3) hts in_X5 (hL _ (ql_w q_232))
  obtain ⟨k6, i6, hKn6⟩ := u_known (C := RX6) (T := TX6) (N := 15) (n := 15) hts in_X6 (hL _ ql_26)
  obtain ⟨D, hKc⟩ : ∃ D : va_G, ∀ (k : Nat) (q : vw_C), cs_cl[k]? = some q → u_Kn s q.1 q.2.1 q.2.2 (D.1 k) (D.2 k) := by
    refine ⟨(fun k => match k with | 0 => k0 | 1 => k1 | 2 => k2 | 3 => k3 | 4 => k4 | 5 => k5 | _ => k6, fun k => match k with | 0 => i0 | 1 => i1 | 2 => i2 | 3 => i3 | 4 => i4 | 5 => i5 | _ => i6), ?_⟩
    intro k q hq
    match k, hq with
    | 0, hq => cases hq; exact hKn0
    | 1, hq => cases hq; exact hKn1
    | 2, hq => cases hq; exact hKn2
    | 3, hq => cases hq; exact hKn3
    | 4, hq => cases hq; exact hKn4
    | 5, hq => cases hq; exact hKn5
    | 6, hq => cases hq; exact hKn6
    | k + 7, hq => simp [cs_cl] at hq
  have hK0 : va_K D cs_cl [] s := ⟨hKc, fun k q h => by simp at h⟩
  obtain ⟨cy, hK1⟩ := ct_cyK hK0 hAr
  have hK : cs_K D cy s := ⟨hK1, fun q hq => va_Nw.of rfl (htb _ (tb_nw q hq)), fun q hq => va_Nw.of rfl (htb _ (tb_nm q hq))⟩
  have hS : va_S (lA s) s.heap s.heap [] := va_S.rf
  have hP : va_P D cs_cl [] s.heap := fun k q h => by simp at h
  have hD : va_D (lA s) [] := ⟨fun i j p q h => by simp at h, fun k q h => by simp at h⟩
  have hR1 : room_1.cells = 600104 := rfl
  have hR2 : room_1.slots = 7301314 := rfl
  refine va_new (ci := 6) (fs := [.int 0, .int 0, .int 0, .int 0, .int 0, .int 0, .int 0, .null, .null, .null, .null, .null, .null, .null, .null]) (C := RX6) (T := TX6) (N := 15) hx hb hts in_X6 tyX6 tyX6_ok hown (hL _ ql_25) (hL _ ql_26) (hL _ (ql_w q_299)) hK.1 hP hD hS hA rfl (fun j hj => by rcases (show j = 0 ∨ j = 1 ∨ j = 2 ∨ j = 3 ∨ j = 4 ∨ j = 5 ∨ j = 6 ∨ j = 7 ∨ j = 8 ∨ j = 9 ∨ j = 10 ∨ j = 11 ∨ j = 12 ∨ j = 13 ∨ j = 14 by omega) with rfl | rfl | rfl | rfl | rfl | rfl | rfl | rfl | rfl | rfl | rfl | rfl | rfl | rfl | rfl <;> rfl) (Nat.le_of_ble_eq_true rfl) (Nat.le_of_ble_eq_true rfl) dL_law_0 (fun q0 H hP hD hS => ?_)
  replace hP : va_P D cs_cl [(q0, .inr (6, [.int 0, .int 0, .int 0, .int 0, .int 0, .int 0, .int 0, .null, .null, .null, .null, .null, .null, .null, .null]))] H := hP
  replace hD : va_D (lA s) [(q0, .inr (6, [.int 0, .int 0, .int 0, .int 0, .int 0, .int 0, .int 0, .null, .null, .null, .null, .null, .null, .null, .null]))] := hD
  refine W.cs (cells' := 1) (slots' := 15) rfl rfl ?_
  refine lv_dup hx hb dL_law_3 rfl ?_
  refine ct_call hF (c_X6_init l D cy q0 H.size) rfl (cwI 0 hL gl_46 rfl rfl rfl (hL _ (ql_w q_299)) (hL _ ql_28) (hL _ ql_29) rfl kk_X6_init ⟨Nat.le_of_ble_eq_true rfl, Nat.le_of_ble_eq_true rfl⟩) hK hP hD hS hA 0 rfl [] rfl rfl (fun i h => absurd h List.not_mem_nil) rfl hl.1 [.ref q0] rfl (Nat.le_of_ble_eq_true rfl) dL_law_4 ⟨Nat.le_of_ble_eq_true rfl, Nat.le_of_ble_eq_true rfl⟩ (wr := []) (fun ad0 H locs hP hD hS => ?_)
  refine W.cs (cells' := 44) (slots' := 5817) rfl rfl ?_
  obtain ⟨ad, had⟩ : ∃ ad, ad = ct_ad q0 ad0 := ⟨_, rfl⟩
  have e0 : q0 = ad 0 := by rw [had]; rfl
  have h : LW D cy ad cs_S0 [] (lA s) H := by
    rw [had]
    exact ⟨cs_S0_ok, by rw [List.append_nil]; exact hP, by rw [List.append_nil]; exact hD⟩
  rw [e0]
  clear had e0 hP hD
  have hcs : 44 ≤ room_1.cells ∧ 5817 ≤ room_1.slots := by omega
  refine lv_astore_n (lv' := [(1, .ref (ad 0)), (0, .ref b0)]) hx hb dL_law_7 rfl hl (by decide) rfl (fun ls hl => ?_)
  refine lv_aload_n hx hb dL_law_8 rfl (lv_at hl 1 rfl) ?_
  refine lv_iconst (v := 0) hx hb dL_law_9 (by decide) ?_
  rw [show (0 : Int32) = nI 0 from rfl]
  refine lw_s hF (c_L_cell l D cy ad cs_S0 b0 nL xs 0 (by omega) (by omega) (fun z => hbA (h.A _ z))) (va_cwS 2 hL gl_47 rfl rfl rfl kk_L_cell ⟨Nat.le_of_ble_eq_true rfl, Nat.le_of_ble_eq_true rfl⟩) (lw_preX h hK hX hbl hbA hS) h hS hcs rfl hl.1 [] rfl (Nat.le_of_ble_eq_true rfl) dL_law_10 (fun x1 Sx H locs hq h hS => ?_)
  rw [show Sx = cs_S0 from hq] at h
  refine lv_iconst (v := 2) hx hb dL_law_13 (by decide) ?_
  rw [show (2 : Int32) = nI 2 from rfl]
  refine lw_s hF (c_L_below l D cy ad cs_S0 x1 2 (by omega) (by omega)) (va_cwS 2 hL gl_53 rfl rfl rfl kk_L_below ⟨Nat.le_of_ble_eq_true rfl, Nat.le_of_ble_eq_true rfl⟩) (lw_preS h hK) h hS hcs rfl hl.1 [] rfl (Nat.le_of_ble_eq_true rfl) dL_law_14 (fun r Sx H locs hq h hS => ?_)
  rw [hq.2] at h
  obtain ⟨⟨way, hway, hjq⟩, -⟩ := hq
  subst hjq
  refine lv_istore_n (lv' := [(2, .int (nI way)), (1, .ref (ad 0)), (0, .ref b0)]) hx hb dL_law_17 rfl hl (by decide) rfl (fun ls hl => ?_)
  refine lv_iconst (v := 2) hx hb dL_law_18 (by decide) ?_
  rw [show (2 : Int32) = nI 2 from rfl]
  refine lv_aload_n hx hb dL_law_19 rfl (lv_at hl 2 rfl) ?_
  refine lv_iconst (v := 0) hx hb dL_law_20 (by decide) ?_
  rw [show (0 : Int32) = nI 0 from rfl]
  refine lw_s hF (c_L_cell l D cy ad cs_S0 b0 nL xs 0 (by omega) (by omega) (fun z => hbA (h.A _ z))) (va_cwS 2 hL gl_47 rfl rfl rfl kk_L_cell ⟨Nat.le_of_ble_eq_true rfl, Nat.le_of_ble_eq_true rfl⟩) (lw_preX h hK hX hbl hbA hS) h hS hcs rfl hl.1 [.int (nI 2)] rfl (Nat.le_of_ble_eq_true rfl) dL_law_21 (fun x2 Sx H locs hq h hS => ?_)
  rw [show Sx = cs_S0 from hq] at h
  refine lv_iconst (v := 2) hx hb dL_law_24 (by decide) ?_
  refine lv_ishr hx hb dL_law_25 ?_
  refine lv_topi (fun y2 _ => ?_)
  refine lv_iconst (v := 3) hx hb dL_law_26 (by decide) ?_
  rw [show (3 : Int32) = nI 3 from rfl]
  refine lw_s hF (c_L_below l D cy ad cs_S0 y2 3 (by omega) (by omega)) (va_cwS 2 hL gl_53 rfl rfl rfl kk_L_below ⟨Nat.le_of_ble_eq_true rfl, Nat.le_of_ble_eq_true rfl⟩) (lw_preS h hK) h hS hcs rfl hl.1 [.int (nI 2)] rfl (Nat.le_of_ble_eq_true rfl) dL_law_27 (fun r Sx H locs hq h hS => ?_)
  rw [hq.2] at h
  obtain ⟨⟨j2, hj2, hjq⟩, -⟩ := hq
  subst hjq
  refine lv_iadd hx hb dL_law_30 ?_
  rw [show ((nI 2) + (nI j2) : Int32) = nI (2 + j2) from nI_add _ _]
  obtain ⟨fan, hfan⟩ : ∃ z, z = 2 + j2 := ⟨_, rfl⟩
  rw [← hfan]
  refine lv_istore_n (lv' := [(3, .int (nI fan)), (2, .int (nI way)), (1, .ref (ad 0)), (0, .ref b0)]) hx hb dL_law_31 rfl hl (by decide) rfl (fun ls hl => ?_)
  refine lv_iconst (v := 1) hx hb dL_law_32 (by decide) ?_
  rw [show (1 : Int32) = nI 1 from rfl]
  refine lv_aload_n hx hb dL_law_33 rfl (lv_at hl 3 rfl) ?_
  refine lv_iconst (v := 0) hx hb dL_law_34 (by decide) ?_
  rw [show (0 : Int32) = nI 0 from rfl]
  refine lw_s hF (c_L_cell l D cy ad cs_S0 b0 nL xs 0 (by omega) (by omega) (fun z => hbA (h.A _ z))) (va_cwS 2 hL gl_47 rfl rfl rfl kk_L_cell ⟨Nat.le_of_ble_eq_true rfl, Nat.le_of_ble_eq_true rfl⟩) (lw_preX h hK hX hbl hbA hS) h hS hcs rfl hl.1 [.int (nI 1)] rfl (Nat.le_of_ble_eq_true rfl) dL_law_35 (fun x3 Sx H locs hq h hS => ?_)
  rw [show Sx = cs_S0 from hq] at h
  refine lv_iconst (v := 4) hx hb dL_law_38 (by decide) ?_
  refine lv_ishr hx hb dL_law_39 ?_
  refine lv_topi (fun y3 _ => ?_)
  refine lv_bipush (v := 6) hx hb dL_law_40 (by decide) ?_
  rw [show (6 : Int32) = nI 6 from rfl]
  refine lw_s hF (c_L_below l D cy ad cs_S0 y3 6 (by omega) (by omega)) (va_cwS 2 hL gl_53 rfl rfl rfl kk_L_below ⟨Nat.le_of_ble_eq_true rfl, Nat.le_of_ble_eq_true rfl⟩) (lw_preS h hK) h hS hcs rfl hl.1 [.int (nI 1)] rfl (Nat.le_of_ble_eq_true rfl) dL_law_42 (fun r Sx H locs hq h hS => ?_)
  rw [hq.2] at h
  obtain ⟨⟨j3, hj3, hjq⟩, -⟩ := hq
  subst hjq
  refine lv_iadd hx hb dL_law_45 ?_
  rw [show ((nI 1) + (nI j3) : Int32) = nI (1 + j3) from nI_add _ _]
  obtain ⟨pc, hpc⟩ : ∃ z, z = 1 + j3 := ⟨_, rfl⟩
  rw [← hpc]
  refine lv_istore (lv' := [(4, .int (nI pc)), (3, .int (nI fan)), (2, .int (nI way)), (1, .ref (ad 0)), (0, .ref b0)]) hx hb dL_law_46 hl (by decide) rfl (fun ls hl => ?_)
  refine lv_aload_n hx hb dL_law_48 rfl (lv_at hl 3 rfl) ?_
  refine lv_iload_n hx hb dL_law_49 rfl (lv_at hl 2 rfl) ?_
  refine lv_iload_n hx hb dL_law_50 rfl (lv_at hl 1 rfl) ?_
  refine lv_iload hx hb dL_law_51 (lv_at hl 0 rfl) ?_
  refine lw_i hF (c_X6_setWay l D cy ad cs_S0 (nI way) (nI fan) (nI pc) (nI_pos (by omega)) (nI_le (b := 1) (by omega) (by decide)) (nI_nlt (b := 2) (by omega) (by omega)) (nI_le (b := 4) (by omega) (by decide)) (nI_nlt (b := 1) (by omega) (by omega)) (nI_le (b := 20) (by omega) (by decide)) (by rw [total0]; decide)) (cwV 3 hL gl_56 rfl rfl rfl kk_X6_setWay ⟨Nat.le_of_ble_eq_true rfl, Nat.le_of_ble_eq_true rfl⟩) h hK hS hcs rfl hl.1 [] rfl (Nat.le_of_ble_eq_true rfl) dL_law_53 (fun r S1 H locs hq hq2 h hS => ?_)
  have hs : St0 S1 way fan pc := by rw [hq2, setWay_is]; exact way0 way fan pc
  refine lv_pop hx hb dL_law_56 rfl ?_
  refine lv_aload_n hx hb dL_law_57 rfl (lv_at hl 3 rfl) ?_
  refine lv_iconst (v := 1) hx hb dL_law_58 (by decide) ?_
  rw [show (1 : Int32) = nI 1 from rfl]
  refine lv_aload_n hx hb dL_law_59 rfl (lv_at hl 4 rfl) ?_
  refine lv_iconst (v := 1) hx hb dL_law_60 (by decide) ?_
  rw [show (1 : Int32) = nI 1 from rfl]
  refine lw_s hF (c_L_cell l D cy ad S1 b0 nL xs 1 (by omega) (by omega) (fun z => hbA (h.A _ z))) (va_cwS 2 hL gl_47 rfl rfl rfl kk_L_cell ⟨Nat.le_of_ble_eq_true rfl, Nat.le_of_ble_eq_true rfl⟩) (lw_preX h hK hX hbl hbA hS) h hS hcs rfl hl.1 [.int (nI 1), .ref (ad 0)] rfl (Nat.le_of_ble_eq_true rfl) dL_law_61 (fun x4 Sx H locs hq h hS => ?_)
  rw [show Sx = S1 from hq] at h
  refine lv_bipush (v := 6) hx hb dL_law_64 (by decide) ?_
  rw [show (6 : Int32) = nI 6 from rfl]
  refine lw_s hF (c_L_below l D cy ad S1 x4 6 (by omega) (by omega)) (va_cwS 2 hL gl_53 rfl rfl rfl kk_L_below ⟨Nat.le_of_ble_eq_true rfl, Nat.le_of_ble_eq_true rfl⟩) (lw_preS h hK) h hS hcs rfl hl.1 [.int (nI 1), .ref (ad 0)] rfl (Nat.le_of_ble_eq_true rfl) dL_law_66 (fun r Sx H locs hq h hS => ?_)
  rw [hq.2] at h
  obtain ⟨⟨j4, hj4, hjq⟩, -⟩ := hq
  subst hjq
  refine lv_iadd hx hb dL_law_69 ?_
  rw [show ((nI 1) + (nI j4) : Int32) = nI (1 + j4) from nI_add _ _]
  refine lw_i hF (c_X6_setRoom l D cy ad S1 (nI (1 + j4)) (nI_nlt (b := 1) (by omega) (by omega)) (nI_le (b := 16) (by omega) (by decide))) (cwV 1 hL gl_60 rfl rfl rfl kk_X6_setRoom ⟨Nat.le_of_ble_eq_true rfl, Nat.le_of_ble_eq_true rfl⟩) h hK hS hcs rfl hl.1 [] rfl (Nat.le_of_ble_eq_true rfl) dL_law_70 (fun r S2 H locs hq hq2 h hS => ?_)
  replace hs : St0 S2 way fan pc := by rw [hq2, setRoom_is]; exact hs.sc (by decide) (by decide) (by decide) (by decide) (by decide)
  refine lv_pop hx hb dL_law_73 rfl ?_
  refine lv_aload_n hx hb dL_law_74 rfl (lv_at hl 3 rfl) ?_
  refine lv_aload_n hx hb dL_law_75 rfl (lv_at hl 4 rfl) ?_
  refine lv_iconst (v := 1) hx hb dL_law_76 (by decide) ?_
  rw [show (1 : Int32) = nI 1 from rfl]
  refine lw_s hF (c_L_cell l D cy ad S2 b0 nL xs 1 (by omega) (by omega) (fun z => hbA (h.A _ z))) (va_cwS 2 hL gl_47 rfl rfl rfl kk_L_cell ⟨Nat.le_of_ble_eq_true rfl, Nat.le_of_ble_eq_true rfl⟩) (lw_preX h hK hX hbl hbA hS) h hS hcs rfl hl.1 [.ref (ad 0)] rfl (Nat.le_of_ble_eq_true rfl) dL_law_77 (fun x5 Sx H locs hq h hS => ?_)
  rw [show Sx = S2 from hq] at h
  refine lv_iconst (v := 4) hx hb dL_law_80 (by decide) ?_
  refine lv_ishr hx hb dL_law_81 ?_
  refine lv_topi (fun y5 _ => ?_)
  refine lv_iconst (v := 4) hx hb dL_law_82 (by decide) ?_
  rw [show (4 : Int32) = nI 4 from rfl]
  refine lw_s hF (c_L_below l D cy ad S2 y5 4 (by omega) (by omega)) (va_cwS 2 hL gl_53 rfl rfl rfl kk_L_below ⟨Nat.le_of_ble_eq_true rfl, Nat.le_of_ble_eq_true rfl⟩) (lw_preS h hK) h hS hcs rfl hl.1 [.ref (ad 0)] rfl (Nat.le_of_ble_eq_true rfl) dL_law_83 (fun r Sx H locs hq h hS => ?_)
  rw [hq.2] at h
  obtain ⟨⟨j5, hj5, hjq⟩, -⟩ := hq
  subst hjq
  refine lw_i hF (c_X6_setEvery l D cy ad S2 (nI j5) (nI_pos (by omega)) (nI_le (b := 20) (by omega) (by decide))) (cwV 1 hL gl_63 rfl rfl rfl kk_X6_setEvery ⟨Nat.le_of_ble_eq_true rfl, Nat.le_of_ble_eq_true rfl⟩) h hK hS hcs rfl hl.1 [] rfl (Nat.le_of_ble_eq_true rfl) dL_law_86 (fun r S3 H locs hq hq2 h hS => ?_)
  replace hs : St0 S3 way fan pc := by rw [hq2, setEvery_is]; exact hs.sc (by decide) (by decide) (by decide) (by decide) (by decide)
  refine lv_pop hx hb dL_law_89 rfl ?_
  refine lv_aload_n hx hb dL_law_90 rfl (lv_at hl 3 rfl) ?_
  refine lv_aload_n hx hb dL_law_91 rfl (lv_at hl 4 rfl) ?_
  refine lv_iconst (v := 2) hx hb dL_law_92 (by decide) ?_
  rw [show (2 : Int32) = nI 2 from rfl]
  refine lw_s hF (c_L_cell l D cy ad S3 b0 nL xs 2 (by omega) (by omega) (fun z => hbA (h.A _ z))) (va_cwS 2 hL gl_47 rfl rfl rfl kk_L_cell ⟨Nat.le_of_ble_eq_true rfl, Nat.le_of_ble_eq_true rfl⟩) (lw_preX h hK hX hbl hbA hS) h hS hcs rfl hl.1 [.ref (ad 0)] rfl (Nat.le_of_ble_eq_true rfl) dL_law_93 (fun x6 Sx H locs hq h hS => ?_)
  rw [show Sx = S3 from hq] at h
  refine lv_iconst (v := 4) hx hb dL_law_96 (by decide) ?_
  rw [show (4 : Int32) = nI 4 from rfl]
  refine lw_s hF (c_L_below l D cy ad S3 x6 4 (by omega) (by omega)) (va_cwS 2 hL gl_53 rfl rfl rfl kk_L_below ⟨Nat.le_of_ble_eq_true rfl, Nat.le_of_ble_eq_true rfl⟩) (lw_preS h hK) h hS hcs rfl hl.1 [.ref (ad 0)] rfl (Nat.le_of_ble_eq_true rfl) dL_law_97 (fun r Sx H locs hq h hS => ?_)
  rw [hq.2] at h
  obtain ⟨⟨j6, hj6, hjq⟩, -⟩ := hq
  subst hjq
  suffices K121 : ∀ (v : Int32) (H : Heap) (locs : List Loc), (v = 0 ∨ (¬ v < 4 ∧ v ≤ 64)) → LW D cy ad S3 [] (lA s) H → va_S (lA s) s.heap H locs → W p l e room_1 s m args below meth c H locs 44 5817 Q (F0 m 121 ls [.int v, .ref (ad 0)]) by
    refine lv_if_ne (tgt := 107) hx hb dL_law_100 (by decide) (fun c1 => ?_) (fun c1 => ?_)
    ·
      refine lv_iconst (v := 4) hx hb dL_law_107 (by decide) ?_
      rw [show (4 : Int32) = nI 4 from rfl]
      refine lv_aload_n hx hb dL_law_108 rfl (lv_at hl 4 rfl) ?_
      refine lv_iconst (v := 2) hx hb dL_law_109 (by decide) ?_
      rw [show (2 : Int32) = nI 2 from rfl]
      refine lw_s hF (c_L_cell l D cy ad S3 b0 nL xs 2 (by omega) (by omega) (fun z => hbA (h.A _ z))) (va_cwS 2 hL gl_47 rfl rfl rfl kk_L_cell ⟨Nat.le_of_ble_eq_true rfl, Nat.le_of_ble_eq_true rfl⟩) (lw_preX h hK hX hbl hbA hS) h hS hcs rfl hl.1 [.int (nI 4), .ref (ad 0)] rfl (Nat.le_of_ble_eq_true rfl) dL_law_110 (fun x7 Sx H locs hq h hS => ?_)
      rw [show Sx = S3 from hq] at h
      refine lv_iconst (v := 2) hx hb dL_law_113 (by decide) ?_
      refine lv_ishr hx hb dL_law_114 ?_
      refine lv_topi (fun y7 _ => ?_)
      refine lv_bipush (v := 50) hx hb dL_law_115 (by decide) ?_
      rw [show (50 : Int32) = nI 50 from rfl]
      refine lw_s hF (c_L_below l D cy ad S3 y7 50 (by omega) (by omega)) (va_cwS 2 hL gl_53 rfl rfl rfl kk_L_below ⟨Nat.le_of_ble_eq_true rfl, Nat.le_of_ble_eq_true rfl⟩) (lw_preS h hK) h hS hcs rfl hl.1 [.int (nI 4), .ref (ad 0)] rfl (Nat.le_of_ble_eq_true rfl) dL_law_117 (fun r Sx H locs hq h hS => ?_)
      rw [hq.2] at h
      obtain ⟨⟨j7, hj7, hjq⟩, -⟩ := hq
      subst hjq
      refine lv_iadd hx hb dL_law_120 ?_
      rw [show ((nI 4) + (nI j7) : Int32) = nI (4 + j7) from nI_add _ _]
      exact K121 _ H locs (Or.inr ⟨nI_nlt (b := 4) (by omega) (by omega), nI_le (b := 64) (by omega) (by decide)⟩) h hS
    ·
      refine lv_iconst (v := 0) hx hb dL_law_103 (by decide) ?_
      refine lv_goto (tgt := 121) hx hb dL_law_104 (by decide) ?_
      exact K121 0 H locs (Or.inl rfl) h hS
  clear h hS
  intro v H locs hv h hS
  refine lv_iconst (v := 1) hx hb dL_law_121 (by decide) ?_
  rw [show (1 : Int32) = nI 1 from rfl]
  refine lv_aload_n hx hb dL_law_122 rfl (lv_at hl 4 rfl) ?_
  refine lv_iconst (v := 2) hx hb dL_law_123 (by decide) ?_
  rw [show (2 : Int32) = nI 2 from rfl]
  refine lw_s hF (c_L_cell l D cy ad S3 b0 nL xs 2 (by omega) (by omega) (fun z => hbA (h.A _ z))) (va_cwS 2 hL gl_47 rfl rfl rfl kk_L_cell ⟨Nat.le_of_ble_eq_true rfl, Nat.le_of_ble_eq_true rfl⟩) (lw_preX h hK hX hbl hbA hS) h hS hcs rfl hl.1 [.int (nI 1), .int v, .ref (ad 0)] rfl (Nat.le_of_ble_eq_true rfl) dL_law_124 (fun x8 Sx H locs hq h hS => ?_)
  rw [show Sx = S3 from hq] at h
  refine lv_iconst (v := 5) hx hb dL_law_127 (by decide) ?_
  refine lv_ishr hx hb dL_law_128 ?_
  refine lv_topi (fun y8 _ => ?_)
  refine lv_iconst (v := 3) hx hb dL_law_129 (by decide) ?_
  rw [show (3 : Int32) = nI 3 from rfl]
  refine lw_s hF (c_L_below l D cy ad S3 y8 3 (by omega) (by omega)) (va_cwS 2 hL gl_53 rfl rfl rfl kk_L_below ⟨Nat.le_of_ble_eq_true rfl, Nat.le_of_ble_eq_true rfl⟩) (lw_preS h hK) h hS hcs rfl hl.1 [.int (nI 1), .int v, .ref (ad 0)] rfl (Nat.le_of_ble_eq_true rfl) dL_law_130 (fun r Sx H locs hq h hS => ?_)
  rw [hq.2] at h
  obtain ⟨⟨j8, hj8, hjq⟩, -⟩ := hq
  subst hjq
  refine lv_iadd hx hb dL_law_133 ?_
  rw [show ((nI 1) + (nI j8) : Int32) = nI (1 + j8) from nI_add _ _]
  refine lw_i hF (c_X6_setFilter l D cy ad S3 v (nI (1 + j8)) (hv) (nI_nlt (b := 1) (by omega) (by omega)) (nI_le (b := 3) (by omega) (by decide))) (cwV 2 hL gl_66 rfl rfl rfl kk_X6_setFilter ⟨Nat.le_of_ble_eq_true rfl, Nat.le_of_ble_eq_true rfl⟩) h hK hS hcs rfl hl.1 [] rfl (Nat.le_of_ble_eq_true rfl) dL_law_134 (fun r S4 H locs hq hq2 h hS => ?_)
  replace hs : St0 S4 way fan pc := by rw [hq2, setFilter_is]; exact (hs.sc (by decide) (by decide) (by decide) (by decide) (by decide)).sc (by decide) (by decide) (by decide) (by decide) (by decide)
  refine lv_pop hx hb dL_law_137 rfl ?_
  refine lv_iconst (v := 2) hx hb dL_law_138 (by decide) ?_
  rw [show (2 : Int32) = nI 2 from rfl]
  refine lv_aload_n hx hb dL_law_139 rfl (lv_at hl 4 rfl) ?_
  refine lv_iconst (v := 3) hx hb dL_law_140 (by decide) ?_
  rw [show (3 : Int32) = nI 3 from rfl]
  refine lw_s hF (c_L_cell l D cy ad S4 b0 nL xs 3 (by omega) (by omega) (fun z => hbA (h.A _ z))) (va_cwS 2 hL gl_47 rfl rfl rfl kk_L_cell ⟨Nat.le_of_ble_eq_true rfl, Nat.le_of_ble_eq_true rfl⟩) (lw_preX h hK hX hbl hbA hS) h hS hcs rfl hl.1 [.int (nI 2)] rfl (Nat.le_of_ble_eq_true rfl) dL_law_141 (fun x9 Sx H locs hq h hS => ?_)
  rw [show Sx = S4 from hq] at h
  refine lv_bipush (v := 30) hx hb dL_law_144 (by decide) ?_
  rw [show (30 : Int32) = nI 30 from rfl]
  refine lw_s hF (c_L_below l D cy ad S4 x9 30 (by omega) (by omega)) (va_cwS 2 hL gl_53 rfl rfl rfl kk_L_below ⟨Nat.le_of_ble_eq_true rfl, Nat.le_of_ble_eq_true rfl⟩) (lw_preS h hK) h hS hcs rfl hl.1 [.int (nI 2)] rfl (Nat.le_of_ble_eq_true rfl) dL_law_146 (fun r Sx H locs hq h hS => ?_)
  rw [hq.2] at h
  obtain ⟨⟨j9, hj9, hjq⟩, -⟩ := hq
  subst hjq
  refine lv_iadd hx hb dL_law_149 ?_
  rw [show ((nI 2) + (nI j9) : Int32) = nI (2 + j9) from nI_add _ _]
  obtain ⟨wide, hwide⟩ : ∃ z, z = 2 + j9 := ⟨_, rfl⟩
  rw [← hwide]
  refine lv_istore (lv' := [(5, .int (nI wide)), (4, .int (nI pc)), (3, .int (nI fan)), (2, .int (nI way)), (1, .ref (ad 0)), (0, .ref b0)]) hx hb dL_law_150 hl (by decide) rfl (fun ls hl => ?_)
  refine lv_iconst (v := -1) hx hb dL_law_152 (by decide) ?_
  refine lv_istore (lv' := [(6, .int (-1)), (5, .int (nI wide)), (4, .int (nI pc)), (3, .int (nI fan)), (2, .int (nI way)), (1, .ref (ad 0)), (0, .ref b0)]) hx hb dL_law_153 hl (by decide) rfl (fun ls hl => ?_)
  refine lv_iload hx hb dL_law_155 (lv_at hl 1 rfl) ?_
  refine lw_new (n := wide) hF hAr hK h hS hA (by omega) (by omega) (by omega) dL_law_157 (fun wa H h hS => ?_)
  replace h : LW D cy ad S4 [yR cy wa wide (fun _ => 0)] (lA s) H := h
  refine lv_astore (lv' := [(7, .ref wa), (6, .int (-1)), (5, .int (nI wide)), (4, .int (nI pc)), (3, .int (nI fan)), (2, .int (nI way)), (1, .ref (ad 0)), (0, .ref b0)]) hx hb dL_law_159 hl (by decide) rfl (fun ls hl => ?_)
  refine lv_iconst (v := 0) hx hb dL_law_161 (by decide) ?_
  rw [show (0 : Int32) = nI 0 from rfl]
  refine lv_istore (lv' := [(8, .int (nI 0)), (7, .ref wa), (6, .int (-1)), (5, .int (nI wide)), (4, .int (nI pc)), (3, .int (nI fan)), (2, .int (nI way)), (1, .ref (ad 0)), (0, .ref b0)]) hx hb dL_law_162 hl (by decide) rfl (fun ls hl => ?_)
  refine law_lp hF hL hK hX hbl hnL hAr (by omega) (by omega) (fun S5 sp f t cells slots H locs ls hJ hc1 hc2 h hS hl => ?_) 51 0 (by decide) (by decide) S4 (-1) (fun _ => 0) 0 (44 + 1) (5817 + wide) H locs ls (start_J hs (by omega) (by omega) (by omega) (by omega) (by omega) _) (Nat.le_refl 0) (by omega) (by omega) h hS (lv_sub hl [0, 1, 2, 3, 4, 5, 6, 7, 8] rfl)
  exact law_end hF hL hK (by omega) hJ (by omega) (fun H locs ls hS => kk H locs ls cells slots hc1 hc2 hS) H locs ls h hS hl
end ALL
