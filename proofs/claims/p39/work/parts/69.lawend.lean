/-! amplification, and the law's end -/
section AMP
variable {p : Program} {l : Launch} {e : Env} {R : Room} {s : State} {m : MethodId} {args : Array Value} {below : List Frame} {meth : Method} {c : Code} {H H0 : Heap} {locs : List Loc} {Q : State → Prop} {D : va_G} {cy : ClassId} {ad : Nat → Nat} {S : cs_St} {pc : Nat} {ls : Array Slot} {rest : List Value} {cc : ByteArray} {nL : Nat} {own : String} {Y : va_W} {A0 : Nat → Prop} {cells slots : Nat}
theorem cs_dret {post : UInt64 → cs_St → Prop} {v : UInt64} (hF : CallFix p m c cc nL s args cs_WS own) (hr : meth.sig.returnType = some .double) (hlk : meth.locks = false) (hw : cs_w D cy ad S H) (hK : cs_K D cy s) (hS : va_S (cs_A ad) s.heap H locs) (hdg : decode cc pc = .ok (.dreturn, 1)) (hp : post v S) : W p l e R s m args below meth c H locs 0 0 (MQ below (cs_Qd D cy ad post) args s 0 0 (cs_A ad)) (F0 m pc ls [.double v]) :=
  W.dret (v := v) hF.1 hF.2.1 hr (fun t ht hW => ⟨⟨v, S, rfl, hp, by rw [ht]; exact hw, cs_K.moved hW hK⟩, hS.F ht⟩) hS.2.2 hdg hlk
theorem lw_d {y : MethodName} {bytes : ByteArray} {maxL n index : Nat} {ret : Option FieldType} {rm : Room} {As : List Value} {v : UInt64} {st : List Value} (hF : CallFix p m c cc nL s args cs_WS own)
    (hM : Met l y (cs_ws y bytes maxL ret) rm (cs_Pc D cy ad (.ref (ad 0) :: As) S) (cs_Qd D cy ad (fun r S1 => r = v ∧ S1 = S)) 0 0 (cs_A ad)) (cw : CallW R s args own RX6 index y bytes maxL ret (cs_ws y bytes maxL ret) rm 0 0 n)
    (h : LW D cy ad S Y A0 H) (hK : cs_K D cy s) (hS : va_S A0 H0 H locs) (hcs : cells ≤ R.cells ∧ slots ≤ R.slots) (hn : As.length = n) (hl : ls.size = nL) (rest : List Value) (hst : st = As.reverse ++ .ref (ad 0) :: rest) (h8 : (rest.map fun v => v.category).sum ≤ 8) (hdg : decode cc pc = .ok (.invokevirtual index, 3))
    (kk : ∀ (H1 : Heap) (locs1 : List Loc), LW D cy ad S Y A0 H1 → va_S A0 H0 H1 locs1 → W p l e R s m args below meth c H1 locs1 cells slots Q (F0 m (pc + 3) ls (.double v :: rest))) : W p l e R s m args below meth c H locs cells slots Q (F0 m pc ls st) :=
  va_calld (va_runV (As := As) (rest := rest) hF hM cw ⟨cs_blind, lw_recv hK h, fun U hU hW => ⟨rfl, by rw [hU]; exact h.w, cs_K.moved hW hK⟩⟩ rfl hn hl hst (lv_room h8) hdg hcs) hS (fun q _ z => h.A q z) h.A (fun r u t H1 locs ht _ hp hB hz hk hS => by
    rw [hp.1]
    exact kk H1 locs (h.call (by rw [← ht]; exact hp.2 ▸ hB.1) ⟨hz, hk⟩) hS)
def ampl (d n : Nat) : UInt64 := if n = 0 then FP.dconst0 else FP.ddiv (FP.i2d (nI d)) (FP.i2d (nI n))

set_option maxHeartbeats 4000000 in
set_option maxRecDepth 100000 in
theorem c_X6_amplification (l : Launch) (D : va_G) (cy : ClassId) (ad : Nat → Nat) (S : cs_St) {d n : Nat} (h3 : (S.1 0).1 3 = nI n) (h5 : (S.1 0).1 5 = nI d) (hd : d < 2 ^ 28) (hn : n ≤ 512) : Met l yX6_amplification (cs_ws yX6_amplification cX6_amplification 2 (some .double)) (cs_rm 1 21) (cs_Pc D cy ad [.ref (ad 0)] S) (cs_Qd D cy ad (fun r S1 => r = ampl d n ∧ S1 = S)) 0 0 (cs_A ad) := by
  refine cs_of RX6 (by decide) rfl (Nat.le_of_ble_eq_true rfl) ?_
  intro p e s m below meth c hF hr hlk hw hK ls hl
  obtain ⟨hx, hb, hml, hown, hts⟩ := id hF
  have hS : va_S (cs_A ad) s.heap s.heap [] := va_S.rf
  have hl : lv_has ls 2 [(0, .ref (ad 0))] := hl
  have a3 : m_X3_at S 0 3 = nI n := (at_nI (i := 3) (j := 0) (by decide)).trans h3
  have a5 : m_X3_at S 0 5 = nI d := (at_nI (i := 5) (j := 0) (by decide)).trans h5
  refine lv_aload_n hx hb dX6_amplification_0 rfl (lv_at hl 0 rfl) ?_
  refine cs_get (C := RX6) (T := TX6) (N := 15) hF in_X6 hw hK 0 rfl rfl 7 (by decide) q_222 rfl dX6_amplification_1 ?_
  refine lv_iconst (v := 3) hx hb dX6_amplification_4 (by decide) ?_
  refine cs_vir hF (c_X3_at l D cy ad S 0 3 (by decide)) (cwV 1 hts g_X6_211 rfl rfl rfl kk_X3_at ⟨Nat.le_of_ble_eq_true rfl, Nat.le_of_ble_eq_true rfl⟩) (cs_recvR hK hw (by decide)) hw hK hS rfl hl.1 [] rfl (Nat.le_of_ble_eq_true rfl) dX6_amplification_5 (fun r H locs hq hw hS => ?_)
  replace hq := hq.trans a3
  subst hq
  refine lv_istore_n (lv' := [(1, .int (nI n)), (0, .ref (ad 0))]) hx hb dX6_amplification_8 rfl hl (by decide) rfl (fun ls hl => ?_)
  refine lv_iload_n hx hb dX6_amplification_9 rfl (lv_at hl 0 rfl) ?_
  rcases Nat.eq_zero_or_pos n with h0 | h0
  · refine lv_if_ne (tgt := 15) hx hb dX6_amplification_10 (by decide) (fun c0 => absurd (by rw [h0]; rfl) c0) (fun _ => ?_)
    refine lv_dconst0 hx hb dX6_amplification_13 ?_
    exact cs_dret hF hr hlk hw hK hS dX6_amplification_14 ⟨by unfold ampl; rw [if_pos h0], rfl⟩
  · refine lv_if_ne (tgt := 15) hx hb dX6_amplification_10 (by decide) (fun _ => ?_) (fun c0 => absurd c0 (nI_ne0 h0 (by omega)))
    refine lv_aload_n hx hb dX6_amplification_15 rfl (lv_at hl 1 rfl) ?_
    refine cs_get (C := RX6) (T := TX6) (N := 15) hF in_X6 hw hK 0 rfl rfl 7 (by decide) q_222 rfl dX6_amplification_16 ?_
    refine lv_iconst (v := 5) hx hb dX6_amplification_19 (by decide) ?_
    refine cs_vir hF (c_X3_at l D cy ad S 0 5 (by decide)) (cwV 1 hts g_X6_211 rfl rfl rfl kk_X3_at ⟨Nat.le_of_ble_eq_true rfl, Nat.le_of_ble_eq_true rfl⟩) (cs_recvR hK hw (by decide)) hw hK hS rfl hl.1 [] rfl (Nat.le_of_ble_eq_true rfl) dX6_amplification_20 (fun r H locs hq hw hS => ?_)
    replace hq := hq.trans a5
    subst hq
    refine lv_i2d hx hb dX6_amplification_23 ?_
    refine lv_iload_n hx hb dX6_amplification_24 rfl (lv_at hl 0 rfl) ?_
    refine lv_i2d hx hb dX6_amplification_25 ?_
    obtain ⟨cq, qq, f1, -, -⟩ := fp_div hd h0 hn
    refine lv_ddiv hx hb dX6_amplification_26 (fp_num f1) ?_
    exact cs_dret hF hr hlk hw hK hS dX6_amplification_27 ⟨by unfold ampl; rw [if_neg (by omega)], rfl⟩
theorem kk_X6_amplification : yX6_amplification.cls = RX6 ∧ yX6_amplification.cls ≠ "java/lang/invoke/MethodHandle" ∧ yX6_amplification.cls ≠ "java/lang/invoke/VarHandle" ∧ (parseMethodDescriptor yX6_amplification.desc).map (fun d => d.parameters.length) = some 0 := by decide +kernel
/-- the amplification times the writes is a number, no more than what was laid and a half -/
theorem amp_le {d n : Nat} (hd : d < 2 ^ 28) (hn : n ≤ 512) : vf_n64 (FP.dmul (ampl d n) (FP.i2d (nI n))) ∧ vf_n64 (FP.dadd (FP.i2d (nI d)) 4602678819172646912) ∧ ¬ 0 < Op.cmpValue (FP.dcmp (FP.dmul (ampl d n) (FP.i2d (nI n))) (FP.dadd (FP.i2d (nI d)) 4602678819172646912)) CmpOp.g := by
  obtain ⟨c2, q2, b1, b2, b3⟩ := fp_half hd
  obtain ⟨c1, q1, a1, a2, a3⟩ : ∃ c q, Jvm.FP.Core.val64 (FP.dmul (ampl d n) (FP.i2d (nI n))) = .fin false c q ∧ Jvm.FP.Core.b64.qmin ≤ q ∧ Jvm.FP.Core.inUnits c q (Jvm.FP.Core.b64.qmin - 100) ≤ Jvm.FP.Core.inUnits (2 * d + 1) (-1) (Jvm.FP.Core.b64.qmin - 100) := by
    rcases Nat.eq_zero_or_pos n with h0 | h0
    · have e : Jvm.FP.Core.val64 (FP.dmul (ampl d n) (FP.i2d (nI n))) = .fin false 0 Jvm.FP.Core.b64.qmin := by
        rw [h0, show ampl d 0 = FP.dconst0 from if_pos rfl]; decide +kernel
      refine ⟨0, _, e, Int.le_refl _, ?_⟩
      unfold Jvm.FP.Core.inUnits
      rw [Nat.zero_mul]; exact Nat.zero_le _
    · obtain ⟨cy, qy, e1, e2, e3⟩ := fp_div hd h0 hn
      have := fp_mul hd h0 hn e1 e2 e3
      unfold ampl
      rw [if_neg (by omega)]
      exact this
  exact ⟨fp_num a1, fp_num b1, fp_cmp (E := Jvm.FP.Core.b64.qmin - 100) a1 b1 (by omega) (by omega) (by rw [b3]; exact a3)⟩
end AMP
section SEG
variable {p : Program} {l : Launch} {e : Env} {s : State} {m : MethodId} {args : Array Value} {below : List Frame} {meth : Method} {c : Code} {Q : State → Prop} {D : va_G} {cy : ClassId} {ad : Nat → Nat} {cells slots : Nat}
variable {S : cs_St} {N : Nat} {K : Nat → Nat} {V : Nat → Int32} {ord : List Nat} {L : Nat → List Run} {sn Hd Wr : List Nat} {sf way fan pc wide n b t : Nat} {sp : Int32} {f : Nat → Int32}
theorem nneg {k : Nat} (h : k < 2 ^ 31) : ¬ nI k < (-1) := by
  rw [Int32.lt_iff_toInt_lt, nI_toInt h]
  have e1 : ((-1 : Int32)).toInt = -1 := by decide
  omega
def kv (ks : List Nat) (i : Nat) : Int32 := match ks[i]? with | some k => nI k | none => -1
set_option maxHeartbeats 4000000 in
set_option maxRecDepth 100000 in
theorem law_nx (hF : CallFix p m c cL_law 19 s args cs_WS RL) (hL : ∀ w ∈ cs_WL, w.before args s = true) (hK : cs_K D cy s) (hcs : cells ≤ room_1.cells ∧ slots ≤ room_1.slots) {Y : va_W} (hG : Gd S N K V ord L sn Hd Wr sf way fan pc wide b) (hwd : wide ≤ 31) {ks : List Nat} (hks : ks = (tha K V ord (Hd ++ agz (RS L)) N).map K)
    (kk : ∀ (S' : cs_St) (H : Heap) (locs : List Loc) (ls : Array Slot), fr [1, 17, 18] S S' → LW D cy ad S' Y (lA s) H → va_S (lA s) s.heap H locs → lv_has ls 19 [(8, .int (nI ks.length)), (1, .ref (ad 0))] → W p l e room_1 s m args below meth c H locs cells slots Q (F0 m 667 ls [])) :
    ∀ (n i : Nat), i ≤ ks.length → ks.length - i < n → ∀ (S' : cs_St) (H : Heap) (locs : List Loc) (ls : Array Slot), fr [1, 17, 18] S S' → LW D cy ad S' Y (lA s) H → va_S (lA s) s.heap H locs → lv_has ls 19 [(9, .int (kv ks i)), (8, .int (nI i)), (1, .ref (ad 0))] → W p l e room_1 s m args below meth c H locs cells slots Q (F0 m 648 ls []) := by
  obtain ⟨hx, hb, hml, hown, hts⟩ := id hF
  have hI := hG.1
  have hup : ks.Pairwise (· < ·) := by rw [hks]; exact tha_up hI _ _
  have hin : ∀ k ∈ ks, k < wide := by rw [hks]; exact tha_in hG _ _
  intro n
  induction n with
  | zero => intro r _ h; exact absurd h (Nat.not_lt_zero _)
  | succ n ih =>
    intro i hi hn S' H locs ls hf h hS hl
    refine lv_iload hx hb dL_law_648 (lv_at hl 0 rfl) ?_
    rcases Nat.lt_or_ge i ks.length with hlt | hge
    ·
      obtain ⟨k, hk⟩ : ∃ k, ks[i]? = some k := ⟨_, List.getElem?_eq_getElem hlt⟩
      have hkw := hin k (List.mem_of_getElem? hk)
      have hkv : kv ks i = nI k := by unfold kv; rw [hk]
      rw [hkv] at hl ⊢
      refine lv_if_lt (tgt := 667) hx hb dL_law_650 (by decide) (fun c0 => absurd c0 (nI_pos (by omega))) (fun _ => ?_)
      refine lv_iinc (v := nI (i + 1)) (lv' := [(8, .int (nI (i + 1))), (9, .int (nI k)), (1, .ref (ad 0))]) hx hb dL_law_653 hl (k := 1) rfl (nI_1 _) (by decide) rfl (fun ls hl => ?_)
      refine lv_aload_n hx hb dL_law_656 rfl (lv_at hl 2 rfl) ?_
      refine lv_iload hx hb dL_law_657 (lv_at hl 1 rfl) ?_
      obtain ⟨T6, p1, p2⟩ := next_eq (hI.sc hf) (nI k)
      refine lw_i hF (c_X6_next l D cy ad S' (nI k) (nneg (by omega)) (nI_le (show k ≤ 9999 by omega) (by decide))) (cwV 1 hL gl_112 rfl rfl rfl kk_X6_next ⟨Nat.le_of_ble_eq_true rfl, Nat.le_of_ble_eq_true rfl⟩) h hK hS hcs rfl hl.1 [] rfl (Nat.le_of_ble_eq_true rfl) dL_law_659 (fun r S6 H locs hq hq2 h hS => ?_)
      rw [p1] at hq hq2
      have hq : r = nxt ((tha K V ord (Hd ++ agz (RS L)) N).map K) (nI k) := hq
      have f6 : fr [1, 17, 18] S S6 := hf.tr ((show fr [17, 18] S' S6 by rw [hq2]; exact p2).mono (by decide))
      rw [← hks] at hq
      replace hq : r = kv ks (i + 1) := hq.trans (nxt_next hup (fun k hk => by have := hin k hk; omega) hk)
      subst hq
      refine lv_istore (lv' := [(9, .int (kv ks (i + 1))), (8, .int (nI (i + 1))), (1, .ref (ad 0))]) hx hb dL_law_662 hl (by decide) rfl (fun ls hl => ?_)
      refine lv_goto (tgt := 648) hx hb dL_law_664 (by decide) ?_
      exact ih (i + 1) (by omega) (by omega) S6 H locs ls f6 h hS (lv_sub hl [0, 1, 2] rfl)
    ·
      obtain rfl : i = ks.length := by omega
      have hkv : kv ks ks.length = -1 := by unfold kv; rw [List.getElem?_eq_none (Nat.le_refl _)]
      rw [hkv]
      refine lv_if_lt (tgt := 667) hx hb dL_law_650 (by decide) (fun _ => ?_) (fun c0 => absurd (by decide) c0)
      exact kk S' H locs ls hf h hS (lv_sub hl [1, 2] rfl)
set_option maxHeartbeats 4000000 in
set_option maxRecDepth 100000 in
theorem law_end (hF : CallFix p m c cL_law 19 s args cs_WS RL) (hL : ∀ w ∈ cs_WL, w.before args s = true) (hK : cs_K D cy s) (hcs : cells ≤ room_1.cells ∧ slots ≤ room_1.slots) {Y : va_W} {wa b0 : Nat} (hJ : J S way fan pc wide sp f 50 150000000 t) (hwd : wide ≤ 31)
    (kk : ∀ (H : Heap) (locs : List Loc) (ls : Array Slot), va_S (lA s) s.heap H locs → W p l e room_1 s m args below meth c H locs cells slots Q (F0 m 706 ls [.int 1])) :
    ∀ (H : Heap) (locs : List Loc) (ls : Array Slot), LW D cy ad S Y (lA s) H → va_S (lA s) s.heap H locs → lv_has ls 19 [(8, .int (nI 50)), (7, .ref wa), (6, .int sp), (5, .int (nI wide)), (4, .int (nI pc)), (3, .int (nI fan)), (2, .int (nI way)), (1, .ref (ad 0)), (0, .ref b0)] → W p l e room_1 s m args below meth c H locs cells slots Q (F0 m 638 ls []) := by
  obtain ⟨hx, hb, hml, hown, hts⟩ := id hF
  obtain ⟨N, K, V, ord, L, sn, Hd, Wr, sf, hG, hV, hN, h8, hs⟩ := hJ
  have hI := hG.1
  obtain ⟨d, tt, al, ⟨t1, t2, hal, hT, t5, hd⟩, hdb, htb⟩ := hG.2.2.2
  obtain ⟨ks, hks⟩ : ∃ ks, ks = (tha K V ord (Hd ++ agz (RS L)) N).map K := ⟨_, rfl⟩
  have hin : ∀ k ∈ ks, k < wide := by rw [hks]; exact tha_in hG _ _
  intro H locs ls h hS hl
  refine lv_iconst (v := 0) hx hb dL_law_638 (by decide) ?_
  rw [show (0 : Int32) = nI 0 from rfl]
  refine lv_istore (lv' := [(8, .int (nI 0)), (7, .ref wa), (6, .int sp), (5, .int (nI wide)), (4, .int (nI pc)), (3, .int (nI fan)), (2, .int (nI way)), (1, .ref (ad 0)), (0, .ref b0)]) hx hb dL_law_639 hl (by decide) rfl (fun ls hl => ?_)
  refine lv_aload_n hx hb dL_law_641 rfl (lv_at hl 7 rfl) ?_
  refine lv_iconst (v := -1) hx hb dL_law_642 (by decide) ?_
  obtain ⟨T6, p1, p2⟩ := next_eq hI (-1)
  refine lw_i hF (c_X6_next l D cy ad S (-1 : Int32) (by decide) (by decide)) (cwV 1 hL gl_112 rfl rfl rfl kk_X6_next ⟨Nat.le_of_ble_eq_true rfl, Nat.le_of_ble_eq_true rfl⟩) h hK hS hcs rfl hl.1 [] rfl (Nat.le_of_ble_eq_true rfl) dL_law_643 (fun r S1 H locs hq hq2 h hS => ?_)
  rw [p1] at hq hq2
  have hq : r = nxt ((tha K V ord (Hd ++ agz (RS L)) N).map K) (-1) := hq
  have f1 : fr [1, 17, 18] S S1 := (show fr [17, 18] S S1 by rw [hq2]; exact p2).mono (by decide)
  rw [← hks] at hq
  replace hq : r = kv ks 0 := hq.trans (nxt_first (fun k hk => by have := hin k hk; omega))
  subst hq
  refine lv_istore (lv' := [(9, .int (kv ks 0)), (8, .int (nI 0)), (7, .ref wa), (6, .int sp), (5, .int (nI wide)), (4, .int (nI pc)), (3, .int (nI fan)), (2, .int (nI way)), (1, .ref (ad 0)), (0, .ref b0)]) hx hb dL_law_646 hl (by decide) rfl (fun ls hl => ?_)
  refine law_nx hF hL hK hcs hG hwd hks (fun S2 H locs ls f2 h hS hl => ?_) (ks.length + 1) 0 (Nat.zero_le _) (by omega) S1 H locs ls f1 h hS (lv_sub hl [0, 1, 8] rfl)
  refine lv_iload hx hb dL_law_667 (lv_at hl 0 rfl) ?_
  refine lv_aload_n hx hb dL_law_669 rfl (lv_at hl 1 rfl) ?_
  obtain ⟨T3, k1, k2⟩ := keys_eq (hI.sc f2)
  refine lw_i hF (c_X6_keys l D cy ad S2) (cwV 0 hL gl_103 rfl rfl rfl kk_X6_keys ⟨Nat.le_of_ble_eq_true rfl, Nat.le_of_ble_eq_true rfl⟩) h hK hS hcs rfl hl.1 [.int (nI ks.length)] rfl (Nat.le_of_ble_eq_true rfl) dL_law_670 (fun r S3 H locs hq hq2 h hS => ?_)
  rw [k1] at hq hq2
  have hq : r = nI (tha K V ord (Hd ++ agz (RS L)) N).length := hq
  have f3 : fr [1, 17, 18] S S3 := f2.tr ((show fr [17, 18] S2 S3 by rw [hq2]; exact k2).mono (by decide))
  subst hq
  refine lv_icmp_ne (tgt := 705) hx hb dL_law_673 (by decide) (fun c0 => absurd (by rw [hks, List.length_map]) c0) (fun _ => ?_)
  have c3 : (S3.1 0).1 3 = nI N := by rw [f3.2 0 (by decide)]; exact hT
  have c5 : (S3.1 0).1 5 = nI d := by rw [f3.2 0 (by decide)]; exact t5
  obtain ⟨m1, m2, m3⟩ := amp_le (d := d) (n := N) (by omega) (by omega)
  refine lv_aload_n hx hb dL_law_676 rfl (lv_at hl 1 rfl) ?_
  refine lw_d hF (c_X6_amplification l D cy ad S3 c3 c5 (by omega) (by omega)) (cwV 0 hL gl_122 rfl rfl rfl kk_X6_amplification ⟨Nat.le_of_ble_eq_true rfl, Nat.le_of_ble_eq_true rfl⟩) h hK hS hcs rfl hl.1 [] rfl (Nat.le_of_ble_eq_true rfl) dL_law_677 (fun H locs h hS => ?_)
  refine lv_aload_n hx hb dL_law_680 rfl (lv_at hl 1 rfl) ?_
  refine lv_iconst (v := 3) hx hb dL_law_681 (by decide) ?_
  refine lw_ir hF (c_X6_counted l D cy ad S3 (3 : Int32) (by decide) (by decide)) (cwV 1 hL gl_23 rfl rfl rfl kk_X6_counted ⟨Nat.le_of_ble_eq_true rfl, Nat.le_of_ble_eq_true rfl⟩) h hK hS hcs rfl hl.1 [.double (ampl d N)] rfl (Nat.le_of_ble_eq_true rfl) dL_law_682 (fun r H locs hq h hS => ?_)
  replace hq := hq.trans ((counted_is 3 (by decide)).trans c3)
  subst hq
  refine lv_i2d hx hb dL_law_685 ?_
  refine lv_dmul hx hb dL_law_686 m1 ?_
  refine lv_aload_n hx hb dL_law_687 rfl (lv_at hl 1 rfl) ?_
  refine lv_iconst (v := 5) hx hb dL_law_688 (by decide) ?_
  refine lw_ir hF (c_X6_counted l D cy ad S3 (5 : Int32) (by decide) (by decide)) (cwV 1 hL gl_23 rfl rfl rfl kk_X6_counted ⟨Nat.le_of_ble_eq_true rfl, Nat.le_of_ble_eq_true rfl⟩) h hK hS hcs rfl hl.1 [.double (FP.dmul (ampl d N) (FP.i2d (nI N)))] rfl (Nat.le_of_ble_eq_true rfl) dL_law_689 (fun r H locs hq h hS => ?_)
  replace hq := hq.trans ((counted_is 5 (by decide)).trans c5)
  subst hq
  refine lv_i2d hx hb dL_law_692 ?_
  refine lv_ldc2d hx hb hown (hL _ ql_27) dL_law_693 ?_
  refine lv_dadd hx hb dL_law_696 m2 ?_
  refine lv_dcmp hx hb dL_law_697 ?_
  refine lv_if_gt (tgt := 705) hx hb dL_law_698 (by decide) (fun c0 => absurd c0 (m3)) (fun _ => ?_)
  refine lv_iconst (v := 1) hx hb dL_law_701 (by decide) ?_
  refine lv_goto (tgt := 706) hx hb dL_law_702 (by decide) ?_
  exact kk H locs ls hS
end SEG
