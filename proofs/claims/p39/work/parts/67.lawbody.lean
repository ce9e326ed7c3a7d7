/-! the law's body, piece by piece -/
section SEG
variable {p : Program} {l : Launch} {e : Env} {s : State} {m : MethodId} {args : Array Value} {below : List Frame} {meth : Method} {c : Code} {Q : State → Prop} {D : va_G} {cy : ClassId} {ad : Nat → Nat} {cells slots : Nat}
variable {S : cs_St} {way fan pc wide n b t : Nat} {sp : Int32} {f : Nat → Int32}
set_option maxHeartbeats 4000000 in
set_option maxRecDepth 100000 in
theorem law_w (hF : CallFix p m c cL_law 19 s args cs_WS RL) (hL : ∀ w ∈ cs_WL, w.before args s = true) (hK : cs_K D cy s) (hcs : cells ≤ room_1.cells ∧ slots ≤ room_1.slots)
    {wa b0 : Nat} {xv : Int32} {kk0 : Nat} {kd ky : Nat} (hkd : kd < 11) (hky : ky < wide) (hJ : J S way fan pc wide sp f n b t) (hn : n + 1 < 512) (hwd : wide ≤ 31)
    (kk : ∀ (S : cs_St) (H : Heap) (locs : List Loc) (ls : Array Slot), J S way fan pc wide sp f (n + 1) (b + 2000000) t → LW D cy ad S [yR cy wa wide f] (lA s) H → va_S (lA s) s.heap H locs → lv_has ls 19 [(11, .int (nI kd)), (10, .int (nI ky)), (9, .int xv), (8, .int (nI kk0)), (7, .ref wa), (6, .int sp), (5, .int (nI wide)), (4, .int (nI pc)), (3, .int (nI fan)), (2, .int (nI way)), (1, .ref (ad 0)), (0, .ref b0)] → W p l e room_1 s m args below meth c H locs cells slots Q (F0 m 269 ls [])) :
    ∀ (H : Heap) (locs : List Loc) (ls : Array Slot), LW D cy ad S [yR cy wa wide f] (lA s) H → va_S (lA s) s.heap H locs → lv_has ls 19 [(11, .int (nI kd)), (10, .int (nI ky)), (9, .int xv), (8, .int (nI kk0)), (7, .ref wa), (6, .int sp), (5, .int (nI wide)), (4, .int (nI pc)), (3, .int (nI fan)), (2, .int (nI way)), (1, .ref (ad 0)), (0, .ref b0)] → W p l e room_1 s m args below meth c H locs cells slots Q (F0 m 213 ls []) := by
  obtain ⟨hx, hb, hml, hown, hts⟩ := id hF
  intro H locs ls h hS hl
  refine lv_iload hx hb dL_law_213 (lv_at hl 0 rfl) ?_
  refine lv_bipush (v := 6) hx hb dL_law_215 (by decide) ?_
  refine lv_icmp_ge (tgt := 240) hx hb dL_law_217 (by decide) (fun c1 => ?_) (fun c1 => ?_)

  ·
    refine lv_iload hx hb dL_law_240 (lv_at hl 0 rfl) ?_
    refine lv_bipush (v := 8) hx hb dL_law_242 (by decide) ?_
    refine lv_icmp_ge (tgt := 257) hx hb dL_law_244 (by decide) (fun c2 => ?_) (fun c2 => ?_)
    ·
      refine lv_iload hx hb dL_law_257 (lv_at hl 0 rfl) ?_
      refine lv_bipush (v := 8) hx hb dL_law_259 (by decide) ?_
      refine lv_icmp_ne (tgt := 269) hx hb dL_law_261 (by decide) (fun c3 => ?_) (fun c3 => ?_)
      ·
        exact kk S H locs ls (hJ.mono (by omega) (by omega)) h hS hl
      ·
        refine lv_aload_n hx hb dL_law_264 rfl (lv_at hl 10 rfl) ?_
        refine lw_i hF (c_X6_flush l D cy ad S) (cwV 0 hL gl_75 rfl rfl rfl kk_X6_flush ⟨Nat.le_of_ble_eq_true rfl, Nat.le_of_ble_eq_true rfl⟩) h hK hS hcs rfl hl.1 [] rfl (Nat.le_of_ble_eq_true rfl) dL_law_265 (fun r S1 H locs hq hq2 h hS => ?_)
        refine lv_pop hx hb dL_law_268 rfl ?_
        exact kk S1 H locs ls ((hJ.flush (hq2.trans (flush_is S))).mono (by omega) (Nat.le_refl _)) h hS hl
    ·
      refine lv_aload_n hx hb dL_law_247 rfl (lv_at hl 10 rfl) ?_
      refine lv_iload hx hb dL_law_248 (lv_at hl 1 rfl) ?_
      refine lw_i hF (c_X6_remove l D cy ad S (nI ky) (nI_pos (by omega)) (nI_le (show ky ≤ 9999 by omega) (by decide))) (cwV 1 hL gl_72 rfl rfl rfl kk_X6_remove ⟨Nat.le_of_ble_eq_true rfl, Nat.le_of_ble_eq_true rfl⟩) h hK hS hcs rfl hl.1 [] rfl (Nat.le_of_ble_eq_true rfl) dL_law_250 (fun r S1 H locs hq hq2 h hS => ?_)
      refine lv_pop hx hb dL_law_253 rfl ?_
      refine lv_goto (tgt := 269) hx hb dL_law_254 (by decide) ?_
      exact kk S1 H locs ls (hJ.write hky (by omega) hn (Or.inl rfl) (hq2.trans (remove_is S (nI ky)))) h hS hl
  ·
    refine lv_aload_n hx hb dL_law_220 rfl (lv_at hl 10 rfl) ?_
    refine lv_iload hx hb dL_law_221 (lv_at hl 1 rfl) ?_
    refine lv_iload hx hb dL_law_223 (lv_at hl 2 rfl) ?_
    refine lv_iconst (v := 4) hx hb dL_law_225 (by decide) ?_
    refine lv_ishr hx hb dL_law_226 ?_
    refine lv_topi (fun xs _ => ?_)
    refine lv_sipush (v := 10000) hx hb dL_law_227 (by decide) ?_
    rw [show (10000 : Int32) = nI 10000 from rfl]
    refine lw_s hF (c_L_below l D cy ad S xs 10000 (by omega) (by omega)) (va_cwS 2 hL gl_53 rfl rfl rfl kk_L_below ⟨Nat.le_of_ble_eq_true rfl, Nat.le_of_ble_eq_true rfl⟩) (lw_preS h hK) h hS hcs rfl hl.1 [.int (nI ky), .ref (ad 0)] rfl (Nat.le_of_ble_eq_true rfl) dL_law_230 (fun r Sx H locs hq h hS => ?_)
    rw [hq.2] at h
    obtain ⟨⟨j, hj, hjq⟩, -⟩ := hq
    subst hjq
    refine lw_i hF (c_X6_put l D cy ad S (nI ky) (nI j) (nI_pos (by omega)) (nI_le (show ky ≤ 9999 by omega) (by decide)) (nI_pos (by omega)) (nI_le (show j ≤ 9999 by omega) (by decide))) (cwV 2 hL gl_69 rfl rfl rfl kk_X6_put ⟨Nat.le_of_ble_eq_true rfl, Nat.le_of_ble_eq_true rfl⟩) h hK hS hcs rfl hl.1 [] rfl (Nat.le_of_ble_eq_true rfl) dL_law_233 (fun r S1 H locs hq hq2 h hS => ?_)
    refine lv_pop hx hb dL_law_236 rfl ?_
    refine lv_goto (tgt := 269) hx hb dL_law_237 (by decide) ?_
    exact kk S1 H locs ls (hJ.write hky (by omega) hn (Or.inr (nI_le (a := 0) (Nat.zero_le _) (by omega))) (hq2.trans (put_is S (nI ky) (nI j)))) h hS hl
set_option maxHeartbeats 4000000 in
set_option maxRecDepth 100000 in
theorem law_sn (hF : CallFix p m c cL_law 19 s args cs_WS RL) (hL : ∀ w ∈ cs_WL, w.before args s = true) (hK : cs_K D cy s) (hcs : cells ≤ room_1.cells ∧ slots ≤ room_1.slots)
    {wa b0 : Nat} {xv : Int32} {kk0 : Nat} {kd : Nat} {ky : Int32} (hkd : kd < 11) (hJ : J S way fan pc wide sp f n b t) (hwd : wide ≤ 31) (ht : t < 1000)
    (kk : ∀ (S : cs_St) (sp : Int32) (f : Nat → Int32) (t' : Nat) (H : Heap) (locs : List Loc) (ls : Array Slot), J S way fan pc wide sp f n (b + 20000) t' → t' ≤ t + 1 → LW D cy ad S [yR cy wa wide f] (lA s) H → va_S (lA s) s.heap H locs → lv_has ls 19 [(11, .int (nI kd)), (10, .int ky), (9, .int xv), (8, .int (nI kk0)), (7, .ref wa), (6, .int sp), (5, .int (nI wide)), (4, .int (nI pc)), (3, .int (nI fan)), (2, .int (nI way)), (1, .ref (ad 0)), (0, .ref b0)] → W p l e room_1 s m args below meth c H locs cells slots Q (F0 m 368 ls [])) :
    ∀ (H : Heap) (locs : List Loc) (ls : Array Slot), LW D cy ad S [yR cy wa wide f] (lA s) H → va_S (lA s) s.heap H locs → lv_has ls 19 [(11, .int (nI kd)), (10, .int ky), (9, .int xv), (8, .int (nI kk0)), (7, .ref wa), (6, .int sp), (5, .int (nI wide)), (4, .int (nI pc)), (3, .int (nI fan)), (2, .int (nI way)), (1, .ref (ad 0)), (0, .ref b0)] → W p l e room_1 s m args below meth c H locs cells slots Q (F0 m 269 ls []) := by
  obtain ⟨hx, hb, hml, hown, hts⟩ := id hF
  intro H locs ls h hS hl
  refine lv_iload hx hb dL_law_269 (lv_at hl 0 rfl) ?_
  refine lv_bipush (v := 9) hx hb dL_law_271 (by decide) ?_
  refine lv_icmp_ne (tgt := 317) hx hb dL_law_273 (by decide) (fun c1 => ?_) (fun c1 => ?_)
  ·
    refine lv_iload hx hb dL_law_317 (lv_at hl 0 rfl) ?_
    refine lv_bipush (v := 9) hx hb dL_law_319 (by decide) ?_
    refine lv_icmp_ne (tgt := 368) hx hb dL_law_321 (by decide) (fun _ => ?_) (fun c0 => absurd c0 (c1))
    exact kk S sp f t H locs ls (hJ.mono (Nat.le_refl _) (by omega)) (by omega) h hS (lv_sub hl [0, 1, 2, 3, 4, 5, 6, 7, 8, 9, 10, 11] rfl)
  ·
    refine lv_iload hx hb dL_law_276 (lv_at hl 5 rfl) ?_
    refine lv_if_ge (tgt := 317) hx hb dL_law_278 (by decide) (fun c2 => ?_) (fun c2 => ?_)
    ·
      refine lv_iload hx hb dL_law_317 (lv_at hl 0 rfl) ?_
      refine lv_bipush (v := 9) hx hb dL_law_319 (by decide) ?_
      refine lv_icmp_ne (tgt := 368) hx hb dL_law_321 (by decide) (fun c0 => absurd (c1) c0) (fun _ => ?_)
      obtain ⟨N, K, V, ord, L, sn, Hd, Wr, sf, hG, hV, hN, h8, hs⟩ := hJ
      rcases hs with ⟨a1, a2, a3⟩ | ⟨s0, t0, a1, a2, a3, a4, a5⟩
      · exact absurd c2 (by rw [a2]; decide)
      subst a1
      refine lv_iconst (v := 0) hx hb dL_law_324 (by decide) ?_
      rw [show (0 : Int32) = nI 0 from rfl]
      refine lv_istore (lv' := [(12, .int (nI 0)), (11, .int (nI kd)), (10, .int ky), (9, .int xv), (8, .int (nI kk0)), (7, .ref wa), (6, .int sp), (5, .int (nI wide)), (4, .int (nI pc)), (3, .int (nI fan)), (2, .int (nI way)), (1, .ref (ad 0)), (0, .ref b0)]) hx hb dL_law_325 hl (by decide) rfl (fun ls hl => ?_)
      refine law_at hF hL hK hcs (S0 := S) (s0 := s0) a4 hwd (b := b) (fun S2 f2 H locs ls hinv h hS hl => ?_) (wide + 1) 0 (Nat.zero_le _) (by omega) S f H locs ls ⟨hG.mono (by omega), fr.rf, a5⟩ h hS (lv_sub hl [0, 1, 2, 3, 4, 5, 6, 7, 8, 9, 10, 11, 12] rfl)
      have h82 : LV (S2.1 8) [sp] := by rw [hinv.2.1.2 8 (by decide)]; exact a4
      refine lv_aload_n hx hb dL_law_358 rfl (lv_at hl 10 rfl) ?_
      refine lv_iload hx hb dL_law_359 (lv_at hl 5 rfl) ?_
      refine lw_i hF (c_X6_release l D cy ad S2 sp (by rw [place0 h82]; decide)) (cwV 1 hL gl_87 rfl rfl rfl kk_X6_release ⟨Nat.le_of_ble_eq_true rfl, Nat.le_of_ble_eq_true rfl⟩) h hK hS hcs rfl hl.1 [] rfl (Nat.le_of_ble_eq_true rfl) dL_law_361 (fun r S3 H locs hq hq2 h hS => ?_)
      refine lv_pop hx hb dL_law_364 rfl ?_
      refine lv_iconst (v := -1) hx hb dL_law_365 (by decide) ?_
      refine lv_istore (lv' := [(6, .int (-1)), (11, .int (nI kd)), (10, .int ky), (9, .int xv), (8, .int (nI kk0)), (7, .ref wa), (5, .int (nI wide)), (4, .int (nI pc)), (3, .int (nI fan)), (2, .int (nI way)), (1, .ref (ad 0)), (0, .ref b0)]) hx hb dL_law_366 hl (by decide) rfl (fun ls hl => ?_)
      obtain ⟨H3, e1, e2, e3⟩ := op_release hinv.1 h82
      rw [← hq2] at e1 e2 e3
      exact kk S3 (-1) f2 t H locs ls ⟨N, K, V, ord, L, [], H3, Wr, sf, e1.mono (by omega), hV, hN, by rw [e3, hinv.2.1.1]; exact h8, Or.inl ⟨rfl, rfl, e2⟩⟩ (by omega) h hS (lv_sub hl [1, 2, 3, 4, 5, 0, 6, 7, 8, 9, 10, 11] rfl)
    ·
      obtain ⟨N, K, V, ord, L, sn, Hd, Wr, sf, hG, hV, hN, h8, hs⟩ := hJ
      obtain ⟨a1, a2, a3⟩ : sn = [] ∧ sp = -1 ∧ LV (S.1 8) [] := by
        rcases hs with z | ⟨s0, t0, a1, a2, a3, a4, a5⟩
        · exact z
        · exact absurd (by rw [a2]; exact nI_not_neg a3) c2
      subst a1
      obtain ⟨e1, e2, e3, e4⟩ := op_snap hG a3
      refine lv_aload_n hx hb dL_law_281 rfl (lv_at hl 10 rfl) ?_
      refine lw_i hF (c_X6_snap l D cy ad S (by rw [there0 a3]; decide)) (cwV 0 hL gl_78 rfl rfl rfl kk_X6_snap ⟨Nat.le_of_ble_eq_true rfl, Nat.le_of_ble_eq_true rfl⟩) h hK hS hcs rfl hl.1 [] rfl (Nat.le_of_ble_eq_true rfl) dL_law_282 (fun r S3 H locs hq hq2 h hS => ?_)
      rw [← hq2] at e2 e3 e4
      replace hq := hq.trans (e1.trans h8)
      subst hq
      rw [h8] at e3 e4
      refine lv_istore (lv' := [(6, .int (nI t)), (11, .int (nI kd)), (10, .int ky), (9, .int xv), (8, .int (nI kk0)), (7, .ref wa), (5, .int (nI wide)), (4, .int (nI pc)), (3, .int (nI fan)), (2, .int (nI way)), (1, .ref (ad 0)), (0, .ref b0)]) hx hb dL_law_285 hl (by decide) rfl (fun ls hl => ?_)
      refine lv_iconst (v := 0) hx hb dL_law_287 (by decide) ?_
      rw [show (0 : Int32) = nI 0 from rfl]
      refine lv_istore (lv' := [(12, .int (nI 0)), (6, .int (nI t)), (11, .int (nI kd)), (10, .int ky), (9, .int xv), (8, .int (nI kk0)), (7, .ref wa), (5, .int (nI wide)), (4, .int (nI pc)), (3, .int (nI fan)), (2, .int (nI way)), (1, .ref (ad 0)), (0, .ref b0)]) hx hb dL_law_288 hl (by decide) rfl (fun ls hl => ?_)
      refine law_fill hF hL hK hcs (S0 := S3) hwd (b := b) (fun S2 f2 H locs ls hinv h hS hl => ?_) (wide + 1) 0 (Nat.zero_le _) (by omega) S3 f H locs ls ⟨e2.mono (by omega), fr.rf, fun q hq5 => absurd hq5 (Nat.not_lt_zero q)⟩ h hS (lv_sub hl [0, 2, 3, 4, 5, 6, 1, 7, 8, 9, 10, 11, 12] rfl)
      refine lv_goto (tgt := 368) hx hb dL_law_314 (by decide) ?_
      exact kk S2 (nI t) f2 (t + 1) H locs ls ⟨N, K, V, ord, L, [N], Hd, Wr, sf, hinv.1.mono (by omega), hV, hN, by rw [hinv.2.1.1, e4, nI_1], Or.inr ⟨N, t, rfl, rfl, ht, by rw [hinv.2.1.2 8 (by decide)]; exact e3, hinv.2.2⟩⟩ (Nat.le_refl _) h hS hl
set_option maxHeartbeats 4000000 in
set_option maxRecDepth 100000 in
theorem law_c (hF : CallFix p m c cL_law 19 s args cs_WS RL) (hL : ∀ w ∈ cs_WL, w.before args s = true) (hK : cs_K D cy s) (hcs : cells ≤ room_1.cells ∧ slots ≤ room_1.slots)
    {wa b0 : Nat} {xv : Int32} {kk0 : Nat} {kd : Nat} {ky : Int32} (hA : (Cond.arrayClass .int).before args s = true) (hkd : kd < 11) (hJ : J S way fan pc wide sp f n b t) (hwd : wide ≤ 31) (hc1 : cells + 1 ≤ room_1.cells ∧ slots + 31 ≤ room_1.slots)
    (kk : ∀ (S : cs_St) (sp : Int32) (f : Nat → Int32) (cells' slots' : Nat) (H : Heap) (locs : List Loc) (ls : Array Slot), J S way fan pc wide sp f n (b + 20000) t → cells' ≤ cells + 1 → slots' ≤ slots + 31 → LW D cy ad S [yR cy wa wide f] (lA s) H → va_S (lA s) s.heap H locs → lv_has ls 19 [(11, .int (nI kd)), (10, .int ky), (9, .int xv), (8, .int (nI kk0)), (7, .ref wa), (6, .int sp), (5, .int (nI wide)), (4, .int (nI pc)), (3, .int (nI fan)), (2, .int (nI way)), (1, .ref (ad 0)), (0, .ref b0)] → W p l e room_1 s m args below meth c H locs cells' slots' Q (F0 m 448 ls [])) :
    ∀ (H : Heap) (locs : List Loc) (ls : Array Slot), LW D cy ad S [yR cy wa wide f] (lA s) H → va_S (lA s) s.heap H locs → lv_has ls 19 [(11, .int (nI kd)), (10, .int ky), (9, .int xv), (8, .int (nI kk0)), (7, .ref wa), (6, .int sp), (5, .int (nI wide)), (4, .int (nI pc)), (3, .int (nI fan)), (2, .int (nI way)), (1, .ref (ad 0)), (0, .ref b0)] → W p l e room_1 s m args below meth c H locs cells slots Q (F0 m 368 ls []) := by
  obtain ⟨hx, hb, hml, hown, hts⟩ := id hF
  intro H locs ls h hS hl
  refine lv_iload hx hb dL_law_368 (lv_at hl 0 rfl) ?_
  refine lv_bipush (v := 10) hx hb dL_law_370 (by decide) ?_
  refine lv_icmp_ne (tgt := 448) hx hb dL_law_372 (by decide) (fun c1 => ?_) (fun c1 => ?_)
  ·
    exact kk S sp f cells slots H locs ls (hJ.mono (Nat.le_refl _) (by omega)) (by omega) (by omega) h hS hl
  ·
    refine lv_iload hx hb dL_law_375 (lv_at hl 6 rfl) ?_
    obtain ⟨N, K, V, ord, L, sn, Hd, Wr, sf, hG, hV, hN, h8, hs⟩ := hJ
    obtain ⟨nu, hnu⟩ : ∃ nu, LV (S.1 8) nu := by
      rcases hs with ⟨-, -, z⟩ | ⟨-, -, -, -, -, z, -⟩
      · exact ⟨_, z⟩
      · exact ⟨_, z⟩
    refine lw_new (n := wide) hF hA hK h hS (fun q z => z) (by omega) (by omega) (by omega) dL_law_377 (fun sa H h hS => ?_)
    replace h : LW D cy ad S [yR cy wa wide f, yR cy sa wide (fun _ => 0)] (lA s) H := h
    have hcs : cells + 1 ≤ room_1.cells ∧ slots + wide ≤ room_1.slots := by omega
    refine lv_astore (lv' := [(12, .ref sa), (11, .int (nI kd)), (10, .int ky), (9, .int xv), (8, .int (nI kk0)), (7, .ref wa), (6, .int sp), (5, .int (nI wide)), (4, .int (nI pc)), (3, .int (nI fan)), (2, .int (nI way)), (1, .ref (ad 0)), (0, .ref b0)]) hx hb dL_law_379 hl (by decide) rfl (fun ls hl => ?_)
    refine lv_iconst (v := 0) hx hb dL_law_381 (by decide) ?_
    rw [show (0 : Int32) = nI 0 from rfl]
    refine lv_istore (lv' := [(13, .int (nI 0)), (12, .ref sa), (11, .int (nI kd)), (10, .int ky), (9, .int xv), (8, .int (nI kk0)), (7, .ref wa), (6, .int sp), (5, .int (nI wide)), (4, .int (nI pc)), (3, .int (nI fan)), (2, .int (nI way)), (1, .ref (ad 0)), (0, .ref b0)]) hx hb dL_law_382 hl (by decide) rfl (fun ls hl => ?_)
    refine law_safe hF hL hK hcs (S0 := S) (sa := sa) (g0 := f) hwd (b := b) (fun S2 f2 H locs ls hinv h hS hl => ?_) (wide + 1) 0 (Nat.zero_le _) (by omega) S (fun _ => 0) H locs ls ⟨hG, fr.rf, fun q hq5 => absurd hq5 (Nat.not_lt_zero q)⟩ h hS (lv_sub hl [0, 1, 2, 3, 4, 5, 6, 7, 8, 9, 10, 11, 12, 13] rfl)
    obtain ⟨H3, e1, e2, e3, e4⟩ := op_crash hinv.1 (nu := nu) (by rw [hinv.2.1.2 8 (by decide)]; exact hnu)
    refine lv_aload_n hx hb dL_law_408 rfl (lv_at hl 11 rfl) ?_
    refine lw_i hF (c_X6_crash l D cy ad S2) (cwV 0 hL gl_93 rfl rfl rfl kk_X6_crash ⟨Nat.le_of_ble_eq_true rfl, Nat.le_of_ble_eq_true rfl⟩) h hK hS hcs rfl hl.1 [] rfl (Nat.le_of_ble_eq_true rfl) dL_law_409 (fun r S3 H locs hq hq2 h hS => ?_)
    refine lv_pop hx hb dL_law_412 rfl ?_
    rw [← hq2] at e1 e2 e3
    refine lv_iconst (v := 0) hx hb dL_law_413 (by decide) ?_
    rw [show (0 : Int32) = nI 0 from rfl]
    refine lv_istore (lv' := [(13, .int (nI 0)), (12, .ref sa), (11, .int (nI kd)), (10, .int ky), (9, .int xv), (8, .int (nI kk0)), (7, .ref wa), (6, .int sp), (5, .int (nI wide)), (4, .int (nI pc)), (3, .int (nI fan)), (2, .int (nI way)), (1, .ref (ad 0)), (0, .ref b0)]) hx hb dL_law_414 hl (by decide) rfl (fun ls hl => ?_)
    refine law_back hF hL hK hcs (S0 := S3) (sa := sa) (g0 := f) hwd (b := b) (fun S4 f4 H locs ls hinv4 h hS hl => ?_) (wide + 1) 0 (Nat.zero_le _) (by omega) S3 f2 H locs ls ⟨e1.mono (by omega), fr.rf, fun q hq5 => (hinv.2.2 q hq5).trans (e4 q).symm⟩ h hS (lv_sub hl [0, 1, 2, 3, 4, 5, 6, 7, 8, 9, 10, 11, 12, 13] rfl)
    refine lv_iconst (v := -1) hx hb dL_law_445 (by decide) ?_
    refine lv_istore (lv' := [(6, .int (-1)), (12, .ref sa), (11, .int (nI kd)), (10, .int ky), (9, .int xv), (8, .int (nI kk0)), (7, .ref wa), (5, .int (nI wide)), (4, .int (nI pc)), (3, .int (nI fan)), (2, .int (nI way)), (1, .ref (ad 0)), (0, .ref b0)]) hx hb dL_law_446 hl (by decide) rfl (fun ls hl => ?_)
    exact kk S4 (-1) f (cells + 1) (slots + wide) H locs ls ⟨N, K, V, ord, L, [], H3, _, sf, hinv4.1.mono (by omega), hV, hN, by rw [hinv4.2.1.1, e3, hinv.2.1.1]; exact h8, Or.inl ⟨rfl, rfl, by rw [hinv4.2.1.2 8 (by decide)]; exact e2⟩⟩ (Nat.le_refl _) (by omega) (h.take 1) hS (lv_sub hl [2, 3, 4, 5, 6, 0, 7, 8, 9, 10, 11, 12] rfl)
end SEG
