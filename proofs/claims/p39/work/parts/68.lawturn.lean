/-! the law's body: the checks of a turn, and the loop of its turns -/
theorem would_is (S : cs_St) (a : Int32) : m_X6_wouldSave S a = m_X6_planPack S a := by rw [m_X6_wouldSave]; simp only [cs_lx]
theorem cmp_self (x : Int64) : lg_cmp x x = 0 := by
  unfold lg_cmp
  simp
theorem RS_len (L : Nat → List Run) : (RS L).length = (L 0).length + (L 1).length + (L 2).length + (L 3).length := by
  show (pre L 4).length = _
  rw [show (4 : Nat) = 3 + 1 from rfl, pre_succ, show (3 : Nat) = 2 + 1 from rfl, pre_succ, show (2 : Nat) = 1 + 1 from rfl, pre_succ, show (1 : Nat) = 0 + 1 from rfl, pre_succ]
  simp [pre]
  omega
theorem tpk_len (L : Nat → List Run) (way lv : Nat) : (tpk L way lv).length ≤ (agz (RS L)).length := by unfold tpk; rw [List.length_drop]; omega
section SEG
variable {p : Program} {l : Launch} {e : Env} {s : State} {m : MethodId} {args : Array Value} {below : List Frame} {meth : Method} {c : Code} {Q : State → Prop} {D : va_G} {cy : ClassId} {ad : Nat → Nat} {cells slots : Nat}
variable {S : cs_St} {N : Nat} {K : Nat → Nat} {V : Nat → Int32} {ord : List Nat} {L : Nat → List Run} {sn Hd Wr : List Nat} {sf way fan pc wide n b t : Nat} {sp : Int32} {f : Nat → Int32}
set_option maxHeartbeats 4000000 in
set_option maxRecDepth 100000 in
theorem law_ck {S0 : cs_St} (hS0 : S0 = S) (hF : CallFix p m c cL_law 19 s args cs_WS RL) (hL : ∀ w ∈ cs_WL, w.before args s = true) (hK : cs_K D cy s) (hcs : cells ≤ room_1.cells ∧ slots ≤ room_1.slots)
    {wa b0 : Nat} {xv : Int32} {kk0 : Nat} {kd : Int32} {ky : Nat} (hky : ky < wide) (hw2 : 2 ≤ wide) (hwd : wide ≤ 31) (hG : Gd S N K V ord L sn Hd Wr sf way fan pc wide b)
    (kk : ∀ (S : cs_St) (lv : Nat) (H : Heap) (locs : List Loc) (ls : Array Slot), Gd S N K V ord L sn Hd Wr sf way fan pc wide b → lv < 4 → fr [1, 17, 18] S0 S → LW D cy ad S [yR cy wa wide f] (lA s) H → va_S (lA s) s.heap H locs → lv_has ls 19 [(18, .int (((tha K V ord (Hd ++ agz (RS L)) N).map V).foldl (· + ·) 0)), (17, .int (nI (tha K V ord (Hd ++ agz (RS L)) N).length)), (16, .int (nI (agz (RS L)).length)), (15, .int (nI ((tpk L way lv).length - (mgl K V sn ord (tpk L way lv) []).length))), (12, .int (nI lv)), (11, .int kd), (10, .int (nI ky)), (9, .int xv), (8, .int (nI kk0)), (7, .ref wa), (6, .int sp), (5, .int (nI wide)), (4, .int (nI pc)), (3, .int (nI fan)), (2, .int (nI way)), (1, .ref (ad 0)), (0, .ref b0)] → W p l e room_1 s m args below meth c H locs cells slots Q (F0 m 560 ls [])) :
    ∀ (H : Heap) (locs : List Loc) (ls : Array Slot), LW D cy ad S [yR cy wa wide f] (lA s) H → va_S (lA s) s.heap H locs → lv_has ls 19 [(11, .int kd), (10, .int (nI ky)), (9, .int xv), (8, .int (nI kk0)), (7, .ref wa), (6, .int sp), (5, .int (nI wide)), (4, .int (nI pc)), (3, .int (nI fan)), (2, .int (nI way)), (1, .ref (ad 0)), (0, .ref b0)] → W p l e room_1 s m args below meth c H locs cells slots Q (F0 m 448 ls []) := by
  obtain ⟨hx, hb, hml, hown, hts⟩ := id hF
  have hI := hG.1
  intro H locs ls h hS hl
  rw [hS0] at kk
  refine lv_iload hx hb dL_law_448 (lv_at hl 2 rfl) ?_
  refine lv_iconst (v := 3) hx hb dL_law_450 (by decide) ?_
  refine lv_ishr hx hb dL_law_451 ?_
  refine lv_topi (fun xs _ => ?_)
  refine lv_iconst (v := 4) hx hb dL_law_452 (by decide) ?_
  rw [show (4 : Int32) = nI 4 from rfl]
  refine lw_s hF (c_L_below l D cy ad S xs 4 (by omega) (by omega)) (va_cwS 2 hL gl_53 rfl rfl rfl kk_L_below ⟨Nat.le_of_ble_eq_true rfl, Nat.le_of_ble_eq_true rfl⟩) (lw_preS h hK) h hS hcs rfl hl.1 [] rfl (Nat.le_of_ble_eq_true rfl) dL_law_453 (fun r Sx H locs hq h hS => ?_)
  rw [hq.2] at h
  obtain ⟨⟨lv, hlv, hjq⟩, -⟩ := hq
  subst hjq
  refine lv_istore (lv' := [(12, .int (nI lv)), (11, .int kd), (10, .int (nI ky)), (9, .int xv), (8, .int (nI kk0)), (7, .ref wa), (6, .int sp), (5, .int (nI wide)), (4, .int (nI pc)), (3, .int (nI fan)), (2, .int (nI way)), (1, .ref (ad 0)), (0, .ref b0)]) hx hb dL_law_456 hl (by decide) rfl (fun ls hl => ?_)
  have hlv4 : lv < 4 := hlv
  have hlen := hI.1.1.2.1.2.2.2.2.2.2.2.1
  have hpl : ((tpk L way lv).length - (mgl K V sn ord (tpk L way lv) []).length) ≤ (agz (RS L)).length := by have := tpk_len L way lv; omega
  refine lv_aload_n hx hb dL_law_458 rfl (lv_at hl 11 rfl) ?_
  refine lw_l hF (c_X6_digest l D cy ad S) (cwV 0 hL gl_96 rfl rfl rfl kk_X6_digest ⟨Nat.le_of_ble_eq_true rfl, Nat.le_of_ble_eq_true rfl⟩) h hK hS hcs rfl hl.1 [] rfl (Nat.le_of_ble_eq_true rfl) dL_law_459 (fun dg S1 H locs hq hq2 h hS => ?_)
  obtain ⟨-, d2⟩ := digest_eq hI (S' := S) fr.rf
  rw [← hq2] at d2
  have hdg := hq
  have f1 : fr [1, 17, 18] S S1 := d2.mono (by decide)
  refine lv_lstore (lv' := [(13, .long dg), (12, .int (nI lv)), (11, .int kd), (10, .int (nI ky)), (9, .int xv), (8, .int (nI kk0)), (7, .ref wa), (6, .int sp), (5, .int (nI wide)), (4, .int (nI pc)), (3, .int (nI fan)), (2, .int (nI way)), (1, .ref (ad 0)), (0, .ref b0)]) hx hb dL_law_462 hl (by decide) rfl (fun ls hl => ?_)
  refine lv_aload_n hx hb dL_law_464 rfl (lv_at hl 12 rfl) ?_
  refine lv_iload hx hb dL_law_465 (lv_at hl 1 rfl) ?_
  obtain ⟨T2, p1, p2, -⟩ := plan_eq (hI.sc f1) hlv4
  refine lw_i hF (c_X6_wouldSave l D cy ad S1 (nI lv) (nI_pos (by omega)) (lt4 hlv4)) (cwV 1 hL gl_100 rfl rfl rfl kk_X6_wouldSave ⟨Nat.le_of_ble_eq_true rfl, Nat.le_of_ble_eq_true rfl⟩) h hK hS hcs rfl hl.1 [] rfl (Nat.le_of_ble_eq_true rfl) dL_law_467 (fun r S2 H locs hq hq2 h hS => ?_)
  rw [would_is, p1] at hq hq2
  have hq : r = nI ((tpk L way lv).length - (mgl K V sn ord (tpk L way lv) []).length) := hq
  have f2 : fr [1, 17, 18] S S2 := f1.tr ((show fr [17, 18] S1 S2 by rw [hq2]; exact p2).mono (by decide))
  subst hq
  refine lv_istore (lv' := [(15, .int (nI ((tpk L way lv).length - (mgl K V sn ord (tpk L way lv) []).length))), (13, .long dg), (12, .int (nI lv)), (11, .int kd), (10, .int (nI ky)), (9, .int xv), (8, .int (nI kk0)), (7, .ref wa), (6, .int sp), (5, .int (nI wide)), (4, .int (nI pc)), (3, .int (nI fan)), (2, .int (nI way)), (1, .ref (ad 0)), (0, .ref b0)]) hx hb dL_law_470 hl (by decide) rfl (fun ls hl => ?_)
  refine lv_aload_n hx hb dL_law_472 rfl (lv_at hl 13 rfl) ?_
  refine lw_ir hF (c_X6_entries l D cy ad S2) (cwV 0 hL gl_30 rfl rfl rfl kk_X6_entries ⟨Nat.le_of_ble_eq_true rfl, Nat.le_of_ble_eq_true rfl⟩) h hK hS hcs rfl hl.1 [] rfl (Nat.le_of_ble_eq_true rfl) dL_law_473 (fun r H locs hq h hS => ?_)
  replace hq := hq.trans (entries_is (hI.sc f2))
  subst hq
  refine lv_istore (lv' := [(16, .int (nI (agz (RS L)).length)), (15, .int (nI ((tpk L way lv).length - (mgl K V sn ord (tpk L way lv) []).length))), (13, .long dg), (12, .int (nI lv)), (11, .int kd), (10, .int (nI ky)), (9, .int xv), (8, .int (nI kk0)), (7, .ref wa), (6, .int sp), (5, .int (nI wide)), (4, .int (nI pc)), (3, .int (nI fan)), (2, .int (nI way)), (1, .ref (ad 0)), (0, .ref b0)]) hx hb dL_law_476 hl (by decide) rfl (fun ls hl => ?_)
  refine lv_aload_n hx hb dL_law_478 rfl (lv_at hl 14 rfl) ?_
  obtain ⟨T3, p1, p2⟩ := keys_eq (hI.sc f2)
  refine lw_i hF (c_X6_keys l D cy ad S2) (cwV 0 hL gl_103 rfl rfl rfl kk_X6_keys ⟨Nat.le_of_ble_eq_true rfl, Nat.le_of_ble_eq_true rfl⟩) h hK hS hcs rfl hl.1 [] rfl (Nat.le_of_ble_eq_true rfl) dL_law_479 (fun r S3 H locs hq hq2 h hS => ?_)
  rw [p1] at hq hq2
  have hq : r = nI (tha K V ord (Hd ++ agz (RS L)) N).length := hq
  have f3 : fr [1, 17, 18] S S3 := f2.tr ((show fr [17, 18] S2 S3 by rw [hq2]; exact p2).mono (by decide))
  subst hq
  refine lv_istore (lv' := [(17, .int (nI (tha K V ord (Hd ++ agz (RS L)) N).length)), (16, .int (nI (agz (RS L)).length)), (15, .int (nI ((tpk L way lv).length - (mgl K V sn ord (tpk L way lv) []).length))), (13, .long dg), (12, .int (nI lv)), (11, .int kd), (10, .int (nI ky)), (9, .int xv), (8, .int (nI kk0)), (7, .ref wa), (6, .int sp), (5, .int (nI wide)), (4, .int (nI pc)), (3, .int (nI fan)), (2, .int (nI way)), (1, .ref (ad 0)), (0, .ref b0)]) hx hb dL_law_482 hl (by decide) rfl (fun ls hl => ?_)
  refine lv_aload_n hx hb dL_law_484 rfl (lv_at hl 15 rfl) ?_
  refine lv_iconst (v := 0) hx hb dL_law_485 (by decide) ?_
  refine lv_sipush (v := 9999) hx hb dL_law_486 (by decide) ?_
  obtain ⟨T4, p1, p2⟩ := sum_eq (hI.sc f3)
  refine lw_i hF (c_X6_sum l D cy ad S3 (0 : Int32) (9999 : Int32) (by decide) (by decide) (by decide) (by decide)) (cwV 2 hL gl_106 rfl rfl rfl kk_X6_sum ⟨Nat.le_of_ble_eq_true rfl, Nat.le_of_ble_eq_true rfl⟩) h hK hS hcs rfl hl.1 [] rfl (Nat.le_of_ble_eq_true rfl) dL_law_489 (fun r S4 H locs hq hq2 h hS => ?_)
  rw [p1] at hq hq2
  have hq : r = ((tha K V ord (Hd ++ agz (RS L)) N).map V).foldl (· + ·) 0 := hq
  have f4 : fr [1, 17, 18] S S4 := f3.tr ((show fr [17, 18] S3 S4 by rw [hq2]; exact p2).mono (by decide))
  subst hq
  refine lv_istore (lv' := [(18, .int (((tha K V ord (Hd ++ agz (RS L)) N).map V).foldl (· + ·) 0)), (17, .int (nI (tha K V ord (Hd ++ agz (RS L)) N).length)), (16, .int (nI (agz (RS L)).length)), (15, .int (nI ((tpk L way lv).length - (mgl K V sn ord (tpk L way lv) []).length))), (13, .long dg), (12, .int (nI lv)), (11, .int kd), (10, .int (nI ky)), (9, .int xv), (8, .int (nI kk0)), (7, .ref wa), (6, .int sp), (5, .int (nI wide)), (4, .int (nI pc)), (3, .int (nI fan)), (2, .int (nI way)), (1, .ref (ad 0)), (0, .ref b0)]) hx hb dL_law_492 hl (by decide) rfl (fun ls hl => ?_)
  refine lv_iload hx hb dL_law_494 (lv_at hl 3 rfl) ?_
  refine lv_if_lt (tgt := 558) hx hb dL_law_496 (by decide) (fun c0 => absurd c0 (nI_pos (by omega))) (fun _ => ?_)
  refine lv_iload hx hb dL_law_499 (lv_at hl 3 rfl) ?_
  refine lv_iload hx hb dL_law_501 (lv_at hl 2 rfl) ?_
  refine lv_icmp_gt (tgt := 558) hx hb dL_law_503 (by decide) (fun c0 => absurd c0 (nI_nlt hpl (by omega))) (fun _ => ?_)
  refine lv_aload_n hx hb dL_law_506 rfl (lv_at hl 16 rfl) ?_
  refine lv_iload hx hb dL_law_507 (lv_at hl 7 rfl) ?_
  obtain ⟨T5, cc0, p1, p2, p3⟩ := cost_eq (hI.sc f4) (show ky < 10000 by omega)
  refine lw_i hF (c_X6_cost l D cy ad S4 (nI ky) (nI_pos (by omega)) (nI_le (show ky ≤ 9999 by omega) (by decide))) (cwV 1 hL gl_109 rfl rfl rfl kk_X6_cost ⟨Nat.le_of_ble_eq_true rfl, Nat.le_of_ble_eq_true rfl⟩) h hK hS hcs rfl hl.1 [] rfl (Nat.le_of_ble_eq_true rfl) dL_law_509 (fun r S5 H locs hq hq2 h hS => ?_)
  rw [p1] at hq hq2
  have hq : r = nI cc0 := hq
  have f5 : fr [1, 17, 18] S S5 := f4.tr ((show fr [1] S4 S5 by rw [hq2]; exact p3).mono (by decide))
  subst hq
  refine lv_aload_n hx hb dL_law_512 rfl (lv_at hl 16 rfl) ?_
  refine lv_iconst (v := 0) hx hb dL_law_513 (by decide) ?_
  refine lw_ir hF (c_X6_runs l D cy ad S5 (0 : Int32) (by decide) (by decide)) (cwV 1 hL gl_9 rfl rfl rfl kk_X6_runs ⟨Nat.le_of_ble_eq_true rfl, Nat.le_of_ble_eq_true rfl⟩) h hK hS hcs rfl hl.1 [.int (nI cc0)] rfl (Nat.le_of_ble_eq_true rfl) dL_law_514 (fun r H locs hq h hS => ?_)
  replace hq := hq.trans (runs_eq (hI.sc f5) (l := 0) (by decide))
  subst hq
  refine lv_aload_n hx hb dL_law_517 rfl (lv_at hl 16 rfl) ?_
  refine lv_iconst (v := 1) hx hb dL_law_518 (by decide) ?_
  refine lw_ir hF (c_X6_runs l D cy ad S5 (1 : Int32) (by decide) (by decide)) (cwV 1 hL gl_9 rfl rfl rfl kk_X6_runs ⟨Nat.le_of_ble_eq_true rfl, Nat.le_of_ble_eq_true rfl⟩) h hK hS hcs rfl hl.1 [.int (nI (L 0).length), .int (nI cc0)] rfl (Nat.le_of_ble_eq_true rfl) dL_law_519 (fun r H locs hq h hS => ?_)
  replace hq := hq.trans (runs_eq (hI.sc f5) (l := 1) (by decide))
  subst hq
  refine lv_iadd hx hb dL_law_522 ?_
  rw [show ((nI (L 0).length) + (nI (L 1).length) : Int32) = nI ((L 0).length + (L 1).length) from nI_add _ _]
  refine lv_aload_n hx hb dL_law_523 rfl (lv_at hl 16 rfl) ?_
  refine lv_iconst (v := 2) hx hb dL_law_524 (by decide) ?_
  refine lw_ir hF (c_X6_runs l D cy ad S5 (2 : Int32) (by decide) (by decide)) (cwV 1 hL gl_9 rfl rfl rfl kk_X6_runs ⟨Nat.le_of_ble_eq_true rfl, Nat.le_of_ble_eq_true rfl⟩) h hK hS hcs rfl hl.1 [.int (nI ((L 0).length + (L 1).length)), .int (nI cc0)] rfl (Nat.le_of_ble_eq_true rfl) dL_law_525 (fun r H locs hq h hS => ?_)
  replace hq := hq.trans (runs_eq (hI.sc f5) (l := 2) (by decide))
  subst hq
  refine lv_iadd hx hb dL_law_528 ?_
  rw [show ((nI ((L 0).length + (L 1).length)) + (nI (L 2).length) : Int32) = nI ((L 0).length + (L 1).length + (L 2).length) from nI_add _ _]
  refine lv_aload_n hx hb dL_law_529 rfl (lv_at hl 16 rfl) ?_
  refine lv_iconst (v := 3) hx hb dL_law_530 (by decide) ?_
  refine lw_ir hF (c_X6_runs l D cy ad S5 (3 : Int32) (by decide) (by decide)) (cwV 1 hL gl_9 rfl rfl rfl kk_X6_runs ⟨Nat.le_of_ble_eq_true rfl, Nat.le_of_ble_eq_true rfl⟩) h hK hS hcs rfl hl.1 [.int (nI ((L 0).length + (L 1).length + (L 2).length)), .int (nI cc0)] rfl (Nat.le_of_ble_eq_true rfl) dL_law_531 (fun r H locs hq h hS => ?_)
  replace hq := hq.trans (runs_eq (hI.sc f5) (l := 3) (by decide))
  subst hq
  refine lv_iadd hx hb dL_law_534 ?_
  rw [show ((nI ((L 0).length + (L 1).length + (L 2).length)) + (nI (L 3).length) : Int32) = nI ((L 0).length + (L 1).length + (L 2).length + (L 3).length) from nI_add _ _]
  have hRl := RS_len L
  have hRn := hI.1.1.2.1.nR
  refine lv_icmp_gt (tgt := 558) hx hb dL_law_535 (by decide) (fun c0 => absurd c0 (nI_nlt (by omega) (by omega))) (fun _ => ?_)
  refine lv_aload_n hx hb dL_law_538 rfl (lv_at hl 16 rfl) ?_
  refine lv_iconst (v := -1) hx hb dL_law_539 (by decide) ?_
  obtain ⟨T6, p1, p2⟩ := next_eq (hI.sc f5) (-1)
  refine lw_i hF (c_X6_next l D cy ad S5 (-1 : Int32) (by decide) (by decide)) (cwV 1 hL gl_112 rfl rfl rfl kk_X6_next ⟨Nat.le_of_ble_eq_true rfl, Nat.le_of_ble_eq_true rfl⟩) h hK hS hcs rfl hl.1 [] rfl (Nat.le_of_ble_eq_true rfl) dL_law_540 (fun r S6 H locs hq hq2 h hS => ?_)
  rw [p1] at hq hq2
  have hq : r = nxt ((tha K V ord (Hd ++ agz (RS L)) N).map K) (-1) := hq
  have f6 : fr [1, 17, 18] S S6 := f5.tr ((show fr [17, 18] S5 S6 by rw [hq2]; exact p2).mono (by decide))
  subst hq
  refine lv_iload hx hb dL_law_543 (lv_at hl 12 rfl) ?_
  refine lv_icmp_ge (tgt := 558) hx hb dL_law_545 (by decide) (fun c0 => absurd c0 (nxt_lt (by omega) (by omega) (tha_in hG _ _) _)) (fun _ => ?_)
  refine lv_aload_n hx hb dL_law_548 rfl (lv_at hl 16 rfl) ?_
  refine lw_l hF (c_X6_digest l D cy ad S6) (cwV 0 hL gl_96 rfl rfl rfl kk_X6_digest ⟨Nat.le_of_ble_eq_true rfl, Nat.le_of_ble_eq_true rfl⟩) h hK hS hcs rfl hl.1 [] rfl (Nat.le_of_ble_eq_true rfl) dL_law_549 (fun dg2 S7 H locs hq hq2 h hS => ?_)
  have d3 := (digest_eq hI f6).1
  obtain ⟨-, d2⟩ := digest_eq (hI.sc f6) (S' := S6) fr.rf
  rw [← hq2] at d2
  have f7 : fr [1, 17, 18] S S7 := f6.tr (d2.mono (by decide))
  refine lv_lload hx hb dL_law_552 (lv_at hl 4 rfl) ?_
  refine W.lcmp hx hb dL_law_554 ?_
  refine lv_if_eq (tgt := 560) hx hb dL_law_555 (by decide) (fun _ => ?_) (fun c0 => absurd (by rw [hq, hdg, d3]; exact cmp_self _) c0)
  exact kk S7 lv H locs ls (hG.sc f7) hlv4 f7 h hS (lv_sub hl [0, 1, 2, 3, 5, 6, 7, 8, 9, 10, 11, 12, 13, 14, 15, 16, 17] rfl)
set_option maxHeartbeats 4000000 in
set_option maxRecDepth 100000 in
theorem law_pk (hF : CallFix p m c cL_law 19 s args cs_WS RL) (hL : ∀ w ∈ cs_WL, w.before args s = true) (hK : cs_K D cy s) (hcs : cells ≤ room_1.cells ∧ slots ≤ room_1.slots)
    {wa b0 : Nat} {xv : Int32} {kk0 : Nat} {kd ky : Int32} {lv : Nat} (hlv4 : lv < 4) (hG : Gd S N K V ord L sn Hd Wr sf way fan pc wide b)
    (kk : ∀ (S6 : cs_St) (L6 : Nat → List Run) (H : Heap) (locs : List Loc) (ls : Array Slot), Gd S6 N K V ord L6 sn Hd Wr sf way fan pc wide (b + 512) → fr [0, 1, 10, 11, 12, 13, 14, 15, 16, 17, 18] S S6 → (∀ lim, lim ∈ sn → ∀ q, rd K V (Hd ++ agz (RS L6)) q lim = rd K V (Hd ++ agz (RS L)) q lim) → LW D cy ad S6 [yR cy wa wide f] (lA s) H → va_S (lA s) s.heap H locs → lv_has ls 19 [(11, .int kd), (10, .int ky), (9, .int xv), (8, .int (nI kk0)), (7, .ref wa), (6, .int sp), (5, .int (nI wide)), (4, .int (nI pc)), (3, .int (nI fan)), (2, .int (nI way)), (1, .ref (ad 0)), (0, .ref b0)] → W p l e room_1 s m args below meth c H locs cells slots Q (F0 m 619 ls [])) :
    ∀ (H : Heap) (locs : List Loc) (ls : Array Slot), LW D cy ad S [yR cy wa wide f] (lA s) H → va_S (lA s) s.heap H locs → lv_has ls 19 [(18, .int (((tha K V ord (Hd ++ agz (RS L)) N).map V).foldl (· + ·) 0)), (17, .int (nI (tha K V ord (Hd ++ agz (RS L)) N).length)), (16, .int (nI (agz (RS L)).length)), (15, .int (nI ((tpk L way lv).length - (mgl K V sn ord (tpk L way lv) []).length))), (12, .int (nI lv)), (11, .int kd), (10, .int ky), (9, .int xv), (8, .int (nI kk0)), (7, .ref wa), (6, .int sp), (5, .int (nI wide)), (4, .int (nI pc)), (3, .int (nI fan)), (2, .int (nI way)), (1, .ref (ad 0)), (0, .ref b0)] → W p l e room_1 s m args below meth c H locs cells slots Q (F0 m 560 ls []) := by
  obtain ⟨hx, hb, hml, hown, hts⟩ := id hF
  have hI := hG.1
  have hlen := hI.1.1.2.1.2.2.2.2.2.2.2.1
  have hpl : ((tpk L way lv).length - (mgl K V sn ord (tpk L way lv) []).length) ≤ (agz (RS L)).length := by have := tpk_len L way lv; omega
  intro H locs ls h hS hl
  refine lv_iload hx hb dL_law_560 (lv_at hl 7 rfl) ?_
  refine lv_iconst (v := 5) hx hb dL_law_562 (by decide) ?_
  refine lv_ishr hx hb dL_law_563 ?_
  refine lv_topi (fun xs _ => ?_)
  refine lv_bipush (v := 6) hx hb dL_law_564 (by decide) ?_
  rw [show (6 : Int32) = nI 6 from rfl]
  refine lw_s hF (c_L_below l D cy ad S xs 6 (by omega) (by omega)) (va_cwS 2 hL gl_53 rfl rfl rfl kk_L_below ⟨Nat.le_of_ble_eq_true rfl, Nat.le_of_ble_eq_true rfl⟩) (lw_preS h hK) h hS hcs rfl hl.1 [] rfl (Nat.le_of_ble_eq_true rfl) dL_law_566 (fun r Sx H locs hq h hS => ?_)
  rw [hq.2] at h
  obtain ⟨⟨j, hj, hjq⟩, -⟩ := hq
  subst hjq
  refine lv_if_ne (tgt := 619) hx hb dL_law_569 (by decide) (fun c1 => ?_) (fun c1 => ?_)
  ·
    exact kk S L H locs ls (hG.mono (by omega)) fr.rf (fun _ _ _ => rfl) h hS (lv_sub hl [5, 6, 7, 8, 9, 10, 11, 12, 13, 14, 15, 16] rfl)
  ·
    refine lv_aload_n hx hb dL_law_572 rfl (lv_at hl 15 rfl) ?_
    refine lv_iload hx hb dL_law_573 (lv_at hl 4 rfl) ?_
    obtain ⟨S6, L6, p6, e1, e2, e3, e4, e5, e6, e7⟩ := op_pack hG hlv4
    obtain ⟨T0, p1, -, -⟩ := plan_eq hI hlv4
    rw [p1] at e2
    have e2 : nI ((tpk L way lv).length - (mgl K V sn ord (tpk L way lv) []).length) = nI p6 := e2
    have e2n : ((tpk L way lv).length - (mgl K V sn ord (tpk L way lv) []).length) = p6 := (nI_eq (by omega) (by omega)).mp e2
    refine lw_i hF (c_X6_pack l D cy ad S (nI lv) (nI_pos (by omega)) (lt4 hlv4)) (cwV 1 hL gl_115 rfl rfl rfl kk_X6_pack ⟨Nat.le_of_ble_eq_true rfl, Nat.le_of_ble_eq_true rfl⟩) h hK hS hcs rfl hl.1 [] rfl (Nat.le_of_ble_eq_true rfl) dL_law_575 (fun r S1 H locs hq hq2 h hS => ?_)
    rw [e1] at hq hq2
    have hq : r = nI p6 := hq
    have hq2 : S1 = S6 := hq2
    rw [hq2] at h
    subst hq
    refine lv_iload hx hb dL_law_578 (lv_at hl 3 rfl) ?_
    refine lv_icmp_ne (tgt := 617) hx hb dL_law_580 (by decide) (fun c0 => absurd (e2.symm) c0) (fun _ => ?_)
    refine lv_aload_n hx hb dL_law_583 rfl (lv_at hl 15 rfl) ?_
    refine lw_ir hF (c_X6_entries l D cy ad S6) (cwV 0 hL gl_30 rfl rfl rfl kk_X6_entries ⟨Nat.le_of_ble_eq_true rfl, Nat.le_of_ble_eq_true rfl⟩) h hK hS hcs rfl hl.1 [] rfl (Nat.le_of_ble_eq_true rfl) dL_law_584 (fun r H locs hq h hS => ?_)
    replace hq := hq.trans (entries_is e5.1)
    subst hq
    refine lv_iload hx hb dL_law_587 (lv_at hl 2 rfl) ?_
    refine lv_iload hx hb dL_law_589 (lv_at hl 3 rfl) ?_
    refine lv_isub hx hb dL_law_591 ?_
    refine lv_icmp_ne (tgt := 617) hx hb dL_law_592 (by decide) (fun c0 => absurd (by rw [e4, e2n, show nI (agz (RS L)).length = nI p6 + nI ((agz (RS L)).length - p6) by rw [nI_add, Nat.add_sub_cancel' e3], i32_as]) c0) (fun _ => ?_)
    obtain ⟨hC, hin⟩ := hI.roH
    obtain ⟨hC6, hin6⟩ := e5.1.roH
    obtain ⟨t1, t2⟩ := tha_eq (lim := N) (V := V) hI.1.1.1.2.2.2.2.1 hC hC6 hin hin6 (fun q => e6 N (Or.inr rfl) q)
    have t3 : (tha K V ord (Hd ++ agz (RS L6)) N).length = (tha K V ord (Hd ++ agz (RS L)) N).length := by have := congrArg List.length t1; simpa using this
    refine lv_aload_n hx hb dL_law_595 rfl (lv_at hl 15 rfl) ?_
    obtain ⟨T3, k1, k2⟩ := keys_eq e5.1
    refine lw_i hF (c_X6_keys l D cy ad S6) (cwV 0 hL gl_103 rfl rfl rfl kk_X6_keys ⟨Nat.le_of_ble_eq_true rfl, Nat.le_of_ble_eq_true rfl⟩) h hK hS hcs rfl hl.1 [] rfl (Nat.le_of_ble_eq_true rfl) dL_law_596 (fun r S7 H locs hq hq2 h hS => ?_)
    rw [k1] at hq hq2
    have hq : r = nI (tha K V ord (Hd ++ agz (RS L6)) N).length := hq
    have f3 : fr [1, 17, 18] S6 S7 := (show fr [17, 18] S6 S7 by rw [hq2]; exact k2).mono (by decide)
    subst hq
    refine lv_iload hx hb dL_law_599 (lv_at hl 1 rfl) ?_
    refine lv_icmp_ne (tgt := 617) hx hb dL_law_601 (by decide) (fun c0 => absurd (by rw [t3]) c0) (fun _ => ?_)
    refine lv_aload_n hx hb dL_law_604 rfl (lv_at hl 15 rfl) ?_
    refine lv_iconst (v := 0) hx hb dL_law_605 (by decide) ?_
    refine lv_sipush (v := 9999) hx hb dL_law_606 (by decide) ?_
    obtain ⟨T4, k1, k2⟩ := sum_eq (e5.1.sc f3)
    refine lw_i hF (c_X6_sum l D cy ad S7 (0 : Int32) (9999 : Int32) (by decide) (by decide) (by decide) (by decide)) (cwV 2 hL gl_106 rfl rfl rfl kk_X6_sum ⟨Nat.le_of_ble_eq_true rfl, Nat.le_of_ble_eq_true rfl⟩) h hK hS hcs rfl hl.1 [] rfl (Nat.le_of_ble_eq_true rfl) dL_law_609 (fun r S8 H locs hq hq2 h hS => ?_)
    rw [k1] at hq hq2
    have hq : r = ((tha K V ord (Hd ++ agz (RS L6)) N).map V).foldl (· + ·) 0 := hq
    have f4 : fr [1, 17, 18] S6 S8 := f3.tr ((show fr [17, 18] S7 S8 by rw [hq2]; exact k2).mono (by decide))
    subst hq
    refine lv_iload hx hb dL_law_612 (lv_at hl 0 rfl) ?_
    refine lv_icmp_eq (tgt := 619) hx hb dL_law_614 (by decide) (fun _ => ?_) (fun c0 => absurd (by rw [t2]) c0)
    exact kk S8 L6 H locs ls (e5.sc f4) ((e7.mono (by decide)).tr (f4.mono (by decide))) (fun lim hm q => e6 lim (Or.inl hm) q) h hS (lv_sub hl [5, 6, 7, 8, 9, 10, 11, 12, 13, 14, 15, 16] rfl)
set_option maxHeartbeats 4000000 in
set_option maxRecDepth 100000 in
theorem law_is (hF : CallFix p m c cL_law 19 s args cs_WS RL) (hL : ∀ w ∈ cs_WL, w.before args s = true) (hK : cs_K D cy s) (hcs : cells ≤ room_1.cells ∧ slots ≤ room_1.slots)
    {wa b0 : Nat} {xv : Int32} {kk0 : Nat} {kd ky : Int32} (hG : Gd S N K V ord L sn Hd Wr sf way fan pc wide b) (hV : ∀ a, 1 ≤ a → a ≤ N → V a = -1 ∨ 0 ≤ V a) (hb31 : b < 2 ^ 31)
    (kk : ∀ (H : Heap) (locs : List Loc) (ls : Array Slot), LW D cy ad S [yR cy wa wide f] (lA s) H → va_S (lA s) s.heap H locs → lv_has ls 19 [(8, .int (nI (kk0 + 1))), (7, .ref wa), (6, .int sp), (5, .int (nI wide)), (4, .int (nI pc)), (3, .int (nI fan)), (2, .int (nI way)), (1, .ref (ad 0)), (0, .ref b0)] → W p l e room_1 s m args below meth c H locs cells slots Q (F0 m 164 ls [])) :
    ∀ (H : Heap) (locs : List Loc) (ls : Array Slot), LW D cy ad S [yR cy wa wide f] (lA s) H → va_S (lA s) s.heap H locs → lv_has ls 19 [(11, .int kd), (10, .int ky), (9, .int xv), (8, .int (nI kk0)), (7, .ref wa), (6, .int sp), (5, .int (nI wide)), (4, .int (nI pc)), (3, .int (nI fan)), (2, .int (nI way)), (1, .ref (ad 0)), (0, .ref b0)] → W p l e room_1 s m args below meth c H locs cells slots Q (F0 m 619 ls []) := by
  obtain ⟨hx, hb, hml, hown, hts⟩ := id hF
  intro H locs ls h hS hl
  refine lv_aload_n hx hb dL_law_619 rfl (lv_at hl 10 rfl) ?_
  refine lv_iload_n hx hb dL_law_620 rfl (lv_at hl 9 rfl) ?_
  refine lv_iload_n hx hb dL_law_621 rfl (lv_at hl 8 rfl) ?_
  refine lv_iload hx hb dL_law_622 (lv_at hl 7 rfl) ?_
  refine lw_s hF (c_L_isSound l D cy ad hG hV hb31) (va_cwS 4 hL gl_118 rfl rfl rfl kk_L_isSound ⟨Nat.le_of_ble_eq_true rfl, Nat.le_of_ble_eq_true rfl⟩) (lw_preS h hK) h hS hcs rfl hl.1 [] rfl (Nat.le_of_ble_eq_true rfl) dL_law_624 (fun r Sx H locs hq h hS => ?_)
  rw [hq.2] at h
  obtain ⟨hq, -⟩ := hq
  subst hq
  refine lv_if_ne (tgt := 632) hx hb dL_law_627 (by decide) (fun _ => ?_) (fun c0 => absurd c0 (by decide))
  refine lv_iinc (v := nI (kk0 + 1)) (lv' := [(8, .int (nI (kk0 + 1))), (11, .int kd), (10, .int ky), (9, .int xv), (7, .ref wa), (6, .int sp), (5, .int (nI wide)), (4, .int (nI pc)), (3, .int (nI fan)), (2, .int (nI way)), (1, .ref (ad 0)), (0, .ref b0)]) hx hb dL_law_632 hl (k := 3) rfl (nI_1 _) (by decide) rfl (fun ls hl => ?_)
  refine lv_goto (tgt := 164) hx hb dL_law_635 (by decide) ?_
  exact kk H locs ls h hS (lv_sub hl [0, 4, 5, 6, 7, 8, 9, 10, 11] rfl)
set_option maxHeartbeats 4000000 in
set_option maxRecDepth 100000 in
theorem law_lp (hF : CallFix p m c cL_law 19 s args cs_WS RL) (hL : ∀ w ∈ cs_WL, w.before args s = true) (hK : cs_K D cy s)
    {wa b0 : Nat} {nL : Nat} {xs : Nat → Int32} (hX : va_X b0 nL xs s s.heap) (hbl : b0 < s.heap.size) (hnL : nL ≤ 260) (hA : (Cond.arrayClass .int).before args s = true) (hw2 : 2 ≤ wide) (hwd : wide ≤ 31)
    (kk : ∀ (S : cs_St) (sp : Int32) (f : Nat → Int32) (t cells slots : Nat) (H : Heap) (locs : List Loc) (ls : Array Slot), J S way fan pc wide sp f 50 150000000 t → cells ≤ 200 → slots ≤ 20000 → LW D cy ad S [yR cy wa wide f] (lA s) H → va_S (lA s) s.heap H locs → lv_has ls 19 [(8, .int (nI 50)), (7, .ref wa), (6, .int sp), (5, .int (nI wide)), (4, .int (nI pc)), (3, .int (nI fan)), (2, .int (nI way)), (1, .ref (ad 0)), (0, .ref b0)] → W p l e room_1 s m args below meth c H locs cells slots Q (F0 m 638 ls [])) :
    ∀ (n k : Nat), k ≤ 50 → 50 - k < n → ∀ (S : cs_St) (sp : Int32) (f : Nat → Int32) (t cells slots : Nat) (H : Heap) (locs : List Loc) (ls : Array Slot), J S way fan pc wide sp f k (3000000 * k) t → t ≤ k → cells ≤ 100 + k → slots ≤ 10000 + 31 * k → LW D cy ad S [yR cy wa wide f] (lA s) H → va_S (lA s) s.heap H locs → lv_has ls 19 [(8, .int (nI k)), (7, .ref wa), (6, .int sp), (5, .int (nI wide)), (4, .int (nI pc)), (3, .int (nI fan)), (2, .int (nI way)), (1, .ref (ad 0)), (0, .ref b0)] → W p l e room_1 s m args below meth c H locs cells slots Q (F0 m 164 ls []) := by
  obtain ⟨hx, hb, hml, hown, hts⟩ := id hF
  have hR1 : room_1.cells = 600104 := rfl
  have hR2 : room_1.slots = 7301314 := rfl
  have hbA : ¬ lA s b0 := Nat.not_le.mpr hbl
  intro n
  induction n with
  | zero => intro k _ h; exact absurd h (Nat.not_lt_zero _)
  | succ n ih =>
    intro k hk hn S sp f t cells slots H locs ls hJ ht hc1 hc2 h hS hl
    have hcs : cells ≤ room_1.cells ∧ slots ≤ room_1.slots := by omega
    refine lv_iload hx hb dL_law_164 (lv_at hl 0 rfl) ?_
    refine lv_bipush (v := 50) hx hb dL_law_166 (by decide) ?_
    rcases Nat.lt_or_ge k 50 with hlt | hge
    ·
      refine lv_icmp_ge (tgt := 638) hx hb dL_law_168 (by decide) (fun c0 => absurd c0 (nI_ge (b := 50) hlt (by decide))) (fun _ => ?_)
      refine lv_aload_n hx hb dL_law_171 rfl (lv_at hl 8 rfl) ?_
      refine lv_iload hx hb dL_law_172 (lv_at hl 0 rfl) ?_
      refine lv_bipush (v := 16) hx hb dL_law_174 (by decide) ?_
      rw [show (16 : Int32) = nI 16 from rfl]
      refine lv_irem hx hb dL_law_176 (nI_ne0 (by decide) (by decide)) ?_
      rw [show (nI k - nI k / nI 16 * nI 16 : Int32) = nI (k % 16) from nI_rem (by omega) (by decide) (by decide)]
      refine lw_s hF (c_L_cell l D cy ad S b0 nL xs (k % 16) (by omega) (by omega) (fun z => hbA (h.A _ z))) (va_cwS 2 hL gl_47 rfl rfl rfl kk_L_cell ⟨Nat.le_of_ble_eq_true rfl, Nat.le_of_ble_eq_true rfl⟩) (lw_preX h hK hX hbl hbA hS) h hS hcs rfl hl.1 [] rfl (Nat.le_of_ble_eq_true rfl) dL_law_177 (fun xc Sx H locs hq h hS => ?_)
      rw [show Sx = S from hq] at h
      refine lv_iload hx hb dL_law_180 (lv_at hl 0 rfl) ?_
      refine lv_bipush (v := 16) hx hb dL_law_182 (by decide) ?_
      refine lv_idiv hx hb dL_law_184 (by decide) ?_
      refine lv_topi (fun xd hq => ?_)
      refine lv_iconst (v := 4) hx hb dL_law_185 (by decide) ?_
      refine lv_imul hx hb dL_law_186 ?_
      refine lv_topi (fun xm _ => ?_)
      refine lv_ishr hx hb dL_law_187 ?_
      refine lv_topi (fun xe _ => ?_)
      refine lv_iload hx hb dL_law_188 (lv_at hl 0 rfl) ?_
      refine lv_iadd hx hb dL_law_190 ?_
      refine lv_topi (fun xv _ => ?_)
      refine lv_istore (lv' := [(9, .int xv), (8, .int (nI k)), (7, .ref wa), (6, .int sp), (5, .int (nI wide)), (4, .int (nI pc)), (3, .int (nI fan)), (2, .int (nI way)), (1, .ref (ad 0)), (0, .ref b0)]) hx hb dL_law_191 hl (by decide) rfl (fun ls hl => ?_)
      refine lv_iload hx hb dL_law_193 (lv_at hl 0 rfl) ?_
      refine lv_iconst (v := 2) hx hb dL_law_195 (by decide) ?_
      refine lv_ishr hx hb dL_law_196 ?_
      refine lv_topi (fun xs1 _ => ?_)
      refine lv_iload hx hb dL_law_197 (lv_at hl 4 rfl) ?_
      refine lw_s hF (c_L_below l D cy ad S xs1 wide (by omega) (by omega)) (va_cwS 2 hL gl_53 rfl rfl rfl kk_L_below ⟨Nat.le_of_ble_eq_true rfl, Nat.le_of_ble_eq_true rfl⟩) (lw_preS h hK) h hS hcs rfl hl.1 [] rfl (Nat.le_of_ble_eq_true rfl) dL_law_199 (fun r Sx H locs hq h hS => ?_)
      rw [hq.2] at h
      obtain ⟨⟨ky, hky, hjq⟩, -⟩ := hq
      subst hjq
      refine lv_istore (lv' := [(10, .int (nI ky)), (9, .int xv), (8, .int (nI k)), (7, .ref wa), (6, .int sp), (5, .int (nI wide)), (4, .int (nI pc)), (3, .int (nI fan)), (2, .int (nI way)), (1, .ref (ad 0)), (0, .ref b0)]) hx hb dL_law_202 hl (by decide) rfl (fun ls hl => ?_)
      refine lv_iload hx hb dL_law_204 (lv_at hl 1 rfl) ?_
      refine lv_bipush (v := 11) hx hb dL_law_206 (by decide) ?_
      rw [show (11 : Int32) = nI 11 from rfl]
      refine lw_s hF (c_L_below l D cy ad S xv 11 (by omega) (by omega)) (va_cwS 2 hL gl_53 rfl rfl rfl kk_L_below ⟨Nat.le_of_ble_eq_true rfl, Nat.le_of_ble_eq_true rfl⟩) (lw_preS h hK) h hS hcs rfl hl.1 [] rfl (Nat.le_of_ble_eq_true rfl) dL_law_208 (fun r Sx H locs hq h hS => ?_)
      rw [hq.2] at h
      obtain ⟨⟨kd, hkd, hjq⟩, -⟩ := hq
      subst hjq
      refine lv_istore (lv' := [(11, .int (nI kd)), (10, .int (nI ky)), (9, .int xv), (8, .int (nI k)), (7, .ref wa), (6, .int sp), (5, .int (nI wide)), (4, .int (nI pc)), (3, .int (nI fan)), (2, .int (nI way)), (1, .ref (ad 0)), (0, .ref b0)]) hx hb dL_law_211 hl (by decide) rfl (fun ls hl => ?_)
      refine law_w hF hL hK hcs (kk0 := k) hkd hky hJ (by omega) hwd (fun S1 H locs ls hJ1 h hS hl => ?_) H locs ls h hS (lv_sub hl [0, 1, 2, 3, 4, 5, 6, 7, 8, 9, 10, 11] rfl)
      refine law_sn hF hL hK hcs hkd hJ1 hwd (by omega) (fun S2 sp2 f2 t2 H locs ls hJ2 ht2 h hS hl => ?_) H locs ls h hS hl
      refine law_c hF hL hK hcs hA hkd hJ2 hwd (by omega) (fun S3 sp3 f3 cells3 slots3 H locs ls hJ3 hc3 hs3 h hS hl => ?_) H locs ls h hS hl
      have hcs3 : cells3 ≤ room_1.cells ∧ slots3 ≤ room_1.slots := by omega
      obtain ⟨N, K, V, ord, L, sn, Hd, Wr, sf, hG, hV, hN, h8, hsn⟩ := hJ3
      refine law_ck rfl hF hL hK hcs3 hky hw2 hwd hG (fun S4 lv H locs ls hG4 hlv f4 h hS hl => ?_) H locs ls h hS hl
      refine law_pk hF hL hK hcs3 hlv hG4 (fun S5 L5 H locs ls hG5 f5 hrd h hS hl => ?_) H locs ls h hS hl
      refine law_is hF hL hK hcs3 hG5 hV (by omega) (fun H locs ls h hS hl => ?_) H locs ls h hS hl
      refine ih (k + 1) (by omega) (by omega) S5 sp3 f3 t2 cells3 slots3 H locs ls ⟨N, K, V, ord, L5, sn, Hd, Wr, sf, hG5.mono (by omega), hV, by omega, by rw [f5.1, f4.1]; exact h8, ?_⟩ (by omega) (by omega) (by omega) h hS hl
      rcases hsn with ⟨a1, a2, a3⟩ | ⟨s0, t0, a1, a2, a3, a4, a5⟩
      · exact Or.inl ⟨a1, a2, by rw [f5.2 8 (by decide), f4.2 8 (by decide)]; exact a3⟩
      · exact Or.inr ⟨s0, t0, a1, a2, a3, by rw [f5.2 8 (by decide), f4.2 8 (by decide)]; exact a4, fun q hq => (a5 q hq).trans (hrd s0 (by rw [a1]; exact List.mem_singleton.mpr rfl) q).symm⟩
    ·
      obtain rfl : k = 50 := by omega
      refine lv_icmp_ge (tgt := 638) hx hb dL_law_168 (by decide) (fun _ => ?_) (fun c0 => absurd (by decide) c0)
      exact kk S sp f t cells slots H locs ls hJ (by omega) (by omega) h hS hl
end SEG
