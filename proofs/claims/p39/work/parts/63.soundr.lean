/-! the law's isSound: its outer loops, its contract -/
section SO
variable {p : Program} {l : Launch} {e : Env} {s : State} {m : MethodId} {args : Array Value} {below : List Frame} {meth : Method} {c : Code} {Q : State → Prop} {D : va_G} {cy : ClassId} {ad : Nat → Nat}
variable {S : cs_St} {N : Nat} {K : Nat → Nat} {V : Nat → Int32} {ord : List Nat} {L : Nat → List Run} {sn Hd Wr : List Nat} {sf way fan pc wide b : Nat}

theorem stn_app (V : Nat → Int32) (a b : List Nat) : stn V (a ++ b) = stn V a + stn V b := List.countP_append
theorem agz_tk {R : List Run} {r : Nat} {x : Run} (h : R[r]? = some x) : agz (R.take (r + 1)) = agz (R.take r) ++ x.1 := by
  have hk := (List.getElem?_eq_some_iff.mp h).1
  rw [List.take_succ_eq_append_getElem hk, (List.getElem?_eq_some_iff.mp h).2, agz_app, agz_cons, agz_nil, @List.append_nil Nat]
theorem apt_at {K : Nat → Nat} {R : List Run} (h : Apt K R) {i j : Nat} {x y : Run} (hx : R[i]? = some x) (hy : R[j]? = some y) (hij : i < j) : ∀ a ∈ x.1, ∀ b ∈ y.1, K a < K b := by
  have h1 := List.pairwise_iff_getElem.mp h i j (List.getElem?_eq_some_iff.mp hx).1 (List.getElem?_eq_some_iff.mp hy).1 hij
  rw [(List.getElem?_eq_some_iff.mp hx).2, (List.getElem?_eq_some_iff.mp hy).2] at h1
  exact h1
theorem neg1 {k : Nat} (h : k < 2 ^ 31) : (-1 : Int32) < nI k := by
  rw [Int32.lt_iff_toInt_lt, nI_toInt h]
  have e1 : ((-1 : Int32)).toInt = -1 := by decide
  omega
theorem lastin {x : List Nat} (h : x ≠ []) : x.getLastD 0 ∈ x := by
  rw [List.getLastD_eq_getLast?, List.getLast?_eq_some_getLast h]
  exact List.getLast_mem h

set_option maxHeartbeats 4000000 in
set_option maxRecDepth 100000 in
theorem so_r (hF : CallFix p m c cL_isSound 16 s args cs_WS RL) (hL : ∀ w ∈ cs_WL, w.before args s = true) (hK : cs_K D cy s) (hG : Gd S N K V ord L sn Hd Wr sf way fan pc wide b) (hV : ∀ a, 1 ≤ a → a ≤ N → V a = -1 ∨ 0 ≤ V a)
    (hN : (S.1 0).1 3 = nI N) {lv : Nat} (hlv : lv < 4) {st0 : Nat} {ent : Int32}
    (kk : ∀ (H : Heap) (locs : List Loc) (ls : Array Slot), cs_w D cy ad S H → va_S (cs_A ad) s.heap H locs → lv_has ls 16 [(7, .int (nI (agz (L lv)).length)), (6, .int (nI lv)), (5, .int (nI (st0 + stn V (agz (L lv))))), (4, .int ent), (3, .int (nI pc)), (2, .int (nI fan)), (1, .int (nI way)), (0, .ref (ad 0))] → W p l e so_R s m args below meth c H locs 0 0 Q (F0 m 315 ls [])) :
    ∀ (n r : Nat), r ≤ (L lv).length → (L lv).length - r < n → ∀ (last : Int32) (H : Heap) (locs : List Loc) (ls : Array Slot), cs_w D cy ad S H → va_S (cs_A ad) s.heap H locs → lv_has ls 16 [(9, .int (nI r)), (8, .int last), (7, .int (nI (agz ((L lv).take r)).length)), (6, .int (nI lv)), (5, .int (nI (st0 + stn V (agz ((L lv).take r))))), (4, .int ent), (3, .int (nI pc)), (2, .int (nI fan)), (1, .int (nI way)), (0, .ref (ad 0))] → (way = 1 → 1 ≤ lv → ∀ r' x', r ≤ r' → (L lv)[r']? = some x' → ∀ b ∈ x'.1, last < nI (K b)) → W p l e so_R s m args below meth c H locs 0 0 Q (F0 m 24 ls []) := by
  obtain ⟨hx, hb, hml, hown, hts⟩ := id hF
  have hI := hG.1
  have hcf := hI.1.2.2.1
  have hp20 := hcf.2.2.2.2.2.2.2
  have hB := hI.1.1
  have h2 : (L lv).length < 512 := Nat.lt_of_le_of_lt (Nat.le_trans (Nat.le_add_left _ _) (hB.2.1.cnt_le hlv)) hB.2.1.nR
  have g0 : ¬ nI lv < 0 := nI_pos (by omega)
  have g1 : nI lv < 4 := lt4 hlv
  intro n
  induction n with
  | zero => intro r _ h; exact absurd h (Nat.not_lt_zero _)
  | succ n ih =>
    intro r hrl hn last H locs ls hw hS hl hlast
    refine lv_iload hx hb dL_isSound_24 (lv_at hl 0 rfl) ?_
    refine lv_aload_n hx hb dL_isSound_26 rfl (lv_at hl 9 rfl) ?_
    refine lv_iload hx hb dL_isSound_27 (lv_at hl 3 rfl) ?_
    refine cs_vir hF (c_X6_runs l D cy ad S (nI lv) (g0) (g1)) (cwV 1 hL gl_9 rfl rfl rfl kk_X6_runs ⟨Nat.le_of_ble_eq_true rfl, Nat.le_of_ble_eq_true rfl⟩) (cs_recv hK hw (ci := 6) 0 rfl rfl) hw hK hS rfl hl.1 [.int (nI r)] rfl (Nat.le_of_ble_eq_true rfl) dL_isSound_29 (fun r H locs hq hw hS => ?_)
    replace hq := hq.trans (runs_eq hI hlv)
    subst hq
    rcases Nat.lt_or_ge r (L lv).length with hlt | hge
    ·
      refine lv_icmp_ge (tgt := 315) hx hb dL_isSound_32 (by decide) (fun c0 => absurd c0 (nI_ge hlt (by omega))) (fun _ => ?_)
      obtain ⟨x, hr⟩ : ∃ x, (L lv)[r]? = some x := ⟨_, List.getElem?_eq_getElem hlt⟩
      have hxm := RS_mem L hlv (List.mem_of_getElem? hr)
      have hne := hB.2.1.2.2.2.2.2.2.2.2 x hxm
      have hpos := List.length_pos_iff.mpr hne
      have hRr := run_at hlv hr
      have hlen : x.1.length < 512 := by
        have h1 := hB.2.1.2.2.2.2.2.2.2.1
        have h2 := split_get hRr
        rw [h2] at h1
        simp at h1
        omega
      have g2 : ¬ nI r < 0 := nI_pos (by omega)
      have g3 : nI r < m_X4_count S (nI lv) := by
        rw [hB.2.1.count hlv]
        exact nI_lt hlt (by omega)
      refine lv_aload_n hx hb dL_isSound_35 rfl (lv_at hl 9 rfl) ?_
      refine lv_iload hx hb dL_isSound_36 (lv_at hl 3 rfl) ?_
      refine lv_iload hx hb dL_isSound_38 (lv_at hl 0 rfl) ?_
      refine cs_vir hF (c_X6_size l D cy ad S (nI lv) (nI r) (g0) (g1) (g2) (g3)) (cwV 2 hL gl_15 rfl rfl rfl kk_X6_size ⟨Nat.le_of_ble_eq_true rfl, Nat.le_of_ble_eq_true rfl⟩) (cs_recv hK hw (ci := 6) 0 rfl rfl) hw hK hS rfl hl.1 [] rfl (Nat.le_of_ble_eq_true rfl) dL_isSound_40 (fun r H locs hq hw hS => ?_)
      replace hq := hq.trans (size_eq hI hlv hr)
      subst hq
      refine lv_istore (lv' := [(10, .int (nI x.1.length)), (9, .int (nI r)), (8, .int last), (7, .int (nI (agz ((L lv).take r)).length)), (6, .int (nI lv)), (5, .int (nI (st0 + stn V (agz ((L lv).take r))))), (4, .int ent), (3, .int (nI pc)), (2, .int (nI fan)), (1, .int (nI way)), (0, .ref (ad 0))]) hx hb dL_isSound_43 hl (by decide) rfl (fun ls hl => ?_)
      refine lv_iconst (v := 0) hx hb dL_isSound_45 (by decide) ?_
      rw [show (0 : Int32) = nI 0 from rfl]
      refine lv_istore (lv' := [(11, .int (nI 0)), (10, .int (nI x.1.length)), (9, .int (nI r)), (8, .int last), (7, .int (nI (agz ((L lv).take r)).length)), (6, .int (nI lv)), (5, .int (nI (st0 + stn V (agz ((L lv).take r))))), (4, .int ent), (3, .int (nI pc)), (2, .int (nI fan)), (1, .int (nI way)), (0, .ref (ad 0))]) hx hb dL_isSound_46 hl (by decide) rfl (fun ls hl => ?_)
      refine lv_iconst (v := 0) hx hb dL_isSound_48 (by decide) ?_
      rw [show (0 : Int32) = nI 0 from rfl]
      refine lv_istore (lv' := [(12, .int (nI 0)), (11, .int (nI 0)), (10, .int (nI x.1.length)), (9, .int (nI r)), (8, .int last), (7, .int (nI (agz ((L lv).take r)).length)), (6, .int (nI lv)), (5, .int (nI (st0 + stn V (agz ((L lv).take r))))), (4, .int ent), (3, .int (nI pc)), (2, .int (nI fan)), (1, .int (nI way)), (0, .ref (ad 0))]) hx hb dL_isSound_49 hl (by decide) rfl (fun ls hl => ?_)
      refine so_k hF hL hK hG hV hN hlv hr (by omega) (st := st0 + stn V (agz ((L lv).take r))) (last0 := last) (all := nI (agz ((L lv).take r)).length) (ent := ent) (fun z1 z2 => hlast z1 z2 r x (Nat.le_refl r) hr) (fun H locs ls kc hw hS hl hkc hke => ?_) (x.1.length + 1) 0 (Nat.zero_le _) (by omega) 0 last H locs ls hw hS (lv_sub hl [0, 1, 4, 7, 2, 3, 5, 6, 8, 9, 10, 11, 12] rfl) (Nat.le_refl 0) (fun _ => Nat.zero_le 1) (fun _ => rfl) (fun j q z => absurd z (by omega))
      refine lv_iload hx hb dL_isSound_273 (lv_at hl 3 rfl) ?_
      refine lv_if_eq (tgt := 300) hx hb dL_isSound_275 (by decide) (fun c0 => absurd c0 (nI_ne0 hpos (by omega))) (fun _ => ?_)
      refine lw_cut (F0 m 302 ls []) ?_ (fun K302 => ?_)
      ·
        refine lv_iload hx hb dL_isSound_302 (lv_at hl 5 rfl) ?_
        refine lv_iload hx hb dL_isSound_304 (lv_at hl 3 rfl) ?_
        refine lv_iadd hx hb dL_isSound_306 ?_
        rw [show ((nI (agz ((L lv).take r)).length) + (nI x.1.length) : Int32) = nI (agz ((L lv).take (r + 1))).length from (nI_add _ _).trans (by rw [agz_tk hr, List.length_append])]
        refine lv_istore (lv' := [(7, .int (nI (agz ((L lv).take (r + 1))).length)), (8, .int (nI (K (x.1.getLastD 0)))), (5, .int (nI (st0 + stn V (agz ((L lv).take r)) + stn V x.1))), (11, .int (nI kc)), (10, .int (nI x.1.length)), (9, .int (nI r)), (6, .int (nI lv)), (4, .int ent), (3, .int (nI pc)), (2, .int (nI fan)), (1, .int (nI way)), (0, .ref (ad 0))]) hx hb dL_isSound_307 hl (by decide) rfl (fun ls hl => ?_)
        refine lv_iinc (v := nI (r + 1)) (lv' := [(9, .int (nI (r + 1))), (7, .int (nI (agz ((L lv).take (r + 1))).length)), (8, .int (nI (K (x.1.getLastD 0)))), (5, .int (nI (st0 + stn V (agz ((L lv).take r)) + stn V x.1))), (11, .int (nI kc)), (10, .int (nI x.1.length)), (6, .int (nI lv)), (4, .int ent), (3, .int (nI pc)), (2, .int (nI fan)), (1, .int (nI way)), (0, .ref (ad 0))]) hx hb dL_isSound_309 hl (k := 5) rfl (nI_1 _) (by decide) rfl (fun ls hl => ?_)
        refine lv_goto (tgt := 24) hx hb dL_isSound_312 (by decide) ?_
        rw [show st0 + stn V (agz ((L lv).take r)) + stn V x.1 = st0 + stn V (agz ((L lv).take (r + 1))) by rw [agz_tk hr, stn_app, Nat.add_assoc]] at hl
        exact ih (r + 1) (by omega) (by omega) (nI (K (x.1.getLastD 0))) H locs ls hw hS (lv_sub hl [0, 2, 1, 6, 3, 7, 8, 9, 10, 11] rfl) (fun z1 z2 r' x' z3 z4 b z5 => by
          have h5 := apt_at (hI.1.2.2.2.1.2 (by omega) lv z2 hlv).1 hr z4 (by omega) _ (lastin hne) b z5
          have h6 := hB.K9 (run_at hlv z4) z5
          exact nI_lt h5 (by omega))
      ·
        refine lv_iload_n hx hb dL_isSound_278 rfl (lv_at hl 10 rfl) ?_
        refine lv_iconst (v := 1) hx hb dL_isSound_279 (by decide) ?_
        refine lv_icmp_ne (tgt := 302) hx hb dL_isSound_280 (by decide) (fun _ => K302) (fun cw => ?_)
        refine lv_iload hx hb dL_isSound_283 (lv_at hl 6 rfl) ?_
        refine lv_if_le (tgt := 302) hx hb dL_isSound_285 (by decide) (fun _ => K302) (fun cl => ?_)
        refine lv_iload hx hb dL_isSound_288 (lv_at hl 3 rfl) ?_
        refine lv_iload_n hx hb dL_isSound_290 rfl (lv_at hl 8 rfl) ?_
        refine lv_icmp_le (tgt := 302) hx hb dL_isSound_291 (by decide) (fun _ => K302) (fun cs => ?_)
        refine lv_iload hx hb dL_isSound_294 (lv_at hl 2 rfl) ?_
        refine lv_iconst (v := 1) hx hb dL_isSound_296 (by decide) ?_
        refine lv_icmp_le (tgt := 302) hx hb dL_isSound_297 (by decide) (fun _ => ?_) (fun c0 => absurd (nI_le (hke (((hI.1.2.2.2.1.2 (by rw [nIeq1 hcf.2.1 cw]; decide) lv (nIpos hlv cl) hlv).2 x (List.mem_of_getElem? hr)).resolve_left (fun z => cs (nI_le z (by omega))))) (by decide)) c0)
        exact K302
    ·
      obtain rfl : r = (L lv).length := by omega
      refine lv_icmp_ge (tgt := 315) hx hb dL_isSound_32 (by decide) (fun _ => ?_) (fun c0 => absurd (nI_le (Nat.le_refl _) (by omega)) c0)
      rw [List.take_length] at hl
      exact kk H locs ls hw hS (lv_sub hl [2, 3, 4, 5, 6, 7, 8, 9] rfl)
set_option maxHeartbeats 4000000 in
set_option maxRecDepth 100000 in
theorem so_e (hF : CallFix p m c cL_isSound 16 s args cs_WS RL) (hL : ∀ w ∈ cs_WL, w.before args s = true) (hK : cs_K D cy s) (hG : Gd S N K V ord L sn Hd Wr sf way fan pc wide b) (hV : ∀ a, 1 ≤ a → a ≤ N → V a = -1 ∨ 0 ≤ V a)
    (hN : (S.1 0).1 3 = nI N) {lv : Nat} (hlv : lv < 4)
    (kk : ∀ (H : Heap) (locs : List Loc) (ls : Array Slot), cs_w D cy ad S H → va_S (cs_A ad) s.heap H locs → lv_has ls 16 [(6, .int (nI (lv + 1))), (5, .int (nI (stn V (agz (pre L (lv + 1)))))), (4, .int (nI (agz (pre L (lv + 1))).length)), (3, .int (nI pc)), (2, .int (nI fan)), (1, .int (nI way)), (0, .ref (ad 0))] → W p l e so_R s m args below meth c H locs 0 0 Q (F0 m 9 ls [])) :
    ∀ (H : Heap) (locs : List Loc) (ls : Array Slot), cs_w D cy ad S H → va_S (cs_A ad) s.heap H locs → lv_has ls 16 [(7, .int (nI (agz (L lv)).length)), (6, .int (nI lv)), (5, .int (nI (stn V (agz (pre L lv)) + stn V (agz (L lv))))), (4, .int (nI (agz (pre L lv)).length)), (3, .int (nI pc)), (2, .int (nI fan)), (1, .int (nI way)), (0, .ref (ad 0))] → W p l e so_R s m args below meth c H locs 0 0 Q (F0 m 315 ls []) := by
  obtain ⟨hx, hb, hml, hown, hts⟩ := id hF
  have hI := hG.1
  have hfu := hG.2.1
  have hcf := hI.1.2.2.1
  have hB := hI.1.1
  have h2 : (L lv).length < 512 := Nat.lt_of_le_of_lt (Nat.le_trans (Nat.le_add_left _ _) (hB.2.1.cnt_le hlv)) hB.2.1.nR
  have e1 : nI (agz (pre L lv)).length + nI (agz (L lv)).length = nI (agz (pre L (lv + 1))).length := (nI_add _ _).trans (by rw [pre_succ, agz_app, List.length_append])
  have e2 : stn V (agz (pre L lv)) + stn V (agz (L lv)) = stn V (agz (pre L (lv + 1))) := by rw [pre_succ, agz_app, stn_app]
  intro H locs ls hw hS hl
  rw [e2] at hl
  obtain ⟨-, hw1, -, hf2, hf4, -, hp1, hp20⟩ := hcf
  have hff : fan * fan ≤ 16 := Nat.mul_le_mul hf4 hf4
  have hpf : pc * fan ≤ 80 := Nat.mul_le_mul hp20 hf4
  have hpff : pc * (fan * fan) ≤ 320 := Nat.mul_le_mul hp20 hff
  obtain rfl | rfl : way = 0 ∨ way = 1 := by omega
  · obtain rfl | rfl | rfl | rfl : lv = 0 ∨ lv = 1 ∨ lv = 2 ∨ lv = 3 := by omega
    ·
      refine lv_iload_n hx hb dL_isSound_315 rfl (lv_at hl 4 rfl) ?_
      refine lv_istore (lv' := [(9, .int (nI pc)), (7, .int (nI (agz (L 0)).length)), (6, .int (nI 0)), (5, .int (nI (stn V (agz (pre L (0 + 1)))))), (4, .int (nI (agz (pre L 0)).length)), (3, .int (nI pc)), (2, .int (nI fan)), (1, .int (nI 0)), (0, .ref (ad 0))]) hx hb dL_isSound_316 hl (by decide) rfl (fun ls hl => ?_)
      refine lv_iconst (v := 0) hx hb dL_isSound_318 (by decide) ?_
      rw [show (0 : Int32) = nI 0 from rfl]
      refine lv_istore (lv' := [(10, .int (nI 0)), (9, .int (nI pc)), (7, .int (nI (agz (L 0)).length)), (6, .int (nI 0)), (5, .int (nI (stn V (agz (pre L (0 + 1)))))), (4, .int (nI (agz (pre L 0)).length)), (3, .int (nI pc)), (2, .int (nI fan)), (1, .int (nI 0)), (0, .ref (ad 0))]) hx hb dL_isSound_319 hl (by decide) rfl (fun ls hl => ?_)
      refine lv_iload hx hb dL_isSound_321 (lv_at hl 0 rfl) ?_
      refine lv_iload hx hb dL_isSound_323 (lv_at hl 3 rfl) ?_
      refine lv_icmp_ge (tgt := 340) hx hb dL_isSound_325 (by decide) (fun _ => ?_) (fun c0 => absurd (by decide) c0)
      refine lv_iload_n hx hb dL_isSound_340 rfl (lv_at hl 8 rfl) ?_
      refine lv_if_eq (tgt := 349) hx hb dL_isSound_341 (by decide) (fun _ => ?_) (fun c0 => absurd (rfl) c0)
      refine lv_aload_n hx hb dL_isSound_349 rfl (lv_at hl 9 rfl) ?_
      refine lv_iload hx hb dL_isSound_350 (lv_at hl 3 rfl) ?_
      refine cs_vir hF (c_X6_runs l D cy ad S (nI 0) (by decide) (by decide)) (cwV 1 hL gl_9 rfl rfl rfl kk_X6_runs ⟨Nat.le_of_ble_eq_true rfl, Nat.le_of_ble_eq_true rfl⟩) (cs_recv hK hw (ci := 6) 0 rfl rfl) hw hK hS rfl hl.1 [] rfl (Nat.le_of_ble_eq_true rfl) dL_isSound_352 (fun r H locs hq hw hS => ?_)
      replace hq := hq.trans (runs_eq hI (l := 0) (by decide))
      subst hq
      refine lv_iload_n hx hb dL_isSound_355 rfl (lv_at hl 7 rfl) ?_
      refine lv_icmp_ge (tgt := 383) hx hb dL_isSound_356 (by decide) (fun c0 => absurd c0 (nI_ge (by have := hfu 0 (by decide); unfold Ful at this; rw [if_pos (by omega)] at this; omega) (by omega))) (fun _ => ?_)
      refine lv_iload_n hx hb dL_isSound_359 rfl (lv_at hl 8 rfl) ?_
      refine lv_iconst (v := 1) hx hb dL_isSound_360 (by decide) ?_
      refine lv_icmp_ne (tgt := 385) hx hb dL_isSound_361 (by decide) (fun _ => ?_) (fun c0 => absurd c0 (by decide))
      refine lv_iload hx hb dL_isSound_385 (lv_at hl 5 rfl) ?_
      refine lv_iload hx hb dL_isSound_387 (lv_at hl 2 rfl) ?_
      refine lv_iadd hx hb dL_isSound_389 ?_
      rw [show ((nI (agz (pre L 0)).length) + (nI (agz (L 0)).length) : Int32) = nI (agz (pre L (0 + 1))).length from e1]
      refine lv_istore (lv' := [(4, .int (nI (agz (pre L (0 + 1))).length)), (10, .int (nI 0)), (9, .int (nI pc)), (7, .int (nI (agz (L 0)).length)), (6, .int (nI 0)), (5, .int (nI (stn V (agz (pre L (0 + 1)))))), (3, .int (nI pc)), (2, .int (nI fan)), (1, .int (nI 0)), (0, .ref (ad 0))]) hx hb dL_isSound_390 hl (by decide) rfl (fun ls hl => ?_)
      refine lv_iinc (v := nI 1) (lv' := [(6, .int (nI 1)), (4, .int (nI (agz (pre L (0 + 1))).length)), (10, .int (nI 0)), (9, .int (nI pc)), (7, .int (nI (agz (L 0)).length)), (5, .int (nI (stn V (agz (pre L (0 + 1)))))), (3, .int (nI pc)), (2, .int (nI fan)), (1, .int (nI 0)), (0, .ref (ad 0))]) hx hb dL_isSound_392 hl (k := 4) rfl (nI_1 _) (by decide) rfl (fun ls hl => ?_)
      refine lv_goto (tgt := 9) hx hb dL_isSound_395 (by decide) ?_
      exact kk H locs ls hw hS (lv_sub hl [0, 5, 1, 6, 7, 8, 9] rfl)
    ·
      refine lv_iload_n hx hb dL_isSound_315 rfl (lv_at hl 4 rfl) ?_
      refine lv_istore (lv' := [(9, .int (nI pc)), (7, .int (nI (agz (L 1)).length)), (6, .int (nI 1)), (5, .int (nI (stn V (agz (pre L (1 + 1)))))), (4, .int (nI (agz (pre L 1)).length)), (3, .int (nI pc)), (2, .int (nI fan)), (1, .int (nI 0)), (0, .ref (ad 0))]) hx hb dL_isSound_316 hl (by decide) rfl (fun ls hl => ?_)
      refine lv_iconst (v := 0) hx hb dL_isSound_318 (by decide) ?_
      rw [show (0 : Int32) = nI 0 from rfl]
      refine lv_istore (lv' := [(10, .int (nI 0)), (9, .int (nI pc)), (7, .int (nI (agz (L 1)).length)), (6, .int (nI 1)), (5, .int (nI (stn V (agz (pre L (1 + 1)))))), (4, .int (nI (agz (pre L 1)).length)), (3, .int (nI pc)), (2, .int (nI fan)), (1, .int (nI 0)), (0, .ref (ad 0))]) hx hb dL_isSound_319 hl (by decide) rfl (fun ls hl => ?_)
      refine lv_iload hx hb dL_isSound_321 (lv_at hl 0 rfl) ?_
      refine lv_iload hx hb dL_isSound_323 (lv_at hl 3 rfl) ?_
      refine lv_icmp_ge (tgt := 340) hx hb dL_isSound_325 (by decide) (fun c0 => absurd c0 (by decide)) (fun _ => ?_)
      refine lv_iload hx hb dL_isSound_328 (lv_at hl 1 rfl) ?_
      refine lv_iload_n hx hb dL_isSound_330 rfl (lv_at hl 7 rfl) ?_
      refine lv_imul hx hb dL_isSound_331 ?_
      rw [show ((nI pc) * (nI fan) : Int32) = nI (pc * fan) from nI_mul _ _]
      refine lv_istore (lv' := [(9, .int (nI (pc * fan))), (10, .int (nI 0)), (7, .int (nI (agz (L 1)).length)), (6, .int (nI 1)), (5, .int (nI (stn V (agz (pre L (1 + 1)))))), (4, .int (nI (agz (pre L 1)).length)), (3, .int (nI pc)), (2, .int (nI fan)), (1, .int (nI 0)), (0, .ref (ad 0))]) hx hb dL_isSound_332 hl (by decide) rfl (fun ls hl => ?_)
      refine lv_iinc (v := nI 1) (lv' := [(10, .int (nI 1)), (9, .int (nI (pc * fan))), (7, .int (nI (agz (L 1)).length)), (6, .int (nI 1)), (5, .int (nI (stn V (agz (pre L (1 + 1)))))), (4, .int (nI (agz (pre L 1)).length)), (3, .int (nI pc)), (2, .int (nI fan)), (1, .int (nI 0)), (0, .ref (ad 0))]) hx hb dL_isSound_334 hl (k := 1) rfl (nI_1 _) (by decide) rfl (fun ls hl => ?_)
      refine lv_goto (tgt := 321) hx hb dL_isSound_337 (by decide) ?_
      refine lv_iload hx hb dL_isSound_321 (lv_at hl 0 rfl) ?_
      refine lv_iload hx hb dL_isSound_323 (lv_at hl 3 rfl) ?_
      refine lv_icmp_ge (tgt := 340) hx hb dL_isSound_325 (by decide) (fun _ => ?_) (fun c0 => absurd (by decide) c0)
      refine lv_iload_n hx hb dL_isSound_340 rfl (lv_at hl 8 rfl) ?_
      refine lv_if_eq (tgt := 349) hx hb dL_isSound_341 (by decide) (fun _ => ?_) (fun c0 => absurd (rfl) c0)
      refine lv_aload_n hx hb dL_isSound_349 rfl (lv_at hl 9 rfl) ?_
      refine lv_iload hx hb dL_isSound_350 (lv_at hl 3 rfl) ?_
      refine cs_vir hF (c_X6_runs l D cy ad S (nI 1) (by decide) (by decide)) (cwV 1 hL gl_9 rfl rfl rfl kk_X6_runs ⟨Nat.le_of_ble_eq_true rfl, Nat.le_of_ble_eq_true rfl⟩) (cs_recv hK hw (ci := 6) 0 rfl rfl) hw hK hS rfl hl.1 [] rfl (Nat.le_of_ble_eq_true rfl) dL_isSound_352 (fun r H locs hq hw hS => ?_)
      replace hq := hq.trans (runs_eq hI (l := 1) (by decide))
      subst hq
      refine lv_iload_n hx hb dL_isSound_355 rfl (lv_at hl 7 rfl) ?_
      refine lv_icmp_ge (tgt := 383) hx hb dL_isSound_356 (by decide) (fun c0 => absurd c0 (nI_ge (by have := hfu 1 (by decide); unfold Ful at this; rw [if_pos (by omega)] at this; omega) (by omega))) (fun _ => ?_)
      refine lv_iload_n hx hb dL_isSound_359 rfl (lv_at hl 8 rfl) ?_
      refine lv_iconst (v := 1) hx hb dL_isSound_360 (by decide) ?_
      refine lv_icmp_ne (tgt := 385) hx hb dL_isSound_361 (by decide) (fun _ => ?_) (fun c0 => absurd c0 (by decide))
      refine lv_iload hx hb dL_isSound_385 (lv_at hl 5 rfl) ?_
      refine lv_iload hx hb dL_isSound_387 (lv_at hl 2 rfl) ?_
      refine lv_iadd hx hb dL_isSound_389 ?_
      rw [show ((nI (agz (pre L 1)).length) + (nI (agz (L 1)).length) : Int32) = nI (agz (pre L (1 + 1))).length from e1]
      refine lv_istore (lv' := [(4, .int (nI (agz (pre L (1 + 1))).length)), (10, .int (nI 1)), (9, .int (nI (pc * fan))), (7, .int (nI (agz (L 1)).length)), (6, .int (nI 1)), (5, .int (nI (stn V (agz (pre L (1 + 1)))))), (3, .int (nI pc)), (2, .int (nI fan)), (1, .int (nI 0)), (0, .ref (ad 0))]) hx hb dL_isSound_390 hl (by decide) rfl (fun ls hl => ?_)
      refine lv_iinc (v := nI 2) (lv' := [(6, .int (nI 2)), (4, .int (nI (agz (pre L (1 + 1))).length)), (10, .int (nI 1)), (9, .int (nI (pc * fan))), (7, .int (nI (agz (L 1)).length)), (5, .int (nI (stn V (agz (pre L (1 + 1)))))), (3, .int (nI pc)), (2, .int (nI fan)), (1, .int (nI 0)), (0, .ref (ad 0))]) hx hb dL_isSound_392 hl (k := 4) rfl (nI_1 _) (by decide) rfl (fun ls hl => ?_)
      refine lv_goto (tgt := 9) hx hb dL_isSound_395 (by decide) ?_
      exact kk H locs ls hw hS (lv_sub hl [0, 5, 1, 6, 7, 8, 9] rfl)
    ·
      refine lv_iload_n hx hb dL_isSound_315 rfl (lv_at hl 4 rfl) ?_
      refine lv_istore (lv' := [(9, .int (nI pc)), (7, .int (nI (agz (L 2)).length)), (6, .int (nI 2)), (5, .int (nI (stn V (agz (pre L (2 + 1)))))), (4, .int (nI (agz (pre L 2)).length)), (3, .int (nI pc)), (2, .int (nI fan)), (1, .int (nI 0)), (0, .ref (ad 0))]) hx hb dL_isSound_316 hl (by decide) rfl (fun ls hl => ?_)
      refine lv_iconst (v := 0) hx hb dL_isSound_318 (by decide) ?_
      rw [show (0 : Int32) = nI 0 from rfl]
      refine lv_istore (lv' := [(10, .int (nI 0)), (9, .int (nI pc)), (7, .int (nI (agz (L 2)).length)), (6, .int (nI 2)), (5, .int (nI (stn V (agz (pre L (2 + 1)))))), (4, .int (nI (agz (pre L 2)).length)), (3, .int (nI pc)), (2, .int (nI fan)), (1, .int (nI 0)), (0, .ref (ad 0))]) hx hb dL_isSound_319 hl (by decide) rfl (fun ls hl => ?_)
      refine lv_iload hx hb dL_isSound_321 (lv_at hl 0 rfl) ?_
      refine lv_iload hx hb dL_isSound_323 (lv_at hl 3 rfl) ?_
      refine lv_icmp_ge (tgt := 340) hx hb dL_isSound_325 (by decide) (fun c0 => absurd c0 (by decide)) (fun _ => ?_)
      refine lv_iload hx hb dL_isSound_328 (lv_at hl 1 rfl) ?_
      refine lv_iload_n hx hb dL_isSound_330 rfl (lv_at hl 7 rfl) ?_
      refine lv_imul hx hb dL_isSound_331 ?_
      rw [show ((nI pc) * (nI fan) : Int32) = nI (pc * fan) from nI_mul _ _]
      refine lv_istore (lv' := [(9, .int (nI (pc * fan))), (10, .int (nI 0)), (7, .int (nI (agz (L 2)).length)), (6, .int (nI 2)), (5, .int (nI (stn V (agz (pre L (2 + 1)))))), (4, .int (nI (agz (pre L 2)).length)), (3, .int (nI pc)), (2, .int (nI fan)), (1, .int (nI 0)), (0, .ref (ad 0))]) hx hb dL_isSound_332 hl (by decide) rfl (fun ls hl => ?_)
      refine lv_iinc (v := nI 1) (lv' := [(10, .int (nI 1)), (9, .int (nI (pc * fan))), (7, .int (nI (agz (L 2)).length)), (6, .int (nI 2)), (5, .int (nI (stn V (agz (pre L (2 + 1)))))), (4, .int (nI (agz (pre L 2)).length)), (3, .int (nI pc)), (2, .int (nI fan)), (1, .int (nI 0)), (0, .ref (ad 0))]) hx hb dL_isSound_334 hl (k := 1) rfl (nI_1 _) (by decide) rfl (fun ls hl => ?_)
      refine lv_goto (tgt := 321) hx hb dL_isSound_337 (by decide) ?_
      refine lv_iload hx hb dL_isSound_321 (lv_at hl 0 rfl) ?_
      refine lv_iload hx hb dL_isSound_323 (lv_at hl 3 rfl) ?_
      refine lv_icmp_ge (tgt := 340) hx hb dL_isSound_325 (by decide) (fun c0 => absurd c0 (by decide)) (fun _ => ?_)
      refine lv_iload hx hb dL_isSound_328 (lv_at hl 1 rfl) ?_
      refine lv_iload_n hx hb dL_isSound_330 rfl (lv_at hl 7 rfl) ?_
      refine lv_imul hx hb dL_isSound_331 ?_
      rw [show ((nI (pc * fan)) * (nI fan) : Int32) = nI ((pc * fan) * fan) from nI_mul _ _]
      refine lv_istore (lv' := [(9, .int (nI ((pc * fan) * fan))), (10, .int (nI 1)), (7, .int (nI (agz (L 2)).length)), (6, .int (nI 2)), (5, .int (nI (stn V (agz (pre L (2 + 1)))))), (4, .int (nI (agz (pre L 2)).length)), (3, .int (nI pc)), (2, .int (nI fan)), (1, .int (nI 0)), (0, .ref (ad 0))]) hx hb dL_isSound_332 hl (by decide) rfl (fun ls hl => ?_)
      refine lv_iinc (v := nI 2) (lv' := [(10, .int (nI 2)), (9, .int (nI ((pc * fan) * fan))), (7, .int (nI (agz (L 2)).length)), (6, .int (nI 2)), (5, .int (nI (stn V (agz (pre L (2 + 1)))))), (4, .int (nI (agz (pre L 2)).length)), (3, .int (nI pc)), (2, .int (nI fan)), (1, .int (nI 0)), (0, .ref (ad 0))]) hx hb dL_isSound_334 hl (k := 1) rfl (nI_1 _) (by decide) rfl (fun ls hl => ?_)
      refine lv_goto (tgt := 321) hx hb dL_isSound_337 (by decide) ?_
      refine lv_iload hx hb dL_isSound_321 (lv_at hl 0 rfl) ?_
      refine lv_iload hx hb dL_isSound_323 (lv_at hl 3 rfl) ?_
      refine lv_icmp_ge (tgt := 340) hx hb dL_isSound_325 (by decide) (fun _ => ?_) (fun c0 => absurd (by decide) c0)
      refine lv_iload_n hx hb dL_isSound_340 rfl (lv_at hl 8 rfl) ?_
      refine lv_if_eq (tgt := 349) hx hb dL_isSound_341 (by decide) (fun _ => ?_) (fun c0 => absurd (rfl) c0)
      refine lv_aload_n hx hb dL_isSound_349 rfl (lv_at hl 9 rfl) ?_
      refine lv_iload hx hb dL_isSound_350 (lv_at hl 3 rfl) ?_
      refine cs_vir hF (c_X6_runs l D cy ad S (nI 2) (by decide) (by decide)) (cwV 1 hL gl_9 rfl rfl rfl kk_X6_runs ⟨Nat.le_of_ble_eq_true rfl, Nat.le_of_ble_eq_true rfl⟩) (cs_recv hK hw (ci := 6) 0 rfl rfl) hw hK hS rfl hl.1 [] rfl (Nat.le_of_ble_eq_true rfl) dL_isSound_352 (fun r H locs hq hw hS => ?_)
      replace hq := hq.trans (runs_eq hI (l := 2) (by decide))
      subst hq
      refine lv_iload_n hx hb dL_isSound_355 rfl (lv_at hl 7 rfl) ?_
      refine lv_icmp_ge (tgt := 383) hx hb dL_isSound_356 (by decide) (fun c0 => absurd c0 (nI_ge (by have := hfu 2 (by decide); unfold Ful at this; rw [if_pos (by omega)] at this; omega) (by omega))) (fun _ => ?_)
      refine lv_iload_n hx hb dL_isSound_359 rfl (lv_at hl 8 rfl) ?_
      refine lv_iconst (v := 1) hx hb dL_isSound_360 (by decide) ?_
      refine lv_icmp_ne (tgt := 385) hx hb dL_isSound_361 (by decide) (fun _ => ?_) (fun c0 => absurd c0 (by decide))
      refine lv_iload hx hb dL_isSound_385 (lv_at hl 5 rfl) ?_
      refine lv_iload hx hb dL_isSound_387 (lv_at hl 2 rfl) ?_
      refine lv_iadd hx hb dL_isSound_389 ?_
      rw [show ((nI (agz (pre L 2)).length) + (nI (agz (L 2)).length) : Int32) = nI (agz (pre L (2 + 1))).length from e1]
      refine lv_istore (lv' := [(4, .int (nI (agz (pre L (2 + 1))).length)), (10, .int (nI 2)), (9, .int (nI ((pc * fan) * fan))), (7, .int (nI (agz (L 2)).length)), (6, .int (nI 2)), (5, .int (nI (stn V (agz (pre L (2 + 1)))))), (3, .int (nI pc)), (2, .int (nI fan)), (1, .int (nI 0)), (0, .ref (ad 0))]) hx hb dL_isSound_390 hl (by decide) rfl (fun ls hl => ?_)
      refine lv_iinc (v := nI 3) (lv' := [(6, .int (nI 3)), (4, .int (nI (agz (pre L (2 + 1))).length)), (10, .int (nI 2)), (9, .int (nI ((pc * fan) * fan))), (7, .int (nI (agz (L 2)).length)), (5, .int (nI (stn V (agz (pre L (2 + 1)))))), (3, .int (nI pc)), (2, .int (nI fan)), (1, .int (nI 0)), (0, .ref (ad 0))]) hx hb dL_isSound_392 hl (k := 4) rfl (nI_1 _) (by decide) rfl (fun ls hl => ?_)
      refine lv_goto (tgt := 9) hx hb dL_isSound_395 (by decide) ?_
      exact kk H locs ls hw hS (lv_sub hl [0, 5, 1, 6, 7, 8, 9] rfl)
    ·
      refine lv_iload_n hx hb dL_isSound_315 rfl (lv_at hl 4 rfl) ?_
      refine lv_istore (lv' := [(9, .int (nI pc)), (7, .int (nI (agz (L 3)).length)), (6, .int (nI 3)), (5, .int (nI (stn V (agz (pre L (3 + 1)))))), (4, .int (nI (agz (pre L 3)).length)), (3, .int (nI pc)), (2, .int (nI fan)), (1, .int (nI 0)), (0, .ref (ad 0))]) hx hb dL_isSound_316 hl (by decide) rfl (fun ls hl => ?_)
      refine lv_iconst (v := 0) hx hb dL_isSound_318 (by decide) ?_
      rw [show (0 : Int32) = nI 0 from rfl]
      refine lv_istore (lv' := [(10, .int (nI 0)), (9, .int (nI pc)), (7, .int (nI (agz (L 3)).length)), (6, .int (nI 3)), (5, .int (nI (stn V (agz (pre L (3 + 1)))))), (4, .int (nI (agz (pre L 3)).length)), (3, .int (nI pc)), (2, .int (nI fan)), (1, .int (nI 0)), (0, .ref (ad 0))]) hx hb dL_isSound_319 hl (by decide) rfl (fun ls hl => ?_)
      refine lv_iload hx hb dL_isSound_321 (lv_at hl 0 rfl) ?_
      refine lv_iload hx hb dL_isSound_323 (lv_at hl 3 rfl) ?_
      refine lv_icmp_ge (tgt := 340) hx hb dL_isSound_325 (by decide) (fun c0 => absurd c0 (by decide)) (fun _ => ?_)
      refine lv_iload hx hb dL_isSound_328 (lv_at hl 1 rfl) ?_
      refine lv_iload_n hx hb dL_isSound_330 rfl (lv_at hl 7 rfl) ?_
      refine lv_imul hx hb dL_isSound_331 ?_
      rw [show ((nI pc) * (nI fan) : Int32) = nI (pc * fan) from nI_mul _ _]
      refine lv_istore (lv' := [(9, .int (nI (pc * fan))), (10, .int (nI 0)), (7, .int (nI (agz (L 3)).length)), (6, .int (nI 3)), (5, .int (nI (stn V (agz (pre L (3 + 1)))))), (4, .int (nI (agz (pre L 3)).length)), (3, .int (nI pc)), (2, .int (nI fan)), (1, .int (nI 0)), (0, .ref (ad 0))]) hx hb dL_isSound_332 hl (by decide) rfl (fun ls hl => ?_)
      refine lv_iinc (v := nI 1) (lv' := [(10, .int (nI 1)), (9, .int (nI (pc * fan))), (7, .int (nI (agz (L 3)).length)), (6, .int (nI 3)), (5, .int (nI (stn V (agz (pre L (3 + 1)))))), (4, .int (nI (agz (pre L 3)).length)), (3, .int (nI pc)), (2, .int (nI fan)), (1, .int (nI 0)), (0, .ref (ad 0))]) hx hb dL_isSound_334 hl (k := 1) rfl (nI_1 _) (by decide) rfl (fun ls hl => ?_)
      refine lv_goto (tgt := 321) hx hb dL_isSound_337 (by decide) ?_
      refine lv_iload hx hb dL_isSound_321 (lv_at hl 0 rfl) ?_
      refine lv_iload hx hb dL_isSound_323 (lv_at hl 3 rfl) ?_
      refine lv_icmp_ge (tgt := 340) hx hb dL_isSound_325 (by decide) (fun c0 => absurd c0 (by decide)) (fun _ => ?_)
      refine lv_iload hx hb dL_isSound_328 (lv_at hl 1 rfl) ?_
      refine lv_iload_n hx hb dL_isSound_330 rfl (lv_at hl 7 rfl) ?_
      refine lv_imul hx hb dL_isSound_331 ?_
      rw [show ((nI (pc * fan)) * (nI fan) : Int32) = nI ((pc * fan) * fan) from nI_mul _ _]
      refine lv_istore (lv' := [(9, .int (nI ((pc * fan) * fan))), (10, .int (nI 1)), (7, .int (nI (agz (L 3)).length)), (6, .int (nI 3)), (5, .int (nI (stn V (agz (pre L (3 + 1)))))), (4, .int (nI (agz (pre L 3)).length)), (3, .int (nI pc)), (2, .int (nI fan)), (1, .int (nI 0)), (0, .ref (ad 0))]) hx hb dL_isSound_332 hl (by decide) rfl (fun ls hl => ?_)
      refine lv_iinc (v := nI 2) (lv' := [(10, .int (nI 2)), (9, .int (nI ((pc * fan) * fan))), (7, .int (nI (agz (L 3)).length)), (6, .int (nI 3)), (5, .int (nI (stn V (agz (pre L (3 + 1)))))), (4, .int (nI (agz (pre L 3)).length)), (3, .int (nI pc)), (2, .int (nI fan)), (1, .int (nI 0)), (0, .ref (ad 0))]) hx hb dL_isSound_334 hl (k := 1) rfl (nI_1 _) (by decide) rfl (fun ls hl => ?_)
      refine lv_goto (tgt := 321) hx hb dL_isSound_337 (by decide) ?_
      refine lv_iload hx hb dL_isSound_321 (lv_at hl 0 rfl) ?_
      refine lv_iload hx hb dL_isSound_323 (lv_at hl 3 rfl) ?_
      refine lv_icmp_ge (tgt := 340) hx hb dL_isSound_325 (by decide) (fun c0 => absurd c0 (by decide)) (fun _ => ?_)
      refine lv_iload hx hb dL_isSound_328 (lv_at hl 1 rfl) ?_
      refine lv_iload_n hx hb dL_isSound_330 rfl (lv_at hl 7 rfl) ?_
      refine lv_imul hx hb dL_isSound_331 ?_
      rw [show ((nI ((pc * fan) * fan)) * (nI fan) : Int32) = nI (((pc * fan) * fan) * fan) from nI_mul _ _]
      refine lv_istore (lv' := [(9, .int (nI (((pc * fan) * fan) * fan))), (10, .int (nI 2)), (7, .int (nI (agz (L 3)).length)), (6, .int (nI 3)), (5, .int (nI (stn V (agz (pre L (3 + 1)))))), (4, .int (nI (agz (pre L 3)).length)), (3, .int (nI pc)), (2, .int (nI fan)), (1, .int (nI 0)), (0, .ref (ad 0))]) hx hb dL_isSound_332 hl (by decide) rfl (fun ls hl => ?_)
      refine lv_iinc (v := nI 3) (lv' := [(10, .int (nI 3)), (9, .int (nI (((pc * fan) * fan) * fan))), (7, .int (nI (agz (L 3)).length)), (6, .int (nI 3)), (5, .int (nI (stn V (agz (pre L (3 + 1)))))), (4, .int (nI (agz (pre L 3)).length)), (3, .int (nI pc)), (2, .int (nI fan)), (1, .int (nI 0)), (0, .ref (ad 0))]) hx hb dL_isSound_334 hl (k := 1) rfl (nI_1 _) (by decide) rfl (fun ls hl => ?_)
      refine lv_goto (tgt := 321) hx hb dL_isSound_337 (by decide) ?_
      refine lv_iload hx hb dL_isSound_321 (lv_at hl 0 rfl) ?_
      refine lv_iload hx hb dL_isSound_323 (lv_at hl 3 rfl) ?_
      refine lv_icmp_ge (tgt := 340) hx hb dL_isSound_325 (by decide) (fun _ => ?_) (fun c0 => absurd (by decide) c0)
      refine lv_iload_n hx hb dL_isSound_340 rfl (lv_at hl 8 rfl) ?_
      refine lv_if_eq (tgt := 349) hx hb dL_isSound_341 (by decide) (fun _ => ?_) (fun c0 => absurd (rfl) c0)
      refine lv_aload_n hx hb dL_isSound_349 rfl (lv_at hl 9 rfl) ?_
      refine lv_iload hx hb dL_isSound_350 (lv_at hl 3 rfl) ?_
      refine cs_vir hF (c_X6_runs l D cy ad S (nI 3) (by decide) (by decide)) (cwV 1 hL gl_9 rfl rfl rfl kk_X6_runs ⟨Nat.le_of_ble_eq_true rfl, Nat.le_of_ble_eq_true rfl⟩) (cs_recv hK hw (ci := 6) 0 rfl rfl) hw hK hS rfl hl.1 [] rfl (Nat.le_of_ble_eq_true rfl) dL_isSound_352 (fun r H locs hq hw hS => ?_)
      replace hq := hq.trans (runs_eq hI (l := 3) (by decide))
      subst hq
      refine lv_iload_n hx hb dL_isSound_355 rfl (lv_at hl 7 rfl) ?_
      refine lv_icmp_ge (tgt := 383) hx hb dL_isSound_356 (by decide) (fun c0 => absurd c0 (nI_ge (by have := hfu 3 (by decide); unfold Ful at this; rw [if_pos (by omega)] at this; omega) (by omega))) (fun _ => ?_)
      refine lv_iload_n hx hb dL_isSound_359 rfl (lv_at hl 8 rfl) ?_
      refine lv_iconst (v := 1) hx hb dL_isSound_360 (by decide) ?_
      refine lv_icmp_ne (tgt := 385) hx hb dL_isSound_361 (by decide) (fun _ => ?_) (fun c0 => absurd c0 (by decide))
      refine lv_iload hx hb dL_isSound_385 (lv_at hl 5 rfl) ?_
      refine lv_iload hx hb dL_isSound_387 (lv_at hl 2 rfl) ?_
      refine lv_iadd hx hb dL_isSound_389 ?_
      rw [show ((nI (agz (pre L 3)).length) + (nI (agz (L 3)).length) : Int32) = nI (agz (pre L (3 + 1))).length from e1]
      refine lv_istore (lv' := [(4, .int (nI (agz (pre L (3 + 1))).length)), (10, .int (nI 3)), (9, .int (nI (((pc * fan) * fan) * fan))), (7, .int (nI (agz (L 3)).length)), (6, .int (nI 3)), (5, .int (nI (stn V (agz (pre L (3 + 1)))))), (3, .int (nI pc)), (2, .int (nI fan)), (1, .int (nI 0)), (0, .ref (ad 0))]) hx hb dL_isSound_390 hl (by decide) rfl (fun ls hl => ?_)
      refine lv_iinc (v := nI 4) (lv' := [(6, .int (nI 4)), (4, .int (nI (agz (pre L (3 + 1))).length)), (10, .int (nI 3)), (9, .int (nI (((pc * fan) * fan) * fan))), (7, .int (nI (agz (L 3)).length)), (5, .int (nI (stn V (agz (pre L (3 + 1)))))), (3, .int (nI pc)), (2, .int (nI fan)), (1, .int (nI 0)), (0, .ref (ad 0))]) hx hb dL_isSound_392 hl (k := 4) rfl (nI_1 _) (by decide) rfl (fun ls hl => ?_)
      refine lv_goto (tgt := 9) hx hb dL_isSound_395 (by decide) ?_
      exact kk H locs ls hw hS (lv_sub hl [0, 5, 1, 6, 7, 8, 9] rfl)
  · obtain rfl | rfl | rfl | rfl : lv = 0 ∨ lv = 1 ∨ lv = 2 ∨ lv = 3 := by omega
    ·
      refine lv_iload_n hx hb dL_isSound_315 rfl (lv_at hl 4 rfl) ?_
      refine lv_istore (lv' := [(9, .int (nI pc)), (7, .int (nI (agz (L 0)).length)), (6, .int (nI 0)), (5, .int (nI (stn V (agz (pre L (0 + 1)))))), (4, .int (nI (agz (pre L 0)).length)), (3, .int (nI pc)), (2, .int (nI fan)), (1, .int (nI 1)), (0, .ref (ad 0))]) hx hb dL_isSound_316 hl (by decide) rfl (fun ls hl => ?_)
      refine lv_iconst (v := 0) hx hb dL_isSound_318 (by decide) ?_
      rw [show (0 : Int32) = nI 0 from rfl]
      refine lv_istore (lv' := [(10, .int (nI 0)), (9, .int (nI pc)), (7, .int (nI (agz (L 0)).length)), (6, .int (nI 0)), (5, .int (nI (stn V (agz (pre L (0 + 1)))))), (4, .int (nI (agz (pre L 0)).length)), (3, .int (nI pc)), (2, .int (nI fan)), (1, .int (nI 1)), (0, .ref (ad 0))]) hx hb dL_isSound_319 hl (by decide) rfl (fun ls hl => ?_)
      refine lv_iload hx hb dL_isSound_321 (lv_at hl 0 rfl) ?_
      refine lv_iload hx hb dL_isSound_323 (lv_at hl 3 rfl) ?_
      refine lv_icmp_ge (tgt := 340) hx hb dL_isSound_325 (by decide) (fun _ => ?_) (fun c0 => absurd (by decide) c0)
      refine lv_iload_n hx hb dL_isSound_340 rfl (lv_at hl 8 rfl) ?_
      refine lv_if_eq (tgt := 349) hx hb dL_isSound_341 (by decide) (fun c0 => absurd c0 (by decide)) (fun _ => ?_)
      refine lv_iload hx hb dL_isSound_344 (lv_at hl 3 rfl) ?_
      refine lv_if_ne (tgt := 359) hx hb dL_isSound_346 (by decide) (fun c0 => absurd (rfl) c0) (fun _ => ?_)
      refine lv_aload_n hx hb dL_isSound_349 rfl (lv_at hl 9 rfl) ?_
      refine lv_iload hx hb dL_isSound_350 (lv_at hl 3 rfl) ?_
      refine cs_vir hF (c_X6_runs l D cy ad S (nI 0) (by decide) (by decide)) (cwV 1 hL gl_9 rfl rfl rfl kk_X6_runs ⟨Nat.le_of_ble_eq_true rfl, Nat.le_of_ble_eq_true rfl⟩) (cs_recv hK hw (ci := 6) 0 rfl rfl) hw hK hS rfl hl.1 [] rfl (Nat.le_of_ble_eq_true rfl) dL_isSound_352 (fun r H locs hq hw hS => ?_)
      replace hq := hq.trans (runs_eq hI (l := 0) (by decide))
      subst hq
      refine lv_iload_n hx hb dL_isSound_355 rfl (lv_at hl 7 rfl) ?_
      refine lv_icmp_ge (tgt := 383) hx hb dL_isSound_356 (by decide) (fun c0 => absurd c0 (nI_ge (by have := hfu 0 (by decide); unfold Ful at this; rw [if_pos (by omega)] at this; omega) (by omega))) (fun _ => ?_)
      refine lv_iload_n hx hb dL_isSound_359 rfl (lv_at hl 8 rfl) ?_
      refine lv_iconst (v := 1) hx hb dL_isSound_360 (by decide) ?_
      refine lv_icmp_ne (tgt := 385) hx hb dL_isSound_361 (by decide) (fun c0 => absurd (rfl) c0) (fun _ => ?_)
      refine lv_iload hx hb dL_isSound_364 (lv_at hl 3 rfl) ?_
      refine lv_iconst (v := 1) hx hb dL_isSound_366 (by decide) ?_
      refine lv_icmp_eq (tgt := 376) hx hb dL_isSound_367 (by decide) (fun c0 => absurd c0 (by decide)) (fun _ => ?_)
      refine lv_iload hx hb dL_isSound_370 (lv_at hl 3 rfl) ?_
      refine lv_iconst (v := 2) hx hb dL_isSound_372 (by decide) ?_
      refine lv_icmp_ne (tgt := 385) hx hb dL_isSound_373 (by decide) (fun _ => ?_) (fun c0 => absurd c0 (by decide))
      refine lv_iload hx hb dL_isSound_385 (lv_at hl 5 rfl) ?_
      refine lv_iload hx hb dL_isSound_387 (lv_at hl 2 rfl) ?_
      refine lv_iadd hx hb dL_isSound_389 ?_
      rw [show ((nI (agz (pre L 0)).length) + (nI (agz (L 0)).length) : Int32) = nI (agz (pre L (0 + 1))).length from e1]
      refine lv_istore (lv' := [(4, .int (nI (agz (pre L (0 + 1))).length)), (10, .int (nI 0)), (9, .int (nI pc)), (7, .int (nI (agz (L 0)).length)), (6, .int (nI 0)), (5, .int (nI (stn V (agz (pre L (0 + 1)))))), (3, .int (nI pc)), (2, .int (nI fan)), (1, .int (nI 1)), (0, .ref (ad 0))]) hx hb dL_isSound_390 hl (by decide) rfl (fun ls hl => ?_)
      refine lv_iinc (v := nI 1) (lv' := [(6, .int (nI 1)), (4, .int (nI (agz (pre L (0 + 1))).length)), (10, .int (nI 0)), (9, .int (nI pc)), (7, .int (nI (agz (L 0)).length)), (5, .int (nI (stn V (agz (pre L (0 + 1)))))), (3, .int (nI pc)), (2, .int (nI fan)), (1, .int (nI 1)), (0, .ref (ad 0))]) hx hb dL_isSound_392 hl (k := 4) rfl (nI_1 _) (by decide) rfl (fun ls hl => ?_)
      refine lv_goto (tgt := 9) hx hb dL_isSound_395 (by decide) ?_
      exact kk H locs ls hw hS (lv_sub hl [0, 5, 1, 6, 7, 8, 9] rfl)
    ·
      refine lv_iload_n hx hb dL_isSound_315 rfl (lv_at hl 4 rfl) ?_
      refine lv_istore (lv' := [(9, .int (nI pc)), (7, .int (nI (agz (L 1)).length)), (6, .int (nI 1)), (5, .int (nI (stn V (agz (pre L (1 + 1)))))), (4, .int (nI (agz (pre L 1)).length)), (3, .int (nI pc)), (2, .int (nI fan)), (1, .int (nI 1)), (0, .ref (ad 0))]) hx hb dL_isSound_316 hl (by decide) rfl (fun ls hl => ?_)
      refine lv_iconst (v := 0) hx hb dL_isSound_318 (by decide) ?_
      rw [show (0 : Int32) = nI 0 from rfl]
      refine lv_istore (lv' := [(10, .int (nI 0)), (9, .int (nI pc)), (7, .int (nI (agz (L 1)).length)), (6, .int (nI 1)), (5, .int (nI (stn V (agz (pre L (1 + 1)))))), (4, .int (nI (agz (pre L 1)).length)), (3, .int (nI pc)), (2, .int (nI fan)), (1, .int (nI 1)), (0, .ref (ad 0))]) hx hb dL_isSound_319 hl (by decide) rfl (fun ls hl => ?_)
      refine lv_iload hx hb dL_isSound_321 (lv_at hl 0 rfl) ?_
      refine lv_iload hx hb dL_isSound_323 (lv_at hl 3 rfl) ?_
      refine lv_icmp_ge (tgt := 340) hx hb dL_isSound_325 (by decide) (fun c0 => absurd c0 (by decide)) (fun _ => ?_)
      refine lv_iload hx hb dL_isSound_328 (lv_at hl 1 rfl) ?_
      refine lv_iload_n hx hb dL_isSound_330 rfl (lv_at hl 7 rfl) ?_
      refine lv_imul hx hb dL_isSound_331 ?_
      rw [show ((nI pc) * (nI fan) : Int32) = nI (pc * fan) from nI_mul _ _]
      refine lv_istore (lv' := [(9, .int (nI (pc * fan))), (10, .int (nI 0)), (7, .int (nI (agz (L 1)).length)), (6, .int (nI 1)), (5, .int (nI (stn V (agz (pre L (1 + 1)))))), (4, .int (nI (agz (pre L 1)).length)), (3, .int (nI pc)), (2, .int (nI fan)), (1, .int (nI 1)), (0, .ref (ad 0))]) hx hb dL_isSound_332 hl (by decide) rfl (fun ls hl => ?_)
      refine lv_iinc (v := nI 1) (lv' := [(10, .int (nI 1)), (9, .int (nI (pc * fan))), (7, .int (nI (agz (L 1)).length)), (6, .int (nI 1)), (5, .int (nI (stn V (agz (pre L (1 + 1)))))), (4, .int (nI (agz (pre L 1)).length)), (3, .int (nI pc)), (2, .int (nI fan)), (1, .int (nI 1)), (0, .ref (ad 0))]) hx hb dL_isSound_334 hl (k := 1) rfl (nI_1 _) (by decide) rfl (fun ls hl => ?_)
      refine lv_goto (tgt := 321) hx hb dL_isSound_337 (by decide) ?_
      refine lv_iload hx hb dL_isSound_321 (lv_at hl 0 rfl) ?_
      refine lv_iload hx hb dL_isSound_323 (lv_at hl 3 rfl) ?_
      refine lv_icmp_ge (tgt := 340) hx hb dL_isSound_325 (by decide) (fun _ => ?_) (fun c0 => absurd (by decide) c0)
      refine lv_iload_n hx hb dL_isSound_340 rfl (lv_at hl 8 rfl) ?_
      refine lv_if_eq (tgt := 349) hx hb dL_isSound_341 (by decide) (fun c0 => absurd c0 (by decide)) (fun _ => ?_)
      refine lv_iload hx hb dL_isSound_344 (lv_at hl 3 rfl) ?_
      refine lv_if_ne (tgt := 359) hx hb dL_isSound_346 (by decide) (fun _ => ?_) (fun c0 => absurd c0 (by decide))
      refine lv_iload_n hx hb dL_isSound_359 rfl (lv_at hl 8 rfl) ?_
      refine lv_iconst (v := 1) hx hb dL_isSound_360 (by decide) ?_
      refine lv_icmp_ne (tgt := 385) hx hb dL_isSound_361 (by decide) (fun c0 => absurd (rfl) c0) (fun _ => ?_)
      refine lv_iload hx hb dL_isSound_364 (lv_at hl 3 rfl) ?_
      refine lv_iconst (v := 1) hx hb dL_isSound_366 (by decide) ?_
      refine lv_icmp_eq (tgt := 376) hx hb dL_isSound_367 (by decide) (fun _ => ?_) (fun c0 => absurd (rfl) c0)
      refine lv_iload hx hb dL_isSound_376 (lv_at hl 2 rfl) ?_
      refine lv_iload hx hb dL_isSound_378 (lv_at hl 1 rfl) ?_
      refine lv_icmp_le (tgt := 385) hx hb dL_isSound_380 (by decide) (fun _ => ?_) (fun c0 => absurd (nI_le (by have := hfu 1 (by decide); unfold Ful at this; rw [if_neg (by omega), if_neg (by decide), if_pos rfl] at this; omega) (by omega)) c0)
      refine lv_iload hx hb dL_isSound_385 (lv_at hl 5 rfl) ?_
      refine lv_iload hx hb dL_isSound_387 (lv_at hl 2 rfl) ?_
      refine lv_iadd hx hb dL_isSound_389 ?_
      rw [show ((nI (agz (pre L 1)).length) + (nI (agz (L 1)).length) : Int32) = nI (agz (pre L (1 + 1))).length from e1]
      refine lv_istore (lv' := [(4, .int (nI (agz (pre L (1 + 1))).length)), (10, .int (nI 1)), (9, .int (nI (pc * fan))), (7, .int (nI (agz (L 1)).length)), (6, .int (nI 1)), (5, .int (nI (stn V (agz (pre L (1 + 1)))))), (3, .int (nI pc)), (2, .int (nI fan)), (1, .int (nI 1)), (0, .ref (ad 0))]) hx hb dL_isSound_390 hl (by decide) rfl (fun ls hl => ?_)
      refine lv_iinc (v := nI 2) (lv' := [(6, .int (nI 2)), (4, .int (nI (agz (pre L (1 + 1))).length)), (10, .int (nI 1)), (9, .int (nI (pc * fan))), (7, .int (nI (agz (L 1)).length)), (5, .int (nI (stn V (agz (pre L (1 + 1)))))), (3, .int (nI pc)), (2, .int (nI fan)), (1, .int (nI 1)), (0, .ref (ad 0))]) hx hb dL_isSound_392 hl (k := 4) rfl (nI_1 _) (by decide) rfl (fun ls hl => ?_)
      refine lv_goto (tgt := 9) hx hb dL_isSound_395 (by decide) ?_
      exact kk H locs ls hw hS (lv_sub hl [0, 5, 1, 6, 7, 8, 9] rfl)
    ·
      refine lv_iload_n hx hb dL_isSound_315 rfl (lv_at hl 4 rfl) ?_
      refine lv_istore (lv' := [(9, .int (nI pc)), (7, .int (nI (agz (L 2)).length)), (6, .int (nI 2)), (5, .int (nI (stn V (agz (pre L (2 + 1)))))), (4, .int (nI (agz (pre L 2)).length)), (3, .int (nI pc)), (2, .int (nI fan)), (1, .int (nI 1)), (0, .ref (ad 0))]) hx hb dL_isSound_316 hl (by decide) rfl (fun ls hl => ?_)
      refine lv_iconst (v := 0) hx hb dL_isSound_318 (by decide) ?_
      rw [show (0 : Int32) = nI 0 from rfl]
      refine lv_istore (lv' := [(10, .int (nI 0)), (9, .int (nI pc)), (7, .int (nI (agz (L 2)).length)), (6, .int (nI 2)), (5, .int (nI (stn V (agz (pre L (2 + 1)))))), (4, .int (nI (agz (pre L 2)).length)), (3, .int (nI pc)), (2, .int (nI fan)), (1, .int (nI 1)), (0, .ref (ad 0))]) hx hb dL_isSound_319 hl (by decide) rfl (fun ls hl => ?_)
      refine lv_iload hx hb dL_isSound_321 (lv_at hl 0 rfl) ?_
      refine lv_iload hx hb dL_isSound_323 (lv_at hl 3 rfl) ?_
      refine lv_icmp_ge (tgt := 340) hx hb dL_isSound_325 (by decide) (fun c0 => absurd c0 (by decide)) (fun _ => ?_)
      refine lv_iload hx hb dL_isSound_328 (lv_at hl 1 rfl) ?_
      refine lv_iload_n hx hb dL_isSound_330 rfl (lv_at hl 7 rfl) ?_
      refine lv_imul hx hb dL_isSound_331 ?_
      rw [show ((nI pc) * (nI fan) : Int32) = nI (pc * fan) from nI_mul _ _]
      refine lv_istore (lv' := [(9, .int (nI (pc * fan))), (10, .int (nI 0)), (7, .int (nI (agz (L 2)).length)), (6, .int (nI 2)), (5, .int (nI (stn V (agz (pre L (2 + 1)))))), (4, .int (nI (agz (pre L 2)).length)), (3, .int (nI pc)), (2, .int (nI fan)), (1, .int (nI 1)), (0, .ref (ad 0))]) hx hb dL_isSound_332 hl (by decide) rfl (fun ls hl => ?_)
      refine lv_iinc (v := nI 1) (lv' := [(10, .int (nI 1)), (9, .int (nI (pc * fan))), (7, .int (nI (agz (L 2)).length)), (6, .int (nI 2)), (5, .int (nI (stn V (agz (pre L (2 + 1)))))), (4, .int (nI (agz (pre L 2)).length)), (3, .int (nI pc)), (2, .int (nI fan)), (1, .int (nI 1)), (0, .ref (ad 0))]) hx hb dL_isSound_334 hl (k := 1) rfl (nI_1 _) (by decide) rfl (fun ls hl => ?_)
      refine lv_goto (tgt := 321) hx hb dL_isSound_337 (by decide) ?_
      refine lv_iload hx hb dL_isSound_321 (lv_at hl 0 rfl) ?_
      refine lv_iload hx hb dL_isSound_323 (lv_at hl 3 rfl) ?_
      refine lv_icmp_ge (tgt := 340) hx hb dL_isSound_325 (by decide) (fun c0 => absurd c0 (by decide)) (fun _ => ?_)
      refine lv_iload hx hb dL_isSound_328 (lv_at hl 1 rfl) ?_
      refine lv_iload_n hx hb dL_isSound_330 rfl (lv_at hl 7 rfl) ?_
      refine lv_imul hx hb dL_isSound_331 ?_
      rw [show ((nI (pc * fan)) * (nI fan) : Int32) = nI ((pc * fan) * fan) from nI_mul _ _]
      refine lv_istore (lv' := [(9, .int (nI ((pc * fan) * fan))), (10, .int (nI 1)), (7, .int (nI (agz (L 2)).length)), (6, .int (nI 2)), (5, .int (nI (stn V (agz (pre L (2 + 1)))))), (4, .int (nI (agz (pre L 2)).length)), (3, .int (nI pc)), (2, .int (nI fan)), (1, .int (nI 1)), (0, .ref (ad 0))]) hx hb dL_isSound_332 hl (by decide) rfl (fun ls hl => ?_)
      refine lv_iinc (v := nI 2) (lv' := [(10, .int (nI 2)), (9, .int (nI ((pc * fan) * fan))), (7, .int (nI (agz (L 2)).length)), (6, .int (nI 2)), (5, .int (nI (stn V (agz (pre L (2 + 1)))))), (4, .int (nI (agz (pre L 2)).length)), (3, .int (nI pc)), (2, .int (nI fan)), (1, .int (nI 1)), (0, .ref (ad 0))]) hx hb dL_isSound_334 hl (k := 1) rfl (nI_1 _) (by decide) rfl (fun ls hl => ?_)
      refine lv_goto (tgt := 321) hx hb dL_isSound_337 (by decide) ?_
      refine lv_iload hx hb dL_isSound_321 (lv_at hl 0 rfl) ?_
      refine lv_iload hx hb dL_isSound_323 (lv_at hl 3 rfl) ?_
      refine lv_icmp_ge (tgt := 340) hx hb dL_isSound_325 (by decide) (fun _ => ?_) (fun c0 => absurd (by decide) c0)
      refine lv_iload_n hx hb dL_isSound_340 rfl (lv_at hl 8 rfl) ?_
      refine lv_if_eq (tgt := 349) hx hb dL_isSound_341 (by decide) (fun c0 => absurd c0 (by decide)) (fun _ => ?_)
      refine lv_iload hx hb dL_isSound_344 (lv_at hl 3 rfl) ?_
      refine lv_if_ne (tgt := 359) hx hb dL_isSound_346 (by decide) (fun _ => ?_) (fun c0 => absurd c0 (by decide))
      refine lv_iload_n hx hb dL_isSound_359 rfl (lv_at hl 8 rfl) ?_
      refine lv_iconst (v := 1) hx hb dL_isSound_360 (by decide) ?_
      refine lv_icmp_ne (tgt := 385) hx hb dL_isSound_361 (by decide) (fun c0 => absurd (rfl) c0) (fun _ => ?_)
      refine lv_iload hx hb dL_isSound_364 (lv_at hl 3 rfl) ?_
      refine lv_iconst (v := 1) hx hb dL_isSound_366 (by decide) ?_
      refine lv_icmp_eq (tgt := 376) hx hb dL_isSound_367 (by decide) (fun c0 => absurd c0 (by decide)) (fun _ => ?_)
      refine lv_iload hx hb dL_isSound_370 (lv_at hl 3 rfl) ?_
      refine lv_iconst (v := 2) hx hb dL_isSound_372 (by decide) ?_
      refine lv_icmp_ne (tgt := 385) hx hb dL_isSound_373 (by decide) (fun c0 => absurd (rfl) c0) (fun _ => ?_)
      refine lv_iload hx hb dL_isSound_376 (lv_at hl 2 rfl) ?_
      refine lv_iload hx hb dL_isSound_378 (lv_at hl 1 rfl) ?_
      refine lv_icmp_le (tgt := 385) hx hb dL_isSound_380 (by decide) (fun _ => ?_) (fun c0 => absurd (nI_le (by have := hfu 2 (by decide); unfold Ful at this; rw [if_neg (by omega), if_neg (by decide), if_neg (by decide)] at this; rw [← Nat.mul_assoc] at this; omega) (by rw [Nat.mul_assoc]; omega)) c0)
      refine lv_iload hx hb dL_isSound_385 (lv_at hl 5 rfl) ?_
      refine lv_iload hx hb dL_isSound_387 (lv_at hl 2 rfl) ?_
      refine lv_iadd hx hb dL_isSound_389 ?_
      rw [show ((nI (agz (pre L 2)).length) + (nI (agz (L 2)).length) : Int32) = nI (agz (pre L (2 + 1))).length from e1]
      refine lv_istore (lv' := [(4, .int (nI (agz (pre L (2 + 1))).length)), (10, .int (nI 2)), (9, .int (nI ((pc * fan) * fan))), (7, .int (nI (agz (L 2)).length)), (6, .int (nI 2)), (5, .int (nI (stn V (agz (pre L (2 + 1)))))), (3, .int (nI pc)), (2, .int (nI fan)), (1, .int (nI 1)), (0, .ref (ad 0))]) hx hb dL_isSound_390 hl (by decide) rfl (fun ls hl => ?_)
      refine lv_iinc (v := nI 3) (lv' := [(6, .int (nI 3)), (4, .int (nI (agz (pre L (2 + 1))).length)), (10, .int (nI 2)), (9, .int (nI ((pc * fan) * fan))), (7, .int (nI (agz (L 2)).length)), (5, .int (nI (stn V (agz (pre L (2 + 1)))))), (3, .int (nI pc)), (2, .int (nI fan)), (1, .int (nI 1)), (0, .ref (ad 0))]) hx hb dL_isSound_392 hl (k := 4) rfl (nI_1 _) (by decide) rfl (fun ls hl => ?_)
      refine lv_goto (tgt := 9) hx hb dL_isSound_395 (by decide) ?_
      exact kk H locs ls hw hS (lv_sub hl [0, 5, 1, 6, 7, 8, 9] rfl)
    ·
      refine lv_iload_n hx hb dL_isSound_315 rfl (lv_at hl 4 rfl) ?_
      refine lv_istore (lv' := [(9, .int (nI pc)), (7, .int (nI (agz (L 3)).length)), (6, .int (nI 3)), (5, .int (nI (stn V (agz (pre L (3 + 1)))))), (4, .int (nI (agz (pre L 3)).length)), (3, .int (nI pc)), (2, .int (nI fan)), (1, .int (nI 1)), (0, .ref (ad 0))]) hx hb dL_isSound_316 hl (by decide) rfl (fun ls hl => ?_)
      refine lv_iconst (v := 0) hx hb dL_isSound_318 (by decide) ?_
      rw [show (0 : Int32) = nI 0 from rfl]
      refine lv_istore (lv' := [(10, .int (nI 0)), (9, .int (nI pc)), (7, .int (nI (agz (L 3)).length)), (6, .int (nI 3)), (5, .int (nI (stn V (agz (pre L (3 + 1)))))), (4, .int (nI (agz (pre L 3)).length)), (3, .int (nI pc)), (2, .int (nI fan)), (1, .int (nI 1)), (0, .ref (ad 0))]) hx hb dL_isSound_319 hl (by decide) rfl (fun ls hl => ?_)
      refine lv_iload hx hb dL_isSound_321 (lv_at hl 0 rfl) ?_
      refine lv_iload hx hb dL_isSound_323 (lv_at hl 3 rfl) ?_
      refine lv_icmp_ge (tgt := 340) hx hb dL_isSound_325 (by decide) (fun c0 => absurd c0 (by decide)) (fun _ => ?_)
      refine lv_iload hx hb dL_isSound_328 (lv_at hl 1 rfl) ?_
      refine lv_iload_n hx hb dL_isSound_330 rfl (lv_at hl 7 rfl) ?_
      refine lv_imul hx hb dL_isSound_331 ?_
      rw [show ((nI pc) * (nI fan) : Int32) = nI (pc * fan) from nI_mul _ _]
      refine lv_istore (lv' := [(9, .int (nI (pc * fan))), (10, .int (nI 0)), (7, .int (nI (agz (L 3)).length)), (6, .int (nI 3)), (5, .int (nI (stn V (agz (pre L (3 + 1)))))), (4, .int (nI (agz (pre L 3)).length)), (3, .int (nI pc)), (2, .int (nI fan)), (1, .int (nI 1)), (0, .ref (ad 0))]) hx hb dL_isSound_332 hl (by decide) rfl (fun ls hl => ?_)
      refine lv_iinc (v := nI 1) (lv' := [(10, .int (nI 1)), (9, .int (nI (pc * fan))), (7, .int (nI (agz (L 3)).length)), (6, .int (nI 3)), (5, .int (nI (stn V (agz (pre L (3 + 1)))))), (4, .int (nI (agz (pre L 3)).length)), (3, .int (nI pc)), (2, .int (nI fan)), (1, .int (nI 1)), (0, .ref (ad 0))]) hx hb dL_isSound_334 hl (k := 1) rfl (nI_1 _) (by decide) rfl (fun ls hl => ?_)
      refine lv_goto (tgt := 321) hx hb dL_isSound_337 (by decide) ?_
      refine lv_iload hx hb dL_isSound_321 (lv_at hl 0 rfl) ?_
      refine lv_iload hx hb dL_isSound_323 (lv_at hl 3 rfl) ?_
      refine lv_icmp_ge (tgt := 340) hx hb dL_isSound_325 (by decide) (fun c0 => absurd c0 (by decide)) (fun _ => ?_)
      refine lv_iload hx hb dL_isSound_328 (lv_at hl 1 rfl) ?_
      refine lv_iload_n hx hb dL_isSound_330 rfl (lv_at hl 7 rfl) ?_
      refine lv_imul hx hb dL_isSound_331 ?_
      rw [show ((nI (pc * fan)) * (nI fan) : Int32) = nI ((pc * fan) * fan) from nI_mul _ _]
      refine lv_istore (lv' := [(9, .int (nI ((pc * fan) * fan))), (10, .int (nI 1)), (7, .int (nI (agz (L 3)).length)), (6, .int (nI 3)), (5, .int (nI (stn V (agz (pre L (3 + 1)))))), (4, .int (nI (agz (pre L 3)).length)), (3, .int (nI pc)), (2, .int (nI fan)), (1, .int (nI 1)), (0, .ref (ad 0))]) hx hb dL_isSound_332 hl (by decide) rfl (fun ls hl => ?_)
      refine lv_iinc (v := nI 2) (lv' := [(10, .int (nI 2)), (9, .int (nI ((pc * fan) * fan))), (7, .int (nI (agz (L 3)).length)), (6, .int (nI 3)), (5, .int (nI (stn V (agz (pre L (3 + 1)))))), (4, .int (nI (agz (pre L 3)).length)), (3, .int (nI pc)), (2, .int (nI fan)), (1, .int (nI 1)), (0, .ref (ad 0))]) hx hb dL_isSound_334 hl (k := 1) rfl (nI_1 _) (by decide) rfl (fun ls hl => ?_)
      refine lv_goto (tgt := 321) hx hb dL_isSound_337 (by decide) ?_
      refine lv_iload hx hb dL_isSound_321 (lv_at hl 0 rfl) ?_
      refine lv_iload hx hb dL_isSound_323 (lv_at hl 3 rfl) ?_
      refine lv_icmp_ge (tgt := 340) hx hb dL_isSound_325 (by decide) (fun c0 => absurd c0 (by decide)) (fun _ => ?_)
      refine lv_iload hx hb dL_isSound_328 (lv_at hl 1 rfl) ?_
      refine lv_iload_n hx hb dL_isSound_330 rfl (lv_at hl 7 rfl) ?_
      refine lv_imul hx hb dL_isSound_331 ?_
      rw [show ((nI ((pc * fan) * fan)) * (nI fan) : Int32) = nI (((pc * fan) * fan) * fan) from nI_mul _ _]
      refine lv_istore (lv' := [(9, .int (nI (((pc * fan) * fan) * fan))), (10, .int (nI 2)), (7, .int (nI (agz (L 3)).length)), (6, .int (nI 3)), (5, .int (nI (stn V (agz (pre L (3 + 1)))))), (4, .int (nI (agz (pre L 3)).length)), (3, .int (nI pc)), (2, .int (nI fan)), (1, .int (nI 1)), (0, .ref (ad 0))]) hx hb dL_isSound_332 hl (by decide) rfl (fun ls hl => ?_)
      refine lv_iinc (v := nI 3) (lv' := [(10, .int (nI 3)), (9, .int (nI (((pc * fan) * fan) * fan))), (7, .int (nI (agz (L 3)).length)), (6, .int (nI 3)), (5, .int (nI (stn V (agz (pre L (3 + 1)))))), (4, .int (nI (agz (pre L 3)).length)), (3, .int (nI pc)), (2, .int (nI fan)), (1, .int (nI 1)), (0, .ref (ad 0))]) hx hb dL_isSound_334 hl (k := 1) rfl (nI_1 _) (by decide) rfl (fun ls hl => ?_)
      refine lv_goto (tgt := 321) hx hb dL_isSound_337 (by decide) ?_
      refine lv_iload hx hb dL_isSound_321 (lv_at hl 0 rfl) ?_
      refine lv_iload hx hb dL_isSound_323 (lv_at hl 3 rfl) ?_
      refine lv_icmp_ge (tgt := 340) hx hb dL_isSound_325 (by decide) (fun _ => ?_) (fun c0 => absurd (by decide) c0)
      refine lv_iload_n hx hb dL_isSound_340 rfl (lv_at hl 8 rfl) ?_
      refine lv_if_eq (tgt := 349) hx hb dL_isSound_341 (by decide) (fun c0 => absurd c0 (by decide)) (fun _ => ?_)
      refine lv_iload hx hb dL_isSound_344 (lv_at hl 3 rfl) ?_
      refine lv_if_ne (tgt := 359) hx hb dL_isSound_346 (by decide) (fun _ => ?_) (fun c0 => absurd c0 (by decide))
      refine lv_iload_n hx hb dL_isSound_359 rfl (lv_at hl 8 rfl) ?_
      refine lv_iconst (v := 1) hx hb dL_isSound_360 (by decide) ?_
      refine lv_icmp_ne (tgt := 385) hx hb dL_isSound_361 (by decide) (fun c0 => absurd (rfl) c0) (fun _ => ?_)
      refine lv_iload hx hb dL_isSound_364 (lv_at hl 3 rfl) ?_
      refine lv_iconst (v := 1) hx hb dL_isSound_366 (by decide) ?_
      refine lv_icmp_eq (tgt := 376) hx hb dL_isSound_367 (by decide) (fun c0 => absurd c0 (by decide)) (fun _ => ?_)
      refine lv_iload hx hb dL_isSound_370 (lv_at hl 3 rfl) ?_
      refine lv_iconst (v := 2) hx hb dL_isSound_372 (by decide) ?_
      refine lv_icmp_ne (tgt := 385) hx hb dL_isSound_373 (by decide) (fun _ => ?_) (fun c0 => absurd c0 (by decide))
      refine lv_iload hx hb dL_isSound_385 (lv_at hl 5 rfl) ?_
      refine lv_iload hx hb dL_isSound_387 (lv_at hl 2 rfl) ?_
      refine lv_iadd hx hb dL_isSound_389 ?_
      rw [show ((nI (agz (pre L 3)).length) + (nI (agz (L 3)).length) : Int32) = nI (agz (pre L (3 + 1))).length from e1]
      refine lv_istore (lv' := [(4, .int (nI (agz (pre L (3 + 1))).length)), (10, .int (nI 3)), (9, .int (nI (((pc * fan) * fan) * fan))), (7, .int (nI (agz (L 3)).length)), (6, .int (nI 3)), (5, .int (nI (stn V (agz (pre L (3 + 1)))))), (3, .int (nI pc)), (2, .int (nI fan)), (1, .int (nI 1)), (0, .ref (ad 0))]) hx hb dL_isSound_390 hl (by decide) rfl (fun ls hl => ?_)
      refine lv_iinc (v := nI 4) (lv' := [(6, .int (nI 4)), (4, .int (nI (agz (pre L (3 + 1))).length)), (10, .int (nI 3)), (9, .int (nI (((pc * fan) * fan) * fan))), (7, .int (nI (agz (L 3)).length)), (5, .int (nI (stn V (agz (pre L (3 + 1)))))), (3, .int (nI pc)), (2, .int (nI fan)), (1, .int (nI 1)), (0, .ref (ad 0))]) hx hb dL_isSound_392 hl (k := 4) rfl (nI_1 _) (by decide) rfl (fun ls hl => ?_)
      refine lv_goto (tgt := 9) hx hb dL_isSound_395 (by decide) ?_
      exact kk H locs ls hw hS (lv_sub hl [0, 5, 1, 6, 7, 8, 9] rfl)
set_option maxHeartbeats 4000000 in
set_option maxRecDepth 100000 in
theorem so_l (hF : CallFix p m c cL_isSound 16 s args cs_WS RL) (hL : ∀ w ∈ cs_WL, w.before args s = true) (hK : cs_K D cy s) (hG : Gd S N K V ord L sn Hd Wr sf way fan pc wide b) (hV : ∀ a, 1 ≤ a → a ≤ N → V a = -1 ∨ 0 ≤ V a)
    (hN : (S.1 0).1 3 = nI N)
    (kk : ∀ (H : Heap) (locs : List Loc) (ls : Array Slot), cs_w D cy ad S H → va_S (cs_A ad) s.heap H locs → lv_has ls 16 [(5, .int (nI (stn V (agz (RS L))))), (4, .int (nI (agz (RS L)).length)), (3, .int (nI pc)), (2, .int (nI fan)), (1, .int (nI way)), (0, .ref (ad 0))] → W p l e so_R s m args below meth c H locs 0 0 Q (F0 m 398 ls [])) :
    ∀ (n lv : Nat), lv ≤ 4 → 4 - lv < n → ∀ (H : Heap) (locs : List Loc) (ls : Array Slot), cs_w D cy ad S H → va_S (cs_A ad) s.heap H locs → lv_has ls 16 [(6, .int (nI lv)), (5, .int (nI (stn V (agz (pre L lv))))), (4, .int (nI (agz (pre L lv)).length)), (3, .int (nI pc)), (2, .int (nI fan)), (1, .int (nI way)), (0, .ref (ad 0))] → W p l e so_R s m args below meth c H locs 0 0 Q (F0 m 9 ls []) := by
  obtain ⟨hx, hb, hml, hown, hts⟩ := id hF
  have hI := hG.1
  have hB := hI.1.1
  intro n
  induction n with
  | zero => intro r _ h; exact absurd h (Nat.not_lt_zero _)
  | succ n ih =>
    intro lv hlv hn H locs ls hw hS hl
    refine lv_iload hx hb dL_isSound_9 (lv_at hl 0 rfl) ?_
    refine lv_iconst (v := 4) hx hb dL_isSound_11 (by decide) ?_
    rcases Nat.lt_or_ge lv 4 with hlt | hge
    ·
      refine lv_icmp_ge (tgt := 398) hx hb dL_isSound_12 (by decide) (fun c0 => absurd c0 (nI_ge (b := 4) hlt (by decide))) (fun _ => ?_)
      refine lv_iconst (v := 0) hx hb dL_isSound_15 (by decide) ?_
      rw [show (0 : Int32) = nI 0 from rfl]
      refine lv_istore (lv' := [(7, .int (nI 0)), (6, .int (nI lv)), (5, .int (nI (stn V (agz (pre L lv))))), (4, .int (nI (agz (pre L lv)).length)), (3, .int (nI pc)), (2, .int (nI fan)), (1, .int (nI way)), (0, .ref (ad 0))]) hx hb dL_isSound_16 hl (by decide) rfl (fun ls hl => ?_)
      refine lv_iconst (v := -1) hx hb dL_isSound_18 (by decide) ?_
      refine lv_istore (lv' := [(8, .int (-1)), (7, .int (nI 0)), (6, .int (nI lv)), (5, .int (nI (stn V (agz (pre L lv))))), (4, .int (nI (agz (pre L lv)).length)), (3, .int (nI pc)), (2, .int (nI fan)), (1, .int (nI way)), (0, .ref (ad 0))]) hx hb dL_isSound_19 hl (by decide) rfl (fun ls hl => ?_)
      refine lv_iconst (v := 0) hx hb dL_isSound_21 (by decide) ?_
      rw [show (0 : Int32) = nI 0 from rfl]
      refine lv_istore (lv' := [(9, .int (nI 0)), (8, .int (-1)), (7, .int (nI 0)), (6, .int (nI lv)), (5, .int (nI (stn V (agz (pre L lv))))), (4, .int (nI (agz (pre L lv)).length)), (3, .int (nI pc)), (2, .int (nI fan)), (1, .int (nI way)), (0, .ref (ad 0))]) hx hb dL_isSound_22 hl (by decide) rfl (fun ls hl => ?_)
      refine so_r hF hL hK hG hV hN hlt (st0 := stn V (agz (pre L lv))) (ent := nI (agz (pre L lv)).length) (fun H locs ls hw hS hl => so_e hF hL hK hG hV hN hlt (fun H locs ls hw hS hl => ih (lv + 1) (by omega) (by omega) H locs ls hw hS hl) H locs ls hw hS hl) ((L lv).length + 1) 0 (Nat.zero_le _) (by omega) (-1) H locs ls hw hS (lv_sub hl [0, 1, 2, 3, 4, 5, 6, 7, 8, 9] rfl) (fun _ _ r' x' _ z4 b z5 => by
        have h6 := hB.K9 (run_at hlt z4) z5
        exact neg1 (by omega))
    ·
      obtain rfl : lv = 4 := by omega
      refine lv_icmp_ge (tgt := 398) hx hb dL_isSound_12 (by decide) (fun _ => ?_) (fun c0 => absurd (by decide) c0)
      exact kk H locs ls hw hS (lv_sub hl [1, 2, 3, 4, 5, 6] rfl)
end SO
set_option maxHeartbeats 4000000 in
set_option maxRecDepth 100000 in
theorem c_L_isSound (l : Launch) (D : va_G) (cy : ClassId) (ad : Nat → Nat) {S : cs_St} {N : Nat} {K : Nat → Nat} {V : Nat → Int32} {ord : List Nat} {L : Nat → List Run} {sn Hd Wr : List Nat} {sf way fan pc wide b : Nat} (hG : Gd S N K V ord L sn Hd Wr sf way fan pc wide b) (hV : ∀ a, 1 ≤ a → a ≤ N → V a = -1 ∨ 0 ≤ V a) (hb31 : b < 2 ^ 31) : Met l yL_isSound (cl_ws yL_isSound cL_isSound 16 (some .boolean)) so_R (cs_Pc D cy ad [.ref (ad 0), .int (nI way), .int (nI fan), .int (nI pc)] S) (cs_Qi D cy ad (fun r S1 => r = 1 ∧ S1 = S)) 0 0 (cs_A ad) := by
  refine cl_of RL (by decide) rfl (Nat.le_of_ble_eq_true rfl) ?_
  intro p e s m below meth c hF hL hr hlk hw hK ls hl
  obtain ⟨hx, hb, hml, hown, hts⟩ := id hF
  have hI := hG.1
  obtain ⟨d, t, al, ⟨t1, t2, hal, hN, t5, hd⟩, hdb, htb⟩ := hG.2.2.2
  have hlen := hI.1.1.2.1.2.2.2.2.2.2.2.1
  have hS : va_S (cs_A ad) s.heap s.heap [] := va_S.rf
  have hl : lv_has ls 16 [(0, .ref (ad 0)), (1, .int (nI way)), (2, .int (nI fan)), (3, .int (nI pc))] := hl
  obtain ⟨H, hH⟩ : ∃ H, H = s.heap := ⟨_, rfl⟩
  obtain ⟨locs, hlo⟩ : ∃ z : List Loc, z = [] := ⟨_, rfl⟩
  refine lv_iconst (v := 0) hx hb dL_isSound_0 (by decide) ?_
  rw [show (0 : Int32) = nI (agz (pre L 0)).length from rfl]
  refine lv_istore (lv' := [(4, .int (nI (agz (pre L 0)).length)), (0, .ref (ad 0)), (1, .int (nI way)), (2, .int (nI fan)), (3, .int (nI pc))]) hx hb dL_isSound_1 hl (by decide) rfl (fun ls hl => ?_)
  refine lv_iconst (v := 0) hx hb dL_isSound_3 (by decide) ?_
  rw [show (0 : Int32) = nI (stn V (agz (pre L 0))) from rfl]
  refine lv_istore (lv' := [(5, .int (nI (stn V (agz (pre L 0))))), (4, .int (nI (agz (pre L 0)).length)), (0, .ref (ad 0)), (1, .int (nI way)), (2, .int (nI fan)), (3, .int (nI pc))]) hx hb dL_isSound_4 hl (by decide) rfl (fun ls hl => ?_)
  refine lv_iconst (v := 0) hx hb dL_isSound_6 (by decide) ?_
  rw [show (0 : Int32) = nI 0 from rfl]
  refine lv_istore (lv' := [(6, .int (nI 0)), (5, .int (nI (stn V (agz (pre L 0))))), (4, .int (nI (agz (pre L 0)).length)), (0, .ref (ad 0)), (1, .int (nI way)), (2, .int (nI fan)), (3, .int (nI pc))]) hx hb dL_isSound_7 hl (by decide) rfl (fun ls hl => ?_)
  refine so_l hF hL hK hG hV hN (fun H locs ls hw hS hl => ?_) 5 0 (by decide) (by decide) s.heap [] ls hw hS (lv_sub hl [0, 1, 2, 6, 5, 4, 3] rfl)
  refine lv_iload hx hb dL_isSound_398 (lv_at hl 1 rfl) ?_
  refine lv_aload_n hx hb dL_isSound_400 rfl (lv_at hl 5 rfl) ?_
  refine cs_vir hF (c_X6_entries l D cy ad S) (cwV 0 hL gl_30 rfl rfl rfl kk_X6_entries ⟨Nat.le_of_ble_eq_true rfl, Nat.le_of_ble_eq_true rfl⟩) (cs_recv hK hw (ci := 6) 0 rfl rfl) hw hK hS rfl hl.1 [.int (nI (agz (RS L)).length)] rfl (Nat.le_of_ble_eq_true rfl) dL_isSound_401 (fun r H locs hq hw hS => ?_)
  replace hq := hq.trans (entries_is hI)
  subst hq
  refine lv_icmp_ne (tgt := 476) hx hb dL_isSound_404 (by decide) (fun c0 => absurd (rfl) c0) (fun _ => ?_)
  refine lv_iload hx hb dL_isSound_407 (lv_at hl 0 rfl) ?_
  refine lv_aload_n hx hb dL_isSound_409 rfl (lv_at hl 5 rfl) ?_
  refine cs_vir hF (c_X6_stones l D cy ad S) (cwV 0 hL gl_34 rfl rfl rfl kk_X6_stones ⟨Nat.le_of_ble_eq_true rfl, Nat.le_of_ble_eq_true rfl⟩) (cs_recv hK hw (ci := 6) 0 rfl rfl) hw hK hS rfl hl.1 [.int (nI (stn V (agz (RS L))))] rfl (Nat.le_of_ble_eq_true rfl) dL_isSound_410 (fun r H locs hq hw hS => ?_)
  replace hq := hq.trans (stones_is hI)
  subst hq
  refine lv_icmp_ne (tgt := 476) hx hb dL_isSound_413 (by decide) (fun c0 => absurd (rfl) c0) (fun _ => ?_)
  refine lv_aload_n hx hb dL_isSound_416 rfl (lv_at hl 5 rfl) ?_
  refine cs_vir hF (c_X6_hand l D cy ad S) (cwV 0 hL gl_37 rfl rfl rfl kk_X6_hand ⟨Nat.le_of_ble_eq_true rfl, Nat.le_of_ble_eq_true rfl⟩) (cs_recv hK hw (ci := 6) 0 rfl rfl) hw hK hS rfl hl.1 [] rfl (Nat.le_of_ble_eq_true rfl) dL_isSound_417 (fun r H locs hq hw hS => ?_)
  replace hq := hq.trans ((hand_is hI).1)
  subst hq
  refine lv_aload_n hx hb dL_isSound_420 rfl (lv_at hl 5 rfl) ?_
  refine cs_vir hF (c_X6_log l D cy ad S) (cwV 0 hL gl_40 rfl rfl rfl kk_X6_log ⟨Nat.le_of_ble_eq_true rfl, Nat.le_of_ble_eq_true rfl⟩) (cs_recv hK hw (ci := 6) 0 rfl rfl) hw hK hS rfl hl.1 [.int (nI Hd.length)] rfl (Nat.le_of_ble_eq_true rfl) dL_isSound_421 (fun r H locs hq hw hS => ?_)
  replace hq := hq.trans ((log_is hI).1)
  subst hq
  refine lv_icmp_gt (tgt := 476) hx hb dL_isSound_424 (by decide) (fun c0 => absurd c0 (nI_nlt (hand_is hI).2 (by have := (log_is hI).2; omega))) (fun _ => ?_)
  obtain ⟨u, hu1, hu2⟩ := uns_is hI
  have hW40 := (log_is hI).2
  refine lv_aload_n hx hb dL_isSound_427 rfl (lv_at hl 5 rfl) ?_
  refine cs_vir hF (c_X6_unsafe l D cy ad S) (cwV 0 hL gl_43 rfl rfl rfl kk_X6_unsafe ⟨Nat.le_of_ble_eq_true rfl, Nat.le_of_ble_eq_true rfl⟩) (cs_recv hK hw (ci := 6) 0 rfl rfl) hw hK hS rfl hl.1 [] rfl (Nat.le_of_ble_eq_true rfl) dL_isSound_428 (fun r H locs hq hw hS => ?_)
  replace hq := hq.trans (hu1)
  subst hq
  refine lv_aload_n hx hb dL_isSound_431 rfl (lv_at hl 5 rfl) ?_
  refine cs_vir hF (c_X6_log l D cy ad S) (cwV 0 hL gl_40 rfl rfl rfl kk_X6_log ⟨Nat.le_of_ble_eq_true rfl, Nat.le_of_ble_eq_true rfl⟩) (cs_recv hK hw (ci := 6) 0 rfl rfl) hw hK hS rfl hl.1 [.int (nI u)] rfl (Nat.le_of_ble_eq_true rfl) dL_isSound_432 (fun r H locs hq hw hS => ?_)
  replace hq := hq.trans ((log_is hI).1)
  subst hq
  refine lv_icmp_gt (tgt := 476) hx hb dL_isSound_435 (by decide) (fun c0 => absurd c0 (nI_nlt hu2 (by omega))) (fun _ => ?_)
  refine lv_aload_n hx hb dL_isSound_438 rfl (lv_at hl 5 rfl) ?_
  refine cs_vir hF (c_X6_log l D cy ad S) (cwV 0 hL gl_40 rfl rfl rfl kk_X6_log ⟨Nat.le_of_ble_eq_true rfl, Nat.le_of_ble_eq_true rfl⟩) (cs_recv hK hw (ci := 6) 0 rfl rfl) hw hK hS rfl hl.1 [] rfl (Nat.le_of_ble_eq_true rfl) dL_isSound_439 (fun r H locs hq hw hS => ?_)
  replace hq := hq.trans ((log_is hI).1)
  subst hq
  refine lv_bipush (v := 40) hx hb dL_isSound_442 (by decide) ?_
  refine lv_icmp_ge (tgt := 476) hx hb dL_isSound_444 (by decide) (fun c0 => absurd c0 (nI_ge (b := 40) hW40 (by decide))) (fun _ => ?_)
  refine lv_aload_n hx hb dL_isSound_447 rfl (lv_at hl 5 rfl) ?_
  refine lv_iconst (v := 2) hx hb dL_isSound_448 (by decide) ?_
  refine cs_vir hF (c_X6_counted l D cy ad S (2 : Int32) (by decide) (by decide)) (cwV 1 hL gl_23 rfl rfl rfl kk_X6_counted ⟨Nat.le_of_ble_eq_true rfl, Nat.le_of_ble_eq_true rfl⟩) (cs_recv hK hw (ci := 6) 0 rfl rfl) hw hK hS rfl hl.1 [] rfl (Nat.le_of_ble_eq_true rfl) dL_isSound_449 (fun r H locs hq hw hS => ?_)
  replace hq := hq.trans ((counted_is 2 (by decide)).trans t2)
  subst hq
  refine lv_aload_n hx hb dL_isSound_452 rfl (lv_at hl 5 rfl) ?_
  refine lv_iconst (v := 1) hx hb dL_isSound_453 (by decide) ?_
  refine cs_vir hF (c_X6_counted l D cy ad S (1 : Int32) (by decide) (by decide)) (cwV 1 hL gl_23 rfl rfl rfl kk_X6_counted ⟨Nat.le_of_ble_eq_true rfl, Nat.le_of_ble_eq_true rfl⟩) (cs_recv hK hw (ci := 6) 0 rfl rfl) hw hK hS rfl hl.1 [.int (nI al)] rfl (Nat.le_of_ble_eq_true rfl) dL_isSound_454 (fun r H locs hq hw hS => ?_)
  replace hq := hq.trans ((counted_is 1 (by decide)).trans t1)
  subst hq
  refine lv_icmp_gt (tgt := 476) hx hb dL_isSound_457 (by decide) (fun c0 => absurd c0 (nI_nlt hal (by omega))) (fun _ => ?_)
  refine lv_aload_n hx hb dL_isSound_460 rfl (lv_at hl 5 rfl) ?_
  refine lv_iconst (v := 5) hx hb dL_isSound_461 (by decide) ?_
  refine cs_vir hF (c_X6_counted l D cy ad S (5 : Int32) (by decide) (by decide)) (cwV 1 hL gl_23 rfl rfl rfl kk_X6_counted ⟨Nat.le_of_ble_eq_true rfl, Nat.le_of_ble_eq_true rfl⟩) (cs_recv hK hw (ci := 6) 0 rfl rfl) hw hK hS rfl hl.1 [] rfl (Nat.le_of_ble_eq_true rfl) dL_isSound_462 (fun r H locs hq hw hS => ?_)
  replace hq := hq.trans ((counted_is 5 (by decide)).trans t5)
  subst hq
  refine lv_aload_n hx hb dL_isSound_465 rfl (lv_at hl 5 rfl) ?_
  refine cs_vir hF (c_X6_entries l D cy ad S) (cwV 0 hL gl_30 rfl rfl rfl kk_X6_entries ⟨Nat.le_of_ble_eq_true rfl, Nat.le_of_ble_eq_true rfl⟩) (cs_recv hK hw (ci := 6) 0 rfl rfl) hw hK hS rfl hl.1 [.int (nI d)] rfl (Nat.le_of_ble_eq_true rfl) dL_isSound_466 (fun r H locs hq hw hS => ?_)
  replace hq := hq.trans (entries_is hI)
  subst hq
  refine lv_icmp_lt (tgt := 476) hx hb dL_isSound_469 (by decide) (fun c0 => absurd c0 (nI_nlt hd (by omega))) (fun _ => ?_)
  refine lv_iconst (v := 1) hx hb dL_isSound_472 (by decide) ?_
  refine lv_goto (tgt := 477) hx hb dL_isSound_473 (by decide) ?_
  exact cs_zret hF hr hlk hw hK hS dL_isSound_477 ⟨rfl, rfl⟩
theorem kk_L_isSound : yL_isSound.cls ≠ "java/lang/invoke/MethodHandle" ∧ yL_isSound.cls ≠ "java/lang/invoke/VarHandle" ∧ (parseMethodDescriptor yL_isSound.desc).map (fun d => d.parameters.length) = some 4 := by decide +kernel
