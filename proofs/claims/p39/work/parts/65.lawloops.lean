/-! the law's loops over keys -/
abbrev lA (s : State) : Nat → Prop := fun q : Nat => s.heap.size ≤ q
abbrev yR (cy : ClassId) (a n : Nat) (f : Nat → Int32) : Nat × va_E := (a, .inl (cy, n, .inl f))
theorem upd_self {f : Nat → Int32} {i : Nat} {x : Int32} : upd f i x i = x := by unfold upd; simp
theorem upd_ne {f : Nat → Int32} {i j : Nat} {x : Int32} (h : j ≠ i) : upd f i x j = f j := by unfold upd; simp [h]
section LOP
variable {p : Program} {l : Launch} {e : Env} {s : State} {m : MethodId} {args : Array Value} {below : List Frame} {meth : Method} {c : Code} {Q : State → Prop} {D : va_G} {cy : ClassId} {ad : Nat → Nat} {cells slots : Nat}
variable {S : cs_St} {N : Nat} {K : Nat → Nat} {V : Nat → Int32} {ord : List Nat} {L : Nat → List Run} {sn Hd Wr : List Nat} {sf way fan pc wide b : Nat}
theorem Gd.mono {b' : Nat} (h : Gd S N K V ord L sn Hd Wr sf way fan pc wide b) (hb : b ≤ b') : Gd S N K V ord L sn Hd Wr sf way fan pc wide b' := by
  obtain ⟨h1, h2, h3, d, t, al, h4, h5, h6⟩ := h
  exact ⟨h1, h2, h3, d, t, al, h4, Nat.le_trans h5 hb, Nat.le_trans h6 hb⟩
set_option maxHeartbeats 4000000 in
set_option maxRecDepth 100000 in
theorem law_fill (hF : CallFix p m c cL_law 19 s args cs_WS RL) (hL : ∀ w ∈ cs_WL, w.before args s = true) (hK : cs_K D cy s) (hcs : cells ≤ room_1.cells ∧ slots ≤ room_1.slots)
    {wa b0 : Nat} {kd ky xv sp : Int32} {kk0 : Nat} {S0 : cs_St}
    (hwd : wide ≤ 31)
    (kk : ∀ (S : cs_St) (f : Nat → Int32) (H : Heap) (locs : List Loc) (ls : Array Slot), (Gd S N K V ord L sn Hd Wr sf way fan pc wide (b + 512 * wide) ∧ fr [0, 1] S0 S ∧ ∀ q, q < wide → f q = rd K V (Hd ++ agz (RS L)) q N) → LW D cy ad S [yR cy wa wide f] (lA s) H → va_S (lA s) s.heap H locs → lv_has ls 19 [(11, .int kd), (10, .int ky), (9, .int xv), (8, .int (nI kk0)), (7, .ref wa), (6, .int sp), (5, .int (nI wide)), (4, .int (nI pc)), (3, .int (nI fan)), (2, .int (nI way)), (1, .ref (ad 0)), (0, .ref b0)] → W p l e room_1 s m args below meth c H locs cells slots Q (F0 m 314 ls [])) :
    ∀ (n i : Nat), i ≤ wide → wide - i < n → ∀ (S : cs_St) (f : Nat → Int32) (H : Heap) (locs : List Loc) (ls : Array Slot), (Gd S N K V ord L sn Hd Wr sf way fan pc wide (b + 512 * i) ∧ fr [0, 1] S0 S ∧ ∀ q, q < i → f q = rd K V (Hd ++ agz (RS L)) q N) → LW D cy ad S [yR cy wa wide f] (lA s) H → va_S (lA s) s.heap H locs → lv_has ls 19 [(12, .int (nI i)), (11, .int kd), (10, .int ky), (9, .int xv), (8, .int (nI kk0)), (7, .ref wa), (6, .int sp), (5, .int (nI wide)), (4, .int (nI pc)), (3, .int (nI fan)), (2, .int (nI way)), (1, .ref (ad 0)), (0, .ref b0)] → W p l e room_1 s m args below meth c H locs cells slots Q (F0 m 290 ls []) := by
  obtain ⟨hx, hb, hml, hown, hts⟩ := id hF
  intro n
  induction n with
  | zero => intro r _ h; exact absurd h (Nat.not_lt_zero _)
  | succ n ih =>
    intro i hi hn S f H locs ls hinv h hS hl
    refine lv_iload hx hb dL_law_290 (lv_at hl 0 rfl) ?_
    refine lv_iload hx hb dL_law_292 (lv_at hl 7 rfl) ?_
    rcases Nat.lt_or_ge i wide with hlt | hge
    ·
      refine lv_icmp_ge (tgt := 314) hx hb dL_law_294 (by decide) (fun c0 => absurd c0 (nI_ge hlt (by omega))) (fun _ => ?_)
      refine lv_aload hx hb dL_law_297 (lv_at hl 5 rfl) ?_
      refine lv_iload hx hb dL_law_299 (lv_at hl 0 rfl) ?_
      refine lv_aload_n hx hb dL_law_301 rfl (lv_at hl 11 rfl) ?_
      refine lv_iload hx hb dL_law_302 (lv_at hl 0 rfl) ?_
      obtain ⟨q1, q2, q3⟩ := get_is hinv.1 (show i < 10000 by omega)
      refine lw_i hF (c_X6_get l D cy ad S (nI i) (nI_pos (by omega)) (nI_le (show i ≤ 9999 by omega) (by decide))) (cwV 1 hL gl_81 rfl rfl rfl kk_X6_get ⟨Nat.le_of_ble_eq_true rfl, Nat.le_of_ble_eq_true rfl⟩) h hK hS hcs rfl hl.1 [.int (nI i), .ref wa] rfl (Nat.le_of_ble_eq_true rfl) dL_law_304 (fun r S1 H locs hq hq2 h hS => ?_)
      rw [← hq2] at q2 q3
      replace hq := hq.trans q1
      have hinv2 : Gd S1 N K V ord L sn Hd Wr sf way fan pc wide (b + 512 * (i + 1)) ∧ fr [0, 1] S0 S1 ∧ (∀ q, q < i + 1 → upd f i r q = rd K V (Hd ++ agz (RS L)) q N) := by
        refine ⟨q2.mono (by omega), hinv.2.1.tr (q3.mono (by decide)), fun q hq5 => ?_⟩
        by_cases hqi : q = i
        · rw [hqi, hq]; exact upd_self
        · exact (upd_ne hqi).trans (hinv.2.2 q (by omega))
      refine lw_st hF hK h hS 0 rfl (nI_in hlt (by omega)) dL_law_307 (fun H locs h hS => ?_)
      rw [nI_clamp (by omega)] at h
      replace h : LW D cy ad S1 [yR cy wa wide (upd f i r)] (lA s) H := h
      refine lv_iinc (v := nI (i + 1)) (lv' := [(12, .int (nI (i + 1))), (11, .int kd), (10, .int ky), (9, .int xv), (8, .int (nI kk0)), (7, .ref wa), (6, .int sp), (5, .int (nI wide)), (4, .int (nI pc)), (3, .int (nI fan)), (2, .int (nI way)), (1, .ref (ad 0)), (0, .ref b0)]) hx hb dL_law_308 hl (k := 0) rfl (nI_1 _) (by decide) rfl (fun ls hl => ?_)
      refine lv_goto (tgt := 290) hx hb dL_law_311 (by decide) ?_
      exact ih (i + 1) (by omega) (by omega) S1 (upd f i r) H locs ls hinv2 h hS (lv_sub hl [0, 1, 2, 3, 4, 5, 6, 7, 8, 9, 10, 11, 12] rfl)
    ·
      obtain rfl : i = wide := by omega
      refine lv_icmp_ge (tgt := 314) hx hb dL_law_294 (by decide) (fun _ => ?_) (fun c0 => absurd (nI_le (Nat.le_refl _) (by omega)) c0)
      exact kk S f H locs ls hinv h hS (lv_sub hl [1, 2, 3, 4, 5, 6, 7, 8, 9, 10, 11, 12] rfl)
set_option maxHeartbeats 4000000 in
set_option maxRecDepth 100000 in
theorem law_at (hF : CallFix p m c cL_law 19 s args cs_WS RL) (hL : ∀ w ∈ cs_WL, w.before args s = true) (hK : cs_K D cy s) (hcs : cells ≤ room_1.cells ∧ slots ≤ room_1.slots)
    {wa b0 : Nat} {kd ky xv sp : Int32} {kk0 : Nat} {S0 : cs_St} {s0 : Nat} (h80 : LV (S0.1 8) [sp])
    (hwd : wide ≤ 31)
    (kk : ∀ (S : cs_St) (f : Nat → Int32) (H : Heap) (locs : List Loc) (ls : Array Slot), (Gd S N K V ord L [s0] Hd Wr sf way fan pc wide (b + 512 * wide) ∧ fr [0, 1] S0 S ∧ ∀ q, q < wide → f q = rd K V (Hd ++ agz (RS L)) q s0) → LW D cy ad S [yR cy wa wide f] (lA s) H → va_S (lA s) s.heap H locs → lv_has ls 19 [(11, .int kd), (10, .int ky), (9, .int xv), (8, .int (nI kk0)), (7, .ref wa), (6, .int sp), (5, .int (nI wide)), (4, .int (nI pc)), (3, .int (nI fan)), (2, .int (nI way)), (1, .ref (ad 0)), (0, .ref b0)] → W p l e room_1 s m args below meth c H locs cells slots Q (F0 m 358 ls [])) :
    ∀ (n i : Nat), i ≤ wide → wide - i < n → ∀ (S : cs_St) (f : Nat → Int32) (H : Heap) (locs : List Loc) (ls : Array Slot), (Gd S N K V ord L [s0] Hd Wr sf way fan pc wide (b + 512 * i) ∧ fr [0, 1] S0 S ∧ ∀ q, q < wide → f q = rd K V (Hd ++ agz (RS L)) q s0) → LW D cy ad S [yR cy wa wide f] (lA s) H → va_S (lA s) s.heap H locs → lv_has ls 19 [(12, .int (nI i)), (11, .int kd), (10, .int ky), (9, .int xv), (8, .int (nI kk0)), (7, .ref wa), (6, .int sp), (5, .int (nI wide)), (4, .int (nI pc)), (3, .int (nI fan)), (2, .int (nI way)), (1, .ref (ad 0)), (0, .ref b0)] → W p l e room_1 s m args below meth c H locs cells slots Q (F0 m 327 ls []) := by
  obtain ⟨hx, hb, hml, hown, hts⟩ := id hF
  intro n
  induction n with
  | zero => intro r _ h; exact absurd h (Nat.not_lt_zero _)
  | succ n ih =>
    intro i hi hn S f H locs ls hinv h hS hl
    refine lv_iload hx hb dL_law_327 (lv_at hl 0 rfl) ?_
    refine lv_iload hx hb dL_law_329 (lv_at hl 7 rfl) ?_
    rcases Nat.lt_or_ge i wide with hlt | hge
    ·
      refine lv_icmp_ge (tgt := 358) hx hb dL_law_331 (by decide) (fun c0 => absurd c0 (nI_ge hlt (by omega))) (fun _ => ?_)
      refine lv_aload_n hx hb dL_law_334 rfl (lv_at hl 11 rfl) ?_
      refine lv_iload hx hb dL_law_335 (lv_at hl 6 rfl) ?_
      refine lv_iload hx hb dL_law_337 (lv_at hl 0 rfl) ?_
      have h8 : LV (S.1 8) [sp] := by rw [hinv.2.1.2 8 (by decide)]; exact h80
      obtain ⟨q1, q2, q3⟩ := op_getAt hinv.1 h8 (show i < 10000 by omega)
      refine lw_i hF (c_X6_getAt l D cy ad S sp (nI i) (by rw [place0 h8]; decide) (nI_pos (by omega)) (nI_le (show i ≤ 9999 by omega) (by decide))) (cwV 2 hL gl_84 rfl rfl rfl kk_X6_getAt ⟨Nat.le_of_ble_eq_true rfl, Nat.le_of_ble_eq_true rfl⟩) h hK hS hcs rfl hl.1 [] rfl (Nat.le_of_ble_eq_true rfl) dL_law_339 (fun r S1 H locs hq hq2 h hS => ?_)
      rw [← hq2] at q2 q3
      replace hq := hq.trans q1
      have hinv2 : Gd S1 N K V ord L [s0] Hd Wr sf way fan pc wide (b + 512 * (i + 1)) ∧ fr [0, 1] S0 S1 ∧ (∀ q, q < wide → f q = rd K V (Hd ++ agz (RS L)) q s0) := ⟨q2.mono (by omega), hinv.2.1.tr (q3.mono (by decide)), hinv.2.2⟩
      refine lv_aload hx hb dL_law_342 (lv_at hl 5 rfl) ?_
      refine lv_iload hx hb dL_law_344 (lv_at hl 0 rfl) ?_
      refine lw_ld hF hK h 0 rfl (nI_in hlt (by omega)) dL_law_346 ?_
      rw [show (f (nI i).toNatClampNeg : Int32) = f i from congrArg f (nI_clamp (by omega))]
      refine lv_icmp_eq (tgt := 352) hx hb dL_law_347 (by decide) (fun _ => ?_) (fun c0 => absurd (hq.trans (hinv.2.2 i hlt).symm) c0)
      refine lv_iinc (v := nI (i + 1)) (lv' := [(12, .int (nI (i + 1))), (11, .int kd), (10, .int ky), (9, .int xv), (8, .int (nI kk0)), (7, .ref wa), (6, .int sp), (5, .int (nI wide)), (4, .int (nI pc)), (3, .int (nI fan)), (2, .int (nI way)), (1, .ref (ad 0)), (0, .ref b0)]) hx hb dL_law_352 hl (k := 0) rfl (nI_1 _) (by decide) rfl (fun ls hl => ?_)
      refine lv_goto (tgt := 327) hx hb dL_law_355 (by decide) ?_
      exact ih (i + 1) (by omega) (by omega) S1 f H locs ls hinv2 h hS (lv_sub hl [0, 1, 2, 3, 4, 5, 6, 7, 8, 9, 10, 11, 12] rfl)
    ·
      obtain rfl : i = wide := by omega
      refine lv_icmp_ge (tgt := 358) hx hb dL_law_331 (by decide) (fun _ => ?_) (fun c0 => absurd (nI_le (Nat.le_refl _) (by omega)) c0)
      exact kk S f H locs ls hinv h hS (lv_sub hl [1, 2, 3, 4, 5, 6, 7, 8, 9, 10, 11, 12] rfl)
set_option maxHeartbeats 4000000 in
set_option maxRecDepth 100000 in
theorem law_safe (hF : CallFix p m c cL_law 19 s args cs_WS RL) (hL : ∀ w ∈ cs_WL, w.before args s = true) (hK : cs_K D cy s) (hcs : cells ≤ room_1.cells ∧ slots ≤ room_1.slots)
    {wa b0 : Nat} {kd ky xv sp : Int32} {kk0 : Nat} {S0 : cs_St} {sa : Nat} {g0 : Nat → Int32}
    (hwd : wide ≤ 31)
    (kk : ∀ (S : cs_St) (f : Nat → Int32) (H : Heap) (locs : List Loc) (ls : Array Slot), (Gd S N K V ord L sn Hd Wr sf way fan pc wide b ∧ fr [0, 1] S0 S ∧ ∀ q, q < wide → f q = rd K V ((Wr.take sf).reverse ++ agz (RS L)) q N) → LW D cy ad S [yR cy wa wide g0, yR cy sa wide f] (lA s) H → va_S (lA s) s.heap H locs → lv_has ls 19 [(12, .ref sa), (11, .int kd), (10, .int ky), (9, .int xv), (8, .int (nI kk0)), (7, .ref wa), (6, .int sp), (5, .int (nI wide)), (4, .int (nI pc)), (3, .int (nI fan)), (2, .int (nI way)), (1, .ref (ad 0)), (0, .ref b0)] → W p l e room_1 s m args below meth c H locs cells slots Q (F0 m 408 ls [])) :
    ∀ (n i : Nat), i ≤ wide → wide - i < n → ∀ (S : cs_St) (f : Nat → Int32) (H : Heap) (locs : List Loc) (ls : Array Slot), (Gd S N K V ord L sn Hd Wr sf way fan pc wide b ∧ fr [0, 1] S0 S ∧ ∀ q, q < i → f q = rd K V ((Wr.take sf).reverse ++ agz (RS L)) q N) → LW D cy ad S [yR cy wa wide g0, yR cy sa wide f] (lA s) H → va_S (lA s) s.heap H locs → lv_has ls 19 [(13, .int (nI i)), (12, .ref sa), (11, .int kd), (10, .int ky), (9, .int xv), (8, .int (nI kk0)), (7, .ref wa), (6, .int sp), (5, .int (nI wide)), (4, .int (nI pc)), (3, .int (nI fan)), (2, .int (nI way)), (1, .ref (ad 0)), (0, .ref b0)] → W p l e room_1 s m args below meth c H locs cells slots Q (F0 m 384 ls []) := by
  obtain ⟨hx, hb, hml, hown, hts⟩ := id hF
  intro n
  induction n with
  | zero => intro r _ h; exact absurd h (Nat.not_lt_zero _)
  | succ n ih =>
    intro i hi hn S f H locs ls hinv h hS hl
    refine lv_iload hx hb dL_law_384 (lv_at hl 0 rfl) ?_
    refine lv_iload hx hb dL_law_386 (lv_at hl 8 rfl) ?_
    rcases Nat.lt_or_ge i wide with hlt | hge
    ·
      refine lv_icmp_ge (tgt := 408) hx hb dL_law_388 (by decide) (fun c0 => absurd c0 (nI_ge hlt (by omega))) (fun _ => ?_)
      refine lv_aload hx hb dL_law_391 (lv_at hl 1 rfl) ?_
      refine lv_iload hx hb dL_law_393 (lv_at hl 0 rfl) ?_
      refine lv_aload_n hx hb dL_law_395 rfl (lv_at hl 12 rfl) ?_
      refine lv_iload hx hb dL_law_396 (lv_at hl 0 rfl) ?_
      obtain ⟨q1, q3⟩ := op_safe hinv.1 (show i < 10000 by omega)
      refine lw_i hF (c_X6_getSafe l D cy ad S (nI i) (nI_pos (by omega)) (nI_le (show i ≤ 9999 by omega) (by decide))) (cwV 1 hL gl_90 rfl rfl rfl kk_X6_getSafe ⟨Nat.le_of_ble_eq_true rfl, Nat.le_of_ble_eq_true rfl⟩) h hK hS hcs rfl hl.1 [.int (nI i), .ref sa] rfl (Nat.le_of_ble_eq_true rfl) dL_law_398 (fun r S1 H locs hq hq2 h hS => ?_)
      rw [← hq2] at q3
      replace hq := hq.trans q1
      have hinv2 : Gd S1 N K V ord L sn Hd Wr sf way fan pc wide b ∧ fr [0, 1] S0 S1 ∧ (∀ q, q < i + 1 → upd f i r q = rd K V ((Wr.take sf).reverse ++ agz (RS L)) q N) := by
        refine ⟨hinv.1.sc (q3.mono (by decide)), hinv.2.1.tr (q3.mono (by decide)), fun q hq5 => ?_⟩
        by_cases hqi : q = i
        · rw [hqi, hq]; exact upd_self
        · exact (upd_ne hqi).trans (hinv.2.2 q (by omega))
      refine lw_st hF hK h hS 1 rfl (nI_in hlt (by omega)) dL_law_401 (fun H locs h hS => ?_)
      rw [nI_clamp (by omega)] at h
      replace h : LW D cy ad S1 [yR cy wa wide g0, yR cy sa wide (upd f i r)] (lA s) H := h
      refine lv_iinc (v := nI (i + 1)) (lv' := [(13, .int (nI (i + 1))), (12, .ref sa), (11, .int kd), (10, .int ky), (9, .int xv), (8, .int (nI kk0)), (7, .ref wa), (6, .int sp), (5, .int (nI wide)), (4, .int (nI pc)), (3, .int (nI fan)), (2, .int (nI way)), (1, .ref (ad 0)), (0, .ref b0)]) hx hb dL_law_402 hl (k := 0) rfl (nI_1 _) (by decide) rfl (fun ls hl => ?_)
      refine lv_goto (tgt := 384) hx hb dL_law_405 (by decide) ?_
      exact ih (i + 1) (by omega) (by omega) S1 (upd f i r) H locs ls hinv2 h hS (lv_sub hl [0, 1, 2, 3, 4, 5, 6, 7, 8, 9, 10, 11, 12, 13] rfl)
    ·
      obtain rfl : i = wide := by omega
      refine lv_icmp_ge (tgt := 408) hx hb dL_law_388 (by decide) (fun _ => ?_) (fun c0 => absurd (nI_le (Nat.le_refl _) (by omega)) c0)
      exact kk S f H locs ls hinv h hS (lv_sub hl [1, 2, 3, 4, 5, 6, 7, 8, 9, 10, 11, 12, 13] rfl)
set_option maxHeartbeats 4000000 in
set_option maxRecDepth 100000 in
theorem law_back (hF : CallFix p m c cL_law 19 s args cs_WS RL) (hL : ∀ w ∈ cs_WL, w.before args s = true) (hK : cs_K D cy s) (hcs : cells ≤ room_1.cells ∧ slots ≤ room_1.slots)
    {wa b0 : Nat} {kd ky xv sp : Int32} {kk0 : Nat} {S0 : cs_St} {sa : Nat} {g0 : Nat → Int32}
    (hwd : wide ≤ 31)
    (kk : ∀ (S : cs_St) (f : Nat → Int32) (H : Heap) (locs : List Loc) (ls : Array Slot), (Gd S N K V ord L sn Hd Wr sf way fan pc wide (b + 512 * wide) ∧ fr [0, 1] S0 S ∧ ∀ q, q < wide → f q = rd K V (Hd ++ agz (RS L)) q N) → LW D cy ad S [yR cy wa wide g0, yR cy sa wide f] (lA s) H → va_S (lA s) s.heap H locs → lv_has ls 19 [(12, .ref sa), (11, .int kd), (10, .int ky), (9, .int xv), (8, .int (nI kk0)), (7, .ref wa), (6, .int sp), (5, .int (nI wide)), (4, .int (nI pc)), (3, .int (nI fan)), (2, .int (nI way)), (1, .ref (ad 0)), (0, .ref b0)] → W p l e room_1 s m args below meth c H locs cells slots Q (F0 m 445 ls [])) :
    ∀ (n i : Nat), i ≤ wide → wide - i < n → ∀ (S : cs_St) (f : Nat → Int32) (H : Heap) (locs : List Loc) (ls : Array Slot), (Gd S N K V ord L sn Hd Wr sf way fan pc wide (b + 512 * i) ∧ fr [0, 1] S0 S ∧ ∀ q, q < wide → f q = rd K V (Hd ++ agz (RS L)) q N) → LW D cy ad S [yR cy wa wide g0, yR cy sa wide f] (lA s) H → va_S (lA s) s.heap H locs → lv_has ls 19 [(13, .int (nI i)), (12, .ref sa), (11, .int kd), (10, .int ky), (9, .int xv), (8, .int (nI kk0)), (7, .ref wa), (6, .int sp), (5, .int (nI wide)), (4, .int (nI pc)), (3, .int (nI fan)), (2, .int (nI way)), (1, .ref (ad 0)), (0, .ref b0)] → W p l e room_1 s m args below meth c H locs cells slots Q (F0 m 416 ls []) := by
  obtain ⟨hx, hb, hml, hown, hts⟩ := id hF
  intro n
  induction n with
  | zero => intro r _ h; exact absurd h (Nat.not_lt_zero _)
  | succ n ih =>
    intro i hi hn S f H locs ls hinv h hS hl
    refine lv_iload hx hb dL_law_416 (lv_at hl 0 rfl) ?_
    refine lv_iload hx hb dL_law_418 (lv_at hl 8 rfl) ?_
    rcases Nat.lt_or_ge i wide with hlt | hge
    ·
      refine lv_icmp_ge (tgt := 445) hx hb dL_law_420 (by decide) (fun c0 => absurd c0 (nI_ge hlt (by omega))) (fun _ => ?_)
      refine lv_aload_n hx hb dL_law_423 rfl (lv_at hl 12 rfl) ?_
      refine lv_iload hx hb dL_law_424 (lv_at hl 0 rfl) ?_
      obtain ⟨q1, q2, q3⟩ := get_is hinv.1 (show i < 10000 by omega)
      refine lw_i hF (c_X6_get l D cy ad S (nI i) (nI_pos (by omega)) (nI_le (show i ≤ 9999 by omega) (by decide))) (cwV 1 hL gl_81 rfl rfl rfl kk_X6_get ⟨Nat.le_of_ble_eq_true rfl, Nat.le_of_ble_eq_true rfl⟩) h hK hS hcs rfl hl.1 [] rfl (Nat.le_of_ble_eq_true rfl) dL_law_426 (fun r S1 H locs hq hq2 h hS => ?_)
      rw [← hq2] at q2 q3
      replace hq := hq.trans q1
      have hinv2 : Gd S1 N K V ord L sn Hd Wr sf way fan pc wide (b + 512 * (i + 1)) ∧ fr [0, 1] S0 S1 ∧ (∀ q, q < wide → f q = rd K V (Hd ++ agz (RS L)) q N) := ⟨q2.mono (by omega), hinv.2.1.tr (q3.mono (by decide)), hinv.2.2⟩
      refine lv_aload hx hb dL_law_429 (lv_at hl 1 rfl) ?_
      refine lv_iload hx hb dL_law_431 (lv_at hl 0 rfl) ?_
      refine lw_ld hF hK h 1 rfl (nI_in hlt (by omega)) dL_law_433 ?_
      rw [show (f (nI i).toNatClampNeg : Int32) = f i from congrArg f (nI_clamp (by omega))]
      refine lv_icmp_eq (tgt := 439) hx hb dL_law_434 (by decide) (fun _ => ?_) (fun c0 => absurd (hq.trans (hinv.2.2 i hlt).symm) c0)
      refine lv_iinc (v := nI (i + 1)) (lv' := [(13, .int (nI (i + 1))), (12, .ref sa), (11, .int kd), (10, .int ky), (9, .int xv), (8, .int (nI kk0)), (7, .ref wa), (6, .int sp), (5, .int (nI wide)), (4, .int (nI pc)), (3, .int (nI fan)), (2, .int (nI way)), (1, .ref (ad 0)), (0, .ref b0)]) hx hb dL_law_439 hl (k := 0) rfl (nI_1 _) (by decide) rfl (fun ls hl => ?_)
      refine lv_goto (tgt := 416) hx hb dL_law_442 (by decide) ?_
      exact ih (i + 1) (by omega) (by omega) S1 f H locs ls hinv2 h hS (lv_sub hl [0, 1, 2, 3, 4, 5, 6, 7, 8, 9, 10, 11, 12, 13] rfl)
    ·
      obtain rfl : i = wide := by omega
      refine lv_icmp_ge (tgt := 445) hx hb dL_law_420 (by decide) (fun _ => ?_) (fun c0 => absurd (nI_le (Nat.le_refl _) (by omega)) c0)
      exact kk S f H locs ls hinv h hS (lv_sub hl [1, 2, 3, 4, 5, 6, 7, 8, 9, 10, 11, 12, 13] rfl)
end LOP
