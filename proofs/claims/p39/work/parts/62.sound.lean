/-! the law's isSound: its walk over what holds at rest -/
abbrev so_R : Room := cs_rm 4 92
section SO
variable {p : Program} {l : Launch} {e : Env} {s : State} {m : MethodId} {args : Array Value} {below : List Frame} {meth : Method} {c : Code} {Q : State → Prop} {D : va_G} {cy : ClassId} {ad : Nat → Nat}
variable {S : cs_St} {N : Nat} {K : Nat → Nat} {V : Nat → Int32} {ord : List Nat} {L : Nat → List Run} {sn Hd Wr : List Nat} {sf way fan pc wide b : Nat}
theorem lt4 {lv : Nat} (h : lv < 4) : nI lv < 4 := nI_lt h (by decide)
theorem stn_take {V : Nat → Int32} {x : List Nat} {k a : Nat} (h : x[k]? = some a) : stn V (x.take (k + 1)) = stn V (x.take k) + if V a = -1 then 1 else 0 := by
  have hk := (List.getElem?_eq_some_iff.mp h).1
  rw [List.take_succ_eq_append_getElem hk, (List.getElem?_eq_some_iff.mp h).2]
  unfold stn
  rw [List.countP_append, List.countP_singleton]
  by_cases e : V a = -1
  · rw [if_pos (decide_eq_true e), if_pos e]
  · rw [if_neg (by rw [decide_eq_false e]; decide), if_neg e]
theorem last_at {x : List Nat} {j a : Nat} (h : x[j]? = some a) (hj : x.length = j + 1) : x.getLastD 0 = a := by
  have hn : x ≠ [] := by intro z; rw [z] at hj; cases hj
  rw [List.getLastD_eq_getLast?, List.getLast?_eq_getElem?, hj, Nat.add_sub_cancel, h]; rfl
theorem vge {V : Nat → Int32} {N a : Nat} (hV : ∀ a, 1 ≤ a → a ≤ N → V a = -1 ∨ 0 ≤ V a) (h : 1 ≤ a ∧ a ≤ N) : ¬ V a < (-1) := by
  rcases hV a h.1 h.2 with z | z
  · rw [z]; decide
  · intro c
    have h1 := Int32.lt_iff_toInt_lt.mp c
    have h2 := Int32.le_iff_toInt_le.mp z
    have e1 : ((-1 : Int32)).toInt = -1 := by decide
    have e2 : ((0 : Int32)).toInt = 0 := by decide
    omega
theorem lastk {K : Nat → Nat} {x : List Nat} {k a : Nat} (ha : x[k]? = some a) : ∀ j q, k + 1 = j + 1 → x[j]? = some q → nI (K a) = nI (K q) := by
  intro j q hj hq
  obtain rfl : k = j := by omega
  rw [ha] at hq; cases hq; rfl
theorem nIeq1 {w : Nat} (h : w ≤ 1) (e : nI w = 1) : w = 1 := by
  rcases Nat.le_one_iff_eq_zero_or_eq_one.mp h with rfl | rfl
  · exact absurd e (by decide)
  · rfl
theorem nIpos {w : Nat} (h : w < 4) (e : ¬ nI w ≤ 0) : 1 ≤ w := by
  rcases Nat.eq_zero_or_pos w with rfl | h1
  · exact absurd (by decide) e
  · exact h1
set_option maxHeartbeats 4000000 in
set_option maxRecDepth 100000 in
theorem so_k (hF : CallFix p m c cL_isSound 16 s args cs_WS RL) (hL : ∀ w ∈ cs_WL, w.before args s = true) (hK : cs_K D cy s) (hG : Gd S N K V ord L sn Hd Wr sf way fan pc wide b) (hV : ∀ a, 1 ≤ a → a ≤ N → V a = -1 ∨ 0 ≤ V a)
    (hN : (S.1 0).1 3 = nI N) {lv r : Nat} {x : Run} (hlv : lv < 4) (hr : (L lv)[r]? = some x) (hr5 : r < 512) {st : Nat} {last0 all ent : Int32} (h0 : way = 1 → 1 ≤ lv → ∀ b ∈ x.1, last0 < nI (K b))
    (kk : ∀ (H : Heap) (locs : List Loc) (ls : Array Slot) (kc : Nat), cs_w D cy ad S H → va_S (cs_A ad) s.heap H locs → lv_has ls 16 [(8, .int (nI (K (x.1.getLastD 0)))), (5, .int (nI (st + stn V x.1))), (11, .int (nI kc)), (10, .int (nI x.1.length)), (9, .int (nI r)), (7, .int all), (6, .int (nI lv)), (4, .int ent), (3, .int (nI pc)), (2, .int (nI fan)), (1, .int (nI way)), (0, .ref (ad 0))] → kc ≤ x.1.length → ((∀ a ∈ x.1, ∀ b ∈ x.1, K a = K b) → kc ≤ 1) → W p l e so_R s m args below meth c H locs 0 0 Q (F0 m 273 ls [])) :
    ∀ (n k : Nat), k ≤ x.1.length → x.1.length - k < n → ∀ (kc : Nat) (last : Int32) (H : Heap) (locs : List Loc) (ls : Array Slot), cs_w D cy ad S H → va_S (cs_A ad) s.heap H locs → lv_has ls 16 [(12, .int (nI k)), (11, .int (nI kc)), (8, .int last), (5, .int (nI (st + stn V (x.1.take k)))), (10, .int (nI x.1.length)), (9, .int (nI r)), (7, .int all), (6, .int (nI lv)), (4, .int ent), (3, .int (nI pc)), (2, .int (nI fan)), (1, .int (nI way)), (0, .ref (ad 0))] → kc ≤ k → ((∀ a ∈ x.1, ∀ b ∈ x.1, K a = K b) → kc ≤ 1) → (k = 0 → last = last0) → (∀ j a, k = j + 1 → x.1[j]? = some a → last = nI (K a)) → W p l e so_R s m args below meth c H locs 0 0 Q (F0 m 51 ls []) := by
  obtain ⟨hx, hb, hml, hown, hts⟩ := id hF
  have hI := hG.1
  have hcf := hI.1.2.2.1
  have hB := hI.1.1
  have hxm := RS_mem L hlv (List.mem_of_getElem? hr)
  have hok := hI.1.2.2.2.1.1 x hxm
  have hne := hB.2.1.2.2.2.2.2.2.2.2 x hxm
  have hpos := List.length_pos_iff.mpr hne
  have hRr := run_at hlv hr
  have hlen : x.1.length < 512 := by
    have h1 := hB.2.1.2.2.2.2.2.2.2.1
    have h2 := split_get hRr
    rw [h2] at h1
    simp at h1
    omega
  have hNl : N < 512 := hB.1.N512
  have g0 : ¬ nI lv < 0 := nI_pos (by omega)
  have g1 : nI lv < 4 := lt4 hlv
  have g2 : ¬ nI r < 0 := nI_pos (by omega)
  have g3 : nI r < m_X4_count S (nI lv) := by
    rw [hB.2.1.count hlv]
    have h1 := (List.getElem?_eq_some_iff.mp hr).1
    have h2 : (L lv).length < 512 := Nat.lt_of_le_of_lt (Nat.le_trans (Nat.le_add_left _ _) (hB.2.1.cnt_le hlv)) hB.2.1.nR
    exact nI_lt h1 (by omega)
  intro n
  induction n with
  | zero => intro k _ h; exact absurd h (Nat.not_lt_zero _)
  | succ n ih =>
    intro k hk hn kc last H locs ls hw hS hl hkc hke hl0 hlj
    refine lv_iload hx hb dL_isSound_51 (lv_at hl 0 rfl) ?_
    refine lv_iload hx hb dL_isSound_53 (lv_at hl 4 rfl) ?_
    rcases Nat.lt_or_ge k x.1.length with hlt | hge
    ·
      refine lv_icmp_ge (tgt := 273) hx hb dL_isSound_55 (by decide) (fun c0 => absurd c0 (nI_ge hlt (by omega))) (fun _ => ?_)
      obtain ⟨a, ha⟩ : ∃ a, x.1[k]? = some a := ⟨_, List.getElem?_eq_getElem hlt⟩
      have he := entry_is hI hlv hr ha
      have ham := List.mem_of_getElem? ha
      have haN := hB.mem hRr ham
      have haK := hB.K9 hRr ham
      have hst := stn_take (V := V) ha
      refine lv_aload_n hx hb dL_isSound_58 rfl (lv_at hl 12 rfl) ?_
      refine lv_iload hx hb dL_isSound_59 (lv_at hl 7 rfl) ?_
      refine lv_iload hx hb dL_isSound_61 (lv_at hl 5 rfl) ?_
      refine lv_iload hx hb dL_isSound_63 (lv_at hl 0 rfl) ?_
      refine lv_iconst (v := 0) hx hb dL_isSound_65 (by decide) ?_
      refine cs_vir hF (c_X6_entry l D cy ad S (nI lv) (nI r) (nI k) (0 : Int32) (g0) (g1) (g2) (g3) (nI_pos (by omega)) (by rw [he.1]; exact nI_lt (by omega) (by omega)) (by decide) (by decide)) (cwV 4 hL gl_19 rfl rfl rfl kk_X6_entry ⟨Nat.le_of_ble_eq_true rfl, Nat.le_of_ble_eq_true rfl⟩) (cs_recv hK hw (ci := 6) 0 rfl rfl) hw hK hS rfl hl.1 [] rfl (Nat.le_of_ble_eq_true rfl) dL_isSound_66 (fun r H locs hq hw hS => ?_)
      replace hq := hq.trans (he.2.1)
      subst hq
      refine lv_istore (lv' := [(13, .int (nI (K a))), (12, .int (nI k)), (11, .int (nI kc)), (8, .int last), (5, .int (nI (st + stn V (x.1.take k)))), (10, .int (nI x.1.length)), (9, .int (nI r)), (7, .int all), (6, .int (nI lv)), (4, .int ent), (3, .int (nI pc)), (2, .int (nI fan)), (1, .int (nI way)), (0, .ref (ad 0))]) hx hb dL_isSound_69 hl (by decide) rfl (fun ls hl => ?_)
      refine lv_aload_n hx hb dL_isSound_71 rfl (lv_at hl 13 rfl) ?_
      refine lv_iload hx hb dL_isSound_72 (lv_at hl 8 rfl) ?_
      refine lv_iload hx hb dL_isSound_74 (lv_at hl 6 rfl) ?_
      refine lv_iload hx hb dL_isSound_76 (lv_at hl 1 rfl) ?_
      refine lv_iconst (v := 2) hx hb dL_isSound_78 (by decide) ?_
      refine cs_vir hF (c_X6_entry l D cy ad S (nI lv) (nI r) (nI k) (2 : Int32) (g0) (g1) (g2) (g3) (nI_pos (by omega)) (by rw [he.1]; exact nI_lt (by omega) (by omega)) (by decide) (by decide)) (cwV 4 hL gl_19 rfl rfl rfl kk_X6_entry ⟨Nat.le_of_ble_eq_true rfl, Nat.le_of_ble_eq_true rfl⟩) (cs_recv hK hw (ci := 6) 0 rfl rfl) hw hK hS rfl hl.1 [] rfl (Nat.le_of_ble_eq_true rfl) dL_isSound_79 (fun r H locs hq hw hS => ?_)
      replace hq := hq.trans (he.2.2.2)
      subst hq
      refine lv_istore (lv' := [(14, .int (V a)), (13, .int (nI (K a))), (12, .int (nI k)), (11, .int (nI kc)), (8, .int last), (5, .int (nI (st + stn V (x.1.take k)))), (10, .int (nI x.1.length)), (9, .int (nI r)), (7, .int all), (6, .int (nI lv)), (4, .int ent), (3, .int (nI pc)), (2, .int (nI fan)), (1, .int (nI way)), (0, .ref (ad 0))]) hx hb dL_isSound_82 hl (by decide) rfl (fun ls hl => ?_)
      refine lv_iload hx hb dL_isSound_84 (lv_at hl 2 rfl) ?_
      rcases Nat.eq_zero_or_pos k with h0k | hkp
      ·
        refine lv_if_eq (tgt := 107) hx hb dL_isSound_86 (by decide) (fun _ => ?_) (fun c0 => absurd (by rw [h0k]; rfl) c0)
        refine lv_iconst (v := 1) hx hb dL_isSound_107 (by decide) ?_
        refine lv_goto (tgt := 112) hx hb dL_isSound_108 (by decide) ?_
        refine lv_istore (lv' := [(15, .int 1), (14, .int (V a)), (13, .int (nI (K a))), (12, .int (nI k)), (11, .int (nI kc)), (8, .int last), (5, .int (nI (st + stn V (x.1.take k)))), (10, .int (nI x.1.length)), (9, .int (nI r)), (7, .int all), (6, .int (nI lv)), (4, .int ent), (3, .int (nI pc)), (2, .int (nI fan)), (1, .int (nI way)), (0, .ref (ad 0))]) hx hb dL_isSound_112 hl (by decide) rfl (fun ls hl => ?_)
        refine lv_iload hx hb dL_isSound_114 (lv_at hl 4 rfl) ?_
        refine lv_iload hx hb dL_isSound_116 (lv_at hl 0 rfl) ?_
        refine lv_if_eq (tgt := 125) hx hb dL_isSound_118 (by decide) (fun c0 => absurd c0 (by decide)) (fun _ => ?_)
        refine lv_iconst (v := 1) hx hb dL_isSound_121 (by decide) ?_
        refine lv_goto (tgt := 126) hx hb dL_isSound_122 (by decide) ?_
        refine lv_iadd hx hb dL_isSound_126 ?_
        rw [show ((nI kc) + 1 : Int32) = nI (kc + 1) from nI_1 _]
        refine lv_istore (lv' := [(11, .int (nI (kc + 1))), (15, .int 1), (14, .int (V a)), (13, .int (nI (K a))), (12, .int (nI k)), (8, .int last), (5, .int (nI (st + stn V (x.1.take k)))), (10, .int (nI x.1.length)), (9, .int (nI r)), (7, .int all), (6, .int (nI lv)), (4, .int ent), (3, .int (nI pc)), (2, .int (nI fan)), (1, .int (nI way)), (0, .ref (ad 0))]) hx hb dL_isSound_127 hl (by decide) rfl (fun ls hl => ?_)
        refine lv_iload hx hb dL_isSound_129 (lv_at hl 6 rfl) ?_
        refine lv_iload hx hb dL_isSound_131 (lv_at hl 2 rfl) ?_
        refine lv_if_ge (tgt := 140) hx hb dL_isSound_133 (by decide) (fun cv => ?_) (fun cv => ?_)
        ·
          have hnv : ¬ V a = -1 := fun z => absurd (z ▸ cv) (by decide)
          rw [if_neg hnv] at hst
          refine lv_iconst (v := 0) hx hb dL_isSound_140 (by decide) ?_
          refine lv_iadd hx hb dL_isSound_141 ?_
          rw [show ((nI (st + stn V (x.1.take k))) + 0 : Int32) = nI (st + stn V (x.1.take (k + 1))) from (nI_z _).trans (by rw [hst, Nat.add_zero])]
          refine lv_istore (lv' := [(5, .int (nI (st + stn V (x.1.take (k + 1))))), (11, .int (nI (kc + 1))), (15, .int 1), (14, .int (V a)), (13, .int (nI (K a))), (12, .int (nI k)), (8, .int last), (10, .int (nI x.1.length)), (9, .int (nI r)), (7, .int all), (6, .int (nI lv)), (4, .int ent), (3, .int (nI pc)), (2, .int (nI fan)), (1, .int (nI way)), (0, .ref (ad 0))]) hx hb dL_isSound_142 hl (by decide) rfl (fun ls hl => ?_)
          refine lv_iload hx hb dL_isSound_144 (lv_at hl 5 rfl) ?_
          refine lv_if_le (tgt := 199) hx hb dL_isSound_146 (by decide) (fun _ => ?_) (fun c0 => absurd (by rw [h0k]; decide) c0)
          refine lv_iload hx hb dL_isSound_199 (lv_at hl 3 rfl) ?_
          refine lv_iconst (v := -1) hx hb dL_isSound_201 (by decide) ?_
          refine lv_icmp_lt (tgt := 237) hx hb dL_isSound_202 (by decide) (fun c0 => absurd c0 (vge hV haN)) (fun _ => ?_)
          refine lv_aload_n hx hb dL_isSound_205 rfl (lv_at hl 15 rfl) ?_
          refine lv_iload hx hb dL_isSound_206 (lv_at hl 10 rfl) ?_
          refine lv_iload hx hb dL_isSound_208 (lv_at hl 8 rfl) ?_
          refine lv_iload hx hb dL_isSound_210 (lv_at hl 5 rfl) ?_
          refine lv_iconst (v := 1) hx hb dL_isSound_212 (by decide) ?_
          refine cs_vir hF (c_X6_entry l D cy ad S (nI lv) (nI r) (nI k) (1 : Int32) (g0) (g1) (g2) (g3) (nI_pos (by omega)) (by rw [he.1]; exact nI_lt (by omega) (by omega)) (by decide) (by decide)) (cwV 4 hL gl_19 rfl rfl rfl kk_X6_entry ⟨Nat.le_of_ble_eq_true rfl, Nat.le_of_ble_eq_true rfl⟩) (cs_recv hK hw (ci := 6) 0 rfl rfl) hw hK hS rfl hl.1 [] rfl (Nat.le_of_ble_eq_true rfl) dL_isSound_213 (fun r H locs hq hw hS => ?_)
          replace hq := hq.trans (he.2.2.1)
          subst hq
          refine lv_aload_n hx hb dL_isSound_216 rfl (lv_at hl 15 rfl) ?_
          refine lv_iconst (v := 3) hx hb dL_isSound_217 (by decide) ?_
          refine cs_vir hF (c_X6_counted l D cy ad S (3 : Int32) (by decide) (by decide)) (cwV 1 hL gl_23 rfl rfl rfl kk_X6_counted ⟨Nat.le_of_ble_eq_true rfl, Nat.le_of_ble_eq_true rfl⟩) (cs_recv hK hw (ci := 6) 0 rfl rfl) hw hK hS rfl hl.1 [.int (nI a)] rfl (Nat.le_of_ble_eq_true rfl) dL_isSound_218 (fun r H locs hq hw hS => ?_)
          replace hq := hq.trans ((counted_is 3 (by decide)).trans hN)
          subst hq
          refine lv_icmp_gt (tgt := 237) hx hb dL_isSound_221 (by decide) (fun c0 => absurd c0 (nI_nlt haN.2 (by omega))) (fun _ => ?_)
          refine lv_aload_n hx hb dL_isSound_224 rfl (lv_at hl 15 rfl) ?_
          refine lv_iload hx hb dL_isSound_225 (lv_at hl 10 rfl) ?_
          refine lv_iload hx hb dL_isSound_227 (lv_at hl 8 rfl) ?_
          refine lv_iload hx hb dL_isSound_229 (lv_at hl 4 rfl) ?_
          refine cs_vir hF (c_X6_mayHave l D cy ad S (nI lv) (nI r) (nI (K a)) (g0) (g1) (g2) (g3) (nI_pos (by omega)) (nI_le (show K a ≤ 9999 by omega) (by decide))) (cwV 3 hL gl_26 rfl rfl rfl kk_X6_mayHave ⟨Nat.le_of_ble_eq_true rfl, Nat.le_of_ble_eq_true rfl⟩) (cs_recv hK hw (ci := 6) 0 rfl rfl) hw hK hS rfl hl.1 [] rfl (Nat.le_of_ble_eq_true rfl) dL_isSound_231 (fun r H locs hq hw hS => ?_)
          replace hq := hq.trans (may_eq hI hlv hr ham)
          subst hq
          refine lv_if_ne (tgt := 239) hx hb dL_isSound_234 (by decide) (fun _ => ?_) (fun c0 => absurd c0 (by decide))
          refine lw_cut (F0 m 263 ls []) ?_ (fun K263 => ?_)
          ·
            refine lv_iload hx hb dL_isSound_263 (lv_at hl 4 rfl) ?_
            refine lv_istore (lv' := [(8, .int (nI (K a))), (5, .int (nI (st + stn V (x.1.take (k + 1))))), (11, .int (nI (kc + 1))), (15, .int 1), (14, .int (V a)), (13, .int (nI (K a))), (12, .int (nI k)), (10, .int (nI x.1.length)), (9, .int (nI r)), (7, .int all), (6, .int (nI lv)), (4, .int ent), (3, .int (nI pc)), (2, .int (nI fan)), (1, .int (nI way)), (0, .ref (ad 0))]) hx hb dL_isSound_265 hl (by decide) rfl (fun ls hl => ?_)
            refine lv_iinc (v := nI (k + 1)) (lv' := [(12, .int (nI (k + 1))), (8, .int (nI (K a))), (5, .int (nI (st + stn V (x.1.take (k + 1))))), (11, .int (nI (kc + 1))), (15, .int 1), (14, .int (V a)), (13, .int (nI (K a))), (10, .int (nI x.1.length)), (9, .int (nI r)), (7, .int all), (6, .int (nI lv)), (4, .int ent), (3, .int (nI pc)), (2, .int (nI fan)), (1, .int (nI way)), (0, .ref (ad 0))]) hx hb dL_isSound_267 hl (k := 6) rfl (nI_1 _) (by decide) rfl (fun ls hl => ?_)
            refine lv_goto (tgt := 51) hx hb dL_isSound_270 (by decide) ?_
            exact ih (k + 1) (by omega) (by omega) (kc + 1) (nI (K a)) H locs ls hw hS (lv_sub hl [0, 3, 1, 2, 7, 8, 9, 10, 11, 12, 13, 14, 15] rfl) (by omega) (fun _ => by omega) (fun z => absurd z (Nat.succ_ne_zero _)) (lastk ha)
          ·
            refine lv_iload_n hx hb dL_isSound_239 rfl (lv_at hl 14 rfl) ?_
            refine lv_iconst (v := 1) hx hb dL_isSound_240 (by decide) ?_
            refine lv_icmp_ne (tgt := 263) hx hb dL_isSound_241 (by decide) (fun _ => K263) (fun cw => ?_)
            refine lv_iload hx hb dL_isSound_244 (lv_at hl 10 rfl) ?_
            refine lv_if_le (tgt := 263) hx hb dL_isSound_246 (by decide) (fun _ => K263) (fun cl => ?_)
            refine lv_iload hx hb dL_isSound_249 (lv_at hl 2 rfl) ?_
            refine lv_if_eq (tgt := 263) hx hb dL_isSound_251 (by decide) (fun c0 => absurd c0 (by decide)) (fun _ => ?_)
            refine lv_iload hx hb dL_isSound_254 (lv_at hl 4 rfl) ?_
            refine lv_iload hx hb dL_isSound_256 (lv_at hl 6 rfl) ?_
            refine lv_icmp_gt (tgt := 263) hx hb dL_isSound_258 (by decide) (fun _ => ?_) (fun c0 => absurd (by rw [hl0 h0k]; exact h0 (nIeq1 hcf.2.1 cw) (nIpos hlv cl) a ham) c0)
            exact K263
        ·
          have hnv : V a = -1 := (hV a haN.1 haN.2).resolve_right cv
          rw [if_pos hnv] at hst
          refine lv_iconst (v := 1) hx hb dL_isSound_136 (by decide) ?_
          refine lv_goto (tgt := 141) hx hb dL_isSound_137 (by decide) ?_
          refine lv_iadd hx hb dL_isSound_141 ?_
          rw [show ((nI (st + stn V (x.1.take k))) + 1 : Int32) = nI (st + stn V (x.1.take (k + 1))) from (nI_1 _).trans (by rw [hst, Nat.add_assoc])]
          refine lv_istore (lv' := [(5, .int (nI (st + stn V (x.1.take (k + 1))))), (11, .int (nI (kc + 1))), (15, .int 1), (14, .int (V a)), (13, .int (nI (K a))), (12, .int (nI k)), (8, .int last), (10, .int (nI x.1.length)), (9, .int (nI r)), (7, .int all), (6, .int (nI lv)), (4, .int ent), (3, .int (nI pc)), (2, .int (nI fan)), (1, .int (nI way)), (0, .ref (ad 0))]) hx hb dL_isSound_142 hl (by decide) rfl (fun ls hl => ?_)
          refine lv_iload hx hb dL_isSound_144 (lv_at hl 5 rfl) ?_
          refine lv_if_le (tgt := 199) hx hb dL_isSound_146 (by decide) (fun _ => ?_) (fun c0 => absurd (by rw [h0k]; decide) c0)
          refine lv_iload hx hb dL_isSound_199 (lv_at hl 3 rfl) ?_
          refine lv_iconst (v := -1) hx hb dL_isSound_201 (by decide) ?_
          refine lv_icmp_lt (tgt := 237) hx hb dL_isSound_202 (by decide) (fun c0 => absurd c0 (vge hV haN)) (fun _ => ?_)
          refine lv_aload_n hx hb dL_isSound_205 rfl (lv_at hl 15 rfl) ?_
          refine lv_iload hx hb dL_isSound_206 (lv_at hl 10 rfl) ?_
          refine lv_iload hx hb dL_isSound_208 (lv_at hl 8 rfl) ?_
          refine lv_iload hx hb dL_isSound_210 (lv_at hl 5 rfl) ?_
          refine lv_iconst (v := 1) hx hb dL_isSound_212 (by decide) ?_
          refine cs_vir hF (c_X6_entry l D cy ad S (nI lv) (nI r) (nI k) (1 : Int32) (g0) (g1) (g2) (g3) (nI_pos (by omega)) (by rw [he.1]; exact nI_lt (by omega) (by omega)) (by decide) (by decide)) (cwV 4 hL gl_19 rfl rfl rfl kk_X6_entry ⟨Nat.le_of_ble_eq_true rfl, Nat.le_of_ble_eq_true rfl⟩) (cs_recv hK hw (ci := 6) 0 rfl rfl) hw hK hS rfl hl.1 [] rfl (Nat.le_of_ble_eq_true rfl) dL_isSound_213 (fun r H locs hq hw hS => ?_)
          replace hq := hq.trans (he.2.2.1)
          subst hq
          refine lv_aload_n hx hb dL_isSound_216 rfl (lv_at hl 15 rfl) ?_
          refine lv_iconst (v := 3) hx hb dL_isSound_217 (by decide) ?_
          refine cs_vir hF (c_X6_counted l D cy ad S (3 : Int32) (by decide) (by decide)) (cwV 1 hL gl_23 rfl rfl rfl kk_X6_counted ⟨Nat.le_of_ble_eq_true rfl, Nat.le_of_ble_eq_true rfl⟩) (cs_recv hK hw (ci := 6) 0 rfl rfl) hw hK hS rfl hl.1 [.int (nI a)] rfl (Nat.le_of_ble_eq_true rfl) dL_isSound_218 (fun r H locs hq hw hS => ?_)
          replace hq := hq.trans ((counted_is 3 (by decide)).trans hN)
          subst hq
          refine lv_icmp_gt (tgt := 237) hx hb dL_isSound_221 (by decide) (fun c0 => absurd c0 (nI_nlt haN.2 (by omega))) (fun _ => ?_)
          refine lv_aload_n hx hb dL_isSound_224 rfl (lv_at hl 15 rfl) ?_
          refine lv_iload hx hb dL_isSound_225 (lv_at hl 10 rfl) ?_
          refine lv_iload hx hb dL_isSound_227 (lv_at hl 8 rfl) ?_
          refine lv_iload hx hb dL_isSound_229 (lv_at hl 4 rfl) ?_
          refine cs_vir hF (c_X6_mayHave l D cy ad S (nI lv) (nI r) (nI (K a)) (g0) (g1) (g2) (g3) (nI_pos (by omega)) (nI_le (show K a ≤ 9999 by omega) (by decide))) (cwV 3 hL gl_26 rfl rfl rfl kk_X6_mayHave ⟨Nat.le_of_ble_eq_true rfl, Nat.le_of_ble_eq_true rfl⟩) (cs_recv hK hw (ci := 6) 0 rfl rfl) hw hK hS rfl hl.1 [] rfl (Nat.le_of_ble_eq_true rfl) dL_isSound_231 (fun r H locs hq hw hS => ?_)
          replace hq := hq.trans (may_eq hI hlv hr ham)
          subst hq
          refine lv_if_ne (tgt := 239) hx hb dL_isSound_234 (by decide) (fun _ => ?_) (fun c0 => absurd c0 (by decide))
          refine lw_cut (F0 m 263 ls []) ?_ (fun K263 => ?_)
          ·
            refine lv_iload hx hb dL_isSound_263 (lv_at hl 4 rfl) ?_
            refine lv_istore (lv' := [(8, .int (nI (K a))), (5, .int (nI (st + stn V (x.1.take (k + 1))))), (11, .int (nI (kc + 1))), (15, .int 1), (14, .int (V a)), (13, .int (nI (K a))), (12, .int (nI k)), (10, .int (nI x.1.length)), (9, .int (nI r)), (7, .int all), (6, .int (nI lv)), (4, .int ent), (3, .int (nI pc)), (2, .int (nI fan)), (1, .int (nI way)), (0, .ref (ad 0))]) hx hb dL_isSound_265 hl (by decide) rfl (fun ls hl => ?_)
            refine lv_iinc (v := nI (k + 1)) (lv' := [(12, .int (nI (k + 1))), (8, .int (nI (K a))), (5, .int (nI (st + stn V (x.1.take (k + 1))))), (11, .int (nI (kc + 1))), (15, .int 1), (14, .int (V a)), (13, .int (nI (K a))), (10, .int (nI x.1.length)), (9, .int (nI r)), (7, .int all), (6, .int (nI lv)), (4, .int ent), (3, .int (nI pc)), (2, .int (nI fan)), (1, .int (nI way)), (0, .ref (ad 0))]) hx hb dL_isSound_267 hl (k := 6) rfl (nI_1 _) (by decide) rfl (fun ls hl => ?_)
            refine lv_goto (tgt := 51) hx hb dL_isSound_270 (by decide) ?_
            exact ih (k + 1) (by omega) (by omega) (kc + 1) (nI (K a)) H locs ls hw hS (lv_sub hl [0, 3, 1, 2, 7, 8, 9, 10, 11, 12, 13, 14, 15] rfl) (by omega) (fun _ => by omega) (fun z => absurd z (Nat.succ_ne_zero _)) (lastk ha)
          ·
            refine lv_iload_n hx hb dL_isSound_239 rfl (lv_at hl 14 rfl) ?_
            refine lv_iconst (v := 1) hx hb dL_isSound_240 (by decide) ?_
            refine lv_icmp_ne (tgt := 263) hx hb dL_isSound_241 (by decide) (fun _ => K263) (fun cw => ?_)
            refine lv_iload hx hb dL_isSound_244 (lv_at hl 10 rfl) ?_
            refine lv_if_le (tgt := 263) hx hb dL_isSound_246 (by decide) (fun _ => K263) (fun cl => ?_)
            refine lv_iload hx hb dL_isSound_249 (lv_at hl 2 rfl) ?_
            refine lv_if_eq (tgt := 263) hx hb dL_isSound_251 (by decide) (fun c0 => absurd c0 (by decide)) (fun _ => ?_)
            refine lv_iload hx hb dL_isSound_254 (lv_at hl 4 rfl) ?_
            refine lv_iload hx hb dL_isSound_256 (lv_at hl 6 rfl) ?_
            refine lv_icmp_gt (tgt := 263) hx hb dL_isSound_258 (by decide) (fun _ => ?_) (fun c0 => absurd (by rw [hl0 h0k]; exact h0 (nIeq1 hcf.2.1 cw) (nIpos hlv cl) a ham) c0)
            exact K263
      ·
        obtain ⟨j, hj⟩ : ∃ j, k = j + 1 := ⟨k - 1, by omega⟩
        obtain ⟨a', ha'⟩ : ∃ a', x.1[j]? = some a' := ⟨_, List.getElem?_eq_getElem (by omega)⟩
        have hf := entry_is hI hlv hr ha'
        have ha'm := List.mem_of_getElem? ha'
        have ha'N := hB.mem hRr ha'm
        have ha'K := hB.K9 hRr ha'm
        have hso : srt K a' a := by
          have h1 := List.pairwise_iff_getElem.mp hok.1 j k (by omega) hlt (by omega)
          rw [(List.getElem?_eq_some_iff.mp ha).2, (List.getElem?_eq_some_iff.mp ha').2] at h1
          exact h1
        have hkj : nI k - 1 = nI j := by rw [hj]; exact nI_pred j
        refine lv_if_eq (tgt := 107) hx hb dL_isSound_86 (by decide) (fun c0 => absurd c0 (nI_ne0 hkp (by omega))) (fun _ => ?_)
        refine lv_iload hx hb dL_isSound_89 (lv_at hl 1 rfl) ?_
        refine lv_aload_n hx hb dL_isSound_91 rfl (lv_at hl 14 rfl) ?_
        refine lv_iload hx hb dL_isSound_92 (lv_at hl 9 rfl) ?_
        refine lv_iload hx hb dL_isSound_94 (lv_at hl 7 rfl) ?_
        refine lv_iload hx hb dL_isSound_96 (lv_at hl 2 rfl) ?_
        refine lv_iconst (v := 1) hx hb dL_isSound_98 (by decide) ?_
        refine lv_isub hx hb dL_isSound_99 ?_
        rw [show ((nI k) - 1 : Int32) = nI j from hkj]
        refine lv_iconst (v := 0) hx hb dL_isSound_100 (by decide) ?_
        refine cs_vir hF (c_X6_entry l D cy ad S (nI lv) (nI r) (nI j) (0 : Int32) (g0) (g1) (g2) (g3) (nI_pos (by omega)) (by rw [hf.1]; exact nI_lt (by omega) (by omega)) (by decide) (by decide)) (cwV 4 hL gl_19 rfl rfl rfl kk_X6_entry ⟨Nat.le_of_ble_eq_true rfl, Nat.le_of_ble_eq_true rfl⟩) (cs_recv hK hw (ci := 6) 0 rfl rfl) hw hK hS rfl hl.1 [.int (nI (K a))] rfl (Nat.le_of_ble_eq_true rfl) dL_isSound_101 (fun r H locs hq hw hS => ?_)
        replace hq := hq.trans (hf.2.1)
        subst hq
        by_cases hne2 : K a = K a'
        ·
          refine lv_icmp_eq (tgt := 111) hx hb dL_isSound_104 (by decide) (fun _ => ?_) (fun c0 => absurd (by rw [hne2]) c0)
          refine lv_iconst (v := 0) hx hb dL_isSound_111 (by decide) ?_
          refine lv_istore (lv' := [(15, .int 0), (14, .int (V a)), (13, .int (nI (K a))), (12, .int (nI k)), (11, .int (nI kc)), (8, .int last), (5, .int (nI (st + stn V (x.1.take k)))), (10, .int (nI x.1.length)), (9, .int (nI r)), (7, .int all), (6, .int (nI lv)), (4, .int ent), (3, .int (nI pc)), (2, .int (nI fan)), (1, .int (nI way)), (0, .ref (ad 0))]) hx hb dL_isSound_112 hl (by decide) rfl (fun ls hl => ?_)
          refine lv_iload hx hb dL_isSound_114 (lv_at hl 4 rfl) ?_
          refine lv_iload hx hb dL_isSound_116 (lv_at hl 0 rfl) ?_
          refine lv_if_eq (tgt := 125) hx hb dL_isSound_118 (by decide) (fun _ => ?_) (fun c0 => absurd (rfl) c0)
          refine lv_iconst (v := 0) hx hb dL_isSound_125 (by decide) ?_
          refine lv_iadd hx hb dL_isSound_126 ?_
          rw [show ((nI kc) + 0 : Int32) = nI kc from nI_z _]
          refine lv_istore (lv' := [(11, .int (nI kc)), (15, .int 0), (14, .int (V a)), (13, .int (nI (K a))), (12, .int (nI k)), (8, .int last), (5, .int (nI (st + stn V (x.1.take k)))), (10, .int (nI x.1.length)), (9, .int (nI r)), (7, .int all), (6, .int (nI lv)), (4, .int ent), (3, .int (nI pc)), (2, .int (nI fan)), (1, .int (nI way)), (0, .ref (ad 0))]) hx hb dL_isSound_127 hl (by decide) rfl (fun ls hl => ?_)
          refine lv_iload hx hb dL_isSound_129 (lv_at hl 6 rfl) ?_
          refine lv_iload hx hb dL_isSound_131 (lv_at hl 2 rfl) ?_
          refine lv_if_ge (tgt := 140) hx hb dL_isSound_133 (by decide) (fun cv => ?_) (fun cv => ?_)
          ·
            have hnv : ¬ V a = -1 := fun z => absurd (z ▸ cv) (by decide)
            rw [if_neg hnv] at hst
            refine lv_iconst (v := 0) hx hb dL_isSound_140 (by decide) ?_
            refine lv_iadd hx hb dL_isSound_141 ?_
            rw [show ((nI (st + stn V (x.1.take k))) + 0 : Int32) = nI (st + stn V (x.1.take (k + 1))) from (nI_z _).trans (by rw [hst, Nat.add_zero])]
            refine lv_istore (lv' := [(5, .int (nI (st + stn V (x.1.take (k + 1))))), (11, .int (nI kc)), (15, .int 0), (14, .int (V a)), (13, .int (nI (K a))), (12, .int (nI k)), (8, .int last), (10, .int (nI x.1.length)), (9, .int (nI r)), (7, .int all), (6, .int (nI lv)), (4, .int ent), (3, .int (nI pc)), (2, .int (nI fan)), (1, .int (nI way)), (0, .ref (ad 0))]) hx hb dL_isSound_142 hl (by decide) rfl (fun ls hl => ?_)
            refine lv_iload hx hb dL_isSound_144 (lv_at hl 5 rfl) ?_
            refine lv_if_le (tgt := 199) hx hb dL_isSound_146 (by decide) (fun c0 => absurd c0 (nI_nle hkp (by omega))) (fun _ => ?_)
            refine lv_iload hx hb dL_isSound_149 (lv_at hl 4 rfl) ?_
            refine lv_aload_n hx hb dL_isSound_151 rfl (lv_at hl 15 rfl) ?_
            refine lv_iload hx hb dL_isSound_152 (lv_at hl 10 rfl) ?_
            refine lv_iload hx hb dL_isSound_154 (lv_at hl 8 rfl) ?_
            refine lv_iload hx hb dL_isSound_156 (lv_at hl 5 rfl) ?_
            refine lv_iconst (v := 1) hx hb dL_isSound_158 (by decide) ?_
            refine lv_isub hx hb dL_isSound_159 ?_
            rw [show ((nI k) - 1 : Int32) = nI j from hkj]
            refine lv_iconst (v := 0) hx hb dL_isSound_160 (by decide) ?_
            refine cs_vir hF (c_X6_entry l D cy ad S (nI lv) (nI r) (nI j) (0 : Int32) (g0) (g1) (g2) (g3) (nI_pos (by omega)) (by rw [hf.1]; exact nI_lt (by omega) (by omega)) (by decide) (by decide)) (cwV 4 hL gl_19 rfl rfl rfl kk_X6_entry ⟨Nat.le_of_ble_eq_true rfl, Nat.le_of_ble_eq_true rfl⟩) (cs_recv hK hw (ci := 6) 0 rfl rfl) hw hK hS rfl hl.1 [.int (nI (K a))] rfl (Nat.le_of_ble_eq_true rfl) dL_isSound_161 (fun r H locs hq hw hS => ?_)
            replace hq := hq.trans (hf.2.1)
            subst hq
            refine lv_icmp_lt (tgt := 237) hx hb dL_isSound_164 (by decide) (fun c0 => absurd c0 (nI_nlt (Nat.le_of_eq hne2.symm) (by omega))) (fun _ => ?_)
            refine lv_iload hx hb dL_isSound_167 (lv_at hl 2 rfl) ?_
            refine lv_if_ne (tgt := 199) hx hb dL_isSound_169 (by decide) (fun c0 => absurd (rfl) c0) (fun _ => ?_)
            refine lv_aload_n hx hb dL_isSound_172 rfl (lv_at hl 15 rfl) ?_
            refine lv_iload hx hb dL_isSound_173 (lv_at hl 10 rfl) ?_
            refine lv_iload hx hb dL_isSound_175 (lv_at hl 8 rfl) ?_
            refine lv_iload hx hb dL_isSound_177 (lv_at hl 5 rfl) ?_
            refine lv_iconst (v := 1) hx hb dL_isSound_179 (by decide) ?_
            refine cs_vir hF (c_X6_entry l D cy ad S (nI lv) (nI r) (nI k) (1 : Int32) (g0) (g1) (g2) (g3) (nI_pos (by omega)) (by rw [he.1]; exact nI_lt (by omega) (by omega)) (by decide) (by decide)) (cwV 4 hL gl_19 rfl rfl rfl kk_X6_entry ⟨Nat.le_of_ble_eq_true rfl, Nat.le_of_ble_eq_true rfl⟩) (cs_recv hK hw (ci := 6) 0 rfl rfl) hw hK hS rfl hl.1 [] rfl (Nat.le_of_ble_eq_true rfl) dL_isSound_180 (fun r H locs hq hw hS => ?_)
            replace hq := hq.trans (he.2.2.1)
            subst hq
            refine lv_aload_n hx hb dL_isSound_183 rfl (lv_at hl 15 rfl) ?_
            refine lv_iload hx hb dL_isSound_184 (lv_at hl 10 rfl) ?_
            refine lv_iload hx hb dL_isSound_186 (lv_at hl 8 rfl) ?_
            refine lv_iload hx hb dL_isSound_188 (lv_at hl 5 rfl) ?_
            refine lv_iconst (v := 1) hx hb dL_isSound_190 (by decide) ?_
            refine lv_isub hx hb dL_isSound_191 ?_
            rw [show ((nI k) - 1 : Int32) = nI j from hkj]
            refine lv_iconst (v := 1) hx hb dL_isSound_192 (by decide) ?_
            refine cs_vir hF (c_X6_entry l D cy ad S (nI lv) (nI r) (nI j) (1 : Int32) (g0) (g1) (g2) (g3) (nI_pos (by omega)) (by rw [hf.1]; exact nI_lt (by omega) (by omega)) (by decide) (by decide)) (cwV 4 hL gl_19 rfl rfl rfl kk_X6_entry ⟨Nat.le_of_ble_eq_true rfl, Nat.le_of_ble_eq_true rfl⟩) (cs_recv hK hw (ci := 6) 0 rfl rfl) hw hK hS rfl hl.1 [.int (nI a)] rfl (Nat.le_of_ble_eq_true rfl) dL_isSound_193 (fun r H locs hq hw hS => ?_)
            replace hq := hq.trans (hf.2.2.1)
            subst hq
            refine lv_icmp_ge (tgt := 237) hx hb dL_isSound_196 (by decide) (fun c0 => absurd c0 (nI_ge (hso.elim (fun z => absurd hne2 (by omega)) (fun z => z.2)) (by omega))) (fun _ => ?_)
            refine lv_iload hx hb dL_isSound_199 (lv_at hl 3 rfl) ?_
            refine lv_iconst (v := -1) hx hb dL_isSound_201 (by decide) ?_
            refine lv_icmp_lt (tgt := 237) hx hb dL_isSound_202 (by decide) (fun c0 => absurd c0 (vge hV haN)) (fun _ => ?_)
            refine lv_aload_n hx hb dL_isSound_205 rfl (lv_at hl 15 rfl) ?_
            refine lv_iload hx hb dL_isSound_206 (lv_at hl 10 rfl) ?_
            refine lv_iload hx hb dL_isSound_208 (lv_at hl 8 rfl) ?_
            refine lv_iload hx hb dL_isSound_210 (lv_at hl 5 rfl) ?_
            refine lv_iconst (v := 1) hx hb dL_isSound_212 (by decide) ?_
            refine cs_vir hF (c_X6_entry l D cy ad S (nI lv) (nI r) (nI k) (1 : Int32) (g0) (g1) (g2) (g3) (nI_pos (by omega)) (by rw [he.1]; exact nI_lt (by omega) (by omega)) (by decide) (by decide)) (cwV 4 hL gl_19 rfl rfl rfl kk_X6_entry ⟨Nat.le_of_ble_eq_true rfl, Nat.le_of_ble_eq_true rfl⟩) (cs_recv hK hw (ci := 6) 0 rfl rfl) hw hK hS rfl hl.1 [] rfl (Nat.le_of_ble_eq_true rfl) dL_isSound_213 (fun r H locs hq hw hS => ?_)
            replace hq := hq.trans (he.2.2.1)
            subst hq
            refine lv_aload_n hx hb dL_isSound_216 rfl (lv_at hl 15 rfl) ?_
            refine lv_iconst (v := 3) hx hb dL_isSound_217 (by decide) ?_
            refine cs_vir hF (c_X6_counted l D cy ad S (3 : Int32) (by decide) (by decide)) (cwV 1 hL gl_23 rfl rfl rfl kk_X6_counted ⟨Nat.le_of_ble_eq_true rfl, Nat.le_of_ble_eq_true rfl⟩) (cs_recv hK hw (ci := 6) 0 rfl rfl) hw hK hS rfl hl.1 [.int (nI a)] rfl (Nat.le_of_ble_eq_true rfl) dL_isSound_218 (fun r H locs hq hw hS => ?_)
            replace hq := hq.trans ((counted_is 3 (by decide)).trans hN)
            subst hq
            refine lv_icmp_gt (tgt := 237) hx hb dL_isSound_221 (by decide) (fun c0 => absurd c0 (nI_nlt haN.2 (by omega))) (fun _ => ?_)
            refine lv_aload_n hx hb dL_isSound_224 rfl (lv_at hl 15 rfl) ?_
            refine lv_iload hx hb dL_isSound_225 (lv_at hl 10 rfl) ?_
            refine lv_iload hx hb dL_isSound_227 (lv_at hl 8 rfl) ?_
            refine lv_iload hx hb dL_isSound_229 (lv_at hl 4 rfl) ?_
            refine cs_vir hF (c_X6_mayHave l D cy ad S (nI lv) (nI r) (nI (K a)) (g0) (g1) (g2) (g3) (nI_pos (by omega)) (nI_le (show K a ≤ 9999 by omega) (by decide))) (cwV 3 hL gl_26 rfl rfl rfl kk_X6_mayHave ⟨Nat.le_of_ble_eq_true rfl, Nat.le_of_ble_eq_true rfl⟩) (cs_recv hK hw (ci := 6) 0 rfl rfl) hw hK hS rfl hl.1 [] rfl (Nat.le_of_ble_eq_true rfl) dL_isSound_231 (fun r H locs hq hw hS => ?_)
            replace hq := hq.trans (may_eq hI hlv hr ham)
            subst hq
            refine lv_if_ne (tgt := 239) hx hb dL_isSound_234 (by decide) (fun _ => ?_) (fun c0 => absurd c0 (by decide))
            refine lw_cut (F0 m 263 ls []) ?_ (fun K263 => ?_)
            ·
              refine lv_iload hx hb dL_isSound_263 (lv_at hl 4 rfl) ?_
              refine lv_istore (lv' := [(8, .int (nI (K a))), (5, .int (nI (st + stn V (x.1.take (k + 1))))), (11, .int (nI kc)), (15, .int 0), (14, .int (V a)), (13, .int (nI (K a))), (12, .int (nI k)), (10, .int (nI x.1.length)), (9, .int (nI r)), (7, .int all), (6, .int (nI lv)), (4, .int ent), (3, .int (nI pc)), (2, .int (nI fan)), (1, .int (nI way)), (0, .ref (ad 0))]) hx hb dL_isSound_265 hl (by decide) rfl (fun ls hl => ?_)
              refine lv_iinc (v := nI (k + 1)) (lv' := [(12, .int (nI (k + 1))), (8, .int (nI (K a))), (5, .int (nI (st + stn V (x.1.take (k + 1))))), (11, .int (nI kc)), (15, .int 0), (14, .int (V a)), (13, .int (nI (K a))), (10, .int (nI x.1.length)), (9, .int (nI r)), (7, .int all), (6, .int (nI lv)), (4, .int ent), (3, .int (nI pc)), (2, .int (nI fan)), (1, .int (nI way)), (0, .ref (ad 0))]) hx hb dL_isSound_267 hl (k := 6) rfl (nI_1 _) (by decide) rfl (fun ls hl => ?_)
              refine lv_goto (tgt := 51) hx hb dL_isSound_270 (by decide) ?_
              exact ih (k + 1) (by omega) (by omega) (kc) (nI (K a)) H locs ls hw hS (lv_sub hl [0, 3, 1, 2, 7, 8, 9, 10, 11, 12, 13, 14, 15] rfl) (by omega) hke (fun z => absurd z (Nat.succ_ne_zero _)) (lastk ha)
            ·
              refine lv_iload_n hx hb dL_isSound_239 rfl (lv_at hl 14 rfl) ?_
              refine lv_iconst (v := 1) hx hb dL_isSound_240 (by decide) ?_
              refine lv_icmp_ne (tgt := 263) hx hb dL_isSound_241 (by decide) (fun _ => K263) (fun cw => ?_)
              refine lv_iload hx hb dL_isSound_244 (lv_at hl 10 rfl) ?_
              refine lv_if_le (tgt := 263) hx hb dL_isSound_246 (by decide) (fun _ => K263) (fun cl => ?_)
              refine lv_iload hx hb dL_isSound_249 (lv_at hl 2 rfl) ?_
              refine lv_if_eq (tgt := 263) hx hb dL_isSound_251 (by decide) (fun _ => ?_) (fun c0 => absurd (rfl) c0)
              exact K263
          ·
            have hnv : V a = -1 := (hV a haN.1 haN.2).resolve_right cv
            rw [if_pos hnv] at hst
            refine lv_iconst (v := 1) hx hb dL_isSound_136 (by decide) ?_
            refine lv_goto (tgt := 141) hx hb dL_isSound_137 (by decide) ?_
            refine lv_iadd hx hb dL_isSound_141 ?_
            rw [show ((nI (st + stn V (x.1.take k))) + 1 : Int32) = nI (st + stn V (x.1.take (k + 1))) from (nI_1 _).trans (by rw [hst, Nat.add_assoc])]
            refine lv_istore (lv' := [(5, .int (nI (st + stn V (x.1.take (k + 1))))), (11, .int (nI kc)), (15, .int 0), (14, .int (V a)), (13, .int (nI (K a))), (12, .int (nI k)), (8, .int last), (10, .int (nI x.1.length)), (9, .int (nI r)), (7, .int all), (6, .int (nI lv)), (4, .int ent), (3, .int (nI pc)), (2, .int (nI fan)), (1, .int (nI way)), (0, .ref (ad 0))]) hx hb dL_isSound_142 hl (by decide) rfl (fun ls hl => ?_)
            refine lv_iload hx hb dL_isSound_144 (lv_at hl 5 rfl) ?_
            refine lv_if_le (tgt := 199) hx hb dL_isSound_146 (by decide) (fun c0 => absurd c0 (nI_nle hkp (by omega))) (fun _ => ?_)
            refine lv_iload hx hb dL_isSound_149 (lv_at hl 4 rfl) ?_
            refine lv_aload_n hx hb dL_isSound_151 rfl (lv_at hl 15 rfl) ?_
            refine lv_iload hx hb dL_isSound_152 (lv_at hl 10 rfl) ?_
            refine lv_iload hx hb dL_isSound_154 (lv_at hl 8 rfl) ?_
            refine lv_iload hx hb dL_isSound_156 (lv_at hl 5 rfl) ?_
            refine lv_iconst (v := 1) hx hb dL_isSound_158 (by decide) ?_
            refine lv_isub hx hb dL_isSound_159 ?_
            rw [show ((nI k) - 1 : Int32) = nI j from hkj]
            refine lv_iconst (v := 0) hx hb dL_isSound_160 (by decide) ?_
            refine cs_vir hF (c_X6_entry l D cy ad S (nI lv) (nI r) (nI j) (0 : Int32) (g0) (g1) (g2) (g3) (nI_pos (by omega)) (by rw [hf.1]; exact nI_lt (by omega) (by omega)) (by decide) (by decide)) (cwV 4 hL gl_19 rfl rfl rfl kk_X6_entry ⟨Nat.le_of_ble_eq_true rfl, Nat.le_of_ble_eq_true rfl⟩) (cs_recv hK hw (ci := 6) 0 rfl rfl) hw hK hS rfl hl.1 [.int (nI (K a))] rfl (Nat.le_of_ble_eq_true rfl) dL_isSound_161 (fun r H locs hq hw hS => ?_)
            replace hq := hq.trans (hf.2.1)
            subst hq
            refine lv_icmp_lt (tgt := 237) hx hb dL_isSound_164 (by decide) (fun c0 => absurd c0 (nI_nlt (Nat.le_of_eq hne2.symm) (by omega))) (fun _ => ?_)
            refine lv_iload hx hb dL_isSound_167 (lv_at hl 2 rfl) ?_
            refine lv_if_ne (tgt := 199) hx hb dL_isSound_169 (by decide) (fun c0 => absurd (rfl) c0) (fun _ => ?_)
            refine lv_aload_n hx hb dL_isSound_172 rfl (lv_at hl 15 rfl) ?_
            refine lv_iload hx hb dL_isSound_173 (lv_at hl 10 rfl) ?_
            refine lv_iload hx hb dL_isSound_175 (lv_at hl 8 rfl) ?_
            refine lv_iload hx hb dL_isSound_177 (lv_at hl 5 rfl) ?_
            refine lv_iconst (v := 1) hx hb dL_isSound_179 (by decide) ?_
            refine cs_vir hF (c_X6_entry l D cy ad S (nI lv) (nI r) (nI k) (1 : Int32) (g0) (g1) (g2) (g3) (nI_pos (by omega)) (by rw [he.1]; exact nI_lt (by omega) (by omega)) (by decide) (by decide)) (cwV 4 hL gl_19 rfl rfl rfl kk_X6_entry ⟨Nat.le_of_ble_eq_true rfl, Nat.le_of_ble_eq_true rfl⟩) (cs_recv hK hw (ci := 6) 0 rfl rfl) hw hK hS rfl hl.1 [] rfl (Nat.le_of_ble_eq_true rfl) dL_isSound_180 (fun r H locs hq hw hS => ?_)
            replace hq := hq.trans (he.2.2.1)
            subst hq
            refine lv_aload_n hx hb dL_isSound_183 rfl (lv_at hl 15 rfl) ?_
            refine lv_iload hx hb dL_isSound_184 (lv_at hl 10 rfl) ?_
            refine lv_iload hx hb dL_isSound_186 (lv_at hl 8 rfl) ?_
            refine lv_iload hx hb dL_isSound_188 (lv_at hl 5 rfl) ?_
            refine lv_iconst (v := 1) hx hb dL_isSound_190 (by decide) ?_
            refine lv_isub hx hb dL_isSound_191 ?_
            rw [show ((nI k) - 1 : Int32) = nI j from hkj]
            refine lv_iconst (v := 1) hx hb dL_isSound_192 (by decide) ?_
            refine cs_vir hF (c_X6_entry l D cy ad S (nI lv) (nI r) (nI j) (1 : Int32) (g0) (g1) (g2) (g3) (nI_pos (by omega)) (by rw [hf.1]; exact nI_lt (by omega) (by omega)) (by decide) (by decide)) (cwV 4 hL gl_19 rfl rfl rfl kk_X6_entry ⟨Nat.le_of_ble_eq_true rfl, Nat.le_of_ble_eq_true rfl⟩) (cs_recv hK hw (ci := 6) 0 rfl rfl) hw hK hS rfl hl.1 [.int (nI a)] rfl (Nat.le_of_ble_eq_true rfl) dL_isSound_193 (fun r H locs hq hw hS => ?_)
            replace hq := hq.trans (hf.2.2.1)
            subst hq
            refine lv_icmp_ge (tgt := 237) hx hb dL_isSound_196 (by decide) (fun c0 => absurd c0 (nI_ge (hso.elim (fun z => absurd hne2 (by omega)) (fun z => z.2)) (by omega))) (fun _ => ?_)
            refine lv_iload hx hb dL_isSound_199 (lv_at hl 3 rfl) ?_
            refine lv_iconst (v := -1) hx hb dL_isSound_201 (by decide) ?_
            refine lv_icmp_lt (tgt := 237) hx hb dL_isSound_202 (by decide) (fun c0 => absurd c0 (vge hV haN)) (fun _ => ?_)
            refine lv_aload_n hx hb dL_isSound_205 rfl (lv_at hl 15 rfl) ?_
            refine lv_iload hx hb dL_isSound_206 (lv_at hl 10 rfl) ?_
            refine lv_iload hx hb dL_isSound_208 (lv_at hl 8 rfl) ?_
            refine lv_iload hx hb dL_isSound_210 (lv_at hl 5 rfl) ?_
            refine lv_iconst (v := 1) hx hb dL_isSound_212 (by decide) ?_
            refine cs_vir hF (c_X6_entry l D cy ad S (nI lv) (nI r) (nI k) (1 : Int32) (g0) (g1) (g2) (g3) (nI_pos (by omega)) (by rw [he.1]; exact nI_lt (by omega) (by omega)) (by decide) (by decide)) (cwV 4 hL gl_19 rfl rfl rfl kk_X6_entry ⟨Nat.le_of_ble_eq_true rfl, Nat.le_of_ble_eq_true rfl⟩) (cs_recv hK hw (ci := 6) 0 rfl rfl) hw hK hS rfl hl.1 [] rfl (Nat.le_of_ble_eq_true rfl) dL_isSound_213 (fun r H locs hq hw hS => ?_)
            replace hq := hq.trans (he.2.2.1)
            subst hq
            refine lv_aload_n hx hb dL_isSound_216 rfl (lv_at hl 15 rfl) ?_
            refine lv_iconst (v := 3) hx hb dL_isSound_217 (by decide) ?_
            refine cs_vir hF (c_X6_counted l D cy ad S (3 : Int32) (by decide) (by decide)) (cwV 1 hL gl_23 rfl rfl rfl kk_X6_counted ⟨Nat.le_of_ble_eq_true rfl, Nat.le_of_ble_eq_true rfl⟩) (cs_recv hK hw (ci := 6) 0 rfl rfl) hw hK hS rfl hl.1 [.int (nI a)] rfl (Nat.le_of_ble_eq_true rfl) dL_isSound_218 (fun r H locs hq hw hS => ?_)
            replace hq := hq.trans ((counted_is 3 (by decide)).trans hN)
            subst hq
            refine lv_icmp_gt (tgt := 237) hx hb dL_isSound_221 (by decide) (fun c0 => absurd c0 (nI_nlt haN.2 (by omega))) (fun _ => ?_)
            refine lv_aload_n hx hb dL_isSound_224 rfl (lv_at hl 15 rfl) ?_
            refine lv_iload hx hb dL_isSound_225 (lv_at hl 10 rfl) ?_
            refine lv_iload hx hb dL_isSound_227 (lv_at hl 8 rfl) ?_
            refine lv_iload hx hb dL_isSound_229 (lv_at hl 4 rfl) ?_
            refine cs_vir hF (c_X6_mayHave l D cy ad S (nI lv) (nI r) (nI (K a)) (g0) (g1) (g2) (g3) (nI_pos (by omega)) (nI_le (show K a ≤ 9999 by omega) (by decide))) (cwV 3 hL gl_26 rfl rfl rfl kk_X6_mayHave ⟨Nat.le_of_ble_eq_true rfl, Nat.le_of_ble_eq_true rfl⟩) (cs_recv hK hw (ci := 6) 0 rfl rfl) hw hK hS rfl hl.1 [] rfl (Nat.le_of_ble_eq_true rfl) dL_isSound_231 (fun r H locs hq hw hS => ?_)
            replace hq := hq.trans (may_eq hI hlv hr ham)
            subst hq
            refine lv_if_ne (tgt := 239) hx hb dL_isSound_234 (by decide) (fun _ => ?_) (fun c0 => absurd c0 (by decide))
            refine lw_cut (F0 m 263 ls []) ?_ (fun K263 => ?_)
            ·
              refine lv_iload hx hb dL_isSound_263 (lv_at hl 4 rfl) ?_
              refine lv_istore (lv' := [(8, .int (nI (K a))), (5, .int (nI (st + stn V (x.1.take (k + 1))))), (11, .int (nI kc)), (15, .int 0), (14, .int (V a)), (13, .int (nI (K a))), (12, .int (nI k)), (10, .int (nI x.1.length)), (9, .int (nI r)), (7, .int all), (6, .int (nI lv)), (4, .int ent), (3, .int (nI pc)), (2, .int (nI fan)), (1, .int (nI way)), (0, .ref (ad 0))]) hx hb dL_isSound_265 hl (by decide) rfl (fun ls hl => ?_)
              refine lv_iinc (v := nI (k + 1)) (lv' := [(12, .int (nI (k + 1))), (8, .int (nI (K a))), (5, .int (nI (st + stn V (x.1.take (k + 1))))), (11, .int (nI kc)), (15, .int 0), (14, .int (V a)), (13, .int (nI (K a))), (10, .int (nI x.1.length)), (9, .int (nI r)), (7, .int all), (6, .int (nI lv)), (4, .int ent), (3, .int (nI pc)), (2, .int (nI fan)), (1, .int (nI way)), (0, .ref (ad 0))]) hx hb dL_isSound_267 hl (k := 6) rfl (nI_1 _) (by decide) rfl (fun ls hl => ?_)
              refine lv_goto (tgt := 51) hx hb dL_isSound_270 (by decide) ?_
              exact ih (k + 1) (by omega) (by omega) (kc) (nI (K a)) H locs ls hw hS (lv_sub hl [0, 3, 1, 2, 7, 8, 9, 10, 11, 12, 13, 14, 15] rfl) (by omega) hke (fun z => absurd z (Nat.succ_ne_zero _)) (lastk ha)
            ·
              refine lv_iload_n hx hb dL_isSound_239 rfl (lv_at hl 14 rfl) ?_
              refine lv_iconst (v := 1) hx hb dL_isSound_240 (by decide) ?_
              refine lv_icmp_ne (tgt := 263) hx hb dL_isSound_241 (by decide) (fun _ => K263) (fun cw => ?_)
              refine lv_iload hx hb dL_isSound_244 (lv_at hl 10 rfl) ?_
              refine lv_if_le (tgt := 263) hx hb dL_isSound_246 (by decide) (fun _ => K263) (fun cl => ?_)
              refine lv_iload hx hb dL_isSound_249 (lv_at hl 2 rfl) ?_
              refine lv_if_eq (tgt := 263) hx hb dL_isSound_251 (by decide) (fun _ => ?_) (fun c0 => absurd (rfl) c0)
              exact K263
        ·
          have hsrt : K a' < K a := hso.elim (fun z => z) (fun z => absurd z.1.symm hne2)
          refine lv_icmp_eq (tgt := 111) hx hb dL_isSound_104 (by decide) (fun c0 => absurd c0 (fun z => hne2 ((nI_eq (by omega) (by omega)).mp z))) (fun _ => ?_)
          refine lv_iconst (v := 1) hx hb dL_isSound_107 (by decide) ?_
          refine lv_goto (tgt := 112) hx hb dL_isSound_108 (by decide) ?_
          refine lv_istore (lv' := [(15, .int 1), (14, .int (V a)), (13, .int (nI (K a))), (12, .int (nI k)), (11, .int (nI kc)), (8, .int last), (5, .int (nI (st + stn V (x.1.take k)))), (10, .int (nI x.1.length)), (9, .int (nI r)), (7, .int all), (6, .int (nI lv)), (4, .int ent), (3, .int (nI pc)), (2, .int (nI fan)), (1, .int (nI way)), (0, .ref (ad 0))]) hx hb dL_isSound_112 hl (by decide) rfl (fun ls hl => ?_)
          refine lv_iload hx hb dL_isSound_114 (lv_at hl 4 rfl) ?_
          refine lv_iload hx hb dL_isSound_116 (lv_at hl 0 rfl) ?_
          refine lv_if_eq (tgt := 125) hx hb dL_isSound_118 (by decide) (fun c0 => absurd c0 (by decide)) (fun _ => ?_)
          refine lv_iconst (v := 1) hx hb dL_isSound_121 (by decide) ?_
          refine lv_goto (tgt := 126) hx hb dL_isSound_122 (by decide) ?_
          refine lv_iadd hx hb dL_isSound_126 ?_
          rw [show ((nI kc) + 1 : Int32) = nI (kc + 1) from nI_1 _]
          refine lv_istore (lv' := [(11, .int (nI (kc + 1))), (15, .int 1), (14, .int (V a)), (13, .int (nI (K a))), (12, .int (nI k)), (8, .int last), (5, .int (nI (st + stn V (x.1.take k)))), (10, .int (nI x.1.length)), (9, .int (nI r)), (7, .int all), (6, .int (nI lv)), (4, .int ent), (3, .int (nI pc)), (2, .int (nI fan)), (1, .int (nI way)), (0, .ref (ad 0))]) hx hb dL_isSound_127 hl (by decide) rfl (fun ls hl => ?_)
          refine lv_iload hx hb dL_isSound_129 (lv_at hl 6 rfl) ?_
          refine lv_iload hx hb dL_isSound_131 (lv_at hl 2 rfl) ?_
          refine lv_if_ge (tgt := 140) hx hb dL_isSound_133 (by decide) (fun cv => ?_) (fun cv => ?_)
          ·
            have hnv : ¬ V a = -1 := fun z => absurd (z ▸ cv) (by decide)
            rw [if_neg hnv] at hst
            refine lv_iconst (v := 0) hx hb dL_isSound_140 (by decide) ?_
            refine lv_iadd hx hb dL_isSound_141 ?_
            rw [show ((nI (st + stn V (x.1.take k))) + 0 : Int32) = nI (st + stn V (x.1.take (k + 1))) from (nI_z _).trans (by rw [hst, Nat.add_zero])]
            refine lv_istore (lv' := [(5, .int (nI (st + stn V (x.1.take (k + 1))))), (11, .int (nI (kc + 1))), (15, .int 1), (14, .int (V a)), (13, .int (nI (K a))), (12, .int (nI k)), (8, .int last), (10, .int (nI x.1.length)), (9, .int (nI r)), (7, .int all), (6, .int (nI lv)), (4, .int ent), (3, .int (nI pc)), (2, .int (nI fan)), (1, .int (nI way)), (0, .ref (ad 0))]) hx hb dL_isSound_142 hl (by decide) rfl (fun ls hl => ?_)
            refine lv_iload hx hb dL_isSound_144 (lv_at hl 5 rfl) ?_
            refine lv_if_le (tgt := 199) hx hb dL_isSound_146 (by decide) (fun c0 => absurd c0 (nI_nle hkp (by omega))) (fun _ => ?_)
            refine lv_iload hx hb dL_isSound_149 (lv_at hl 4 rfl) ?_
            refine lv_aload_n hx hb dL_isSound_151 rfl (lv_at hl 15 rfl) ?_
            refine lv_iload hx hb dL_isSound_152 (lv_at hl 10 rfl) ?_
            refine lv_iload hx hb dL_isSound_154 (lv_at hl 8 rfl) ?_
            refine lv_iload hx hb dL_isSound_156 (lv_at hl 5 rfl) ?_
            refine lv_iconst (v := 1) hx hb dL_isSound_158 (by decide) ?_
            refine lv_isub hx hb dL_isSound_159 ?_
            rw [show ((nI k) - 1 : Int32) = nI j from hkj]
            refine lv_iconst (v := 0) hx hb dL_isSound_160 (by decide) ?_
            refine cs_vir hF (c_X6_entry l D cy ad S (nI lv) (nI r) (nI j) (0 : Int32) (g0) (g1) (g2) (g3) (nI_pos (by omega)) (by rw [hf.1]; exact nI_lt (by omega) (by omega)) (by decide) (by decide)) (cwV 4 hL gl_19 rfl rfl rfl kk_X6_entry ⟨Nat.le_of_ble_eq_true rfl, Nat.le_of_ble_eq_true rfl⟩) (cs_recv hK hw (ci := 6) 0 rfl rfl) hw hK hS rfl hl.1 [.int (nI (K a))] rfl (Nat.le_of_ble_eq_true rfl) dL_isSound_161 (fun r H locs hq hw hS => ?_)
            replace hq := hq.trans (hf.2.1)
            subst hq
            refine lv_icmp_lt (tgt := 237) hx hb dL_isSound_164 (by decide) (fun c0 => absurd c0 (nI_nlt (Nat.le_of_lt hsrt) (by omega))) (fun _ => ?_)
            refine lv_iload hx hb dL_isSound_167 (lv_at hl 2 rfl) ?_
            refine lv_if_ne (tgt := 199) hx hb dL_isSound_169 (by decide) (fun _ => ?_) (fun c0 => absurd c0 (by decide))
            refine lv_iload hx hb dL_isSound_199 (lv_at hl 3 rfl) ?_
            refine lv_iconst (v := -1) hx hb dL_isSound_201 (by decide) ?_
            refine lv_icmp_lt (tgt := 237) hx hb dL_isSound_202 (by decide) (fun c0 => absurd c0 (vge hV haN)) (fun _ => ?_)
            refine lv_aload_n hx hb dL_isSound_205 rfl (lv_at hl 15 rfl) ?_
            refine lv_iload hx hb dL_isSound_206 (lv_at hl 10 rfl) ?_
            refine lv_iload hx hb dL_isSound_208 (lv_at hl 8 rfl) ?_
            refine lv_iload hx hb dL_isSound_210 (lv_at hl 5 rfl) ?_
            refine lv_iconst (v := 1) hx hb dL_isSound_212 (by decide) ?_
            refine cs_vir hF (c_X6_entry l D cy ad S (nI lv) (nI r) (nI k) (1 : Int32) (g0) (g1) (g2) (g3) (nI_pos (by omega)) (by rw [he.1]; exact nI_lt (by omega) (by omega)) (by decide) (by decide)) (cwV 4 hL gl_19 rfl rfl rfl kk_X6_entry ⟨Nat.le_of_ble_eq_true rfl, Nat.le_of_ble_eq_true rfl⟩) (cs_recv hK hw (ci := 6) 0 rfl rfl) hw hK hS rfl hl.1 [] rfl (Nat.le_of_ble_eq_true rfl) dL_isSound_213 (fun r H locs hq hw hS => ?_)
            replace hq := hq.trans (he.2.2.1)
            subst hq
            refine lv_aload_n hx hb dL_isSound_216 rfl (lv_at hl 15 rfl) ?_
            refine lv_iconst (v := 3) hx hb dL_isSound_217 (by decide) ?_
            refine cs_vir hF (c_X6_counted l D cy ad S (3 : Int32) (by decide) (by decide)) (cwV 1 hL gl_23 rfl rfl rfl kk_X6_counted ⟨Nat.le_of_ble_eq_true rfl, Nat.le_of_ble_eq_true rfl⟩) (cs_recv hK hw (ci := 6) 0 rfl rfl) hw hK hS rfl hl.1 [.int (nI a)] rfl (Nat.le_of_ble_eq_true rfl) dL_isSound_218 (fun r H locs hq hw hS => ?_)
            replace hq := hq.trans ((counted_is 3 (by decide)).trans hN)
            subst hq
            refine lv_icmp_gt (tgt := 237) hx hb dL_isSound_221 (by decide) (fun c0 => absurd c0 (nI_nlt haN.2 (by omega))) (fun _ => ?_)
            refine lv_aload_n hx hb dL_isSound_224 rfl (lv_at hl 15 rfl) ?_
            refine lv_iload hx hb dL_isSound_225 (lv_at hl 10 rfl) ?_
            refine lv_iload hx hb dL_isSound_227 (lv_at hl 8 rfl) ?_
            refine lv_iload hx hb dL_isSound_229 (lv_at hl 4 rfl) ?_
            refine cs_vir hF (c_X6_mayHave l D cy ad S (nI lv) (nI r) (nI (K a)) (g0) (g1) (g2) (g3) (nI_pos (by omega)) (nI_le (show K a ≤ 9999 by omega) (by decide))) (cwV 3 hL gl_26 rfl rfl rfl kk_X6_mayHave ⟨Nat.le_of_ble_eq_true rfl, Nat.le_of_ble_eq_true rfl⟩) (cs_recv hK hw (ci := 6) 0 rfl rfl) hw hK hS rfl hl.1 [] rfl (Nat.le_of_ble_eq_true rfl) dL_isSound_231 (fun r H locs hq hw hS => ?_)
            replace hq := hq.trans (may_eq hI hlv hr ham)
            subst hq
            refine lv_if_ne (tgt := 239) hx hb dL_isSound_234 (by decide) (fun _ => ?_) (fun c0 => absurd c0 (by decide))
            refine lw_cut (F0 m 263 ls []) ?_ (fun K263 => ?_)
            ·
              refine lv_iload hx hb dL_isSound_263 (lv_at hl 4 rfl) ?_
              refine lv_istore (lv' := [(8, .int (nI (K a))), (5, .int (nI (st + stn V (x.1.take (k + 1))))), (11, .int (nI (kc + 1))), (15, .int 1), (14, .int (V a)), (13, .int (nI (K a))), (12, .int (nI k)), (10, .int (nI x.1.length)), (9, .int (nI r)), (7, .int all), (6, .int (nI lv)), (4, .int ent), (3, .int (nI pc)), (2, .int (nI fan)), (1, .int (nI way)), (0, .ref (ad 0))]) hx hb dL_isSound_265 hl (by decide) rfl (fun ls hl => ?_)
              refine lv_iinc (v := nI (k + 1)) (lv' := [(12, .int (nI (k + 1))), (8, .int (nI (K a))), (5, .int (nI (st + stn V (x.1.take (k + 1))))), (11, .int (nI (kc + 1))), (15, .int 1), (14, .int (V a)), (13, .int (nI (K a))), (10, .int (nI x.1.length)), (9, .int (nI r)), (7, .int all), (6, .int (nI lv)), (4, .int ent), (3, .int (nI pc)), (2, .int (nI fan)), (1, .int (nI way)), (0, .ref (ad 0))]) hx hb dL_isSound_267 hl (k := 6) rfl (nI_1 _) (by decide) rfl (fun ls hl => ?_)
              refine lv_goto (tgt := 51) hx hb dL_isSound_270 (by decide) ?_
              exact ih (k + 1) (by omega) (by omega) (kc + 1) (nI (K a)) H locs ls hw hS (lv_sub hl [0, 3, 1, 2, 7, 8, 9, 10, 11, 12, 13, 14, 15] rfl) (by omega) (fun z => absurd (z a ham a' ha'm) hne2) (fun z => absurd z (Nat.succ_ne_zero _)) (lastk ha)
            ·
              refine lv_iload_n hx hb dL_isSound_239 rfl (lv_at hl 14 rfl) ?_
              refine lv_iconst (v := 1) hx hb dL_isSound_240 (by decide) ?_
              refine lv_icmp_ne (tgt := 263) hx hb dL_isSound_241 (by decide) (fun _ => K263) (fun cw => ?_)
              refine lv_iload hx hb dL_isSound_244 (lv_at hl 10 rfl) ?_
              refine lv_if_le (tgt := 263) hx hb dL_isSound_246 (by decide) (fun _ => K263) (fun cl => ?_)
              refine lv_iload hx hb dL_isSound_249 (lv_at hl 2 rfl) ?_
              refine lv_if_eq (tgt := 263) hx hb dL_isSound_251 (by decide) (fun c0 => absurd c0 (by decide)) (fun _ => ?_)
              refine lv_iload hx hb dL_isSound_254 (lv_at hl 4 rfl) ?_
              refine lv_iload hx hb dL_isSound_256 (lv_at hl 6 rfl) ?_
              refine lv_icmp_gt (tgt := 263) hx hb dL_isSound_258 (by decide) (fun _ => ?_) (fun c0 => absurd (by rw [hlj j a' hj ha']; exact nI_lt hsrt (by omega)) c0)
              exact K263
          ·
            have hnv : V a = -1 := (hV a haN.1 haN.2).resolve_right cv
            rw [if_pos hnv] at hst
            refine lv_iconst (v := 1) hx hb dL_isSound_136 (by decide) ?_
            refine lv_goto (tgt := 141) hx hb dL_isSound_137 (by decide) ?_
            refine lv_iadd hx hb dL_isSound_141 ?_
            rw [show ((nI (st + stn V (x.1.take k))) + 1 : Int32) = nI (st + stn V (x.1.take (k + 1))) from (nI_1 _).trans (by rw [hst, Nat.add_assoc])]
            refine lv_istore (lv' := [(5, .int (nI (st + stn V (x.1.take (k + 1))))), (11, .int (nI (kc + 1))), (15, .int 1), (14, .int (V a)), (13, .int (nI (K a))), (12, .int (nI k)), (8, .int last), (10, .int (nI x.1.length)), (9, .int (nI r)), (7, .int all), (6, .int (nI lv)), (4, .int ent), (3, .int (nI pc)), (2, .int (nI fan)), (1, .int (nI way)), (0, .ref (ad 0))]) hx hb dL_isSound_142 hl (by decide) rfl (fun ls hl => ?_)
            refine lv_iload hx hb dL_isSound_144 (lv_at hl 5 rfl) ?_
            refine lv_if_le (tgt := 199) hx hb dL_isSound_146 (by decide) (fun c0 => absurd c0 (nI_nle hkp (by omega))) (fun _ => ?_)
            refine lv_iload hx hb dL_isSound_149 (lv_at hl 4 rfl) ?_
            refine lv_aload_n hx hb dL_isSound_151 rfl (lv_at hl 15 rfl) ?_
            refine lv_iload hx hb dL_isSound_152 (lv_at hl 10 rfl) ?_
            refine lv_iload hx hb dL_isSound_154 (lv_at hl 8 rfl) ?_
            refine lv_iload hx hb dL_isSound_156 (lv_at hl 5 rfl) ?_
            refine lv_iconst (v := 1) hx hb dL_isSound_158 (by decide) ?_
            refine lv_isub hx hb dL_isSound_159 ?_
            rw [show ((nI k) - 1 : Int32) = nI j from hkj]
            refine lv_iconst (v := 0) hx hb dL_isSound_160 (by decide) ?_
            refine cs_vir hF (c_X6_entry l D cy ad S (nI lv) (nI r) (nI j) (0 : Int32) (g0) (g1) (g2) (g3) (nI_pos (by omega)) (by rw [hf.1]; exact nI_lt (by omega) (by omega)) (by decide) (by decide)) (cwV 4 hL gl_19 rfl rfl rfl kk_X6_entry ⟨Nat.le_of_ble_eq_true rfl, Nat.le_of_ble_eq_true rfl⟩) (cs_recv hK hw (ci := 6) 0 rfl rfl) hw hK hS rfl hl.1 [.int (nI (K a))] rfl (Nat.le_of_ble_eq_true rfl) dL_isSound_161 (fun r H locs hq hw hS => ?_)
            replace hq := hq.trans (hf.2.1)
            subst hq
            refine lv_icmp_lt (tgt := 237) hx hb dL_isSound_164 (by decide) (fun c0 => absurd c0 (nI_nlt (Nat.le_of_lt hsrt) (by omega))) (fun _ => ?_)
            refine lv_iload hx hb dL_isSound_167 (lv_at hl 2 rfl) ?_
            refine lv_if_ne (tgt := 199) hx hb dL_isSound_169 (by decide) (fun _ => ?_) (fun c0 => absurd c0 (by decide))
            refine lv_iload hx hb dL_isSound_199 (lv_at hl 3 rfl) ?_
            refine lv_iconst (v := -1) hx hb dL_isSound_201 (by decide) ?_
            refine lv_icmp_lt (tgt := 237) hx hb dL_isSound_202 (by decide) (fun c0 => absurd c0 (vge hV haN)) (fun _ => ?_)
            refine lv_aload_n hx hb dL_isSound_205 rfl (lv_at hl 15 rfl) ?_
            refine lv_iload hx hb dL_isSound_206 (lv_at hl 10 rfl) ?_
            refine lv_iload hx hb dL_isSound_208 (lv_at hl 8 rfl) ?_
            refine lv_iload hx hb dL_isSound_210 (lv_at hl 5 rfl) ?_
            refine lv_iconst (v := 1) hx hb dL_isSound_212 (by decide) ?_
            refine cs_vir hF (c_X6_entry l D cy ad S (nI lv) (nI r) (nI k) (1 : Int32) (g0) (g1) (g2) (g3) (nI_pos (by omega)) (by rw [he.1]; exact nI_lt (by omega) (by omega)) (by decide) (by decide)) (cwV 4 hL gl_19 rfl rfl rfl kk_X6_entry ⟨Nat.le_of_ble_eq_true rfl, Nat.le_of_ble_eq_true rfl⟩) (cs_recv hK hw (ci := 6) 0 rfl rfl) hw hK hS rfl hl.1 [] rfl (Nat.le_of_ble_eq_true rfl) dL_isSound_213 (fun r H locs hq hw hS => ?_)
            replace hq := hq.trans (he.2.2.1)
            subst hq
            refine lv_aload_n hx hb dL_isSound_216 rfl (lv_at hl 15 rfl) ?_
            refine lv_iconst (v := 3) hx hb dL_isSound_217 (by decide) ?_
            refine cs_vir hF (c_X6_counted l D cy ad S (3 : Int32) (by decide) (by decide)) (cwV 1 hL gl_23 rfl rfl rfl kk_X6_counted ⟨Nat.le_of_ble_eq_true rfl, Nat.le_of_ble_eq_true rfl⟩) (cs_recv hK hw (ci := 6) 0 rfl rfl) hw hK hS rfl hl.1 [.int (nI a)] rfl (Nat.le_of_ble_eq_true rfl) dL_isSound_218 (fun r H locs hq hw hS => ?_)
            replace hq := hq.trans ((counted_is 3 (by decide)).trans hN)
            subst hq
            refine lv_icmp_gt (tgt := 237) hx hb dL_isSound_221 (by decide) (fun c0 => absurd c0 (nI_nlt haN.2 (by omega))) (fun _ => ?_)
            refine lv_aload_n hx hb dL_isSound_224 rfl (lv_at hl 15 rfl) ?_
            refine lv_iload hx hb dL_isSound_225 (lv_at hl 10 rfl) ?_
            refine lv_iload hx hb dL_isSound_227 (lv_at hl 8 rfl) ?_
            refine lv_iload hx hb dL_isSound_229 (lv_at hl 4 rfl) ?_
            refine cs_vir hF (c_X6_mayHave l D cy ad S (nI lv) (nI r) (nI (K a)) (g0) (g1) (g2) (g3) (nI_pos (by omega)) (nI_le (show K a ≤ 9999 by omega) (by decide))) (cwV 3 hL gl_26 rfl rfl rfl kk_X6_mayHave ⟨Nat.le_of_ble_eq_true rfl, Nat.le_of_ble_eq_true rfl⟩) (cs_recv hK hw (ci := 6) 0 rfl rfl) hw hK hS rfl hl.1 [] rfl (Nat.le_of_ble_eq_true rfl) dL_isSound_231 (fun r H locs hq hw hS => ?_)
            replace hq := hq.trans (may_eq hI hlv hr ham)
            subst hq
            refine lv_if_ne (tgt := 239) hx hb dL_isSound_234 (by decide) (fun _ => ?_) (fun c0 => absurd c0 (by decide))
            refine lw_cut (F0 m 263 ls []) ?_ (fun K263 => ?_)
            ·
              refine lv_iload hx hb dL_isSound_263 (lv_at hl 4 rfl) ?_
              refine lv_istore (lv' := [(8, .int (nI (K a))), (5, .int (nI (st + stn V (x.1.take (k + 1))))), (11, .int (nI (kc + 1))), (15, .int 1), (14, .int (V a)), (13, .int (nI (K a))), (12, .int (nI k)), (10, .int (nI x.1.length)), (9, .int (nI r)), (7, .int all), (6, .int (nI lv)), (4, .int ent), (3, .int (nI pc)), (2, .int (nI fan)), (1, .int (nI way)), (0, .ref (ad 0))]) hx hb dL_isSound_265 hl (by decide) rfl (fun ls hl => ?_)
              refine lv_iinc (v := nI (k + 1)) (lv' := [(12, .int (nI (k + 1))), (8, .int (nI (K a))), (5, .int (nI (st + stn V (x.1.take (k + 1))))), (11, .int (nI (kc + 1))), (15, .int 1), (14, .int (V a)), (13, .int (nI (K a))), (10, .int (nI x.1.length)), (9, .int (nI r)), (7, .int all), (6, .int (nI lv)), (4, .int ent), (3, .int (nI pc)), (2, .int (nI fan)), (1, .int (nI way)), (0, .ref (ad 0))]) hx hb dL_isSound_267 hl (k := 6) rfl (nI_1 _) (by decide) rfl (fun ls hl => ?_)
              refine lv_goto (tgt := 51) hx hb dL_isSound_270 (by decide) ?_
              exact ih (k + 1) (by omega) (by omega) (kc + 1) (nI (K a)) H locs ls hw hS (lv_sub hl [0, 3, 1, 2, 7, 8, 9, 10, 11, 12, 13, 14, 15] rfl) (by omega) (fun z => absurd (z a ham a' ha'm) hne2) (fun z => absurd z (Nat.succ_ne_zero _)) (lastk ha)
            ·
              refine lv_iload_n hx hb dL_isSound_239 rfl (lv_at hl 14 rfl) ?_
              refine lv_iconst (v := 1) hx hb dL_isSound_240 (by decide) ?_
              refine lv_icmp_ne (tgt := 263) hx hb dL_isSound_241 (by decide) (fun _ => K263) (fun cw => ?_)
              refine lv_iload hx hb dL_isSound_244 (lv_at hl 10 rfl) ?_
              refine lv_if_le (tgt := 263) hx hb dL_isSound_246 (by decide) (fun _ => K263) (fun cl => ?_)
              refine lv_iload hx hb dL_isSound_249 (lv_at hl 2 rfl) ?_
              refine lv_if_eq (tgt := 263) hx hb dL_isSound_251 (by decide) (fun c0 => absurd c0 (by decide)) (fun _ => ?_)
              refine lv_iload hx hb dL_isSound_254 (lv_at hl 4 rfl) ?_
              refine lv_iload hx hb dL_isSound_256 (lv_at hl 6 rfl) ?_
              refine lv_icmp_gt (tgt := 263) hx hb dL_isSound_258 (by decide) (fun _ => ?_) (fun c0 => absurd (by rw [hlj j a' hj ha']; exact nI_lt hsrt (by omega)) c0)
              exact K263
    ·
      obtain rfl : k = x.1.length := by omega
      refine lv_icmp_ge (tgt := 273) hx hb dL_isSound_55 (by decide) (fun _ => ?_) (fun c0 => absurd (nI_le (Nat.le_refl _) (by omega)) c0)
      obtain ⟨j, hj⟩ : ∃ j, x.1.length = j + 1 := ⟨x.1.length - 1, by omega⟩
      obtain ⟨q, hq⟩ : ∃ q, x.1[j]? = some q := ⟨_, List.getElem?_eq_getElem (by omega)⟩
      have h1 := hlj j q hj hq
      rw [List.take_length] at hl
      rw [h1, ← last_at hq hj] at hl
      exact kk H locs ls kc hw hS (lv_sub hl [2, 3, 1, 4, 5, 6, 7, 8, 9, 10, 11, 12] rfl) hkc hke
end SO
