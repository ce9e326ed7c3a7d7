/-! the law's words, its world (the class's 44 cells and arrays of its own), its rows -/
abbrev cl_ws (y : MethodName) (c : ByteArray) (n : Nat) (r : Option FieldType) : List Cond := Cond.code y c n r :: cs_WL
theorem cl_sub {ws : List Cond} (hm : ∀ w ∈ ws, w ∈ cs_WL) : GoodIn cs_WL ws := fun w hw => ⟨hm w hw, good_of_word (by
  rcases List.mem_append.mp (hm w hw) with h | h
  · exact List.all_eq_true.mp cs_goodL w h
  · exact List.all_eq_true.mp cs_good w h)⟩
theorem cl_goodV {own C : String} {idx : Nat} {y : MethodName} {c : ByteArray} {n : Nat} {r : Option FieldType} (h1 : Cond.methodLink own idx y ∈ cs_WL) (h2 : Cond.instanceMethod y ∈ cs_WL) (h3 : Cond.selects C y y ∈ cs_WL) (h4 : Cond.initialized C ∈ cs_WL) (h5 : Cond.code y c n r ∈ cs_WL) : GoodIn cs_WL (wsV own idx C y (cs_ws y c n r)) := by
  refine cl_sub ?_
  intro w hw
  rcases List.mem_append.mp hw with h | h
  · simp only [List.mem_cons, List.not_mem_nil, or_false] at h
    rcases h with rfl | rfl | rfl | rfl
    · exact h1
    · exact h2
    · exact h3
    · exact h4
  · rcases List.mem_cons.mp h with rfl | h
    · exact h5
    · exact ql_w h
theorem cl_goodS {own : String} {idx : Nat} {y : MethodName} {c : ByteArray} {n : Nat} {r : Option FieldType} (h1 : Cond.methodLink own idx y ∈ cs_WL) (h2 : Cond.static y ∈ cs_WL) (h4 : Cond.initialized y.cls ∈ cs_WL) (h5 : Cond.code y c n r ∈ cs_WL) : GoodIn cs_WL (va_wsS own idx y (cl_ws y c n r)) := by
  refine cl_sub ?_
  intro w hw
  rcases List.mem_append.mp hw with h | h
  · simp only [List.mem_cons, List.not_mem_nil, or_false] at h
    rcases h with rfl | rfl | rfl
    · exact h1
    · exact h2
    · exact h4
  · rcases List.mem_cons.mp h with rfl | h
    · exact h5
    · exact h
theorem cl_goodI {y : MethodName} {c : ByteArray} {n : Nat} {r : Option FieldType} (h5 : Cond.code y c n r ∈ cs_WL) : GoodIn cs_WL (cs_ws y c n r) := cl_sub (fun w hw => by
  rcases List.mem_cons.mp hw with rfl | h
  · exact h5
  · exact ql_w h)
def LW (D : va_G) (cy : ClassId) (ad : Nat → Nat) (S : cs_St) (Y : va_W) (A : Nat → Prop) (H : Heap) : Prop := cs_ok S ∧ va_P D cs_cl (cs_W cy ad S ++ Y) H ∧ va_D A (cs_W cy ad S ++ Y)
section CLW
variable {p : Program} {l : Launch} {e : Env} {R : Room} {s : State} {m : MethodId} {args : Array Value} {below : List Frame} {meth : Method} {c : Code} {H H0 : Heap} {locs : List Loc} {Q : State → Prop} {D : va_G} {cy : ClassId} {ad : Nat → Nat} {S : cs_St} {pc : Nat} {ls : Array Slot} {rest : List Value} {cc : ByteArray} {nL : Nat} {own : String} {Y : va_W} {A0 : Nat → Prop} {cells slots : Nat}
theorem cl_of {y : MethodName} {maxL : Nat} {ret : Option FieldType} {rm : Room} {av : List Value} {Qc : Array Value → State → Outcome → State → Prop} (own : String) (hy : plainName y.cls = true) (ho : y.cls = own) (hn : (lg_sl av).length ≤ maxL)
    (body : ∀ (p : Program) (e : Env) (s : State) (m : MethodId) (below : List Frame) (meth : Method) (c : Code), CallFix p m c cc maxL s av.toArray cs_WS own → (∀ w ∈ cs_WL, w.before av.toArray s = true) → meth.sig.returnType = ret → meth.locks = false → cs_w D cy ad S s.heap → cs_K D cy s → ∀ ls, lv_has ls maxL (lv_args 0 av) →
      W p l e rm s m av.toArray below meth c s.heap [] 0 0 (MQ below Qc av.toArray s 0 0 (cs_A ad)) (F0 m 0 ls [])) :
    Met l y (cl_ws y cc maxL ret) rm (cs_Pc D cy ad av S) Qc 0 0 (cs_A ad) := by
  refine Met.ofW (cc := cc) (maxL := maxL) (ret := ret) hy rfl ?_
  intro p e s m args below meth c s₁ B hml hv
  obtain ⟨rfl, hw, hK⟩ := hv
  have hts := atoms_spec (ws := cl_ws y cc maxL ret) B.pre
  have hown : s.vm.findClass y.cls = some m.cls := findClass_of_methodNamed B.named
  have hl := lv_entry av (n := maxL) hn
  rw [lg_entry_eq]
  exact body p e s m below meth c ⟨B.exec, B.bytes, hml, by rw [← ho]; exact hown, fun w h => hts w (List.mem_cons_of_mem _ (ql_w h))⟩ (fun w h => hts w (List.mem_cons_of_mem _ h)) B.returns B.notSynchronized hw hK _ hl
/-- a goal cut in two at a point of the code -/
theorem lw_cut {g1 : JFrame} (g2 : JFrame) (h1 : W p l e R s m args below meth c H locs cells slots Q g2) (h2 : W p l e R s m args below meth c H locs cells slots Q g2 → W p l e R s m args below meth c H locs cells slots Q g1) : W p l e R s m args below meth c H locs cells slots Q g1 := h2 h1
theorem LW.w (h : LW D cy ad S Y A0 H) : cs_w D cy ad S H := by
  refine ⟨h.1, fun k q hq => h.2.1 k q ?_, cs_Dn (A := A0) ⟨fun i j x y hx hy => h.2.2.1 i j x y ?_ ?_, fun k q hq => h.2.2.2 k q ?_⟩⟩
  · rw [List.getElem?_append_left (List.getElem?_eq_some_iff.mp hq).1]; exact hq
  · rw [List.getElem?_append_left (List.getElem?_eq_some_iff.mp hx).1]; exact hx
  · rw [List.getElem?_append_left (List.getElem?_eq_some_iff.mp hy).1]; exact hy
  · rw [List.getElem?_append_left (List.getElem?_eq_some_iff.mp hq).1]; exact hq
theorem LW.A (h : LW D cy ad S Y A0 H) : ∀ q, cs_A ad q → A0 q := by
  refine cs_Aw (cy := cy) (S := S) ⟨fun i j x y hx hy => h.2.2.1 i j x y ?_ ?_, fun k q hq => h.2.2.2 k q ?_⟩
  · rw [List.getElem?_append_left (List.getElem?_eq_some_iff.mp hx).1]; exact hx
  · rw [List.getElem?_append_left (List.getElem?_eq_some_iff.mp hy).1]; exact hy
  · rw [List.getElem?_append_left (List.getElem?_eq_some_iff.mp hq).1]; exact hq
theorem LW.call {S1 : cs_St} {H1 : Heap} (h : LW D cy ad S Y A0 H) (hw : cs_w D cy ad S1 H1) (hz : H.size ≤ H1.size ∧ ∀ q : Nat, q < H.size → ¬ cs_A ad q → H1[q]? = H[q]?) : LW D cy ad S1 Y A0 H1 := by
  have hl : ∀ S : cs_St, (cs_W cy ad S).length = 44 := fun _ => rfl
  have hy : ∀ (k : Nat) (q : Nat × va_E), Y[k]? = some q → (cs_W cy ad S ++ Y)[44 + k]? = some q := fun k q hk => by
    rw [List.getElem?_append_right (by rw [hl]; omega), hl, show 44 + k - 44 = k by omega]; exact hk
  refine ⟨hw.1, fun k q hq => ?_, ?_⟩
  · by_cases hk : k < 44
    · rw [List.getElem?_append_left (by rw [hl]; exact hk)] at hq
      exact hw.2.1 k q hq
    · rw [List.getElem?_append_right (by rw [hl]; omega), hl] at hq
      have h1 := hy _ q hq
      have hn : ¬ cs_A ad q.1 := by
        rintro ⟨i, hi, e⟩
        obtain ⟨x, h2⟩ : ∃ x, (cs_W cy ad S)[i]? = some x := ⟨_, List.getElem?_eq_getElem (show i < (cs_W cy ad S).length from hi)⟩
        have h4 : (cs_W cy ad S ++ Y)[i]? = some x := by
          rw [List.getElem?_append_left (by rw [hl]; exact hi)]; exact h2
        have h3 : x.1 = ad i := by
          have := congrArg (fun z : List Nat => z[i]?) (cs_addr cy ad S)
          simp only [List.getElem?_map, List.getElem?_range hi, Option.map_some, h2] at this
          exact Option.some.inj this
        have := h.2.2.1 i _ _ _ h4 h1 (by rw [h3, e])
        omega
      exact va_P.kept (ws := [q]) (H := H) (fun k x hx => by
        obtain rfl : k = 0 := by have := (List.getElem?_eq_some_iff.mp hx).1; simp at this; exact this
        cases hx
        exact h.2.1 _ _ h1) (fun k x hx => by
        obtain rfl : k = 0 := by have := (List.getElem?_eq_some_iff.mp hx).1; simp at this; exact this
        cases hx
        exact hz.2 _ (h.2.1 _ _ h1).lt hn) 0 q rfl
  · have ha : (cs_W cy ad S1 ++ Y).map Prod.fst = (cs_W cy ad S ++ Y).map Prod.fst := by
      rw [List.map_append, List.map_append, cs_addr, cs_addr]
    have hx : ∀ (k : Nat) (q : Nat × va_E), (cs_W cy ad S1 ++ Y)[k]? = some q → ∃ q', (cs_W cy ad S ++ Y)[k]? = some q' ∧ q'.1 = q.1 := by
      intro k q hq
      have h1 := congrArg (fun z : List Nat => z[k]?) ha
      simp only [List.getElem?_map, hq, Option.map_some] at h1
      cases h2 : (cs_W cy ad S ++ Y)[k]? with
      | none => rw [h2] at h1; cases h1
      | some q' => rw [h2] at h1; exact ⟨q', rfl, (Option.some.inj h1).symm⟩
    refine ⟨fun i j x y hx1 hy1 e => ?_, fun k q hq => ?_⟩
    · obtain ⟨x', a1, a2⟩ := hx i x hx1
      obtain ⟨y', b1, b2⟩ := hx j y hy1
      exact h.2.2.1 i j x' y' a1 b1 (by rw [a2, b2, e])
    · obtain ⟨q', a1, a2⟩ := hx k q hq
      rw [← a2]; exact h.2.2.2 k q' a1
theorem LW.at {q : Nat × va_E} (k : Nat) (hk : Y[k]? = some q) : (cs_W cy ad S ++ Y)[44 + k]? = some q := by
  rw [List.getElem?_append_right (by show 44 ≤ 44 + k; omega), show 44 + k - (cs_W cy ad S).length = k from Nat.add_sub_cancel_left 44 k]; exact hk
theorem LW.put {q : Nat × va_E} (k : Nat) : (cs_W cy ad S ++ Y).set (44 + k) q = cs_W cy ad S ++ Y.set k q := by
  rw [List.set_append_right (44 + k) q (show (cs_W cy ad S).length ≤ 44 + k from Nat.le_add_right 44 k), show 44 + k - (cs_W cy ad S).length = k from Nat.add_sub_cancel_left 44 k]
/-- reading an array of the law's own -/
theorem lw_ld (hF : CallFix p m c cc nL s args cs_WS own) (hK : cs_K D cy s) (h : LW D cy ad S Y A0 H) (k : Nat) {a n : Nat} {f : Nat → Int32} (hk : Y[k]? = some (a, .inl (cy, n, .inl f))) {i : Int32} (hin : vp_in i n) (hdg : decode cc pc = .ok (.iaload, 1))
    (kk : W p l e R s m args below meth c H locs cells slots Q (F0 m (pc + 1) ls (.int (f i.toNatClampNeg) :: rest))) : W p l e R s m args below meth c H locs cells slots Q (F0 m pc ls (.int i :: .ref a :: rest)) :=
  va_iald hF.1 hF.2.1 hK.1 h.2.1 (44 + k) 0 (LW.at k hk) rfl hin hdg kk
theorem lw_st (hF : CallFix p m c cc nL s args cs_WS own) (hK : cs_K D cy s) (h : LW D cy ad S Y A0 H) (hS : va_S A0 H0 H locs) (k : Nat) {a n : Nat} {f : Nat → Int32} (hk : Y[k]? = some (a, .inl (cy, n, .inl f))) {i x : Int32} (hin : vp_in i n) (hdg : decode cc pc = .ok (.iastore, 1))
    (kk : ∀ (H1 : Heap) (locs1 : List Loc), LW D cy ad S (Y.set k (a, .inl (cy, n, .inl (upd f i.toNatClampNeg x)))) A0 H1 → va_S A0 H0 H1 locs1 → W p l e R s m args below meth c H1 locs1 cells slots Q (F0 m (pc + 1) ls rest)) : W p l e R s m args below meth c H locs cells slots Q (F0 m pc ls (.int x :: .int i :: .ref a :: rest)) :=
  va_iast hF.1 hF.2.1 hK.1 h.2.1 h.2.2 hS (44 + k) 0 (LW.at k hk) rfl hin hdg (fun H1 locs1 hP hD hS => kk H1 locs1 ⟨h.1, by rw [LW.put] at hP; exact hP, by rw [LW.put] at hD; exact hD⟩ hS)
theorem lw_new (hF : CallFix p m c cc nL s args cs_WS own) (harr : (Cond.arrayClass .int).before args s = true) (hK : cs_K D cy s) (h : LW D cy ad S Y A0 H) (hS : va_S A0 H0 H locs) (hA : ∀ q, H0.size ≤ q → A0 q) {n : Nat} (hn : n ≤ 10000) (hcells : cells + 1 ≤ R.cells) (hslots : slots + n ≤ R.slots) (hdg : decode cc pc = .ok (.newarray .int, 2))
    (kk : ∀ (q : Nat) (H1 : Heap), LW D cy ad S (Y ++ [(q, .inl (cy, n, .inl (fun _ => 0)))]) A0 H1 → va_S A0 H0 H1 locs → W p l e R s m args below meth c H1 locs (cells + 1) (slots + n) Q (F0 m (pc + 2) ls (.ref q :: rest))) : W p l e R s m args below meth c H locs cells slots Q (F0 m pc ls (.int (nI n) :: rest)) :=
  va_newa (D := D) (tys := [(cy, .int)]) (atype := .int) (ty := .int) (N' := n) (a0 := (n, .inl (fun _ => 0))) hF.1 hF.2.1 harr rfl hK.1 h.2.1 h.2.2 hS hA (fun _ => rfl) (nI_pos (by omega)) (nI_clamp (by omega)) (by show n * 4 ≤ 536870912; omega) hcells hslots hdg (fun q cA H1 hK2 hP hD hS => by
    have e := ct_cy hK2
    subst e
    exact kk q H1 ⟨h.1, by rw [List.append_assoc] at hP; exact hP, by rw [List.append_assoc] at hD; exact hD⟩ hS)
/-- forgetting arrays behind the first k -/
theorem LW.take (h : LW D cy ad S Y A0 H) (k : Nat) : LW D cy ad S (Y.take k) A0 H := by
  have hx : ∀ (i : Nat) (q : Nat × va_E), (cs_W cy ad S ++ Y.take k)[i]? = some q → (cs_W cy ad S ++ Y)[i]? = some q := by
    intro i q hq
    by_cases hi : i < (cs_W cy ad S).length
    · rw [List.getElem?_append_left hi] at hq ⊢; exact hq
    · rw [List.getElem?_append_right (by omega)] at hq ⊢
      rw [List.getElem?_take] at hq
      split at hq
      · exact hq
      · cases hq
  exact ⟨h.1, fun i q hq => h.2.1 i q (hx i q hq), fun i j x y h1 h2 => h.2.2.1 i j x y (hx i x h1) (hx j y h2), fun i q hq => h.2.2.2 i q (hx i q hq)⟩
theorem lw_recv (hK : cs_K D cy s) (h : LW D cy ad S Y A0 H) : ∃ cell : Cell, H[ad 0]? = some cell ∧ cell.vm.isStatics = false ∧ s.vm.findClass RX6 = some cell.cls := cs_recv hK h.w (ci := 6) 0 rfl rfl
theorem lw_i {y : MethodName} {bytes : ByteArray} {maxL n index : Nat} {ret : Option FieldType} {rm : Room} {As : List Value} {v : Int32 × cs_St} {st : List Value} (hF : CallFix p m c cc nL s args cs_WS own)
    (hM : Met l y (cs_ws y bytes maxL ret) rm (cs_Pc D cy ad (.ref (ad 0) :: As) S) (cs_Qi D cy ad (fun r S1 => r = v.1 ∧ S1 = v.2)) 0 0 (cs_A ad)) (cw : CallW R s args own RX6 index y bytes maxL ret (cs_ws y bytes maxL ret) rm 0 0 n)
    (h : LW D cy ad S Y A0 H) (hK : cs_K D cy s) (hS : va_S A0 H0 H locs) (hcs : cells ≤ R.cells ∧ slots ≤ R.slots) (hn : As.length = n) (hl : ls.size = nL) (rest : List Value) (hst : st = As.reverse ++ .ref (ad 0) :: rest) (h8 : (rest.map fun v => v.category).sum ≤ 8) (hdg : decode cc pc = .ok (.invokevirtual index, 3))
    (kk : ∀ (r : Int32) (S1 : cs_St) (H1 : Heap) (locs1 : List Loc), r = v.1 → S1 = v.2 → LW D cy ad S1 Y A0 H1 → va_S A0 H0 H1 locs1 → W p l e R s m args below meth c H1 locs1 cells slots Q (F0 m (pc + 3) ls (.int r :: rest))) : W p l e R s m args below meth c H locs cells slots Q (F0 m pc ls st) :=
  cg_vi hF hM cw (lw_recv hK h) h.w hK hS h.A hcs hn hl rest hst h8 hdg (fun r S1 H1 locs1 hq hq2 hw hz hS => kk r S1 H1 locs1 hq hq2 (h.call hw hz) hS)
theorem lw_l {y : MethodName} {bytes : ByteArray} {maxL n index : Nat} {ret : Option FieldType} {rm : Room} {As : List Value} {v : Int64 × cs_St} {st : List Value} (hF : CallFix p m c cc nL s args cs_WS own)
    (hM : Met l y (cs_ws y bytes maxL ret) rm (cs_Pc D cy ad (.ref (ad 0) :: As) S) (cs_Ql D cy ad (fun r S1 => r = v.1 ∧ S1 = v.2)) 0 0 (cs_A ad)) (cw : CallW R s args own RX6 index y bytes maxL ret (cs_ws y bytes maxL ret) rm 0 0 n)
    (h : LW D cy ad S Y A0 H) (hK : cs_K D cy s) (hS : va_S A0 H0 H locs) (hcs : cells ≤ R.cells ∧ slots ≤ R.slots) (hn : As.length = n) (hl : ls.size = nL) (rest : List Value) (hst : st = As.reverse ++ .ref (ad 0) :: rest) (h8 : (rest.map fun v => v.category).sum ≤ 8) (hdg : decode cc pc = .ok (.invokevirtual index, 3))
    (kk : ∀ (r : Int64) (S1 : cs_St) (H1 : Heap) (locs1 : List Loc), r = v.1 → S1 = v.2 → LW D cy ad S1 Y A0 H1 → va_S A0 H0 H1 locs1 → W p l e R s m args below meth c H1 locs1 cells slots Q (F0 m (pc + 3) ls (.long r :: rest))) : W p l e R s m args below meth c H locs cells slots Q (F0 m pc ls st) :=
  cg_vl hF hM cw (lw_recv hK h) h.w hK hS h.A hcs hn hl rest hst h8 hdg (fun r S1 H1 locs1 hq hq2 hw hz hS => kk r S1 H1 locs1 hq hq2 (h.call hw hz) hS)
theorem lw_ir {y : MethodName} {bytes : ByteArray} {maxL n index : Nat} {ret : Option FieldType} {rm : Room} {As : List Value} {v : Int32} {st : List Value} (hF : CallFix p m c cc nL s args cs_WS own)
    (hM : Met l y (cs_ws y bytes maxL ret) rm (cs_Pc D cy ad (.ref (ad 0) :: As) S) (cs_Qi D cy ad (fun r S1 => r = v ∧ S1 = S)) 0 0 (cs_A ad)) (cw : CallW R s args own RX6 index y bytes maxL ret (cs_ws y bytes maxL ret) rm 0 0 n)
    (h : LW D cy ad S Y A0 H) (hK : cs_K D cy s) (hS : va_S A0 H0 H locs) (hcs : cells ≤ R.cells ∧ slots ≤ R.slots) (hn : As.length = n) (hl : ls.size = nL) (rest : List Value) (hst : st = As.reverse ++ .ref (ad 0) :: rest) (h8 : (rest.map fun v => v.category).sum ≤ 8) (hdg : decode cc pc = .ok (.invokevirtual index, 3))
    (kk : ∀ (r : Int32) (H1 : Heap) (locs1 : List Loc), r = v → LW D cy ad S Y A0 H1 → va_S A0 H0 H1 locs1 → W p l e R s m args below meth c H1 locs1 cells slots Q (F0 m (pc + 3) ls (.int r :: rest))) : W p l e R s m args below meth c H locs cells slots Q (F0 m pc ls st) :=
  cg_vir hF hM cw (lw_recv hK h) h.w hK hS h.A hcs hn hl rest hst h8 hdg (fun r H1 locs1 hq hw hz hS => kk r H1 locs1 hq (h.call hw hz) hS)
end CLW

theorem gl_9 : GoodIn cs_WL (wsV RL 9 RX6 yX6_runs (cs_ws yX6_runs cX6_runs 2 (some .int))) := cl_goodV ql_5 ql_6 ql_7 (ql_w q_299) (ql_w q_465)
theorem gl_15 : GoodIn cs_WL (wsV RL 15 RX6 yX6_size (cs_ws yX6_size cX6_size 3 (some .int))) := cl_goodV ql_8 ql_9 ql_10 (ql_w q_299) (ql_w q_467)
theorem gl_19 : GoodIn cs_WL (wsV RL 19 RX6 yX6_entry (cs_ws yX6_entry cX6_entry 7 (some .int))) := cl_goodV ql_11 ql_12 ql_13 (ql_w q_299) (ql_w q_474)
theorem gl_23 : GoodIn cs_WL (wsV RL 23 RX6 yX6_counted (cs_ws yX6_counted cX6_counted 2 (some .int))) := cl_goodV ql_14 ql_15 ql_16 (ql_w q_299) (ql_w q_482)
theorem gl_26 : GoodIn cs_WL (wsV RL 26 RX6 yX6_mayHave (cs_ws yX6_mayHave cX6_mayHave 5 (some .boolean))) := cl_goodV ql_17 ql_18 ql_19 (ql_w q_299) (ql_w q_478)
theorem gl_30 : GoodIn cs_WL (wsV RL 30 RX6 yX6_entries (cs_ws yX6_entries cX6_entries 1 (some .int))) := cl_goodV ql_20 (ql_w q_511) (ql_w q_512) (ql_w q_299) (ql_w q_479)
theorem gl_34 : GoodIn cs_WL (wsV RL 34 RX6 yX6_stones (cs_ws yX6_stones cX6_stones 3 (some .int))) := cl_goodV ql_21 (ql_w q_514) (ql_w q_515) (ql_w q_299) (ql_w q_480)
theorem gl_37 : GoodIn cs_WL (wsV RL 37 RX6 yX6_hand (cs_ws yX6_hand cX6_hand 1 (some .int))) := cl_goodV ql_22 (ql_w q_496) (ql_w q_497) (ql_w q_299) (ql_w q_461)
theorem gl_40 : GoodIn cs_WL (wsV RL 40 RX6 yX6_log (cs_ws yX6_log cX6_log 1 (some .int))) := cl_goodV ql_23 (ql_w q_499) (ql_w q_500) (ql_w q_299) (ql_w q_462)
theorem gl_43 : GoodIn cs_WL (wsV RL 43 RX6 yX6_unsafe (cs_ws yX6_unsafe cX6_unsafe 1 (some .int))) := cl_goodV ql_24 (ql_w q_502) (ql_w q_503) (ql_w q_299) (ql_w q_463)
theorem gl_46 : GoodIn cs_WL (cs_ws yX6_init cX6_init 4 none) := cl_goodI (ql_w q_212)
theorem gl_47 : GoodIn cs_WL (va_wsS RL 47 yL_cell (cl_ws yL_cell cL_cell 2 (some .int))) := cl_goodS ql_30 ql_31 ql_32 ql_2
theorem gl_53 : GoodIn cs_WL (va_wsS RL 53 yL_below (cl_ws yL_below cL_below 2 (some .int))) := cl_goodS ql_33 ql_34 ql_32 ql_0
theorem gl_56 : GoodIn cs_WL (wsV RL 56 RX6 yX6_setWay (cs_ws yX6_setWay cX6_setWay 5 (some .int))) := cl_goodV ql_35 ql_36 ql_37 (ql_w q_299) (ql_w q_254)
theorem gl_60 : GoodIn cs_WL (wsV RL 60 RX6 yX6_setRoom (cs_ws yX6_setRoom cX6_setRoom 3 (some .int))) := cl_goodV ql_38 ql_39 ql_40 (ql_w q_299) (ql_w q_251)
theorem gl_63 : GoodIn cs_WL (wsV RL 63 RX6 yX6_setEvery (cs_ws yX6_setEvery cX6_setEvery 3 (some .int))) := cl_goodV ql_41 ql_42 ql_43 (ql_w q_299) (ql_w q_261)
theorem gl_66 : GoodIn cs_WL (wsV RL 66 RX6 yX6_setFilter (cs_ws yX6_setFilter cX6_setFilter 4 (some .int))) := cl_goodV ql_44 ql_45 ql_46 (ql_w q_299) (ql_w q_260)
theorem gl_69 : GoodIn cs_WL (wsV RL 69 RX6 yX6_put (cs_ws yX6_put cX6_put 4 (some .int))) := cl_goodV ql_47 ql_48 ql_49 (ql_w q_299) (ql_w q_359)
theorem gl_72 : GoodIn cs_WL (wsV RL 72 RX6 yX6_remove (cs_ws yX6_remove cX6_remove 3 (some .int))) := cl_goodV ql_50 ql_51 ql_52 (ql_w q_299) (ql_w q_368)
theorem gl_75 : GoodIn cs_WL (wsV RL 75 RX6 yX6_flush (cs_ws yX6_flush cX6_flush 2 (some .int))) := cl_goodV ql_53 ql_54 ql_55 (ql_w q_299) (ql_w q_369)
theorem gl_78 : GoodIn cs_WL (wsV RL 78 RX6 yX6_snap (cs_ws yX6_snap cX6_snap 1 (some .int))) := cl_goodV ql_56 ql_57 ql_58 (ql_w q_299) (ql_w q_394)
theorem gl_81 : GoodIn cs_WL (wsV RL 81 RX6 yX6_get (cs_ws yX6_get cX6_get 2 (some .int))) := cl_goodV ql_59 ql_60 ql_61 (ql_w q_299) (ql_w q_436)
theorem gl_84 : GoodIn cs_WL (wsV RL 84 RX6 yX6_getAt (cs_ws yX6_getAt cX6_getAt 4 (some .int))) := cl_goodV ql_62 ql_63 ql_64 (ql_w q_299) (ql_w q_443)
theorem gl_87 : GoodIn cs_WL (wsV RL 87 RX6 yX6_release (cs_ws yX6_release cX6_release 2 (some .int))) := cl_goodV ql_65 ql_66 ql_67 (ql_w q_299) (ql_w q_406)
theorem gl_90 : GoodIn cs_WL (wsV RL 90 RX6 yX6_getSafe (cs_ws yX6_getSafe cX6_getSafe 4 (some .int))) := cl_goodV ql_68 ql_69 ql_70 (ql_w q_299) (ql_w q_487)
theorem gl_93 : GoodIn cs_WL (wsV RL 93 RX6 yX6_crash (cs_ws yX6_crash cX6_crash 2 (some .int))) := cl_goodV ql_71 ql_72 ql_73 (ql_w q_299) (ql_w q_384)
theorem gl_96 : GoodIn cs_WL (wsV RL 96 RX6 yX6_digest (cs_ws yX6_digest cX6_digest 5 (some .long))) := cl_goodV ql_74 ql_75 ql_76 (ql_w q_299) (ql_w q_493)
theorem gl_100 : GoodIn cs_WL (wsV RL 100 RX6 yX6_wouldSave (cs_ws yX6_wouldSave cX6_wouldSave 2 (some .int))) := cl_goodV ql_77 ql_78 ql_79 (ql_w q_299) (ql_w q_486)
theorem gl_103 : GoodIn cs_WL (wsV RL 103 RX6 yX6_keys (cs_ws yX6_keys cX6_keys 1 (some .int))) := cl_goodV ql_80 (ql_w q_508) (ql_w q_509) (ql_w q_299) (ql_w q_460)
theorem gl_106 : GoodIn cs_WL (wsV RL 106 RX6 yX6_sum (cs_ws yX6_sum cX6_sum 7 (some .int))) := cl_goodV ql_81 (ql_w q_520) (ql_w q_521) (ql_w q_299) (ql_w q_457)
theorem gl_109 : GoodIn cs_WL (wsV RL 109 RX6 yX6_cost (cs_ws yX6_cost cX6_cost 2 (some .int))) := cl_goodV ql_82 ql_83 ql_84 (ql_w q_299) (ql_w q_484)
theorem gl_112 : GoodIn cs_WL (wsV RL 112 RX6 yX6_next (cs_ws yX6_next cX6_next 5 (some .int))) := cl_goodV ql_85 ql_86 ql_87 (ql_w q_299) (ql_w q_451)
theorem gl_115 : GoodIn cs_WL (wsV RL 115 RX6 yX6_pack (cs_ws yX6_pack cX6_pack 5 (some .int))) := cl_goodV ql_88 ql_89 ql_90 (ql_w q_299) (ql_w q_378)
theorem gl_118 : GoodIn cs_WL (va_wsS RL 118 yL_isSound (cl_ws yL_isSound cL_isSound 16 (some .boolean))) := cl_goodS ql_91 ql_92 ql_32 ql_4
theorem gl_122 : GoodIn cs_WL (wsV RL 122 RX6 yX6_amplification (cs_ws yX6_amplification cX6_amplification 2 (some .double))) := cl_goodV ql_93 ql_94 ql_95 (ql_w q_299) (ql_w q_483)
