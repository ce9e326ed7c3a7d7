/-! rows over the class's world: a method's start, calls, ends, fields -/
section CSW
variable {p : Program} {l : Launch} {e : Env} {R : Room} {s : State} {m : MethodId} {args : Array Value} {below : List Frame} {meth : Method} {c : Code} {H H0 : Heap} {locs : List Loc} {Q : State → Prop} {D : va_G} {cy : ClassId} {ad : Nat → Nat} {S : cs_St} {pc : Nat} {ls : Array Slot} {rest : List Value} {cc : ByteArray} {nL : Nat} {own : String}
theorem cs_of {y : MethodName} {maxL : Nat} {ret : Option FieldType} {rm : Room} {av : List Value} {Qc : Array Value → State → Outcome → State → Prop} (own : String) (hy : plainName y.cls = true) (ho : y.cls = own) (hn : (lg_sl av).length ≤ maxL)
    (body : ∀ (p : Program) (e : Env) (s : State) (m : MethodId) (below : List Frame) (meth : Method) (c : Code), CallFix p m c cc maxL s av.toArray cs_WS own → meth.sig.returnType = ret → meth.locks = false → cs_w D cy ad S s.heap → cs_K D cy s → ∀ ls, lv_has ls maxL (lv_args 0 av) →
      W p l e rm s m av.toArray below meth c s.heap [] 0 0 (MQ below Qc av.toArray s 0 0 (cs_A ad)) (F0 m 0 ls [])) :
    Met l y (cs_ws y cc maxL ret) rm (cs_Pc D cy ad av S) Qc 0 0 (cs_A ad) := by
  refine Met.ofW (cc := cc) (maxL := maxL) (ret := ret) hy rfl ?_
  intro p e s m args below meth c s₁ B hml hv
  obtain ⟨rfl, hw, hK⟩ := hv
  have hts := atoms_spec (ws := cs_ws y cc maxL ret) B.pre
  have hown : s.vm.findClass y.cls = some m.cls := findClass_of_methodNamed B.named
  have hl := lv_entry av (n := maxL) hn
  rw [lg_entry_eq]
  exact body p e s m below meth c ⟨B.exec, B.bytes, hml, by rw [← ho]; exact hown, fun w h => hts w (List.mem_cons_of_mem _ h)⟩ B.returns B.notSynchronized hw hK _ hl
theorem cs_blind {av : List Value} : FrameBlind (cs_Pc D cy ad av S) := fun _ U g mk q => ⟨q.1, q.2.1, cs_K.same (u := U) (U := U.calling g mk _) rfl q.2.2⟩
theorem cs_recv (hK : cs_K D cy s) (hw : cs_w D cy ad S H) {a ci : Nat} {q : vw_C} {fs : List Value} (q0 : Nat) (hc : cs_cl[ci]? = some q) (he : (cs_W cy ad S)[q0]? = some (a, .inr (ci, fs))) : ∃ cell : Cell, H[a]? = some cell ∧ cell.vm.isStatics = false ∧ s.vm.findClass q.1 = some cell.cls := va_recv hK.1 hw.2.1 hc he
theorem cs_recvR (hK : cs_K D cy s) (hw : cs_w D cy ad S H) {j : Nat} (hj : j < 19) : ∃ cell : Cell, H[ad (6 + 2 * j)]? = some cell ∧ cell.vm.isStatics = false ∧ s.vm.findClass RX3 = some cell.cls := va_recv hK.1 hw.2.1 (ci := 3) rfl (cs_gO cy ad S j hj)
theorem cs_vi0 {y : MethodName} {bytes : ByteArray} {maxL n index : Nat} {ret : Option FieldType} {rm : Room} {C : String} {b : Addr} {As : List Value} {post : Int32 → cs_St → Prop} {st : List Value} (hF : CallFix p m c cc nL s args cs_WS own)
    (hM : Met l y (cs_ws y bytes maxL ret) rm (cs_Pc D cy ad (.ref b :: As) S) (cs_Qi D cy ad post) 0 0 (cs_A ad)) (cw : CallW R s args own C index y bytes maxL ret (cs_ws y bytes maxL ret) rm 0 0 n) (hv : ∃ cell : Cell, H[b]? = some cell ∧ cell.vm.isStatics = false ∧ s.vm.findClass C = some cell.cls)
    (hw : cs_w D cy ad S H) (hK : cs_K D cy s) (hS : va_S (cs_A ad) H0 H locs) (hn : As.length = n) (hl : ls.size = nL) (rest : List Value) (hst : st = As.reverse ++ .ref b :: rest) (h8 : (rest.map fun v => v.category).sum ≤ 8) (hdg : decode cc pc = .ok (.invokevirtual index, 3))
    (kk : ∀ (r : Int32) (S1 : cs_St) (H1 : Heap) (locs1 : List Loc), post r S1 → cs_w D cy ad S1 H1 → va_S (cs_A ad) H0 H1 locs1 → W p l e R s m args below meth c H1 locs1 0 0 Q (F0 m (pc + 3) ls (.int r :: rest))) : W p l e R s m args below meth c H locs 0 0 Q (F0 m pc ls st) :=
  va_calli (va_runV (As := As) (rest := rest) hF hM cw ⟨cs_blind, hv, fun U hU hW => ⟨rfl, by rw [hU]; exact hw, cs_K.moved hW hK⟩⟩ rfl hn hl hst (lv_room h8) hdg ⟨Nat.zero_le _, Nat.zero_le _⟩) hS (fun _ _ h => h) (fun _ h => h) (fun r u t H1 locs ht _ hp hB _ _ hS => kk r u H1 locs hp (by rw [← ht]; exact hB.1) hS)
theorem cs_vl0 {y : MethodName} {bytes : ByteArray} {maxL n index : Nat} {ret : Option FieldType} {rm : Room} {C : String} {b : Addr} {As : List Value} {post : Int64 → cs_St → Prop} {st : List Value} (hF : CallFix p m c cc nL s args cs_WS own)
    (hM : Met l y (cs_ws y bytes maxL ret) rm (cs_Pc D cy ad (.ref b :: As) S) (cs_Ql D cy ad post) 0 0 (cs_A ad)) (cw : CallW R s args own C index y bytes maxL ret (cs_ws y bytes maxL ret) rm 0 0 n) (hv : ∃ cell : Cell, H[b]? = some cell ∧ cell.vm.isStatics = false ∧ s.vm.findClass C = some cell.cls)
    (hw : cs_w D cy ad S H) (hK : cs_K D cy s) (hS : va_S (cs_A ad) H0 H locs) (hn : As.length = n) (hl : ls.size = nL) (rest : List Value) (hst : st = As.reverse ++ .ref b :: rest) (h8 : (rest.map fun v => v.category).sum ≤ 8) (hdg : decode cc pc = .ok (.invokevirtual index, 3))
    (kk : ∀ (r : Int64) (S1 : cs_St) (H1 : Heap) (locs1 : List Loc), post r S1 → cs_w D cy ad S1 H1 → va_S (cs_A ad) H0 H1 locs1 → W p l e R s m args below meth c H1 locs1 0 0 Q (F0 m (pc + 3) ls (.long r :: rest))) : W p l e R s m args below meth c H locs 0 0 Q (F0 m pc ls st) :=
  va_calll (va_runV (As := As) (rest := rest) hF hM cw ⟨cs_blind, hv, fun U hU hW => ⟨rfl, by rw [hU]; exact hw, cs_K.moved hW hK⟩⟩ rfl hn hl hst (lv_room h8) hdg ⟨Nat.zero_le _, Nat.zero_le _⟩) hS (fun _ _ h => h) (fun _ h => h) (fun r u t H1 locs ht _ hp hB _ _ hS => kk r u H1 locs hp (by rw [← ht]; exact hB.1) hS)
theorem cs_vv0 {y : MethodName} {bytes : ByteArray} {maxL n index : Nat} {ret : Option FieldType} {rm : Room} {C : String} {b : Addr} {As : List Value} {post : cs_St → Prop} {st : List Value} (hF : CallFix p m c cc nL s args cs_WS own)
    (hM : Met l y (cs_ws y bytes maxL ret) rm (cs_Pc D cy ad (.ref b :: As) S) (cs_Qv D cy ad post) 0 0 (cs_A ad)) (cw : CallW R s args own C index y bytes maxL ret (cs_ws y bytes maxL ret) rm 0 0 n) (hv : ∃ cell : Cell, H[b]? = some cell ∧ cell.vm.isStatics = false ∧ s.vm.findClass C = some cell.cls)
    (hw : cs_w D cy ad S H) (hK : cs_K D cy s) (hS : va_S (cs_A ad) H0 H locs) (hn : As.length = n) (hl : ls.size = nL) (rest : List Value) (hst : st = As.reverse ++ .ref b :: rest) (h8 : (rest.map fun v => v.category).sum ≤ 8) (hdg : decode cc pc = .ok (.invokevirtual index, 3))
    (kk : ∀ (S1 : cs_St) (H1 : Heap) (locs1 : List Loc), post S1 → cs_w D cy ad S1 H1 → va_S (cs_A ad) H0 H1 locs1 → W p l e R s m args below meth c H1 locs1 0 0 Q (F0 m (pc + 3) ls rest)) : W p l e R s m args below meth c H locs 0 0 Q (F0 m pc ls st) :=
  va_callv (va_runV (As := As) (rest := rest) hF hM cw ⟨cs_blind, hv, fun U hU hW => ⟨rfl, by rw [hU]; exact hw, cs_K.moved hW hK⟩⟩ rfl hn hl hst (lv_room h8) hdg ⟨Nat.zero_le _, Nat.zero_le _⟩) hS (fun _ _ h => h) (fun _ h => h) (fun u t H1 locs ht _ hp hB _ _ hS => kk u H1 locs hp (by rw [← ht]; exact hB.1) hS)
theorem cs_si0 {y : MethodName} {bytes : ByteArray} {maxL n index : Nat} {ret : Option FieldType} {rm : Room} {As : List Value} {post : Int32 → cs_St → Prop} {st : List Value} (hF : CallFix p m c cc nL s args cs_WS own)
    (hM : Met l y (cs_ws y bytes maxL ret) rm (cs_Pc D cy ad As S) (cs_Qi D cy ad post) 0 0 (cs_A ad)) (cw : CallB R s args own index y bytes maxL ret (cs_ws y bytes maxL ret) rm 0 0 n ∧ (Cond.static y).before args s = true)
    (hw : cs_w D cy ad S H) (hK : cs_K D cy s) (hS : va_S (cs_A ad) H0 H locs) (hn : As.length = n) (hl : ls.size = nL) (rest : List Value) (hst : st = As.reverse ++ rest) (h8 : (rest.map fun v => v.category).sum ≤ 8) (hdg : decode cc pc = .ok (.invokestatic index, 3))
    (kk : ∀ (r : Int32) (S1 : cs_St) (H1 : Heap) (locs1 : List Loc), post r S1 → cs_w D cy ad S1 H1 → va_S (cs_A ad) H0 H1 locs1 → W p l e R s m args below meth c H1 locs1 0 0 Q (F0 m (pc + 3) ls (.int r :: rest))) : W p l e R s m args below meth c H locs 0 0 Q (F0 m pc ls st) :=
  va_calli (va_runS (As := As) (rest := rest) hF hM cw ⟨cs_blind, fun U hU hW => ⟨rfl, by rw [hU]; exact hw, cs_K.moved hW hK⟩⟩ rfl hn hl hst (lv_room h8) hdg ⟨Nat.zero_le _, Nat.zero_le _⟩) hS (fun _ _ h => h) (fun _ h => h) (fun r u t H1 locs ht _ hp hB _ _ hS => kk r u H1 locs hp (by rw [← ht]; exact hB.1) hS)
theorem cs_sl0 {y : MethodName} {bytes : ByteArray} {maxL n index : Nat} {ret : Option FieldType} {rm : Room} {As : List Value} {post : Int64 → cs_St → Prop} {st : List Value} (hF : CallFix p m c cc nL s args cs_WS own)
    (hM : Met l y (cs_ws y bytes maxL ret) rm (cs_Pc D cy ad As S) (cs_Ql D cy ad post) 0 0 (cs_A ad)) (cw : CallB R s args own index y bytes maxL ret (cs_ws y bytes maxL ret) rm 0 0 n ∧ (Cond.static y).before args s = true)
    (hw : cs_w D cy ad S H) (hK : cs_K D cy s) (hS : va_S (cs_A ad) H0 H locs) (hn : As.length = n) (hl : ls.size = nL) (rest : List Value) (hst : st = As.reverse ++ rest) (h8 : (rest.map fun v => v.category).sum ≤ 8) (hdg : decode cc pc = .ok (.invokestatic index, 3))
    (kk : ∀ (r : Int64) (S1 : cs_St) (H1 : Heap) (locs1 : List Loc), post r S1 → cs_w D cy ad S1 H1 → va_S (cs_A ad) H0 H1 locs1 → W p l e R s m args below meth c H1 locs1 0 0 Q (F0 m (pc + 3) ls (.long r :: rest))) : W p l e R s m args below meth c H locs 0 0 Q (F0 m pc ls st) :=
  va_calll (va_runS (As := As) (rest := rest) hF hM cw ⟨cs_blind, fun U hU hW => ⟨rfl, by rw [hU]; exact hw, cs_K.moved hW hK⟩⟩ rfl hn hl hst (lv_room h8) hdg ⟨Nat.zero_le _, Nat.zero_le _⟩) hS (fun _ _ h => h) (fun _ h => h) (fun r u t H1 locs ht _ hp hB _ _ hS => kk r u H1 locs hp (by rw [← ht]; exact hB.1) hS)
theorem cs_sv0 {y : MethodName} {bytes : ByteArray} {maxL n index : Nat} {ret : Option FieldType} {rm : Room} {As : List Value} {post : cs_St → Prop} {st : List Value} (hF : CallFix p m c cc nL s args cs_WS own)
    (hM : Met l y (cs_ws y bytes maxL ret) rm (cs_Pc D cy ad As S) (cs_Qv D cy ad post) 0 0 (cs_A ad)) (cw : CallB R s args own index y bytes maxL ret (cs_ws y bytes maxL ret) rm 0 0 n ∧ (Cond.static y).before args s = true)
    (hw : cs_w D cy ad S H) (hK : cs_K D cy s) (hS : va_S (cs_A ad) H0 H locs) (hn : As.length = n) (hl : ls.size = nL) (rest : List Value) (hst : st = As.reverse ++ rest) (h8 : (rest.map fun v => v.category).sum ≤ 8) (hdg : decode cc pc = .ok (.invokestatic index, 3))
    (kk : ∀ (S1 : cs_St) (H1 : Heap) (locs1 : List Loc), post S1 → cs_w D cy ad S1 H1 → va_S (cs_A ad) H0 H1 locs1 → W p l e R s m args below meth c H1 locs1 0 0 Q (F0 m (pc + 3) ls rest)) : W p l e R s m args below meth c H locs 0 0 Q (F0 m pc ls st) :=
  va_callv (va_runS (As := As) (rest := rest) hF hM cw ⟨cs_blind, fun U hU hW => ⟨rfl, by rw [hU]; exact hw, cs_K.moved hW hK⟩⟩ rfl hn hl hst (lv_room h8) hdg ⟨Nat.zero_le _, Nat.zero_le _⟩) hS (fun _ _ h => h) (fun _ h => h) (fun u t H1 locs ht _ hp hB _ _ hS => kk u H1 locs hp (by rw [← ht]; exact hB.1) hS)
theorem cs_vir {y : MethodName} {bytes : ByteArray} {maxL n index : Nat} {ret : Option FieldType} {rm : Room} {C : String} {b : Addr} {As : List Value} {v : Int32} {st : List Value} (hF : CallFix p m c cc nL s args cs_WS own)
    (hM : Met l y (cs_ws y bytes maxL ret) rm (cs_Pc D cy ad (.ref b :: As) S) (cs_Qi D cy ad (fun r S1 => r = v ∧ S1 = S)) 0 0 (cs_A ad)) (cw : CallW R s args own C index y bytes maxL ret (cs_ws y bytes maxL ret) rm 0 0 n) (hv : ∃ cell : Cell, H[b]? = some cell ∧ cell.vm.isStatics = false ∧ s.vm.findClass C = some cell.cls)
    (hw : cs_w D cy ad S H) (hK : cs_K D cy s) (hS : va_S (cs_A ad) H0 H locs) (hn : As.length = n) (hl : ls.size = nL) (rest : List Value) (hst : st = As.reverse ++ .ref b :: rest) (h8 : (rest.map fun v => v.category).sum ≤ 8) (hdg : decode cc pc = .ok (.invokevirtual index, 3))
    (kk : ∀ (r : Int32) (H1 : Heap) (locs1 : List Loc), r = v → cs_w D cy ad S H1 → va_S (cs_A ad) H0 H1 locs1 → W p l e R s m args below meth c H1 locs1 0 0 Q (F0 m (pc + 3) ls (.int r :: rest))) : W p l e R s m args below meth c H locs 0 0 Q (F0 m pc ls st) :=
  cs_vi0 hF hM cw hv hw hK hS hn hl rest hst h8 hdg (fun r S1 H1 locs1 hp hw hS => kk r H1 locs1 hp.1 (hp.2 ▸ hw) hS)
theorem cs_vi {y : MethodName} {bytes : ByteArray} {maxL n index : Nat} {ret : Option FieldType} {rm : Room} {C : String} {b : Addr} {As : List Value} {v : Int32 × cs_St} {st : List Value} (hF : CallFix p m c cc nL s args cs_WS own)
    (hM : Met l y (cs_ws y bytes maxL ret) rm (cs_Pc D cy ad (.ref b :: As) S) (cs_Qi D cy ad (fun r S1 => r = v.1 ∧ S1 = v.2)) 0 0 (cs_A ad)) (cw : CallW R s args own C index y bytes maxL ret (cs_ws y bytes maxL ret) rm 0 0 n) (hv : ∃ cell : Cell, H[b]? = some cell ∧ cell.vm.isStatics = false ∧ s.vm.findClass C = some cell.cls)
    (hw : cs_w D cy ad S H) (hK : cs_K D cy s) (hS : va_S (cs_A ad) H0 H locs) (hn : As.length = n) (hl : ls.size = nL) (rest : List Value) (hst : st = As.reverse ++ .ref b :: rest) (h8 : (rest.map fun v => v.category).sum ≤ 8) (hdg : decode cc pc = .ok (.invokevirtual index, 3))
    (kk : ∀ (r : Int32) (S1 : cs_St) (H1 : Heap) (locs1 : List Loc), r = v.1 → S1 = v.2 → cs_w D cy ad S1 H1 → va_S (cs_A ad) H0 H1 locs1 → W p l e R s m args below meth c H1 locs1 0 0 Q (F0 m (pc + 3) ls (.int r :: rest))) : W p l e R s m args below meth c H locs 0 0 Q (F0 m pc ls st) :=
  cs_vi0 hF hM cw hv hw hK hS hn hl rest hst h8 hdg (fun r S1 H1 locs1 hp hw hS => kk r S1 H1 locs1 hp.1 hp.2 hw hS)
theorem cs_vlr {y : MethodName} {bytes : ByteArray} {maxL n index : Nat} {ret : Option FieldType} {rm : Room} {C : String} {b : Addr} {As : List Value} {v : Int64} {st : List Value} (hF : CallFix p m c cc nL s args cs_WS own)
    (hM : Met l y (cs_ws y bytes maxL ret) rm (cs_Pc D cy ad (.ref b :: As) S) (cs_Ql D cy ad (fun r S1 => r = v ∧ S1 = S)) 0 0 (cs_A ad)) (cw : CallW R s args own C index y bytes maxL ret (cs_ws y bytes maxL ret) rm 0 0 n) (hv : ∃ cell : Cell, H[b]? = some cell ∧ cell.vm.isStatics = false ∧ s.vm.findClass C = some cell.cls)
    (hw : cs_w D cy ad S H) (hK : cs_K D cy s) (hS : va_S (cs_A ad) H0 H locs) (hn : As.length = n) (hl : ls.size = nL) (rest : List Value) (hst : st = As.reverse ++ .ref b :: rest) (h8 : (rest.map fun v => v.category).sum ≤ 8) (hdg : decode cc pc = .ok (.invokevirtual index, 3))
    (kk : ∀ (r : Int64) (H1 : Heap) (locs1 : List Loc), r = v → cs_w D cy ad S H1 → va_S (cs_A ad) H0 H1 locs1 → W p l e R s m args below meth c H1 locs1 0 0 Q (F0 m (pc + 3) ls (.long r :: rest))) : W p l e R s m args below meth c H locs 0 0 Q (F0 m pc ls st) :=
  cs_vl0 hF hM cw hv hw hK hS hn hl rest hst h8 hdg (fun r S1 H1 locs1 hp hw hS => kk r H1 locs1 hp.1 (hp.2 ▸ hw) hS)
theorem cs_vl {y : MethodName} {bytes : ByteArray} {maxL n index : Nat} {ret : Option FieldType} {rm : Room} {C : String} {b : Addr} {As : List Value} {v : Int64 × cs_St} {st : List Value} (hF : CallFix p m c cc nL s args cs_WS own)
    (hM : Met l y (cs_ws y bytes maxL ret) rm (cs_Pc D cy ad (.ref b :: As) S) (cs_Ql D cy ad (fun r S1 => r = v.1 ∧ S1 = v.2)) 0 0 (cs_A ad)) (cw : CallW R s args own C index y bytes maxL ret (cs_ws y bytes maxL ret) rm 0 0 n) (hv : ∃ cell : Cell, H[b]? = some cell ∧ cell.vm.isStatics = false ∧ s.vm.findClass C = some cell.cls)
    (hw : cs_w D cy ad S H) (hK : cs_K D cy s) (hS : va_S (cs_A ad) H0 H locs) (hn : As.length = n) (hl : ls.size = nL) (rest : List Value) (hst : st = As.reverse ++ .ref b :: rest) (h8 : (rest.map fun v => v.category).sum ≤ 8) (hdg : decode cc pc = .ok (.invokevirtual index, 3))
    (kk : ∀ (r : Int64) (S1 : cs_St) (H1 : Heap) (locs1 : List Loc), r = v.1 → S1 = v.2 → cs_w D cy ad S1 H1 → va_S (cs_A ad) H0 H1 locs1 → W p l e R s m args below meth c H1 locs1 0 0 Q (F0 m (pc + 3) ls (.long r :: rest))) : W p l e R s m args below meth c H locs 0 0 Q (F0 m pc ls st) :=
  cs_vl0 hF hM cw hv hw hK hS hn hl rest hst h8 hdg (fun r S1 H1 locs1 hp hw hS => kk r S1 H1 locs1 hp.1 hp.2 hw hS)
theorem cs_vvr {y : MethodName} {bytes : ByteArray} {maxL n index : Nat} {ret : Option FieldType} {rm : Room} {C : String} {b : Addr} {As : List Value}  {st : List Value} (hF : CallFix p m c cc nL s args cs_WS own)
    (hM : Met l y (cs_ws y bytes maxL ret) rm (cs_Pc D cy ad (.ref b :: As) S) (cs_Qv D cy ad (fun S1 => S1 = S)) 0 0 (cs_A ad)) (cw : CallW R s args own C index y bytes maxL ret (cs_ws y bytes maxL ret) rm 0 0 n) (hv : ∃ cell : Cell, H[b]? = some cell ∧ cell.vm.isStatics = false ∧ s.vm.findClass C = some cell.cls)
    (hw : cs_w D cy ad S H) (hK : cs_K D cy s) (hS : va_S (cs_A ad) H0 H locs) (hn : As.length = n) (hl : ls.size = nL) (rest : List Value) (hst : st = As.reverse ++ .ref b :: rest) (h8 : (rest.map fun v => v.category).sum ≤ 8) (hdg : decode cc pc = .ok (.invokevirtual index, 3))
    (kk : ∀ (H1 : Heap) (locs1 : List Loc), cs_w D cy ad S H1 → va_S (cs_A ad) H0 H1 locs1 → W p l e R s m args below meth c H1 locs1 0 0 Q (F0 m (pc + 3) ls rest)) : W p l e R s m args below meth c H locs 0 0 Q (F0 m pc ls st) :=
  cs_vv0 hF hM cw hv hw hK hS hn hl rest hst h8 hdg (fun S1 H1 locs1 hp hw hS => kk H1 locs1 (hp ▸ hw) hS)
theorem cs_vv {y : MethodName} {bytes : ByteArray} {maxL n index : Nat} {ret : Option FieldType} {rm : Room} {C : String} {b : Addr} {As : List Value} {v : cs_St} {st : List Value} (hF : CallFix p m c cc nL s args cs_WS own)
    (hM : Met l y (cs_ws y bytes maxL ret) rm (cs_Pc D cy ad (.ref b :: As) S) (cs_Qv D cy ad (fun S1 => S1 = v)) 0 0 (cs_A ad)) (cw : CallW R s args own C index y bytes maxL ret (cs_ws y bytes maxL ret) rm 0 0 n) (hv : ∃ cell : Cell, H[b]? = some cell ∧ cell.vm.isStatics = false ∧ s.vm.findClass C = some cell.cls)
    (hw : cs_w D cy ad S H) (hK : cs_K D cy s) (hS : va_S (cs_A ad) H0 H locs) (hn : As.length = n) (hl : ls.size = nL) (rest : List Value) (hst : st = As.reverse ++ .ref b :: rest) (h8 : (rest.map fun v => v.category).sum ≤ 8) (hdg : decode cc pc = .ok (.invokevirtual index, 3))
    (kk : ∀ (S1 : cs_St) (H1 : Heap) (locs1 : List Loc), S1 = v → cs_w D cy ad S1 H1 → va_S (cs_A ad) H0 H1 locs1 → W p l e R s m args below meth c H1 locs1 0 0 Q (F0 m (pc + 3) ls rest)) : W p l e R s m args below meth c H locs 0 0 Q (F0 m pc ls st) :=
  cs_vv0 hF hM cw hv hw hK hS hn hl rest hst h8 hdg (fun S1 H1 locs1 hp hw hS => kk S1 H1 locs1 hp hw hS)
theorem cs_sir {y : MethodName} {bytes : ByteArray} {maxL n index : Nat} {ret : Option FieldType} {rm : Room} {As : List Value} {v : Int32} {st : List Value} (hF : CallFix p m c cc nL s args cs_WS own)
    (hM : Met l y (cs_ws y bytes maxL ret) rm (cs_Pc D cy ad As S) (cs_Qi D cy ad (fun r S1 => r = v ∧ S1 = S)) 0 0 (cs_A ad)) (cw : CallB R s args own index y bytes maxL ret (cs_ws y bytes maxL ret) rm 0 0 n ∧ (Cond.static y).before args s = true)
    (hw : cs_w D cy ad S H) (hK : cs_K D cy s) (hS : va_S (cs_A ad) H0 H locs) (hn : As.length = n) (hl : ls.size = nL) (rest : List Value) (hst : st = As.reverse ++ rest) (h8 : (rest.map fun v => v.category).sum ≤ 8) (hdg : decode cc pc = .ok (.invokestatic index, 3))
    (kk : ∀ (r : Int32) (H1 : Heap) (locs1 : List Loc), r = v → cs_w D cy ad S H1 → va_S (cs_A ad) H0 H1 locs1 → W p l e R s m args below meth c H1 locs1 0 0 Q (F0 m (pc + 3) ls (.int r :: rest))) : W p l e R s m args below meth c H locs 0 0 Q (F0 m pc ls st) :=
  cs_si0 hF hM cw hw hK hS hn hl rest hst h8 hdg (fun r S1 H1 locs1 hp hw hS => kk r H1 locs1 hp.1 (hp.2 ▸ hw) hS)
theorem cs_si {y : MethodName} {bytes : ByteArray} {maxL n index : Nat} {ret : Option FieldType} {rm : Room} {As : List Value} {v : Int32 × cs_St} {st : List Value} (hF : CallFix p m c cc nL s args cs_WS own)
    (hM : Met l y (cs_ws y bytes maxL ret) rm (cs_Pc D cy ad As S) (cs_Qi D cy ad (fun r S1 => r = v.1 ∧ S1 = v.2)) 0 0 (cs_A ad)) (cw : CallB R s args own index y bytes maxL ret (cs_ws y bytes maxL ret) rm 0 0 n ∧ (Cond.static y).before args s = true)
    (hw : cs_w D cy ad S H) (hK : cs_K D cy s) (hS : va_S (cs_A ad) H0 H locs) (hn : As.length = n) (hl : ls.size = nL) (rest : List Value) (hst : st = As.reverse ++ rest) (h8 : (rest.map fun v => v.category).sum ≤ 8) (hdg : decode cc pc = .ok (.invokestatic index, 3))
    (kk : ∀ (r : Int32) (S1 : cs_St) (H1 : Heap) (locs1 : List Loc), r = v.1 → S1 = v.2 → cs_w D cy ad S1 H1 → va_S (cs_A ad) H0 H1 locs1 → W p l e R s m args below meth c H1 locs1 0 0 Q (F0 m (pc + 3) ls (.int r :: rest))) : W p l e R s m args below meth c H locs 0 0 Q (F0 m pc ls st) :=
  cs_si0 hF hM cw hw hK hS hn hl rest hst h8 hdg (fun r S1 H1 locs1 hp hw hS => kk r S1 H1 locs1 hp.1 hp.2 hw hS)
theorem cs_slr {y : MethodName} {bytes : ByteArray} {maxL n index : Nat} {ret : Option FieldType} {rm : Room} {As : List Value} {v : Int64} {st : List Value} (hF : CallFix p m c cc nL s args cs_WS own)
    (hM : Met l y (cs_ws y bytes maxL ret) rm (cs_Pc D cy ad As S) (cs_Ql D cy ad (fun r S1 => r = v ∧ S1 = S)) 0 0 (cs_A ad)) (cw : CallB R s args own index y bytes maxL ret (cs_ws y bytes maxL ret) rm 0 0 n ∧ (Cond.static y).before args s = true)
    (hw : cs_w D cy ad S H) (hK : cs_K D cy s) (hS : va_S (cs_A ad) H0 H locs) (hn : As.length = n) (hl : ls.size = nL) (rest : List Value) (hst : st = As.reverse ++ rest) (h8 : (rest.map fun v => v.category).sum ≤ 8) (hdg : decode cc pc = .ok (.invokestatic index, 3))
    (kk : ∀ (r : Int64) (H1 : Heap) (locs1 : List Loc), r = v → cs_w D cy ad S H1 → va_S (cs_A ad) H0 H1 locs1 → W p l e R s m args below meth c H1 locs1 0 0 Q (F0 m (pc + 3) ls (.long r :: rest))) : W p l e R s m args below meth c H locs 0 0 Q (F0 m pc ls st) :=
  cs_sl0 hF hM cw hw hK hS hn hl rest hst h8 hdg (fun r S1 H1 locs1 hp hw hS => kk r H1 locs1 hp.1 (hp.2 ▸ hw) hS)
theorem cs_sl {y : MethodName} {bytes : ByteArray} {maxL n index : Nat} {ret : Option FieldType} {rm : Room} {As : List Value} {v : Int64 × cs_St} {st : List Value} (hF : CallFix p m c cc nL s args cs_WS own)
    (hM : Met l y (cs_ws y bytes maxL ret) rm (cs_Pc D cy ad As S) (cs_Ql D cy ad (fun r S1 => r = v.1 ∧ S1 = v.2)) 0 0 (cs_A ad)) (cw : CallB R s args own index y bytes maxL ret (cs_ws y bytes maxL ret) rm 0 0 n ∧ (Cond.static y).before args s = true)
    (hw : cs_w D cy ad S H) (hK : cs_K D cy s) (hS : va_S (cs_A ad) H0 H locs) (hn : As.length = n) (hl : ls.size = nL) (rest : List Value) (hst : st = As.reverse ++ rest) (h8 : (rest.map fun v => v.category).sum ≤ 8) (hdg : decode cc pc = .ok (.invokestatic index, 3))
    (kk : ∀ (r : Int64) (S1 : cs_St) (H1 : Heap) (locs1 : List Loc), r = v.1 → S1 = v.2 → cs_w D cy ad S1 H1 → va_S (cs_A ad) H0 H1 locs1 → W p l e R s m args below meth c H1 locs1 0 0 Q (F0 m (pc + 3) ls (.long r :: rest))) : W p l e R s m args below meth c H locs 0 0 Q (F0 m pc ls st) :=
  cs_sl0 hF hM cw hw hK hS hn hl rest hst h8 hdg (fun r S1 H1 locs1 hp hw hS => kk r S1 H1 locs1 hp.1 hp.2 hw hS)
theorem cs_svr {y : MethodName} {bytes : ByteArray} {maxL n index : Nat} {ret : Option FieldType} {rm : Room} {As : List Value}  {st : List Value} (hF : CallFix p m c cc nL s args cs_WS own)
    (hM : Met l y (cs_ws y bytes maxL ret) rm (cs_Pc D cy ad As S) (cs_Qv D cy ad (fun S1 => S1 = S)) 0 0 (cs_A ad)) (cw : CallB R s args own index y bytes maxL ret (cs_ws y bytes maxL ret) rm 0 0 n ∧ (Cond.static y).before args s = true)
    (hw : cs_w D cy ad S H) (hK : cs_K D cy s) (hS : va_S (cs_A ad) H0 H locs) (hn : As.length = n) (hl : ls.size = nL) (rest : List Value) (hst : st = As.reverse ++ rest) (h8 : (rest.map fun v => v.category).sum ≤ 8) (hdg : decode cc pc = .ok (.invokestatic index, 3))
    (kk : ∀ (H1 : Heap) (locs1 : List Loc), cs_w D cy ad S H1 → va_S (cs_A ad) H0 H1 locs1 → W p l e R s m args below meth c H1 locs1 0 0 Q (F0 m (pc + 3) ls rest)) : W p l e R s m args below meth c H locs 0 0 Q (F0 m pc ls st) :=
  cs_sv0 hF hM cw hw hK hS hn hl rest hst h8 hdg (fun S1 H1 locs1 hp hw hS => kk H1 locs1 (hp ▸ hw) hS)
theorem cs_sv {y : MethodName} {bytes : ByteArray} {maxL n index : Nat} {ret : Option FieldType} {rm : Room} {As : List Value} {v : cs_St} {st : List Value} (hF : CallFix p m c cc nL s args cs_WS own)
    (hM : Met l y (cs_ws y bytes maxL ret) rm (cs_Pc D cy ad As S) (cs_Qv D cy ad (fun S1 => S1 = v)) 0 0 (cs_A ad)) (cw : CallB R s args own index y bytes maxL ret (cs_ws y bytes maxL ret) rm 0 0 n ∧ (Cond.static y).before args s = true)
    (hw : cs_w D cy ad S H) (hK : cs_K D cy s) (hS : va_S (cs_A ad) H0 H locs) (hn : As.length = n) (hl : ls.size = nL) (rest : List Value) (hst : st = As.reverse ++ rest) (h8 : (rest.map fun v => v.category).sum ≤ 8) (hdg : decode cc pc = .ok (.invokestatic index, 3))
    (kk : ∀ (S1 : cs_St) (H1 : Heap) (locs1 : List Loc), S1 = v → cs_w D cy ad S1 H1 → va_S (cs_A ad) H0 H1 locs1 → W p l e R s m args below meth c H1 locs1 0 0 Q (F0 m (pc + 3) ls rest)) : W p l e R s m args below meth c H locs 0 0 Q (F0 m pc ls st) :=
  cs_sv0 hF hM cw hw hK hS hn hl rest hst h8 hdg (fun S1 H1 locs1 hp hw hS => kk S1 H1 locs1 hp hw hS)
theorem cs_iret {post : Int32 → cs_St → Prop} {v : Int32} (hF : CallFix p m c cc nL s args cs_WS own) (hr : meth.sig.returnType = some .int) (hlk : meth.locks = false) (hw : cs_w D cy ad S H) (hK : cs_K D cy s) (hS : va_S (cs_A ad) s.heap H locs) (hdg : decode cc pc = .ok (.ireturn, 1)) (hp : post v S) : W p l e R s m args below meth c H locs 0 0 (MQ below (cs_Qi D cy ad post) args s 0 0 (cs_A ad)) (F0 m pc ls [.int v]) :=
  W.iret (v := v) hF.1 hF.2.1 hr (fun t ht hW => ⟨⟨v, S, rfl, hp, by rw [ht]; exact hw, cs_K.moved hW hK⟩, hS.F ht⟩) hS.2.2 hdg hlk
theorem cs_zret {post : Int32 → cs_St → Prop} {v : Int32} (hF : CallFix p m c cc nL s args cs_WS own) (hr : meth.sig.returnType = some .boolean) (hlk : meth.locks = false) (hw : cs_w D cy ad S H) (hK : cs_K D cy s) (hS : va_S (cs_A ad) s.heap H locs) (hdg : decode cc pc = .ok (.ireturn, 1)) (hp : post v S) (hn : narrow .boolean (.int v) = .int v := by rfl) : W p l e R s m args below meth c H locs 0 0 (MQ below (cs_Qi D cy ad post) args s 0 0 (cs_A ad)) (F0 m pc ls [.int v]) :=
  W.zret (v := v) hF.1 hF.2.1 hr hn (fun t ht hW => ⟨⟨v, S, rfl, hp, by rw [ht]; exact hw, cs_K.moved hW hK⟩, hS.F ht⟩) hS.2.2 hdg hlk
theorem cs_lret {post : Int64 → cs_St → Prop} {v : Int64} (hF : CallFix p m c cc nL s args cs_WS own) (hr : meth.sig.returnType = some .long) (hlk : meth.locks = false) (hw : cs_w D cy ad S H) (hK : cs_K D cy s) (hS : va_S (cs_A ad) s.heap H locs) (hdg : decode cc pc = .ok (.lreturn, 1)) (hp : post v S) : W p l e R s m args below meth c H locs 0 0 (MQ below (cs_Ql D cy ad post) args s 0 0 (cs_A ad)) (F0 m pc ls [.long v]) :=
  W.lret (v := v) hF.1 hF.2.1 hr (fun t ht hW => ⟨⟨v, S, rfl, hp, by rw [ht]; exact hw, cs_K.moved hW hK⟩, hS.F ht⟩) hS.2.2 hdg hlk
theorem cs_vret {post : cs_St → Prop} (hF : CallFix p m c cc nL s args cs_WS own) (hr : meth.sig.returnType = none) (hlk : meth.locks = false) (hw : cs_w D cy ad S H) (hK : cs_K D cy s) (hS : va_S (cs_A ad) s.heap H locs) (hdg : decode cc pc = .ok (.return_, 1)) (hp : post S) : W p l e R s m args below meth c H locs 0 0 (MQ below (cs_Qv D cy ad post) args s 0 0 (cs_A ad)) (F0 m pc ls []) :=
  W.vret hF.1 hF.2.1 hr (fun t ht hW => ⟨⟨S, rfl, hp, by rw [ht]; exact hw, cs_K.moved hW hK⟩, hS.F ht⟩) hS.2.2 hdg hlk
theorem cs_get {C : String} {T : u_T} {N ci index : Nat} (hF : CallFix p m c cc nL s args cs_WS own) (hin : ∀ w ∈ u_ws C T N, w ∈ cs_WS) (hw : cs_w D cy ad S H) (hK : cs_K D cy s) (q0 : Nat) {a : Nat} {fs : List Value} (he : (cs_W cy ad S)[q0]? = some (a, .inr (ci, fs))) (hc : cs_cl[ci]? = some (C, T, N)) (k : Nat) (hk : k < N) (hlink : Cond.fieldLink own index (T k).1 (T k).2.1 (T k).2.2.1 ∈ cs_WS) {v : Value} (hv : fs[k]? = some v) (hdg : decode cc pc = .ok (.getfield index, 3))
    (kk : W p l e R s m args below meth c H locs 0 0 Q (F0 m (pc + 3) ls (v :: rest))) : W p l e R s m args below meth c H locs 0 0 Q (F0 m pc ls (.ref a :: rest)) :=
  va_get (D := D) (C := C) (T := T) (N := N) hF.1 hF.2.1 hF.2.2.2.2 hin hF.2.2.2.1 hK.1 hw.2.1 q0 he hc k hk (hF.2.2.2.2 _ hlink) (fun _ h => h) hv hdg kk
theorem cs_put {C : String} {T : u_T} {N ci index : Nat} (hF : CallFix p m c cc nL s args cs_WS own) (hin : ∀ w ∈ u_ws C T N, w ∈ cs_WS) (ty0 : Nat → FieldType) (hty : ∀ k, k < N → parseFieldDescriptor (T k).2.2.1 = some (ty0 k)) (hnm : ∀ a, a < N → ∀ b, b < N → a ≠ b → (T a).2.1 ≠ (T b).2.1) (hw : cs_w D cy ad S H) (hK : cs_K D cy s) (hS : va_S (cs_A ad) H0 H locs) (q0 : Nat) {a : Nat} {fs : List Value} (he : (cs_W cy ad S)[q0]? = some (a, .inr (ci, fs))) (hc : cs_cl[ci]? = some (C, T, N)) (k : Nat) (hk : k < N) (hlink : Cond.fieldLink own index (T k).1 (T k).2.1 (T k).2.2.1 ∈ cs_WS) (hfin : (T k).2.2.2 = false) {x : Int32} (hd : parseFieldDescriptor (T k).2.2.1 = some .int) (hl : k < fs.length)
    (S1 : cs_St) (hset : (cs_W cy ad S).set q0 (a, .inr (ci, fs.set k (.int x))) = cs_W cy ad S1) (hok : cs_ok S1) (hdg : decode cc pc = .ok (.putfield index, 3))
    (kk : ∀ (H1 : Heap) (locs1 : List Loc), cs_w D cy ad S1 H1 → va_S (cs_A ad) H0 H1 locs1 → W p l e R s m args below meth c H1 locs1 0 0 Q (F0 m (pc + 3) ls rest)) : W p l e R s m args below meth c H locs 0 0 Q (F0 m pc ls (.int x :: .ref a :: rest)) :=
  va_put (D := D) (C := C) (T := T) (N := N) hF.1 hF.2.1 hF.2.2.2.2 hin ty0 hty hnm hF.2.2.2.1 hK.1 hw.2.1 hw.2.2 hS q0 he hc k hk (hF.2.2.2.2 _ hlink) (fun _ h => h) hfin hd rfl rfl hl hdg (fun H locs hP hD hS => kk H locs ⟨hok, hset ▸ hP, hset ▸ hD⟩ hS)
theorem cs_upd3 {f : Nat → Int32} {k : Nat} {x : Int32} (h : ∀ k, f k ≤ 3) (hx : x ≤ 3) : ∀ i, upd f k x i ≤ 3 := by
  intro i
  show (if i = k then x else f i) ≤ 3
  by_cases e : i = k
  · rw [if_pos e]; exact hx
  · rw [if_neg e]; exact h i
theorem cs_cpy3 {f : Nat → Int32} {a b n : Nat} (h : ∀ k, f k ≤ 3) : ∀ i, va_cpy f f a b n i ≤ 3 := by
  intro i
  show (if b ≤ i ∧ i < b + n then f (a + (i - b)) else f i) ≤ 3
  by_cases e : b ≤ i ∧ i < b + n
  · rw [if_pos e]; exact h _
  · rw [if_neg e]; exact h i
theorem cs_len (hF : CallFix p m c cc nL s args cs_WS own) (hw : cs_w D cy ad S H) (hK : cs_K D cy s) (j : Nat) (hj : j < 19) (hdg : decode cc pc = .ok (.arraylength, 1))
    (kk : W p l e R s m args below meth c H locs 0 0 Q (F0 m (pc + 1) ls (.int (nI (cs_cap j)) :: rest))) : W p l e R s m args below meth c H locs 0 0 Q (F0 m pc ls (.ref (ad (7 + 2 * j)) :: rest)) :=
  va_alen (D := D) (tys := [(cy, .int)]) hF.1 hF.2.1 hK.1 hw.2.1 (7 + 2 * j) 0 (cs_gA cy ad S j hj) rfl rfl hdg kk
theorem cs_ald (hF : CallFix p m c cc nL s args cs_WS own) (hw : cs_w D cy ad S H) (hK : cs_K D cy s) (j : Nat) (hj : j < 19) {i : Int32} (h1 : ¬ i < 0) (h2 : ¬ nI (cs_cap j) ≤ i) (hdg : decode cc pc = .ok (.iaload, 1))
    (kk : W p l e R s m args below meth c H locs 0 0 Q (F0 m (pc + 1) ls (.int ((S.1 j).1 i.toNatClampNeg) :: rest))) : W p l e R s m args below meth c H locs 0 0 Q (F0 m pc ls (.int i :: .ref (ad (7 + 2 * j)) :: rest)) :=
  va_iald (D := D) (tys := [(cy, .int)]) hF.1 hF.2.1 hK.1 hw.2.1 (7 + 2 * j) 0 (cs_gA cy ad S j hj) rfl (cs_in (Nat.lt_of_le_of_lt (cs_cap_le j) (by decide)) h1 h2) hdg kk
theorem cs_ast (hF : CallFix p m c cc nL s args cs_WS own) (hw : cs_w D cy ad S H) (hK : cs_K D cy s) (hS : va_S (cs_A ad) H0 H locs) (j : Nat) (hj : j < 19) {i x : Int32} (h1 : ¬ i < 0) (h2 : ¬ nI (cs_cap j) ≤ i) (h3 : j = 13 → x ≤ 3) (hdg : decode cc pc = .ok (.iastore, 1))
    (kk : ∀ (S1 : cs_St) (H1 : Heap) (locs1 : List Loc), S1 = cs_sR S j (upd (S.1 j).1 i.toNatClampNeg x, (S.1 j).2) → cs_w D cy ad S1 H1 → va_S (cs_A ad) H0 H1 locs1 → W p l e R s m args below meth c H1 locs1 0 0 Q (F0 m (pc + 1) ls rest)) : W p l e R s m args below meth c H locs 0 0 Q (F0 m pc ls (.int x :: .int i :: .ref (ad (7 + 2 * j)) :: rest)) :=
  va_iast (D := D) (tys := [(cy, .int)]) hF.1 hF.2.1 hK.1 hw.2.1 hw.2.2 hS (7 + 2 * j) 0 (cs_gA cy ad S j hj) rfl (cs_in (Nat.lt_of_le_of_lt (cs_cap_le j) (by decide)) h1 h2) hdg (fun H locs hP hD hS => kk _ H locs rfl ⟨cs_sR_ok hw.1 (hw.1.1 j hj) (fun e => cs_upd3 (e ▸ hw.1.2.1) (h3 e)), cs_setA cy ad S _ j hj ▸ hP, cs_setA cy ad S _ j hj ▸ hD⟩ hS)
theorem cs_putU (hF : CallFix p m c cc nL s args cs_WS own) (hw : cs_w D cy ad S H) (hK : cs_K D cy s) (hS : va_S (cs_A ad) H0 H locs) (j : Nat) (hj : j < 19) {index : Nat} (hlink : Cond.fieldLink own index (TX3 1).1 (TX3 1).2.1 (TX3 1).2.2.1 ∈ cs_WS) {x : Int32} (u : Nat) (hx : x = nI u) (hu : u ≤ cs_cap j) (hdg : decode cc pc = .ok (.putfield index, 3))
    (kk : ∀ (S1 : cs_St) (H1 : Heap) (locs1 : List Loc), S1 = cs_sR S j ((S.1 j).1, u) → cs_w D cy ad S1 H1 → va_S (cs_A ad) H0 H1 locs1 → W p l e R s m args below meth c H1 locs1 0 0 Q (F0 m (pc + 3) ls rest)) : W p l e R s m args below meth c H locs 0 0 Q (F0 m pc ls (.int x :: .ref (ad (6 + 2 * j)) :: rest)) := by
  subst hx
  exact cs_put (C := RX3) (T := TX3) (N := 2) hF in_X3 tyX3 tyX3_ok nmX3 hw hK hS (6 + 2 * j) (cs_gO cy ad S j hj) rfl 1 (by decide) hlink rfl (by decide +kernel) (Nat.le_of_ble_eq_true rfl) (cs_sR S j ((S.1 j).1, u)) (cs_setO cy ad S u j hj) (cs_sR_ok hw.1 hu (fun e => e ▸ hw.1.2.1)) hdg (fun H1 locs1 hw hS => kk _ H1 locs1 rfl hw hS)
theorem cs_cpy (hF : CallFix p m c cc nL s args cs_WS own) (hml : c.maxLocals = ls.size) (hw : cs_w D cy ad S H) (hK : cs_K D cy s) (hS : va_S (cs_A ad) H0 H locs) (j : Nat) (hj : j < 19) {index : Nat} (hlink : Cond.methodLink own index arraycopyName ∈ cs_WS) (h1 : Cond.native arraycopyName ∈ cs_WS) (h2 : Cond.static arraycopyName ∈ cs_WS) (h3 : Cond.initialized "java/lang/System" ∈ cs_WS)
    {sp dp n : Int32} (g1 : ¬ sp < 0) (g2 : ¬ dp < 0) (g3 : ¬ n < 0) (g4 : sp.toNatClampNeg + n.toNatClampNeg ≤ cs_cap j) (g5 : dp.toNatClampNeg + n.toNatClampNeg ≤ cs_cap j) (hfr : 1 ≤ R.frames) (hlo : (rest.map fun v => v.category).sum + (nativeFrameWords "java/lang/System" "arraycopy" 5 + 11) ≤ R.locals) (hdg : decode cc pc = .ok (.invokestatic index, 3))
    (kk : ∀ (S1 : cs_St) (H1 : Heap) (locs1 : List Loc), S1 = cs_sR S j (va_cpy (S.1 j).1 (S.1 j).1 sp.toNatClampNeg dp.toNatClampNeg n.toNatClampNeg, (S.1 j).2) → cs_w D cy ad S1 H1 → va_S (cs_A ad) H0 H1 locs1 → W p l e R s m args below meth c H1 locs1 0 0 Q (F0 m (pc + 3) ls rest)) : W p l e R s m args below meth c H locs 0 0 Q (F0 m pc ls (.int n :: .int dp :: .ref (ad (7 + 2 * j)) :: .int sp :: .ref (ad (7 + 2 * j)) :: rest)) :=
  va_copyi (D := D) (tys := [(cy, .int)]) (ty := .int) hF.1 hF.2.1 hml hF.2.2.2.1 (hF.2.2.2.2 _ hlink) (hF.2.2.2.2 _ h1) (hF.2.2.2.2 _ h2) (hF.2.2.2.2 _ h3) hK.1 hw.2.1 hw.2.2 hS (7 + 2 * j) (7 + 2 * j) 0 0 (cs_gA cy ad S j hj) (cs_gA cy ad S j hj) rfl rfl rfl g1 g2 g3 g4 g5 (fun _ _ => rfl) hfr hlo hdg (fun H locs hP hD hS => kk _ H locs rfl ⟨cs_sR_ok hw.1 (hw.1.1 j hj) (fun e k => cs_cpy3 (e ▸ hw.1.2.1) k), cs_setA cy ad S _ j hj ▸ hP, cs_setA cy ad S _ j hj ▸ hD⟩ hS)
theorem cs_getN {C host : String} {T : u_T} {N ci index : Nat} (hF : CallFix p m c cc nL s args cs_WS own) (hin : ∀ w ∈ u_ws C T N, w ∈ cs_WS) (hw : cs_w D cy ad S H) (hK : cs_K D cy s) (q0 : Nat) {a : Nat} {fs : List Value} (he : (cs_W cy ad S)[q0]? = some (a, .inr (ci, fs))) (hc : cs_cl[ci]? = some (C, T, N)) (k : Nat) (hk : k < N) (hlink : (own, index, (T k).1, (T k).2.1, (T k).2.2.1, host) ∈ cs_nw) {v : Value} (hv : fs[k]? = some v) (hdg : decode cc pc = .ok (.getfield index, 3))
    (kk : W p l e R s m args below meth c H locs 0 0 Q (F0 m (pc + 3) ls (v :: rest))) : W p l e R s m args below meth c H locs 0 0 Q (F0 m pc ls (.ref a :: rest)) :=
  va_getN (D := D) (C := C) (T := T) (N := N) (host := host) hF.1 hF.2.1 hF.2.2.2.2 hin hF.2.2.2.1 hK.1 hw.2.1 q0 he hc k hk (va_Nw.use rfl (hK.2.1 _ hlink)) (fun _ h => h) hv hdg kk
theorem cs_aret {post : cs_St → Prop} {k : Nat} {cn : String} (hF : CallFix p m c cc nL s args cs_WS own) (hr : meth.sig.returnType = some (.object cn)) (hlk : meth.locks = false) (hw : cs_w D cy ad S H) (hK : cs_K D cy s) (hS : va_S (cs_A ad) s.heap H locs) (hdg : decode cc pc = .ok (.areturn, 1)) (hp : post S) : W p l e R s m args below meth c H locs 0 0 (MQ below (cs_Qr D cy ad k post) args s 0 0 (cs_A ad)) (F0 m pc ls [.ref (ad k)]) :=
  W.aret (v := .ref (ad k)) hF.1 hF.2.1 hr (Or.inl ⟨_, rfl⟩) (Or.inr ⟨_, rfl⟩) (fun t ht hW => ⟨⟨S, ad k, rfl, hp, rfl, by rw [ht]; exact hw, cs_K.moved hW hK⟩, hS.F ht⟩) hS.2.2 hdg hlk
theorem cs_vr {y : MethodName} {bytes : ByteArray} {maxL n index : Nat} {ret : Option FieldType} {rm : Room} {C : String} {b : Addr} {As : List Value} {v : cs_St} {k : Nat} {st : List Value} (hF : CallFix p m c cc nL s args cs_WS own)
    (hM : Met l y (cs_ws y bytes maxL ret) rm (cs_Pc D cy ad (.ref b :: As) S) (cs_Qr D cy ad k (fun S1 => S1 = v)) 0 0 (cs_A ad)) (cw : CallW R s args own C index y bytes maxL ret (cs_ws y bytes maxL ret) rm 0 0 n) (hv : ∃ cell : Cell, H[b]? = some cell ∧ cell.vm.isStatics = false ∧ s.vm.findClass C = some cell.cls)
    (hw : cs_w D cy ad S H) (hK : cs_K D cy s) (hS : va_S (cs_A ad) H0 H locs) (hn : As.length = n) (hl : ls.size = nL) (rest : List Value) (hst : st = As.reverse ++ .ref b :: rest) (h8 : (rest.map fun v => v.category).sum ≤ 8) (hdg : decode cc pc = .ok (.invokevirtual index, 3))
    (kk : ∀ (S1 : cs_St) (H1 : Heap) (locs1 : List Loc), S1 = v → cs_w D cy ad S1 H1 → va_S (cs_A ad) H0 H1 locs1 → W p l e R s m args below meth c H1 locs1 0 0 Q (F0 m (pc + 3) ls (.ref (ad k) :: rest))) : W p l e R s m args below meth c H locs 0 0 Q (F0 m pc ls st) :=
  va_callr (va_runV (As := As) (rest := rest) hF hM cw ⟨cs_blind, hv, fun U hU hW => ⟨rfl, by rw [hU]; exact hw, cs_K.moved hW hK⟩⟩ rfl hn hl hst (lv_room h8) hdg ⟨Nat.zero_le _, Nat.zero_le _⟩) hS (fun _ _ h => h) (fun _ h => h) (fun u ra t H1 locs ht _ hp hB _ _ hS => by
    obtain ⟨rfl, hB⟩ := hB
    exact kk u H1 locs hp (by rw [← ht]; exact hB.1) hS)
end CSW

def cs_N : Nat := 4294967296
theorem cs_add1 {v : Int32} (h : v.toInt < 2147483647) : (v + 1).toInt = v.toInt + 1 := by
  rw [Int32.toInt_add]
  show Int.bmod (v.toInt + 1) (2 ^ 32) = v.toInt + 1
  have h0 := Int32.le_toInt v
  rw [Int.bmod_eq_of_le] <;> omega
theorem cs_sub1 {v : Int32} (h : -2147483648 < v.toInt) : (v + (-1)).toInt = v.toInt - 1 := by
  rw [Int32.toInt_add]
  show Int.bmod (v.toInt + -1) (2 ^ 32) = v.toInt - 1
  have h0 := Int32.toInt_lt v
  rw [Int.bmod_eq_of_le] <;> omega
theorem cs_up2 {v t : Int32} {n : Nat} (h : 2147483647 - v.toInt < ((n + 1 : Nat) : Int)) (c : v < t) : 2147483647 - (v + 1).toInt < (n : Int) ∧ 0 < n := by
  have h1 := Int32.lt_iff_toInt_lt.mp c
  have h2 := Int32.toInt_lt t
  rw [cs_add1 (by omega)]
  omega
theorem cs_up {v t : Int32} {n : Nat} (h : 2147483647 - v.toInt < ((n + 1 : Nat) : Int)) (c : ¬ t ≤ v) : 2147483647 - (v + 1).toInt < (n : Int) ∧ 0 < n := cs_up2 h (Int32.not_le.mp c)
theorem cs_up0 (v : Int32) : 2147483647 - v.toInt < ((cs_N : Nat) : Int) ∧ 0 < cs_N := by
  have h := Int32.le_toInt v
  have h2 : ((cs_N : Nat) : Int) = 4294967296 := rfl
  exact ⟨by omega, by decide⟩
theorem cs_dn {v : Int32} {n : Nat} (h : v.toInt + 1 < ((n + 1 : Nat) : Int)) (c : ¬ v < 0) : (v + (-1)).toInt + 1 < (n : Int) ∧ 0 < n := by
  have h1 : ¬ v.toInt < 0 := fun z => c (Int32.lt_iff_toInt_lt.mpr z)
  rw [cs_sub1 (by omega)]
  omega
theorem cs_dn0 (v : Int32) : v.toInt + 1 < ((cs_N : Nat) : Int) ∧ 0 < cs_N := by
  have h := Int32.toInt_lt v
  have h2 : ((cs_N : Nat) : Int) = 4294967296 := rfl
  exact ⟨by omega, by decide⟩
theorem cs_sR_1 {S : cs_St} {i : Nat} {r : cs_R} : (cs_sR S i r).1 i = r := if_pos rfl
theorem cs_sR_2 {S : cs_St} {i k : Nat} {r : cs_R} (h : k ≠ i) : (cs_sR S i r).1 k = S.1 k := if_neg h
theorem cs_ltU {j u : Nat} (hu : u ≤ cs_cap j) (h : ¬ nI (cs_cap j) ≤ nI u) : u + 1 ≤ cs_cap j := by
  have hc := cs_cap_le j
  rw [nI_leI (by omega) (by omega)] at h
  omega
theorem cs_opn {j u : Nat} {a w : Int32} (hu : u ≤ cs_cap j) (c1 : ¬ a < 0) (c2 : ¬ nI u < a) (c3 : ¬ w ≤ 0) (c4 : ¬ nI (cs_cap j) - nI u < w) :
    ¬ a + w < 0 ∧ ¬ nI u - a < 0 ∧ a.toNatClampNeg + (nI u - a).toNatClampNeg ≤ cs_cap j ∧ (a + w).toNatClampNeg + (nI u - a).toNatClampNeg ≤ cs_cap j ∧ nI u + w = nI (u + w.toNatClampNeg) ∧ u + w.toNatClampNeg ≤ cs_cap j := by
  have hc := cs_cap_le j
  obtain ⟨p, hp, rfl⟩ := nI_of c1
  have c3' : ¬ w < 0 := fun z => c3 (Int32.le_of_lt z)
  obtain ⟨n, hn, rfl⟩ := nI_of c3'
  rw [nI_ltI (by omega) hp] at c2
  rw [pk_sub hu, nI_ltI (by omega) hn] at c4
  have h1 : p ≤ u := by omega
  have h2 : n ≤ cs_cap j - u := by omega
  rw [pk_sub h1, nI_add, nI_add, nI_clamp (by omega), nI_clamp (by omega), nI_clamp (by omega), nI_clamp (by omega)]
  exact ⟨nI_pos (by omega), nI_pos (by omega), by omega, by omega, rfl, by omega⟩
theorem cs_ctt {j u : Nat} {a b : Int32} (hu : u ≤ cs_cap j) (c1 : ¬ a < 0) (c2 : ¬ b ≤ a) (c3 : ¬ nI u < b) :
    ¬ b < 0 ∧ ¬ nI u - b < 0 ∧ b.toNatClampNeg + (nI u - b).toNatClampNeg ≤ cs_cap j ∧ a.toNatClampNeg + (nI u - b).toNatClampNeg ≤ cs_cap j ∧ nI u - (b - a) = nI (u - (b - a).toNatClampNeg) ∧ u - (b - a).toNatClampNeg ≤ cs_cap j := by
  have hc := cs_cap_le j
  obtain ⟨p, hp, rfl⟩ := nI_of c1
  have c4 : ¬ b < 0 := fun z => c2 (Int32.le_of_lt (Int32.lt_of_lt_of_le z (nI_pos' hp)))
  obtain ⟨n, hn, rfl⟩ := nI_of c4
  rw [nI_leI hn hp] at c2
  rw [nI_ltI (by omega) hn] at c3
  have h1 : n ≤ u := by omega
  have h2 : p ≤ n := by omega
  rw [pk_sub h1, pk_sub h2, nI_clamp hn, nI_clamp (by omega), nI_clamp (by omega), nI_clamp (by omega), pk_sub (by omega)]
  exact ⟨nI_pos hn, nI_pos (by omega), by omega, by omega, rfl, by omega⟩
theorem cs_nn {v t : Int32} (h : ¬ v < 0) (c : ¬ t ≤ v) : ¬ v + 1 < 0 := by
  have h1 : ¬ v.toInt < 0 := fun z => h (Int32.lt_iff_toInt_lt.mpr z)
  have h2 := Int32.lt_iff_toInt_lt.mp (Int32.not_le.mp c)
  have h3 := Int32.toInt_lt t
  intro z
  have h4 := Int32.lt_iff_toInt_lt.mp z
  rw [cs_add1 (by omega), show (0 : Int32).toInt = 0 from rfl] at h4
  omega
theorem cs_up3 {v t : Int32} {n : Nat} (h : 2147483647 - v.toInt < ((n + 1 : Nat) : Int)) (c : ¬ t < v) (g : t ≤ 3) : 2147483647 - (v + 1).toInt < (n : Int) ∧ 0 < n := by
  have h1 := Int32.le_iff_toInt_le.mp (Int32.not_lt.mp c)
  have h2 := Int32.le_iff_toInt_le.mp g
  have h3 : (3 : Int32).toInt = 3 := rfl
  rw [cs_add1 (by omega)]
  omega
theorem cs_bl {r : Int32} (h : r = 0 ∨ r = 1) : narrow .boolean (.int r) = .int r := by
  rcases h with rfl | rfl <;> rfl
theorem cs_up5 {v t : Int32} {n : Nat} (h : 2147483647 - v.toInt < ((n + 1 : Nat) : Int)) (c : ¬ t < v) (g : t ≤ 513) : 2147483647 - (v + 1).toInt < (n : Int) ∧ 0 < n := by
  have h1 := Int32.le_iff_toInt_le.mp (Int32.not_lt.mp c)
  have h2 := Int32.le_iff_toInt_le.mp g
  have h3 : (513 : Int32).toInt = 513 := rfl
  rw [cs_add1 (by omega)]
  omega
theorem cs_le5 {S : cs_St} (h : cs_ok S) (j : Nat) (hj : j < 19) : nI (S.1 j).2 ≤ 513 := by
  have h1 := h.1 j hj
  have h2 := cs_cap_le j
  show nI (S.1 j).2 ≤ nI 513
  exact nI_le (by omega) (by decide)
theorem cs_at13' {S : cs_St} (h : cs_ok S) {x : Int32} : (if x < 0 then (0 : Int32) else if nI (cs_cap 13) ≤ x then 0 else (S.1 13).1 x.toNatClampNeg) ≤ 3 := by
  split
  · decide
  · split
    · decide
    · exact h.2.1 _
