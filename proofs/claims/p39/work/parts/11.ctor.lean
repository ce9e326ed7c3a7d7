/-! constructors: a world that grows -/
def ct_Pc (D : va_G) (cy : ClassId) (av : List Value) (h0 : Nat) (e : va_E) (sz : Nat) : Array Value → State → Prop := va_Pc av (fun U => U.heap.size = sz ∧ va_P D cs_cl [(h0, e)] U.heap ∧ cs_K D cy U)
def ct_Q (D : va_G) (cy : ClassId) (h0 : Nat) (e : va_E) (sz : Nat) (w : (Nat → Nat) → va_W) : Array Value → State → Outcome → State → Prop := va_Qv (fun _ : Nat → Nat => True) (fun ad t => va_P D cs_cl (w ad) t.heap ∧ va_D (va_A [(h0, e)] sz) (w ad)) (va_A [(h0, e)] sz)
abbrev ct_rm (f L c n : Nat) : Room := { frames := f, cells := c, slots := n, locals := L }
section CTW
variable {p : Program} {l : Launch} {e : Env} {R : Room} {s : State} {m : MethodId} {args : Array Value} {below : List Frame} {meth : Method} {c : Code} {H H0 : Heap} {locs : List Loc} {Q : State → Prop} {D : va_G} {cy : ClassId} {pc : Nat} {ls : Array Slot} {rest : List Value} {cc : ByteArray} {nL : Nat} {own : String} {A : Nat → Prop} {ws wr : va_W} {cells slots : Nat}
theorem ct_of {y : MethodName} {maxL : Nat} {rm : Room} {As : List Value} {h0 : Nat} {e0 : va_E} {sz mc ms : Nat} {Qc : Array Value → State → Outcome → State → Prop} (own : String) (hy : plainName y.cls = true) (ho : y.cls = own) (hi : y.name = "<init>") (hn : (lg_sl (.ref h0 :: As)).length ≤ maxL)
    (body : ∀ (p : Program) (e : Env) (s : State) (m : MethodId) (below : List Frame) (meth : Method) (c : Code), CallFix p m c cc maxL s (Value.ref h0 :: As).toArray cs_WS own → meth.sig.returnType = none → meth.locks = false → meth.name = "<init>" → s.heap.size = sz → va_P D cs_cl [(h0, e0)] s.heap → va_D (va_A [(h0, e0)] sz) [(h0, e0)] → cs_K D cy s → ∀ ls, lv_has ls maxL (lv_args 0 (.ref h0 :: As)) →
      W p l e rm s m (Value.ref h0 :: As).toArray below meth c s.heap [] 0 0 (MQ below Qc (Value.ref h0 :: As).toArray s mc ms (va_A [(h0, e0)] sz)) (F0 m 0 ls [])) :
    Met l y (cs_ws y cc maxL none) rm (ct_Pc D cy (.ref h0 :: As) h0 e0 sz) Qc mc ms (va_A [(h0, e0)] sz) := by
  refine Met.ofW (cc := cc) (maxL := maxL) (ret := none) hy rfl ?_
  intro p e s m args below meth c s₁ B hml hv
  obtain ⟨rfl, hsz, hP, hK⟩ := hv
  have hts := atoms_spec (ws := cs_ws y cc maxL none) B.pre
  have hown : s.vm.findClass y.cls = some m.cls := findClass_of_methodNamed B.named
  have hin : meth.name = y.name := (name_of_methodNamed B.named B.method).1
  have hl := lv_entry (.ref h0 :: As) (n := maxL) hn
  rw [lg_entry_eq]
  have hD : va_D (va_A [(h0, e0)] sz) [(h0, e0)] := by
    refine ⟨fun i j p q h1 h2 _ => ?_, fun k q h => va_A.in h⟩
    have a1 := (List.getElem?_eq_some_iff.mp h1).1
    have a2 := (List.getElem?_eq_some_iff.mp h2).1
    simp at a1 a2
    omega
  exact body p e s m below meth c ⟨B.exec, B.bytes, hml, by rw [← ho]; exact hown, fun w h => hts w (List.mem_cons_of_mem _ h)⟩ B.returns B.notSynchronized (hin.trans hi) hsz hP hD hK _ hl
theorem ct_call {y : MethodName} {bytes : ByteArray} {maxL n index mc ms sz : Nat} {rm : Room} {b : Nat} {e0 : va_E} {As st : List Value} {w : (Nat → Nat) → va_W} (hF : CallFix p m c cc nL s args cs_WS own)
    (hM : Met l y (cs_ws y bytes maxL none) rm (ct_Pc D cy (.ref b :: As) b e0 sz) (ct_Q D cy b e0 sz w) mc ms (va_A [(b, e0)] sz)) (hsz : H.size = sz) (cw : CallB R s args own index y bytes maxL none (cs_ws y bytes maxL none) rm mc ms n ∧ y.name = "<init>" ∧ (Cond.instanceMethod y).before args s = true)
    (hK : cs_K D cy s) (hP : va_P D cs_cl ws H) (hD : va_D A ws) (hS : va_S A H0 H locs) (hA : ∀ q, H0.size ≤ q → A q) (i0 : Nat) (he : ws[i0]? = some (b, e0)) (isR : List Nat) (hR : isR.map (fun i => ws[i]?) = wr.map some) (hnd : va_nd isR = true) (hdis : ∀ i ∈ isR, i ∉ [i0])
    (hn : As.length = n) (hl : ls.size = nL) (rest : List Value) (hst : st = As.reverse ++ .ref b :: rest) (h8 : (rest.map fun v => v.category).sum ≤ 8) (hdg : decode cc pc = .ok (.invokespecial index, 3)) (hf : cells + mc ≤ R.cells ∧ slots + ms ≤ R.slots)
    (kk : ∀ (ad : Nat → Nat) (H1 : Heap) (locs1 : List Loc), va_P D cs_cl (wr ++ w ad) H1 → va_D A (wr ++ w ad) → va_S A H0 H1 locs1 → W p l e R s m args below meth c H1 locs1 (cells + mc) (slots + ms) Q (F0 m (pc + 3) ls rest)) : W p l e R s m args below meth c H locs cells slots Q (F0 m pc ls st) := by
  subst hsz
  have hC : [i0].map (fun i => ws[i]?) = [(b, e0)].map some := by simp [he]
  have hFc := va_free (wc := [(b, e0)]) hD hS hA [i0] hC
  have hPc : va_P D cs_cl [(b, e0)] H := fun k q hk => by
    have := (List.getElem?_eq_some_iff.mp hk).1
    simp at this
    subst this
    cases hk
    exact hP i0 _ he
  refine va_callv (va_runI (As := As) (rest := rest) hF hM cw ⟨fun _ U g mk q => ⟨q.1, q.2.1, q.2.2.1, cs_K.same (u := U) (U := U.calling g mk _) rfl q.2.2.2⟩, fun U hU hW => ⟨rfl, by rw [hU], by rw [hU]; exact hPc, cs_K.moved hW hK⟩⟩ rfl hn hl hst (lv_room h8) hdg hf) hS (fun q _ h => hFc q h) hFc (fun u t H1 locs ht hvm _ hB hz1 hk1 hS => ?_)
  obtain ⟨hP1, hD1⟩ := hB
  rw [ht] at hP1
  obtain ⟨hP, hD⟩ := va_join (wr := wr) (w1 := w u) hP hD [i0] isR hC hR hnd hdis hk1 hFc hP1 hD1
  exact kk u H1 locs hP hD hS
theorem ct_callN {y : MethodName} {bytes : ByteArray} {maxL n index mc ms sz : Nat} {rm : Room} {b : Nat} {host : String} {e0 : va_E} {As st : List Value} {w : (Nat → Nat) → va_W} (hF : CallFix p m c cc nL s args cs_WS own)
    (hM : Met l y (cs_ws y bytes maxL none) rm (ct_Pc D cy (.ref b :: As) b e0 sz) (ct_Q D cy b e0 sz w) mc ms (va_A [(b, e0)] sz)) (hsz : H.size = sz) (cw : va_CN R s args own index y host bytes maxL none (cs_ws y bytes maxL none) rm mc ms n ∧ y.name = "<init>" ∧ (Cond.instanceMethod y).before args s = true)
    (hK : cs_K D cy s) (hP : va_P D cs_cl ws H) (hD : va_D A ws) (hS : va_S A H0 H locs) (hA : ∀ q, H0.size ≤ q → A q) (i0 : Nat) (he : ws[i0]? = some (b, e0)) (isR : List Nat) (hR : isR.map (fun i => ws[i]?) = wr.map some) (hnd : va_nd isR = true) (hdis : ∀ i ∈ isR, i ∉ [i0])
    (hn : As.length = n) (hl : ls.size = nL) (rest : List Value) (hst : st = As.reverse ++ .ref b :: rest) (h8 : (rest.map fun v => v.category).sum ≤ 8) (hdg : decode cc pc = .ok (.invokespecial index, 3)) (hf : cells + mc ≤ R.cells ∧ slots + ms ≤ R.slots)
    (kk : ∀ (ad : Nat → Nat) (H1 : Heap) (locs1 : List Loc), va_P D cs_cl (wr ++ w ad) H1 → va_D A (wr ++ w ad) → va_S A H0 H1 locs1 → W p l e R s m args below meth c H1 locs1 (cells + mc) (slots + ms) Q (F0 m (pc + 3) ls rest)) : W p l e R s m args below meth c H locs cells slots Q (F0 m pc ls st) := by
  subst hsz
  have hC : [i0].map (fun i => ws[i]?) = [(b, e0)].map some := by simp [he]
  have hFc := va_free (wc := [(b, e0)]) hD hS hA [i0] hC
  have hPc : va_P D cs_cl [(b, e0)] H := fun k q hk => by
    have := (List.getElem?_eq_some_iff.mp hk).1
    simp at this
    subst this
    cases hk
    exact hP i0 _ he
  refine va_callv (va_runIN (As := As) (rest := rest) hF hM cw ⟨fun _ U g mk q => ⟨q.1, q.2.1, q.2.2.1, cs_K.same (u := U) (U := U.calling g mk _) rfl q.2.2.2⟩, fun U hU hW => ⟨rfl, by rw [hU], by rw [hU]; exact hPc, cs_K.moved hW hK⟩⟩ rfl hn hl hst (lv_room h8) hdg hf) hS (fun q _ h => hFc q h) hFc (fun u t H1 locs ht hvm _ hB hz1 hk1 hS => ?_)
  obtain ⟨hP1, hD1⟩ := hB
  rw [ht] at hP1
  obtain ⟨hP, hD⟩ := va_join (wr := wr) (w1 := w u) hP hD [i0] isR hC hR hnd hdis hk1 hFc hP1 hD1
  exact kk u H1 locs hP hD hS
theorem ct_vret {h0 : Nat} {e0 : va_E} {sz : Nat} {w : (Nat → Nat) → va_W} (hF : CallFix p m c cc nL s args cs_WS own) (hr : meth.sig.returnType = none) (hlk : meth.locks = false) (hS : va_S (va_A [(h0, e0)] sz) s.heap H locs) (hdg : decode cc pc = .ok (.return_, 1)) (ad : Nat → Nat) (hP : va_P D cs_cl (w ad) H) (hD : va_D (va_A [(h0, e0)] sz) (w ad)) : W p l e R s m args below meth c H locs cells slots (MQ below (ct_Q D cy h0 e0 sz w) args s cells slots (va_A [(h0, e0)] sz)) (F0 m pc ls []) :=
  W.vret hF.1 hF.2.1 hr (fun t ht hW => ⟨⟨ad, rfl, trivial, by rw [ht]; exact hP, hD⟩, hS.F ht⟩) hS.2.2 hdg hlk
theorem ct_goodI {y : MethodName} {c : ByteArray} {n : Nat} {r : Option FieldType} (h5 : Cond.code y c n r ∈ cs_WS) : GoodIn cs_WS (cs_ws y c n r) := goodIn_sub' (fun w hw => by
  rcases List.mem_cons.mp hw with rfl | h
  · exact h5
  · exact h)
theorem ct_cy {cl : List vw_C} {cA : ClassId} (h : va_K D cl ([(cy, .int)] ++ [(cA, .int)]) s) : cA = cy := by
  have h1 := (h.2 0 (cy, .int) rfl).2
  have h2 := (h.2 1 (cA, .int) rfl).2
  exact Option.some.inj (h2.symm.trans h1)
theorem ct_cyK {cl : List vw_C} (h : va_K D cl [] s) {args : Array Value} (ha : (Cond.arrayClass .int).before args s = true) : ∃ cy, va_K D cl [(cy, .int)] s := by
  obtain ⟨cA, kA, comp, h1, h2, h3⟩ := Cond.arrayClass_spec ha
  refine ⟨cA, h.1, fun k q hq => ?_⟩
  have := (List.getElem?_eq_some_iff.mp hq).1
  simp at this
  subst this
  cases hq
  exact ⟨fun n z => ⟨fun k h => (by cases h), kA, h2, comp, h3⟩, h1⟩
end CTW
