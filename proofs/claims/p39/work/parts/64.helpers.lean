/-! the law's helpers: below and cell -/
theorem and_nn (v : Int32) : ¬ (v &&& 2147483647) < 0 := by
  intro h
  have h1 := Int32.lt_iff_toInt_lt.mp h
  have e2 : ((0 : Int32)).toInt = 0 := by decide
  have e : (v &&& 2147483647).toInt = (v.toBitVec &&& 2147483647#32).toInt := rfl
  have hm : (v.toBitVec &&& 2147483647#32).msb = false := by
    rw [BitVec.msb_and, show (2147483647#32).msb = false by decide, Bool.and_false]
  rw [e, e2, BitVec.toInt_eq_msb_cond, hm] at h1
  simp at h1
  omega
theorem nI_div {a n : Nat} (ha : a < 2 ^ 31) (h0 : 0 < n) (hn : n < 2 ^ 31) : nI a / nI n = nI (a / n) := by
  have hq : a / n ≤ a := Nat.div_le_self a n
  apply Int32.toInt_inj.mp
  rw [Int32.toInt_div, nI_toInt ha, nI_toInt hn, nI_toInt (by omega), Int.tdiv_eq_ediv_of_nonneg (by omega), ← Int.natCast_ediv]
  generalize a / n = q at hq ⊢
  rw [Int.bmod_eq_of_le (by omega) (by omega)]
theorem nI_rem {a n : Nat} (ha : a < 2 ^ 31) (h0 : 0 < n) (hn : n < 2 ^ 31) : nI a - nI a / nI n * nI n = nI (a % n) := by
  rw [nI_div ha h0 hn, nI_mul]
  have h : nI a = nI (a / n * n) + nI (a % n) := by rw [nI_add, Nat.mul_comm, Nat.div_add_mod]
  rw [show nI a - nI (a / n * n) = nI (a / n * n) + nI (a % n) - nI (a / n * n) by rw [← h], i32_as]
section HLP
variable {p : Program} {l : Launch} {e : Env} {R : Room} {s : State} {m : MethodId} {args : Array Value} {below : List Frame} {meth : Method} {c : Code} {H H0 : Heap} {locs : List Loc} {Q : State → Prop} {D : va_G} {cy : ClassId} {ad : Nat → Nat} {S : cs_St} {pc : Nat} {ls : Array Slot} {rest : List Value} {cc : ByteArray} {nL : Nat} {own : String} {Y : va_W} {A0 : Nat → Prop} {cells slots : Nat}
set_option maxHeartbeats 4000000 in
set_option maxRecDepth 100000 in
theorem c_L_below (l : Launch) (D : va_G) (cy : ClassId) (ad : Nat → Nat) (S : cs_St) (v : Int32) (n : Nat) (h0 : 0 < n) (hn : n < 2 ^ 31) : Met l yL_below (cl_ws yL_below cL_below 2 (some .int)) (cs_rm 0 0) (cs_Pc D cy ad [.int v, .int (nI n)] S) (cs_Qi D cy ad (fun r S1 => (∃ j, j < n ∧ r = nI j) ∧ S1 = S)) 0 0 (cs_A ad) := by
  refine cl_of RL (by decide) rfl (Nat.le_of_ble_eq_true rfl) ?_
  intro p e s m below meth c hF hL hr hlk hw hK ls hl
  obtain ⟨hx, hb, hml, hown, hts⟩ := id hF
  have hS : va_S (cs_A ad) s.heap s.heap [] := va_S.rf
  have hl : lv_has ls 2 [(0, .int v), (1, .int (nI n))] := hl
  refine lv_iload_n hx hb dL_below_0 rfl (lv_at hl 0 rfl) ?_
  refine lv_ldc (v := 2147483647) hx hb hown (hL _ ql_1) dL_below_1 ?_
  refine lv_iand hx hb dL_below_3 ?_
  obtain ⟨a, ha, hae⟩ := nI_of (and_nn v)
  rw [hae]
  refine lv_iload_n hx hb dL_below_4 rfl (lv_at hl 1 rfl) ?_
  refine lv_irem hx hb dL_below_5 (nI_ne0 h0 hn) ?_
  rw [nI_rem ha h0 hn]
  exact cs_iret hF hr hlk hw hK hS dL_below_6 ⟨⟨_, Nat.mod_lt a h0, rfl⟩, rfl⟩
theorem kk_L_below : yL_below.cls ≠ "java/lang/invoke/MethodHandle" ∧ yL_below.cls ≠ "java/lang/invoke/VarHandle" ∧ (parseMethodDescriptor yL_below.desc).map (fun d => d.parameters.length) = some 2 := by decide +kernel
theorem kk_L_cell : yL_cell.cls ≠ "java/lang/invoke/MethodHandle" ∧ yL_cell.cls ≠ "java/lang/invoke/VarHandle" ∧ (parseMethodDescriptor yL_cell.desc).map (fun d => d.parameters.length) = some 2 := by decide +kernel
abbrev cl_PcX (D : va_G) (cy : ClassId) (ad : Nat → Nat) (av : List Value) (S : cs_St) (a n : Nat) (xs : Nat → Int32) : Array Value → State → Prop := va_Pc av (fun U => cs_B D cy ad S U ∧ va_X a n xs U U.heap)
theorem cl_blindX {av : List Value} {a n : Nat} {xs : Nat → Int32} : FrameBlind (cl_PcX D cy ad av S a n xs) := fun z U g mk q => ⟨q.1, ⟨q.2.1.1, cs_K.same (u := U) (U := U.calling g mk z) rfl q.2.1.2⟩, va_X.moved (u := U) (U := U.calling g mk z) (Vm.Alike.refl U.vm) q.2.2⟩
set_option maxHeartbeats 4000000 in
set_option maxRecDepth 100000 in
theorem c_L_cell (l : Launch) (D : va_G) (cy : ClassId) (ad : Nat → Nat) (S : cs_St) (a n : Nat) (xs : Nat → Int32) (k : Nat) (hk : k < 2 ^ 31) (hn : n < 2 ^ 31) (ha : ¬ cs_A ad a) : Met l yL_cell (cl_ws yL_cell cL_cell 2 (some .int)) (cs_rm 0 0) (cl_PcX D cy ad [.ref a, .int (nI k)] S a n xs) (cs_Qi D cy ad (fun _ S1 => S1 = S)) 0 0 (cs_A ad) := by
  refine Met.ofW (cc := cL_cell) (maxL := 2) (ret := some .int) (by decide) rfl ?_
  intro p e s m args below meth c s₁ B hml hv
  obtain ⟨rfl, ⟨hw, hK⟩, hX⟩ := hv
  have hL := atoms_spec (ws := cl_ws yL_cell cL_cell 2 (some .int)) B.pre
  have hL : ∀ w ∈ cs_WL, w.before _ s = true := fun w h => hL w (List.mem_cons_of_mem _ h)
  have hown : s.vm.findClass RL = some m.cls := findClass_of_methodNamed B.named
  have hF : CallFix p m c cL_cell 2 s ([.ref a, .int (nI k)] : List Value).toArray cs_WS RL := ⟨B.exec, B.bytes, hml, hown, fun w h => hL w (ql_w h)⟩
  have hr := B.returns
  have hlk := B.notSynchronized
  obtain ⟨hx, hb, -, -, -⟩ := id hF
  have hl := lv_entry ([.ref a, .int (nI k)]) (n := 2) (Nat.le_of_ble_eq_true rfl)
  rw [lg_entry_eq]
  generalize (lg_sl ([.ref a, .int (nI k)]) ++ List.replicate (2 - (lg_sl ([.ref a, .int (nI k)])).length) Slot.unset).toArray = ls at hl ⊢
  have hl : lv_has ls 2 [(0, .ref a), (1, .int (nI k))] := hl
  have hS : va_S (cs_A ad) s.heap s.heap [] := va_S.rf
  have hal : a < s.heap.size := (Array.getElem?_eq_some_iff.mp hX.choose_spec.1).1
  refine lv_iload_n hx hb dL_cell_0 rfl (lv_at hl 1 rfl) ?_
  refine lv_aload_n hx hb dL_cell_1 rfl (lv_at hl 0 rfl) ?_
  refine va_slen hx hb hX hal ha hS dL_cell_2 ?_
  refine lv_icmp_ge (tgt := 12) hx hb dL_cell_3 (by decide) (fun _ => ?_) (fun c1 => ?_)
  · refine lv_ldc (v := 790386105) hx hb hown (hL _ ql_3) dL_cell_12 ?_
    refine lv_iload_n hx hb dL_cell_14 rfl (lv_at hl 1 rfl) ?_
    refine lv_iconst (v := 3) hx hb dL_cell_15 (by decide) ?_
    refine lv_iadd hx hb dL_cell_16 ?_
    refine lv_imul hx hb dL_cell_17 ?_
    exact cs_iret hF hr hlk hw hK hS dL_cell_18 rfl
  · have hkn : k < n := Nat.lt_of_not_le fun z => c1 (nI_le z hk)
    refine lv_aload_n hx hb dL_cell_6 rfl (lv_at hl 0 rfl) ?_
    refine lv_iload_n hx hb dL_cell_7 rfl (lv_at hl 1 rfl) ?_
    refine va_sld hx hb hX hal ha hS (nI_in hkn hn) dL_cell_8 ?_
    refine lv_goto (tgt := 18) hx hb dL_cell_9 (by decide) ?_
    exact cs_iret hF hr hlk hw hK hS dL_cell_18 rfl
/-- a call of a helper of the law's own -/
theorem lw_s {y : MethodName} {bytes : ByteArray} {maxL n index : Nat} {ret : Option FieldType} {rm : Room} {ws : List Cond} {As : List Value} {Pc : Array Value → State → Prop} {post : Int32 → cs_St → Prop} {st : List Value} (hF : CallFix p m c cc nL s args cs_WS own)
    (hM : Met l y ws rm Pc (cs_Qi D cy ad post) 0 0 (cs_A ad)) (cw : CallB R s args own index y bytes maxL ret ws rm 0 0 n ∧ (Cond.static y).before args s = true) (hp : PreS s H Pc As)
    (h : LW D cy ad S Y A0 H) (hS : va_S A0 H0 H locs) (hcs : cells ≤ R.cells ∧ slots ≤ R.slots) (hn : As.length = n) (hl : ls.size = nL) (rest : List Value) (hst : st = As.reverse ++ rest) (h8 : (rest.map fun v => v.category).sum ≤ 8) (hdg : decode cc pc = .ok (.invokestatic index, 3))
    (kk : ∀ (r : Int32) (S1 : cs_St) (H1 : Heap) (locs1 : List Loc), post r S1 → LW D cy ad S1 Y A0 H1 → va_S A0 H0 H1 locs1 → W p l e R s m args below meth c H1 locs1 cells slots Q (F0 m (pc + 3) ls (.int r :: rest))) : W p l e R s m args below meth c H locs cells slots Q (F0 m pc ls st) :=
  va_calli (va_runS (As := As) (rest := rest) hF hM cw hp rfl hn hl hst (lv_room h8) hdg hcs) hS (fun q _ z => h.A q z) h.A (fun r u t H1 locs ht _ hp hB hz hk hS => kk r u H1 locs hp (h.call (by rw [← ht]; exact hB.1) ⟨hz, hk⟩) hS)
theorem lw_preS {av : List Value} (h : LW D cy ad S Y A0 H) (hK : cs_K D cy s) : PreS s H (cs_Pc D cy ad av S) av := ⟨cs_blind, fun U hU hW => ⟨rfl, by rw [hU]; exact h.w, cs_K.moved hW hK⟩⟩
theorem lw_preX {av : List Value} {a n : Nat} {xs : Nat → Int32} (h : LW D cy ad S Y A0 H) (hK : cs_K D cy s) (hX : va_X a n xs s H0) (hbl : a < H0.size) (hbA : ¬ A0 a) (hS : va_S A0 H0 H locs) : PreS s H (cl_PcX D cy ad av S a n xs) av :=
  ⟨cl_blindX, fun U hU hW => ⟨rfl, ⟨by rw [hU]; exact h.w, cs_K.moved hW hK⟩, by rw [hU]; exact (hX.moved hW.alike).kept (hS.2.1 a hbl hbA)⟩⟩
end HLP
