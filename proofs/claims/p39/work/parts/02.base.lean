/-! the state of the class: 19 rows (what they hold, how many are used) and 9 numbers; its world is 44 cells -/
abbrev cs_R : Type := (Nat → Int32) × Nat
abbrev cs_St : Type := (Nat → cs_R) × (Nat → Int32)
def cs_cap : Nat → Nat
  | 0 => 6
  | 1 => 6
  | 2 => 4
  | 3 => 40
  | 4 => 40
  | 5 => 513
  | 6 => 513
  | 7 => 512
  | 8 => 4
  | 9 => 4
  | 10 => 512
  | 11 => 512
  | 12 => 512
  | 13 => 512
  | 14 => 512
  | 15 => 512
  | 16 => 4
  | 17 => 513
  | _ => 512
abbrev cs_cl : List vw_C := [(RX0, TX0, 3), (RX1, TX1, 3), (RX2, TX2, 4), (RX3, TX3, 2), (RX4, TX4, 8), (RX5, TX5, 3), (RX6, TX6, 15)]
def cs_W (cy : ClassId) (ad : Nat → Nat) (S : cs_St) : va_W := [(ad 0, .inr (6, [.int (S.2 0), .int (S.2 1), .int (S.2 2), .int (S.2 3), .int (S.2 4), .int (S.2 5), .int (S.2 6), .ref (ad 6), .ref (ad 8), .ref (ad 10), .ref (ad 1), .ref (ad 2), .ref (ad 3), .ref (ad 4), .ref (ad 5)])), (ad 1, .inr (0, [.ref (ad 12), .ref (ad 14), .int (S.2 7)])), (ad 2, .inr (1, [.ref (ad 16), .ref (ad 18), .ref (ad 20)])), (ad 3, .inr (5, [.ref (ad 22), .ref (ad 24), .int (S.2 8)])), (ad 4, .inr (4, [.ref (ad 2), .ref (ad 26), .ref (ad 28), .ref (ad 30), .ref (ad 32), .ref (ad 34), .ref (ad 36), .ref (ad 38)])), (ad 5, .inr (2, [.ref (ad 2), .ref (ad 3), .ref (ad 40), .ref (ad 42)])), (ad 6, .inr (3, [.ref (ad 7), .int (nI (S.1 0).2)])), (ad 7, .inl (cy, cs_cap 0, .inl (S.1 0).1)), (ad 8, .inr (3, [.ref (ad 9), .int (nI (S.1 1).2)])), (ad 9, .inl (cy, cs_cap 1, .inl (S.1 1).1)), (ad 10, .inr (3, [.ref (ad 11), .int (nI (S.1 2).2)])), (ad 11, .inl (cy, cs_cap 2, .inl (S.1 2).1)), (ad 12, .inr (3, [.ref (ad 13), .int (nI (S.1 3).2)])), (ad 13, .inl (cy, cs_cap 3, .inl (S.1 3).1)), (ad 14, .inr (3, [.ref (ad 15), .int (nI (S.1 4).2)])), (ad 15, .inl (cy, cs_cap 4, .inl (S.1 4).1)), (ad 16, .inr (3, [.ref (ad 17), .int (nI (S.1 5).2)])), (ad 17, .inl (cy, cs_cap 5, .inl (S.1 5).1)), (ad 18, .inr (3, [.ref (ad 19), .int (nI (S.1 6).2)])), (ad 19, .inl (cy, cs_cap 6, .inl (S.1 6).1)), (ad 20, .inr (3, [.ref (ad 21), .int (nI (S.1 7).2)])), (ad 21, .inl (cy, cs_cap 7, .inl (S.1 7).1)), (ad 22, .inr (3, [.ref (ad 23), .int (nI (S.1 8).2)])), (ad 23, .inl (cy, cs_cap 8, .inl (S.1 8).1)), (ad 24, .inr (3, [.ref (ad 25), .int (nI (S.1 9).2)])), (ad 25, .inl (cy, cs_cap 9, .inl (S.1 9).1)), (ad 26, .inr (3, [.ref (ad 27), .int (nI (S.1 10).2)])), (ad 27, .inl (cy, cs_cap 10, .inl (S.1 10).1)), (ad 28, .inr (3, [.ref (ad 29), .int (nI (S.1 11).2)])), (ad 29, .inl (cy, cs_cap 11, .inl (S.1 11).1)), (ad 30, .inr (3, [.ref (ad 31), .int (nI (S.1 12).2)])), (ad 31, .inl (cy, cs_cap 12, .inl (S.1 12).1)), (ad 32, .inr (3, [.ref (ad 33), .int (nI (S.1 13).2)])), (ad 33, .inl (cy, cs_cap 13, .inl (S.1 13).1)), (ad 34, .inr (3, [.ref (ad 35), .int (nI (S.1 14).2)])), (ad 35, .inl (cy, cs_cap 14, .inl (S.1 14).1)), (ad 36, .inr (3, [.ref (ad 37), .int (nI (S.1 15).2)])), (ad 37, .inl (cy, cs_cap 15, .inl (S.1 15).1)), (ad 38, .inr (3, [.ref (ad 39), .int (nI (S.1 16).2)])), (ad 39, .inl (cy, cs_cap 16, .inl (S.1 16).1)), (ad 40, .inr (3, [.ref (ad 41), .int (nI (S.1 17).2)])), (ad 41, .inl (cy, cs_cap 17, .inl (S.1 17).1)), (ad 42, .inr (3, [.ref (ad 43), .int (nI (S.1 18).2)])), (ad 43, .inl (cy, cs_cap 18, .inl (S.1 18).1))]
def cs_sR (S : cs_St) (i : Nat) (r : cs_R) : cs_St := (fun j => if j = i then r else S.1 j, S.2)
def cs_sS (S : cs_St) (k : Nat) (v : Int32) : cs_St := (S.1, fun j => if j = k then v else S.2 j)
def cs_A (ad : Nat → Nat) : Nat → Prop := fun q => ∃ k, k < 44 ∧ q = ad k
def cs_ok (S : cs_St) : Prop := (∀ j, j < 19 → (S.1 j).2 ≤ cs_cap j) ∧ (∀ k, (S.1 13).1 k ≤ 3) ∧ S.2 5 ≤ 3
def cs_ws (y : MethodName) (c : ByteArray) (n : Nat) (r : Option FieldType) : List Cond := Cond.code y c n r :: cs_WS
abbrev cs_rm (f L : Nat) : Room := { frames := f, cells := 0, slots := 0, locals := L }
def cs_w (D : va_G) (cy : ClassId) (ad : Nat → Nat) (S : cs_St) (H : Heap) : Prop := cs_ok S ∧ va_P D cs_cl (cs_W cy ad S) H ∧ va_D (cs_A ad) (cs_W cy ad S)
/-- the fields of nest mates, by the links of those that ask for them -/
def cs_nw : List (String × Nat × String × String × String × String) := [(RX6, 134, "SiltStore$Hand", "held", "LSiltStore$Row;", "SiltStore"), (RX6, 223, "SiltStore$Hand", "written", "LSiltStore$Row;", "SiltStore"), (RX6, 259, "SiltStore$Hand", "safe", "I", "SiltStore"), (RX2, 45, "SiltStore$Ledger", "order", "LSiltStore$Row;", "SiltStore"), (RX6, 247, "SiltStore$Shelf", "ages", "LSiltStore$Row;", "SiltStore"), (RX6, 330, "SiltStore$Pile", "left", "LSiltStore$Row;", "SiltStore")]
def ct_nm : List (Nat × MethodName) := [(48, yX0_init), (55, yX1_init), (58, yX5_init)]
def cs_K (D : va_G) (cy : ClassId) (U : State) : Prop := va_K D cs_cl [(cy, .int)] U ∧ (∀ q ∈ cs_nw, va_Nw (.fieldLinkNest q.1 q.2.1 q.2.2.1 q.2.2.2.1 q.2.2.2.2.1 q.2.2.2.2.2) U) ∧ ∀ q ∈ ct_nm, va_Nw (.methodLinkNest RX6 q.1 q.2 "SiltStore") U
theorem cs_K.moved {D : va_G} {cy : ClassId} {s U : State} (hW : s.WarmedH U.vm) (h : cs_K D cy s) : cs_K D cy U := ⟨va_K.moved hW.alike h.1, fun q hq => va_Nw.warmF hW (h.2.1 q hq), fun q hq => va_Nw.warmM hW (h.2.2 q hq)⟩
theorem cs_K.same {D : va_G} {cy : ClassId} {u U : State} (hv : u.vm = U.vm) (h : cs_K D cy u) : cs_K D cy U := ⟨va_K.moved (hv ▸ Vm.Alike.refl u.vm) h.1, fun q hq => va_Nw.same rfl hv (h.2.1 q hq), fun q hq => va_Nw.same rfl hv (h.2.2 q hq)⟩
def cs_B (D : va_G) (cy : ClassId) (ad : Nat → Nat) (S : cs_St) (t : State) : Prop := cs_w D cy ad S t.heap ∧ cs_K D cy t
abbrev cs_Pc (D : va_G) (cy : ClassId) (ad : Nat → Nat) (av : List Value) (S : cs_St) : Array Value → State → Prop := va_Pc av (fun U => cs_B D cy ad S U)
abbrev cs_Qi (D : va_G) (cy : ClassId) (ad : Nat → Nat) (post : Int32 → cs_St → Prop) : Array Value → State → Outcome → State → Prop := va_Qi post (fun S t => cs_B D cy ad S t) (cs_A ad)
abbrev cs_Ql (D : va_G) (cy : ClassId) (ad : Nat → Nat) (post : Int64 → cs_St → Prop) : Array Value → State → Outcome → State → Prop := va_Ql post (fun S t => cs_B D cy ad S t) (cs_A ad)
abbrev cs_Qd (D : va_G) (cy : ClassId) (ad : Nat → Nat) (post : UInt64 → cs_St → Prop) : Array Value → State → Outcome → State → Prop := va_Qd post (fun S t => cs_B D cy ad S t) (cs_A ad)
abbrev cs_Qv (D : va_G) (cy : ClassId) (ad : Nat → Nat) (post : cs_St → Prop) : Array Value → State → Outcome → State → Prop := va_Qv post (fun S t => cs_B D cy ad S t) (cs_A ad)
abbrev cs_Qr (D : va_G) (cy : ClassId) (ad : Nat → Nat) (k : Nat) (post : cs_St → Prop) : Array Value → State → Outcome → State → Prop := va_Qr post (fun S a t => a = ad k ∧ cs_B D cy ad S t) (cs_A ad)
theorem cs_gO (cy : ClassId) (ad : Nat → Nat) (S : cs_St) : ∀ j, j < 19 → (cs_W cy ad S)[6 + 2 * j]? = some (ad (6 + 2 * j), .inr (3, [.ref (ad (7 + 2 * j)), .int (nI (S.1 j).2)]))
  | 0, _ => rfl
  | 1, _ => rfl
  | 2, _ => rfl
  | 3, _ => rfl
  | 4, _ => rfl
  | 5, _ => rfl
  | 6, _ => rfl
  | 7, _ => rfl
  | 8, _ => rfl
  | 9, _ => rfl
  | 10, _ => rfl
  | 11, _ => rfl
  | 12, _ => rfl
  | 13, _ => rfl
  | 14, _ => rfl
  | 15, _ => rfl
  | 16, _ => rfl
  | 17, _ => rfl
  | 18, _ => rfl
  | n + 19, h => absurd h (by omega)
theorem cs_gA (cy : ClassId) (ad : Nat → Nat) (S : cs_St) : ∀ j, j < 19 → (cs_W cy ad S)[7 + 2 * j]? = some (ad (7 + 2 * j), .inl (cy, cs_cap j, .inl (S.1 j).1))
  | 0, _ => rfl
  | 1, _ => rfl
  | 2, _ => rfl
  | 3, _ => rfl
  | 4, _ => rfl
  | 5, _ => rfl
  | 6, _ => rfl
  | 7, _ => rfl
  | 8, _ => rfl
  | 9, _ => rfl
  | 10, _ => rfl
  | 11, _ => rfl
  | 12, _ => rfl
  | 13, _ => rfl
  | 14, _ => rfl
  | 15, _ => rfl
  | 16, _ => rfl
  | 17, _ => rfl
  | 18, _ => rfl
  | n + 19, h => absurd h (by omega)
theorem cs_setO (cy : ClassId) (ad : Nat → Nat) (S : cs_St) (u : Nat) : ∀ j, j < 19 → (cs_W cy ad S).set (6 + 2 * j) (ad (6 + 2 * j), .inr (3, [.ref (ad (7 + 2 * j)), .int (nI u)])) = cs_W cy ad (cs_sR S j ((S.1 j).1, u))
  | 0, _ => rfl
  | 1, _ => rfl
  | 2, _ => rfl
  | 3, _ => rfl
  | 4, _ => rfl
  | 5, _ => rfl
  | 6, _ => rfl
  | 7, _ => rfl
  | 8, _ => rfl
  | 9, _ => rfl
  | 10, _ => rfl
  | 11, _ => rfl
  | 12, _ => rfl
  | 13, _ => rfl
  | 14, _ => rfl
  | 15, _ => rfl
  | 16, _ => rfl
  | 17, _ => rfl
  | 18, _ => rfl
  | n + 19, h => absurd h (by omega)
theorem cs_setA (cy : ClassId) (ad : Nat → Nat) (S : cs_St) (f : Nat → Int32) : ∀ j, j < 19 → (cs_W cy ad S).set (7 + 2 * j) (ad (7 + 2 * j), .inl (cy, cs_cap j, .inl f)) = cs_W cy ad (cs_sR S j (f, (S.1 j).2))
  | 0, _ => rfl
  | 1, _ => rfl
  | 2, _ => rfl
  | 3, _ => rfl
  | 4, _ => rfl
  | 5, _ => rfl
  | 6, _ => rfl
  | 7, _ => rfl
  | 8, _ => rfl
  | 9, _ => rfl
  | 10, _ => rfl
  | 11, _ => rfl
  | 12, _ => rfl
  | 13, _ => rfl
  | 14, _ => rfl
  | 15, _ => rfl
  | 16, _ => rfl
  | 17, _ => rfl
  | 18, _ => rfl
  | n + 19, h => absurd h (by omega)
theorem cs_addr (cy : ClassId) (ad : Nat → Nat) (S : cs_St) : (cs_W cy ad S).map Prod.fst = (List.range 44).map ad := rfl
theorem goodIn_sub' {ws : List Cond} (hm : ∀ w ∈ ws, w ∈ cs_WS) : GoodIn cs_WS ws := fun w hw => ⟨hm w hw, good_of_word (List.all_eq_true.mp cs_good w (hm w hw))⟩
theorem cs_cap_le : ∀ j, cs_cap j ≤ 513
  | 0 => by decide | 1 => by decide | 2 => by decide | 3 => by decide | 4 => by decide | 5 => by decide | 6 => by decide | 7 => by decide | 8 => by decide | 9 => by decide
  | 10 => by decide | 11 => by decide | 12 => by decide | 13 => by decide | 14 => by decide | 15 => by decide | 16 => by decide | 17 => by decide | 18 => by decide
  | n + 19 => by show 512 ≤ 513; decide
theorem cs_sR_ok {S : cs_St} {i : Nat} {r : cs_R} (h : cs_ok S) (hr : r.2 ≤ cs_cap i) (h3 : i = 13 → ∀ k, r.1 k ≤ 3) : cs_ok (cs_sR S i r) := by
  refine ⟨fun j hj => ?_, fun k => ?_, h.2.2⟩
  · show (if j = i then r else S.1 j).2 ≤ cs_cap j
    by_cases e : j = i
    · rw [if_pos e, e]; exact hr
    · rw [if_neg e]; exact h.1 j hj
  · show (if 13 = i then r else S.1 13).1 k ≤ 3
    by_cases e : 13 = i
    · rw [if_pos e]; exact h3 e.symm k
    · rw [if_neg e]; exact h.2.1 k
theorem cs_sS_ok {S : cs_St} {k : Nat} {v : Int32} (h : cs_ok S) (h5 : k = 5 → v ≤ 3) : cs_ok (cs_sS S k v) := by
  refine ⟨h.1, h.2.1, ?_⟩
  show (if 5 = k then v else S.2 5) ≤ 3
  by_cases e : 5 = k
  · rw [if_pos e]; exact h5 e.symm
  · rw [if_neg e]; exact h.2.2
/-- a named step of a walk: what is computed gets a name -/
def cs_let {α β : Type} (v : α) (f : α → β) : β := f v
theorem cs_letE {α β : Type} {v z : α} {f : α → β} {r : β} (h : z = v) (H : cs_let v f = r) : f z = r := by rw [h]; exact H
theorem cs_T {α : Type} {c : Prop} {i : Decidable c} {a b r : α} (h : c) (H : @ite α c i a b = r) : a = r := by rw [if_pos h] at H; exact H
theorem cs_F {α : Type} {c : Prop} {i : Decidable c} {a b r : α} (h : ¬ c) (H : @ite α c i a b = r) : b = r := by rw [if_neg h] at H; exact H
theorem cs_eq1 {α β : Type} {a : α} {b : β} {r : α × β} (H : (a, b) = r) : a = r.1 := by rw [← H]
theorem cs_eq2 {α β : Type} {a : α} {b : β} {r : α × β} (H : (a, b) = r) : b = r.2 := by rw [← H]
theorem cs_in {x : Int32} {n : Nat} (hn : n < 2 ^ 31) (h1 : ¬ x < 0) (h2 : ¬ nI n ≤ x) : vp_in x n := by
  obtain ⟨j, hj, rfl⟩ := nI_of h1
  exact vp_in_nI (by rw [nI_leI hn hj] at h2; omega) hn
theorem cs_goodV {own C : String} {idx : Nat} {y : MethodName} {c : ByteArray} {n : Nat} {r : Option FieldType} (h1 : Cond.methodLink own idx y ∈ cs_WS) (h2 : Cond.instanceMethod y ∈ cs_WS) (h3 : Cond.selects C y y ∈ cs_WS) (h4 : Cond.initialized C ∈ cs_WS) (h5 : Cond.code y c n r ∈ cs_WS) : GoodIn cs_WS (wsV own idx C y (cs_ws y c n r)) := by
  refine goodIn_sub' ?_
  intro w hw
  rcases List.mem_append.mp hw with h | h
  · simp only [List.mem_cons, List.not_mem_nil, or_false] at h
    rcases h with rfl | rfl | rfl | rfl
    · exact h1
    · exact h2
    · exact h3
    · exact h4
  · rcases List.mem_cons.mp h with rfl | h
    · exact h5
    · exact h
theorem cs_goodS {own : String} {idx : Nat} {y : MethodName} {c : ByteArray} {n : Nat} {r : Option FieldType} (h1 : Cond.methodLink own idx y ∈ cs_WS) (h2 : Cond.static y ∈ cs_WS) (h4 : Cond.initialized y.cls ∈ cs_WS) (h5 : Cond.code y c n r ∈ cs_WS) : GoodIn cs_WS (va_wsS own idx y (cs_ws y c n r)) := by
  refine goodIn_sub' ?_
  intro w hw
  rcases List.mem_append.mp hw with h | h
  · simp only [List.mem_cons, List.not_mem_nil, or_false] at h
    rcases h with rfl | rfl | rfl
    · exact h1
    · exact h2
    · exact h4
  · rcases List.mem_cons.mp h with rfl | h
    · exact h5
    · exact h

