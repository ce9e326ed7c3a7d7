/-! MATHEMATICS 8: filters let the keys of their run pass -/
theorem i64_abs (F w : Int64) : (F ||| w) &&& w = w := by
  apply Int64.toBitVec_inj.mp
  rw [Int64.toBitVec_and, Int64.toBitVec_or]
  ext i hi
  simp
  exact Or.inr
theorem i64_keep {F w : Int64} (h : F &&& w = w) (x : Int64) : (F ||| x) &&& w = w := by
  apply Int64.toBitVec_inj.mp
  have h1 := Int64.toBitVec_inj.mpr h
  rw [Int64.toBitVec_and] at h1
  rw [Int64.toBitVec_and, Int64.toBitVec_or]
  ext i hi
  have h2 := congrArg (fun z => z[i]) h1
  simp at h2 ⊢
  intro hw
  exact Or.inl (h2 hw)
theorem fil_keep (K : Nat → Nat) (b h : Int32) {w : Int64} : ∀ (l : List Nat) (F : Int64), F &&& w = w → fil K b h l F &&& w = w := by
  intro l
  induction l with
  | nil => intro F hF; exact hF
  | cons a t ih => intro F hF; exact ih _ (i64_keep hF _)
theorem fil_has (K : Nat → Nat) (b h : Int32) {a : Nat} : ∀ (l : List Nat) (F : Int64), a ∈ l → fil K b h l F &&& bOf (nI (K a)) b h = bOf (nI (K a)) b h := by
  intro l
  induction l with
  | nil => intro F h; cases h
  | cons c t ih =>
    intro F hm
    rcases List.mem_cons.mp hm with rfl | hm
    · exact fil_keep K b h t _ (i64_abs F _)
    · exact ih _ hm
theorem i64_two (F : Int64) : (((F.toUInt64 >>> ((32 : Int32).toInt64.toUInt64 &&& Int64.toUInt64 63)).toInt64.toInt32).toInt64 <<< ((32 : Int32).toInt64 &&& 63)) ||| (F.toInt32.toInt64 &&& 4294967295) = F := by
  rw [show ((32 : Int32).toInt64.toUInt64 &&& Int64.toUInt64 63) = 32 by decide, show ((32 : Int32).toInt64 &&& 63) = 32 by decide]
  apply Int64.toBitVec_inj.mp
  ext i hi
  have hm : (4294967295#64)[i] = decide (i < 32) := by
    rw [BitVec.getElem_eq_testBit_toNat]
    show Nat.testBit (2 ^ 32 - 1) i = _
    exact Nat.testBit_two_pow_sub_one 32 i
  by_cases c : i < 32
  · simp [c, hi, hm, BitVec.getElem_signExtend]
  · simp [c, hi, hm, BitVec.getElem_signExtend, show i - 32 < 32 by omega, show i - 32 < 64 by omega]
    rw [show 32 + (i - 32) = i by omega, BitVec.getLsbD_eq_getElem]
def fOf (q : Q4) : Int64 := (q.2.2.2.toInt64 <<< ((32 : Int32).toInt64 &&& 63)) ||| (q.2.2.1.toInt64 &&& 4294967295)
/-- all bits of a key are set in a run's filter -/
def psQ (q : Q4) (k : Int32) : Prop := fOf q &&& bOf k q.1 q.2.1 = bOf k q.1 q.2.1
theorem psQ_q4 {K : Nat → Nat} {b h : Int32} {l : List Nat} {a : Nat} (ha : a ∈ l) : psQ (q4 K b h l) (nI (K a)) := by
  unfold psQ
  rw [show fOf (q4 K b h l) = fil K b h l 0 from i64_two _]
  exact fil_has K b h l 0 ha
theorem Sh.passes {S : cs_St} {L : Nat → List Run} (h : Sh S L) {i : Nat} {r : Run} (hr : (RS L)[i]? = some r) (k : Int32) : (m_X4_passes S (nI i) k = 1 ↔ psQ r.2 k) ∧ (m_X4_passes S (nI i) k = 0 ↔ ¬ psQ r.2 k) := by
  have hn := h.nR
  have hi := (List.getElem?_eq_some_iff.mp hr).1
  have g : ∀ (j : Nat) (f : Run → Int32), LV (S.1 j) ((RS L).map f) → cs_cap j = 512 → m_X3_at S j (nI i) = f r := fun j f hj hc => LV_at hj (by rw [List.length_map, hc]; omega) (by rw [List.getElem?_map, hr]; rfl)
  unfold m_X4_passes m_X4_filterOf
  simp only [cs_let]
  rw [g 12 _ h.2.2.1 rfl, g 13 _ h.2.2.2.1 rfl, g 14 _ h.2.2.2.2.1 rfl, g 15 _ h.2.2.2.2.2.1 rfl, bits_S]
  have e : (lg_cmp (fOf r.2 &&& bOf k r.2.1 r.2.2.1) (bOf k r.2.1 r.2.2.1) = 0) ↔ psQ r.2 k := lg_cmp_eq _ _
  have v : ∀ x : Int32, (if lg_cmp (fOf r.2 &&& bOf k r.2.1 r.2.2.1) (bOf k r.2.1 r.2.2.1) = 0 then (1 : Int32) else 0) = x → (x = 1 ↔ psQ r.2 k) ∧ (x = 0 ↔ ¬ psQ r.2 k) := by
    rintro x rfl
    by_cases c : lg_cmp (fOf r.2 &&& bOf k r.2.1 r.2.2.1) (bOf k r.2.1 r.2.2.1) = 0
    · simp only [if_pos c]
      exact ⟨⟨fun _ => e.mp c, fun _ => trivial⟩, ⟨fun z => absurd z (by decide), fun z => absurd (e.mp c) z⟩⟩
    · simp only [if_neg c]
      exact ⟨⟨fun z => absurd z (by decide), fun z => absurd (e.mpr z) c⟩, ⟨fun _ z => c (e.mpr z), fun _ => trivial⟩⟩
  exact v _ rfl
