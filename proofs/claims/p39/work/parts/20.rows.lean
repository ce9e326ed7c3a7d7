/-! MATHEMATICS 1: what the rows' methods do, on lists -/
theorem sR_self {S : cs_St} {j : Nat} {r : cs_R} : (cs_sR S j r).1 j = r := if_pos rfl
theorem sR_ne {S : cs_St} {j k : Nat} {r : cs_R} (h : k ≠ j) : (cs_sR S j r).1 k = S.1 k := if_neg h
theorem sR_sc {S : cs_St} {j : Nat} {r : cs_R} : (cs_sR S j r).2 = S.2 := rfl
theorem sR_sR {S : cs_St} {j : Nat} {r r' : cs_R} : cs_sR (cs_sR S j r) j r' = cs_sR S j r' := by
  refine Prod.ext (funext fun k => ?_) rfl
  show (if k = j then r' else (if k = j then r else S.1 k)) = (if k = j then r' else S.1 k)
  by_cases h : k = j
  · rw [if_pos h, if_pos h]
  · rw [if_neg h, if_neg h, if_neg h]
def rw_set (r : cs_R) (i : Nat) (x : Int32) : cs_R := (upd r.1 i x, r.2)
def rw_app (r : cs_R) (x : Int32) : cs_R := (upd r.1 r.2 x, r.2 + 1)
def rw_opn (r : cs_R) (p w : Nat) : cs_R := (va_cpy r.1 r.1 p (p + w) (r.2 - p), r.2 + w)
def rw_cut (r : cs_R) (a b : Nat) : cs_R := (va_cpy r.1 r.1 b a (r.2 - b), r.2 - (b - a))
theorem cap_lt (j : Nat) : cs_cap j < 2 ^ 31 := Nat.lt_of_le_of_lt (cs_cap_le j) (by decide)
theorem at_nI {S : cs_St} {j i : Nat} (hi : i < cs_cap j) : m_X3_at S j (nI i) = (S.1 j).1 i := by
  have hc := cap_lt j
  unfold m_X3_at
  rw [if_neg (nI_pos (by omega)), if_neg (by rw [nI_leI hc (by omega)]; omega), nI_clamp (by omega)]
theorem len_eq {S : cs_St} {j : Nat} : m_X3_length S j = nI (S.1 j).2 := rfl
theorem write_eq {S : cs_St} {j i : Nat} {x : Int32} (hi : i < cs_cap j) : m_X3_write S j (nI i) x = cs_sR S j (rw_set (S.1 j) i x) := by
  have hc := cap_lt j
  unfold m_X3_write
  rw [if_neg (nI_pos (by omega)), if_neg (by rw [nI_leI hc (by omega)]; omega), nI_clamp (by omega)]
  rfl
theorem raise_eq {S : cs_St} {j i : Nat} {x : Int32} (hi : i < cs_cap j) : m_X3_raise S j (nI i) x = cs_sR S j (rw_set (S.1 j) i ((S.1 j).1 i + x)) := by
  have hc := cap_lt j
  unfold m_X3_raise
  rw [if_neg (nI_pos (by omega)), if_neg (by rw [nI_leI hc (by omega)]; omega), nI_clamp (by omega)]
  rfl
theorem append_eq {S : cs_St} {j : Nat} {x : Int32} (hi : (S.1 j).2 < cs_cap j) : m_X3_append S j x = cs_sR S j (rw_app (S.1 j) x) := by
  have hc := cap_lt j
  unfold m_X3_append
  rw [if_neg (nI_pos (by omega)), if_neg (by rw [nI_leI hc (by omega)]; omega), nI_clamp (by omega)]
  simp only [cs_let]
  rw [sR_sR, sR_self]
  rfl
theorem empty_eq {S : cs_St} {j : Nat} : m_X3_empty S j = cs_sR S j ((S.1 j).1, 0) := rfl
theorem open_eq {S : cs_St} {j p w : Nat} (hp : p ≤ (S.1 j).2) (hw : 0 < w) (hc : (S.1 j).2 + w ≤ cs_cap j) : m_X3_open S j (nI p) (nI w) = cs_sR S j (rw_opn (S.1 j) p w) := by
  have hcl := cap_lt j
  unfold m_X3_open
  rw [if_neg (nI_pos (by omega)), if_neg (by rw [nI_ltI (by omega) (by omega)]; omega), if_neg (nI_nle hw (by omega)), if_neg (by rw [pk_sub (by omega), nI_ltI (by omega) (by omega)]; omega), nI_add, pk_sub hp, nI_clamp (by omega), nI_clamp (by omega), nI_clamp (by omega), nI_clamp (by omega)]
  simp only [cs_let]
  rw [sR_sR, sR_self]
  rfl
theorem cut_eq {S : cs_St} {j a b : Nat} (hab : a < b) (hb : b ≤ (S.1 j).2) (hc : (S.1 j).2 ≤ cs_cap j) : m_X3_cut S j (nI a) (nI b) = cs_sR S j (rw_cut (S.1 j) a b) := by
  have hcl := cap_lt j
  unfold m_X3_cut
  rw [if_neg (nI_pos (by omega)), if_neg (by rw [nI_leI (by omega) (by omega)]; omega), if_neg (by rw [nI_ltI (by omega) (by omega)]; omega), pk_sub hb, pk_sub (Nat.le_of_lt hab), nI_clamp (by omega), nI_clamp (by omega), nI_clamp (by omega), nI_clamp (by omega)]
  simp only [cs_let]
  rw [sR_sR, sR_self]
  rfl
theorem cut_no {S : cs_St} {j a b : Nat} (hab : b ≤ a) (ha : a < 2 ^ 31) : m_X3_cut S j (nI a) (nI b) = S := by
  unfold m_X3_cut
  rw [if_neg (nI_pos ha), if_pos (by rw [nI_leI (by omega) ha]; exact hab)]
/-- a row that holds a list -/
def LV (r : cs_R) (l : List Int32) : Prop := r.2 = l.length ∧ ∀ i x, l[i]? = some x → r.1 i = x
theorem LV.len {r : cs_R} {l : List Int32} (h : LV r l) : r.2 = l.length := h.1
theorem LV.get {r : cs_R} {l : List Int32} (h : LV r l) {i : Nat} (hi : i < l.length) : r.1 i = l[i] := h.2 i _ (List.getElem?_eq_getElem hi)
theorem LV.nil (f : Nat → Int32) : LV (f, 0) [] := ⟨rfl, fun i x h => by simp at h⟩
theorem LV.app {r : cs_R} {l : List Int32} (h : LV r l) (x : Int32) : LV (rw_app r x) (l ++ [x]) := by
  refine ⟨by simp [rw_app, h.1], fun i y hy => ?_⟩
  show upd r.1 r.2 x i = y
  unfold upd
  by_cases hi : i < l.length
  · rw [List.getElem?_append_left hi] at hy
    rw [if_neg (by rw [h.1]; omega)]
    exact h.2 i y hy
  · have h1 := (List.getElem?_eq_some_iff.mp hy).1
    simp at h1
    have h2 : i = l.length := by omega
    subst h2
    simp at hy
    rw [if_pos h.1.symm]
    exact hy
theorem LV.set {r : cs_R} {l : List Int32} (h : LV r l) (i : Nat) (x : Int32) : LV (rw_set r i x) (l.set i x) := by
  refine ⟨by simp [rw_set, h.1], fun k y hy => ?_⟩
  show upd r.1 i x k = y
  unfold upd
  rw [List.getElem?_set] at hy
  by_cases hk : i = k
  · rw [if_pos hk.symm]
    rw [if_pos hk] at hy
    split at hy
    · exact Option.some.inj hy
    · cases hy
  · rw [if_neg (fun z => hk z.symm)]
    rw [if_neg hk] at hy
    exact h.2 k y hy
theorem LV.cut {r : cs_R} {l : List Int32} (h : LV r l) {a b : Nat} (hab : a < b) (hb : b ≤ l.length) : LV (rw_cut r a b) (l.take a ++ l.drop b) := by
  refine ⟨by simp [rw_cut, h.1]; omega, fun k y hy => ?_⟩
  show va_cpy r.1 r.1 b a (r.2 - b) k = y
  unfold va_cpy
  rw [h.1]
  rw [List.getElem?_append] at hy
  have hl : (l.take a).length = a := by simp; omega
  rw [hl] at hy
  by_cases hk : k < a
  · rw [if_neg (by omega)]
    rw [if_pos hk, List.getElem?_take, if_pos hk] at hy
    exact h.2 k y hy
  · rw [if_neg hk, List.getElem?_drop] at hy
    have h1 := (List.getElem?_eq_some_iff.mp hy).1
    rw [if_pos (by omega)]
    exact h.2 _ y hy
/-- one place opened and written -/
theorem LV.ins {r : cs_R} {l : List Int32} (h : LV r l) {p : Nat} (hp : p ≤ l.length) (x : Int32) : LV (rw_set (rw_opn r p 1) p x) (l.take p ++ x :: l.drop p) := by
  refine ⟨by simp [rw_set, rw_opn, h.1]; omega, fun k y hy => ?_⟩
  show upd (va_cpy r.1 r.1 p (p + 1) (r.2 - p)) p x k = y
  unfold upd va_cpy
  rw [h.1]
  rw [List.getElem?_append] at hy
  have hl : (l.take p).length = p := by simp; omega
  rw [hl] at hy
  by_cases hk : k < p
  · rw [if_neg (by omega), if_neg (by omega)]
    rw [if_pos hk, List.getElem?_take, if_pos hk] at hy
    exact h.2 k y hy
  · rw [if_neg hk] at hy
    by_cases hk2 : k = p
    · rw [if_pos hk2]
      subst hk2
      simp at hy
      exact hy
    · rw [if_neg hk2]
      obtain ⟨d, rfl⟩ : ∃ d, k = p + 1 + d := ⟨k - (p + 1), by omega⟩
      rw [show p + 1 + d - p = d + 1 by omega, List.getElem?_cons_succ, List.getElem?_drop] at hy
      have h1 := (List.getElem?_eq_some_iff.mp hy).1
      rw [if_pos (by omega), show p + (p + 1 + d - (p + 1)) = p + d by omega]
      exact h.2 _ y hy
theorem LV_at {S : cs_St} {j i : Nat} {l : List Int32} {x : Int32} (h : LV (S.1 j) l) (hc : l.length ≤ cs_cap j) (hx : l[i]? = some x) : m_X3_at S j (nI i) = x := by
  have h1 := (List.getElem?_eq_some_iff.mp hx).1
  rw [at_nI (by omega)]
  exact h.2 i x hx
