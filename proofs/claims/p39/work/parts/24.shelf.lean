/-! MATHEMATICS 5: the shelf -/
abbrev Q4 : Type := Int32 × Int32 × Int32 × Int32
abbrev Run : Type := List Nat × Q4
def agz (R : List Run) : List Nat := R.flatMap Prod.fst
def endz : Nat → List Run → List Nat
  | _, [] => []
  | c, r :: t => (c + r.1.length) :: endz (c + r.1.length) t
def pre (L : Nat → List Run) (lv : Nat) : List Run := (List.range lv).flatMap L
abbrev RS (L : Nat → List Run) : List Run := pre L 4
theorem agz_app (a b : List Run) : agz (a ++ b) = agz a ++ agz b := List.flatMap_append
theorem agz_cons (r : Run) (t : List Run) : agz (r :: t) = r.1 ++ agz t := rfl
theorem agz_nil : agz [] = [] := rfl
theorem endz_len : ∀ (R : List Run) (c : Nat), (endz c R).length = R.length := by
  intro R
  induction R with
  | nil => intro c; rfl
  | cons r t ih => intro c; rw [endz, List.length_cons, ih, List.length_cons]
theorem endz_get : ∀ (R : List Run) (c i : Nat), i < R.length → (endz c R)[i]? = some (c + (agz (R.take (i + 1))).length) := by
  intro R
  induction R with
  | nil => intro c i h; exact absurd h (Nat.not_lt_zero _)
  | cons r t ih =>
    intro c i h
    cases i with
    | zero =>
      show some (c + r.1.length) = _
      rw [List.take_succ_cons, List.take_zero, agz_cons, agz_nil, List.append_nil]
    | succ i =>
      rw [endz, List.getElem?_cons_succ, ih _ _ (by simpa using h), List.take_succ_cons, agz_cons, List.length_append, Nat.add_assoc]
theorem endz_app : ∀ (a b : List Run) (c : Nat), endz c (a ++ b) = endz c a ++ endz (c + (agz a).length) b := by
  intro a
  induction a with
  | nil => intro b c; rfl
  | cons r t ih =>
    intro b c
    rw [List.cons_append, endz, endz, ih, List.cons_append, agz_cons, List.length_append, Nat.add_assoc]
theorem endz_shift : ∀ (R : List Run) (c d : Nat), endz (c + d) R = (endz c R).map (· + d) := by
  intro R
  induction R with
  | nil => intro c d; rfl
  | cons r t ih =>
    intro c d
    rw [endz, endz, List.map_cons, show c + d + r.1.length = c + r.1.length + d by omega, ih]
theorem endz_ge : ∀ (R : List Run) (c : Nat), ∀ x ∈ endz c R, c ≤ x ∧ x ≤ c + (agz R).length := by
  intro R
  induction R with
  | nil => intro c x h; cases h
  | cons r t ih =>
    intro c x h
    rw [endz] at h
    rw [agz_cons, List.length_append]
    rcases List.mem_cons.mp h with rfl | h
    · omega
    · have := ih _ _ h; omega
/-- the shelf holds the runs L, level by level -/
def Sh (S : cs_St) (L : Nat → List Run) : Prop :=
  LV (S.1 10) ((agz (RS L)).map nI) ∧ LV (S.1 11) ((endz 0 (RS L)).map nI) ∧ LV (S.1 12) ((RS L).map (fun r => r.2.1)) ∧ LV (S.1 13) ((RS L).map (fun r => r.2.2.1)) ∧ LV (S.1 14) ((RS L).map (fun r => r.2.2.2.1)) ∧ LV (S.1 15) ((RS L).map (fun r => r.2.2.2.2)) ∧
    (∀ l, l < 4 → (S.1 16).1 l = nI (L l).length) ∧ (agz (RS L)).length < 512 ∧ ∀ r ∈ RS L, r.1 ≠ []
theorem Sh.mv {S S' : cs_St} {L : Nat → List Run} {P : List Nat} (h : Sh S L) (hf : fr P S S') (hP : ∀ k ∈ P, k < 10 ∨ 16 < k) : Sh S' L := by
  have e : ∀ k, 10 ≤ k → k ≤ 16 → S'.1 k = S.1 k := fun k h1 h2 => hf.2 k (fun z => by have := hP k z; omega)
  obtain ⟨a, b, c, d, e1, f, g, i⟩ := h
  refine ⟨by rw [e 10 (by decide) (by decide)]; exact a, by rw [e 11 (by decide) (by decide)]; exact b, by rw [e 12 (by decide) (by decide)]; exact c, by rw [e 13 (by decide) (by decide)]; exact d, by rw [e 14 (by decide) (by decide)]; exact e1, by rw [e 15 (by decide) (by decide)]; exact f, by rw [e 16 (by decide) (by decide)]; exact g, i⟩
theorem agz_ge : ∀ (R : List Run), (∀ r ∈ R, r.1 ≠ []) → R.length ≤ (agz R).length := by
  intro R
  induction R with
  | nil => intro _; exact Nat.le_refl _
  | cons r t ih =>
    intro h
    have h1 := ih (fun x hx => h x (List.mem_cons_of_mem _ hx))
    have h2 := List.length_pos_iff.mpr (h r List.mem_cons_self)
    rw [agz_cons, List.length_append, List.length_cons]
    omega
theorem Sh.nR {S : cs_St} {L : Nat → List Run} (h : Sh S L) : (RS L).length < 512 := by
  obtain ⟨-, -, -, -, -, -, -, h1, h2⟩ := h
  have := agz_ge _ h2
  omega
theorem pre_succ (L : Nat → List Run) (lv : Nat) : pre L (lv + 1) = pre L lv ++ L lv := by
  rw [pre, List.range_succ, List.flatMap_append]
  show pre L lv ++ (L lv ++ []) = _
  rw [List.append_nil]
theorem pre_le (L : Nat → List Run) {a b : Nat} (h : a ≤ b) : ∃ t, pre L b = pre L a ++ t := by
  induction b with
  | zero => exact ⟨[], by rw [show a = 0 by omega, List.append_nil]⟩
  | succ b ih =>
    by_cases e : a = b + 1
    · exact ⟨[], by rw [e, List.append_nil]⟩
    · obtain ⟨t, ht⟩ := ih (by omega)
      exact ⟨t ++ L b, by rw [pre_succ, ht, List.append_assoc]⟩
theorem agz_take_le (R : List Run) (i : Nat) : (agz (R.take i)).length ≤ (agz R).length := by
  conv => rhs; rw [← List.take_append_drop i R, agz_app, List.length_append]
  omega
section
variable {S : cs_St} {L : Nat → List Run}
theorem Sh.count (h : Sh S L) {lv : Nat} (hl : lv < 4) : m_X4_count S (nI lv) = nI (L lv).length := by
  show m_X3_at S 16 (nI lv) = _
  rw [at_nI (show lv < 4 from hl)]
  exact h.2.2.2.2.2.2.1 lv hl
theorem Sh.cnt_le (h : Sh S L) {lv : Nat} (hl : lv < 4) : (pre L lv).length + (L lv).length ≤ (RS L).length := by
  obtain ⟨t, ht⟩ := pre_le L (a := lv + 1) (b := 4) (by omega)
  rw [RS, ht, pre_succ, List.length_append, List.length_append]
  omega
theorem Sh.first_L (h : Sh S L) {lv : Nat} (hl : lv ≤ 4) : ∀ (n i : Nat), i ≤ lv → lv - i < n → (m_X4_first_L4 S (nI lv) n (nI (pre L i).length) (nI i)).1 = nI (pre L lv).length := by
  intro n
  induction n with
  | zero => intro i _ h; exact absurd h (Nat.not_lt_zero _)
  | succ n ih =>
    intro i hi hn
    rw [m_X4_first_L4]
    by_cases hd : lv ≤ i
    · rw [if_pos (by rw [nI_leI (by omega) (by omega)]; exact hd), show i = lv by omega]
    · rw [if_neg (by rw [nI_leI (by omega) (by omega)]; exact hd)]
      simp only [cs_let]
      rw [show m_X3_at S 16 (nI i) = nI (L i).length from h.count (by omega), nI_add, nI_1, ← List.length_append, ← pre_succ]
      exact ih (i + 1) (by omega) (by omega)
theorem Sh.first (h : Sh S L) {lv : Nat} (hl : lv ≤ 4) : m_X4_first S (nI lv) = nI (pre L lv).length :=
  h.first_L hl cs_N 0 (Nat.zero_le _) (by show _ < 4294967296; omega)
theorem Sh.total (h : Sh S L) : m_X4_total S = nI (RS L).length := by
  show nI (S.1 11).2 = _
  rw [h.2.1.1, List.length_map, endz_len]
theorem Sh.ents (h : Sh S L) : m_X3_length S 10 = nI (agz (RS L)).length := by
  show nI (S.1 10).2 = _
  rw [h.1.1, List.length_map]
theorem Sh.end_ (h : Sh S L) {i : Nat} (hi : i < (RS L).length) : m_X3_at S 11 (nI i) = nI (agz ((RS L).take (i + 1))).length := by
  have hn := h.nR
  refine LV_at h.2.1 ?_ ?_
  · rw [List.length_map, endz_len]; show _ ≤ 512; omega
  · rw [List.getElem?_map, endz_get _ _ _ hi, Nat.zero_add]; rfl
theorem Sh.begin (h : Sh S L) {i : Nat} (hi : i ≤ (RS L).length) : m_X4_begin S (nI i) = nI (agz ((RS L).take i)).length := by
  have hn := h.nR
  unfold m_X4_begin
  cases i with
  | zero => rw [if_pos (by decide)]; rfl
  | succ i =>
    rw [if_neg (nI_nle (by omega) (by omega)), nI_pred]
    exact h.end_ (by omega)
theorem take_get {R : List Run} {i : Nat} {r : Run} (hr : R[i]? = some r) : agz (R.take (i + 1)) = agz (R.take i) ++ r.1 := by
  rw [List.take_add_one, hr, agz_app]
  show agz (R.take i) ++ (r.1 ++ []) = _
  rw [List.append_nil]
theorem split_get {R : List Run} {i : Nat} {r : Run} (hr : R[i]? = some r) : agz R = agz (R.take i) ++ (r.1 ++ agz (R.drop (i + 1))) := by
  conv => lhs; rw [← List.take_append_drop (i + 1) R, agz_app, take_get hr, List.append_assoc]
theorem Sh.length (h : Sh S L) {i : Nat} {r : Run} (hr : (RS L)[i]? = some r) : m_X4_length S (nI i) = nI r.1.length := by
  have hi := (List.getElem?_eq_some_iff.mp hr).1
  have hn := h.2.2.2.2.2.2.2.1
  have hle := agz_take_le (RS L) (i + 1)
  unfold m_X4_length
  simp only [cs_let]
  rw [h.end_ hi, h.begin (Nat.le_of_lt hi), take_get hr, List.length_append, pk_sub (by omega), Nat.add_sub_cancel_left]
theorem Sh.ageAt (h : Sh S L) {i p a : Nat} {r : Run} (hr : (RS L)[i]? = some r) (hp : r.1[p]? = some a) : m_X3_at S 10 (nI ((agz ((RS L).take i)).length + p)) = nI a := by
  have hi := (List.getElem?_eq_some_iff.mp hr).1
  have hn := h.2.2.2.2.2.2.2.1
  refine LV_at h.1 (by rw [List.length_map]; show _ ≤ 512; omega) ?_
  have hpl := (List.getElem?_eq_some_iff.mp hp).1
  rw [List.getElem?_map, split_get hr, List.getElem?_append_right (by omega), Nat.add_sub_cancel_left, List.getElem?_append_left hpl, hp]
  rfl
theorem Sh.age (h : Sh S L) {i p a : Nat} {r : Run} (hr : (RS L)[i]? = some r) (hp : r.1[p]? = some a) : m_X4_age S (nI i) (nI p) = nI a := by
  have hi := (List.getElem?_eq_some_iff.mp hr).1
  unfold m_X4_age
  simp only [cs_let]
  rw [h.begin (Nat.le_of_lt hi), nI_add]
  exact h.ageAt hr hp
end
/-- the class's ledger and shelf together, the ages in runs are writes -/
def Bs (S : cs_St) (N : Nat) (K : Nat → Nat) (V : Nat → Int32) (ord : List Nat) (L : Nat → List Run) : Prop := Lg S N K V ord ∧ Sh S L ∧ ∀ a ∈ agz (RS L), 1 ≤ a ∧ a ≤ N
section
variable {S : cs_St} {N : Nat} {K : Nat → Nat} {V : Nat → Int32} {ord : List Nat} {L : Nat → List Run}
theorem Bs.mem (h : Bs S N K V ord L) {i : Nat} {r : Run} (hr : (RS L)[i]? = some r) {a : Nat} (ha : a ∈ r.1) : 1 ≤ a ∧ a ≤ N := by
  refine h.2.2 a ?_
  rw [split_get hr]
  simp [ha]
theorem Bs.K9 (h : Bs S N K V ord L) {i : Nat} {r : Run} (hr : (RS L)[i]? = some r) {a : Nat} (ha : a ∈ r.1) : K a < 10000 := (h.1.2.2.2.2.2 a (h.mem hr ha).1 (h.mem hr ha).2).2.1
theorem Bs.least (h : Bs S N K V ord L) {i a : Nat} {r : Run} (hr : (RS L)[i]? = some r) (ha : r.1.head? = some a) : m_X4_least S (nI i) = nI (K a) := by
  have hi := (List.getElem?_eq_some_iff.mp hr).1
  have ham : a ∈ r.1 := List.mem_of_head? ha
  have hp : r.1[0]? = some a := by rw [← ha]; exact List.head?_eq_getElem?.symm
  have := h.2.1.ageAt hr hp
  unfold m_X4_least
  simp only [cs_let]
  rw [h.2.1.begin (Nat.le_of_lt hi)]
  rw [Nat.add_zero] at this
  rw [this, h.1.key (h.mem hr ham).1 (h.mem hr ham).2]
theorem Bs.greatest (h : Bs S N K V ord L) {i a : Nat} {r : Run} (hr : (RS L)[i]? = some r) (ha : r.1.getLast? = some a) : m_X4_greatest S (nI i) = nI (K a) := by
  have hi := (List.getElem?_eq_some_iff.mp hr).1
  have ham : a ∈ r.1 := List.mem_of_getLast? ha
  have hl : 0 < r.1.length := List.length_pos_of_mem ham
  have hp : r.1[r.1.length - 1]? = some a := by rw [← ha]; exact List.getLast?_eq_getElem?.symm
  have := h.2.1.ageAt hr hp
  have hn := h.2.1.2.2.2.2.2.2.2.1
  have hle := agz_take_le (RS L) (i + 1)
  unfold m_X4_greatest
  simp only [cs_let]
  rw [h.2.1.end_ hi, take_get hr, List.length_append, show (agz ((RS L).take i)).length + r.1.length = ((agz ((RS L).take i)).length + (r.1.length - 1)) + 1 by omega, nI_pred, this, h.1.key (h.mem hr ham).1 (h.mem hr ham).2]
end
