/-! MATHEMATICS 4: dropping stones, finding in a row -/
/-- from the right: what is left, one more than the last key seen, whether all older ones of it went -/
def ds (K : Nat → Nat) (V : Nat → Int32) (B : Nat → Bool) : List Nat → List Nat × Nat × Bool
  | [] => ([], 0, false)
  | a :: t => if ((ds K V B t).2.2 = true ∨ (ds K V B t).2.1 ≠ K a + 1) ∧ V a = -1 ∧ B (K a) = false then ((ds K V B t).1, K a + 1, true) else (a :: (ds K V B t).1, K a + 1, false)
theorem find_L {S : cs_St} {N : Nat} {K : Nat → Nat} {V : Nat → Int32} {ord : List Nat} (hL : Lg S N K V ord) {j to_ k lim : Nat} {l : List Nat} (hl : LV (S.1 j) (l.map nI)) (hc : l.length ≤ cs_cap j) (ht : to_ ≤ l.length) (hb : ∀ a ∈ l, 1 ≤ a ∧ a ≤ N) (hk : k < 2 ^ 31) (hlim : lim < 2 ^ 31) (u2 : Int32) :
    ∀ (n i : Nat), i ≤ to_ → to_ - i < n → m_X1_find_L3 S j u2 (nI to_) (nI k) (nI lim) n (nI i) = nI ((((l.take to_).drop i).find? (fun a => decide (K a = k) && decide (a ≤ lim))).getD 0) := by
  have hN := hL.N512
  intro n
  induction n with
  | zero => intro i _ h; exact absurd h (Nat.not_lt_zero _)
  | succ n ih =>
    intro i hi hn
    have hcl := cap_lt j
    rw [m_X1_find_L3]
    by_cases hd : to_ ≤ i
    · rw [if_pos (by rw [nI_leI (by omega) (by omega)]; exact hd), List.drop_eq_nil_of_le (by simp; omega)]
      rfl
    · rw [if_neg (by rw [nI_leI (by omega) (by omega)]; exact hd)]
      have hlt : i < l.length := by omega
      have hx : m_X3_at S j (nI i) = nI l[i] := LV_at hl (by rw [List.length_map]; exact hc) (by rw [List.getElem?_map, List.getElem?_eq_getElem hlt]; rfl)
      obtain ⟨b1, b2⟩ := hb _ (List.getElem_mem hlt)
      simp only [cs_let]
      rw [hx, nI_1, ih (i + 1) (by omega) (by omega), show (l.take to_).drop i = l[i] :: (l.take to_).drop (i + 1) by
        rw [List.drop_eq_getElem_cons (by simp; omega)]; congr 1; exact List.getElem_take]
      generalize l[i] = a at b1 b2
      have hKa := (hL.2.2.2.2.2 a b1 b2).2.1
      rw [show m_X3_at S 5 (nI a) = nI (K a) from hL.key b1 b2, List.find?_cons]
      by_cases e : K a = k
      · rw [if_pos (by rw [e]), show decide (K a = k) = true from decide_eq_true e, Bool.true_and]
        by_cases e2 : lim < a
        · rw [if_pos (by rw [nI_ltI (by omega) (by omega)]; exact e2), show decide (a ≤ lim) = false from decide_eq_false (by omega)]
        · rw [if_neg (by rw [nI_ltI (by omega) (by omega)]; exact e2), show decide (a ≤ lim) = true from decide_eq_true (by omega)]
          rfl
      · rw [if_neg (by rw [nI_eq (by omega) hk]; exact e), show decide (K a = k) = false from decide_eq_false e, Bool.false_and]
theorem find_eq {S : cs_St} {N : Nat} {K : Nat → Nat} {V : Nat → Int32} {ord : List Nat} (hL : Lg S N K V ord) {j f t k lim : Nat} {l : List Nat} (hl : LV (S.1 j) (l.map nI)) (hc : l.length ≤ cs_cap j) (hft : f ≤ t) (ht : t ≤ l.length) (hb : ∀ a ∈ l, 1 ≤ a ∧ a ≤ N) (hk : k < 2 ^ 31) (hlim : lim < 2 ^ 31) :
    m_X1_find S j (nI f) (nI t) (nI k) (nI lim) = nI ((((l.take t).drop f).find? (fun a => decide (K a = k) && decide (a ≤ lim))).getD 0) := by
  have hcl := cap_lt j
  exact find_L hL hl hc ht hb hk hlim _ cs_N f hft (by show _ < 4294967296; omega)
/-- whether a key has an entry behind -/
def inB (K : Nat → Nat) (l : List Nat) (k : Nat) : Bool := l.any (fun a => decide (K a = k))
theorem find0 {N : Nat} {K : Nat → Nat} {l : List Nat} {k : Nat} (hb : ∀ a ∈ l, 1 ≤ a ∧ a ≤ N) : (l.find? (fun a => decide (K a = k) && decide (a ≤ N))).getD 0 = 0 ↔ inB K l k = false := by
  induction l with
  | nil => simp [inB]
  | cons a t ih =>
    obtain ⟨b1, b2⟩ := hb a List.mem_cons_self
    have iht := ih (fun x hx => hb x (List.mem_cons_of_mem _ hx))
    rw [List.find?_cons, show inB K (a :: t) k = (decide (K a = k) || inB K t k) from rfl, show decide (a ≤ N) = true from decide_eq_true b2, Bool.and_true]
    by_cases e : K a = k
    · rw [show decide (K a = k) = true from decide_eq_true e]
      simp
      omega
    · rw [show decide (K a = k) = false from decide_eq_false e]
      simpa using iht
theorem dropStones_L {N : Nat} {K : Nat → Nat} {V : Nat → Int32} {ord : List Nat} {f : Nat} {ag : List Nat} (hag : ag.length ≤ 512) (hf : f ≤ ag.length) (hba : ∀ a ∈ ag, 1 ≤ a ∧ a ≤ N) {M : List Nat} (hM : M.length < 512) (hbM : ∀ a ∈ M, 1 ≤ a ∧ a ≤ N) :
    ∀ (n i : Nat) (S : cs_St) (r0 : List Nat) (c : Nat) (o : Bool), Lg S N K V ord → LV (S.1 10) (ag.map nI) → i ≤ M.length → i < n → ds K V (inB K (ag.drop f)) (M.drop i) = (r0, c, o) → LV (S.1 18) ((M.take i ++ r0).map nI) →
      ∃ r, (m_X2_dropStones_L16 10 (nI f) n (lk c) (if o then 1 else 0) (nI i - 1) S).2.2.2 = cs_sR S 18 r ∧ LV r ((ds K V (inB K (ag.drop f)) M).1.map nI) := by
  intro n
  induction n with
  | zero => intro i S r0 c o _ _ _ h; exact absurd h (Nat.not_lt_zero _)
  | succ n ih =>
    intro i S r0 c o hL hA hi hn hd hl
    have hN := hL.N512
    rw [m_X2_dropStones_L16]
    cases i with
    | zero =>
      rw [if_pos (by decide)]
      refine ⟨S.1 18, sR_eta.symm, ?_⟩
      rw [List.drop_zero] at hd
      rw [hd]
      simpa using hl
    | succ i =>
      have hlt : i < M.length := by omega
      rw [nI_pred, if_neg (nI_pos (by omega))]
      have hr0 : r0.length ≤ M.length - (i + 1) := by
        have : ∀ l : List Nat, (ds K V (inB K (ag.drop f)) l).1.length ≤ l.length := by
          intro l
          induction l with
          | nil => exact Nat.le_refl _
          | cons a t iht =>
            rw [ds]
            split
            · simp only [List.length_cons]; omega
            · simp only [List.length_cons]; omega
        have h1 := this (M.drop (i + 1))
        rw [hd, List.length_drop] at h1
        exact h1
      have h18 : (S.1 18).2 = i + 1 + r0.length := by rw [hl.1]; simp; omega
      have hget : ((M.take (i + 1) ++ r0).map nI)[i]? = some (nI M[i]) := by
        rw [List.getElem?_map, List.getElem?_append_left (by simp; omega), List.getElem?_take, if_pos (by omega), List.getElem?_eq_getElem hlt]; rfl
      have hx : m_X3_at S 18 (nI i) = nI M[i] := LV_at hl (by simp; show _ ≤ 512; omega) hget
      obtain ⟨b1, b2⟩ := hbM _ (List.getElem_mem hlt)
      have hdc : M.drop i = M[i] :: M.drop (i + 1) := List.drop_eq_getElem_cons hlt
      have htk : M.take (i + 1) = M.take i ++ [M[i]] := by rw [List.take_add_one, List.getElem?_eq_getElem hlt]; rfl
      simp only [cs_let]
      rw [hx]
      generalize M[i] = a at b1 b2 hdc htk
      have hKa := (hL.2.2.2.2.2 a b1 b2).2.1
      rw [hL.key b1 b2, hL.stone b1 b2, show nI i + (-1) = nI i - 1 from (Int32.sub_eq_add_neg (nI i) 1).symm, len_eq, hA.1, List.length_map, hL.new]
      rw [find_eq hL hA (by rw [show cs_cap 10 = 512 from rfl]; exact hag) hf (Nat.le_refl _) hba (by omega) (by omega), List.take_length]
      have hds : ds K V (inB K (ag.drop f)) (M.drop i) = if (o = true ∨ c ≠ K a + 1) ∧ V a = -1 ∧ inB K (ag.drop f) (K a) = false then (r0, K a + 1, true) else (a :: r0, K a + 1, false) := by
        rw [hdc, ds, hd]
      have elk : nI (K a) = lk (K a + 1) := by rw [lk, nI_pred]
      have hcK : c ≤ 10000 := by
        cases hM' : M.drop (i + 1) with
        | nil => rw [hM'] at hd; rw [ds] at hd; cases hd; decide
        | cons b t =>
          rw [hM', ds] at hd
          have hbm : b ∈ M := List.mem_of_mem_drop (i := i + 1) (by rw [hM']; exact List.mem_cons_self)
          have hKb := (hL.2.2.2.2.2 b (hbM b hbm).1 (hbM b hbm).2).2.1
          split at hd <;> (cases hd; omega)
      have keepIt : ¬ ((o = true ∨ c ≠ K a + 1) ∧ V a = -1 ∧ inB K (ag.drop f) (K a) = false) → ∃ r, (m_X2_dropStones_L16 10 (nI f) n (nI (K a)) 0 (nI i - 1) S).2.2.2 = cs_sR S 18 r ∧ LV r ((ds K V (inB K (ag.drop f)) M).1.map nI) := by
        intro hno
        rw [elk]
        refine ih i S (a :: r0) (K a + 1) false hL hA (by omega) (by omega) (by rw [hds, if_neg hno]) ?_
        rw [htk, List.append_assoc] at hl
        exact hl
      have dropIt : ((o = true ∨ c ≠ K a + 1) ∧ V a = -1 ∧ inB K (ag.drop f) (K a) = false) → ∃ r, (m_X2_dropStones_L16 10 (nI f) n (nI (K a)) 1 (nI i - 1) (m_X3_cut S 18 (nI i) (nI i + 1))).2.2.2 = cs_sR S 18 r ∧ LV r ((ds K V (inB K (ag.drop f)) M).1.map nI) := by
        intro hyes
        rw [elk, nI_1, cut_eq (by omega) (by rw [h18]; omega) (by rw [h18]; show _ ≤ 512; omega)]
        obtain ⟨r, h1, h2⟩ := ih i (cs_sR S 18 (rw_cut (S.1 18) i (i + 1))) r0 (K a + 1) true (hL.of (sR_ne (by decide)) (sR_ne (by decide)) (sR_ne (by decide))) (by rw [sR_ne (by decide)]; exact hA) (by omega) (by omega) (by rw [hds, if_pos hyes]) (by
          rw [sR_self]
          have h9 := hl.cut (a := i) (b := i + 1) (by omega) (by simp; omega)
          rw [← List.map_take, ← List.map_drop, ← List.map_append] at h9
          rw [htk] at h9
          have e1 : (M.take i).length = i := by simp; omega
          rw [List.append_assoc, List.take_append_of_le_length (by omega), List.take_of_length_le (by omega), List.drop_append, e1, List.drop_of_length_le (by omega)] at h9
          simpa using h9)
        rw [if_pos rfl] at h1
        exact ⟨r, by rw [h1, sR_sR], h2⟩
      have hfz := find0 (K := K) (k := K a) (l := ag.drop f) (N := N) (fun x hx => hba x (List.mem_of_mem_drop hx))
      have hfb : ((ag.drop f).find? (fun x => decide (K x = K a) && decide (x ≤ N))).getD 0 < 2 ^ 31 := by
        cases h9 : (ag.drop f).find? (fun x => decide (K x = K a) && decide (x ≤ N)) with
        | none => decide
        | some y =>
          have := (hba y (List.mem_of_mem_drop (List.mem_of_find?_eq_some h9))).2
          simp; omega
      have tail : (o = true ∨ c ≠ K a + 1) → ∃ r, (if (if V a = -1 then (1 : Int32) else 0) = 0 then m_X2_dropStones_L16 10 (nI f) n (nI (K a)) 0 (nI i - 1) S else if nI (((ag.drop f).find? (fun x => decide (K x = K a) && decide (x ≤ N))).getD 0) = 0 then m_X2_dropStones_L16 10 (nI f) n (nI (K a)) 1 (nI i - 1) (m_X3_cut S 18 (nI i) (nI i + 1)) else m_X2_dropStones_L16 10 (nI f) n (nI (K a)) 0 (nI i - 1) S).2.2.2 = cs_sR S 18 r ∧ LV r ((ds K V (inB K (ag.drop f)) M).1.map nI) := by
        intro hoc
        by_cases hs : V a = -1
        · rw [if_pos hs, if_neg (show ¬ (1 : Int32) = 0 by decide)]
          by_cases hB : inB K (ag.drop f) (K a) = false
          · rw [if_pos ((nI_eq0 hfb).mpr (hfz.mpr hB))]
            exact dropIt ⟨hoc, hs, hB⟩
          · rw [if_neg (fun z => hB (hfz.mp ((nI_eq0 hfb).mp z)))]
            exact keepIt (fun z => hB z.2.2)
        · rw [if_neg hs, if_pos (show (0 : Int32) = 0 from rfl)]
          exact keepIt (fun z => hs z.2.1)
      cases o with
      | true =>
        rw [if_neg (show ¬ (if true = true then (1 : Int32) else 0) = 0 by decide)]
        exact tail (Or.inl rfl)
      | false =>
        rw [if_pos (show (if false = true then (1 : Int32) else 0) = 0 by decide)]
        by_cases hk : c = K a + 1
        · rw [if_pos ((lk_eq hKa hcK).mpr hk)]
          exact keepIt (fun z => z.1.elim (fun z => by cases z) (fun z => z hk))
        · rw [if_neg (fun z => hk ((lk_eq hKa hcK).mp z))]
          exact tail (Or.inr hk)
theorem dropStones_eq {S : cs_St} {N : Nat} {K : Nat → Nat} {V : Nat → Int32} {ord : List Nat} {f : Nat} {ag M : List Nat} (hL : Lg S N K V ord) (hA : LV (S.1 10) (ag.map nI)) (hag : ag.length ≤ 512) (hf : f ≤ ag.length) (hba : ∀ a ∈ ag, 1 ≤ a ∧ a ≤ N) (hM : M.length < 512) (hbM : ∀ a ∈ M, 1 ≤ a ∧ a ≤ N) (hl : LV (S.1 18) (M.map nI)) :
    ∃ r, m_X2_dropStones S 10 (nI f) = cs_sR S 18 r ∧ LV r ((ds K V (inB K (ag.drop f)) M).1.map nI) := by
  have h := dropStones_L (K := K) (V := V) (ord := ord) hag hf hba hM hbM cs_N M.length S [] 0 false hL hA (Nat.le_refl _) (by show _ < 4294967296; omega) (by rw [List.drop_length]; rfl) (by rw [List.take_length, List.append_nil]; exact hl)
  have e : m_X2_dropStones S 10 (nI f) = (m_X2_dropStones_L16 10 (nI f) cs_N (-1) 0 (nI (S.1 18).2 - 1) S).2.2.2 := rfl
  rw [e, hl.1, List.length_map]
  exact h
