/-! MATHEMATICS 11: pieces, and laying them -/
def bd (K : Nat → Nat) (lf : List Nat) (e : Nat) : Prop := e = lf.length ∨ (e < lf.length ∧ K (lf.getD e 0) ≠ K (lf.getD (e - 1) 0))
def okp (K : Nat → Nat) (lf : List Nat) (pc f e : Nat) : Prop := e - f ≤ pc ∨ ∀ j, f ≤ j → j < e → K (lf.getD j 0) = K (lf.getD f 0)
theorem getD_get {l : List Nat} {i : Nat} (h : i < l.length) : l[i]? = some (l.getD i 0) := by
  rw [List.getD_eq_getElem?_getD, List.getElem?_eq_getElem h]; rfl
theorem getD_mem {l : List Nat} {i : Nat} (h : i < l.length) : l.getD i 0 ∈ l := List.mem_of_getElem? (getD_get h)
section
variable {N : Nat} {K : Nat → Nat} {V : Nat → Int32} {ord : List Nat}
theorem piece_L {S : cs_St} (hL : Lg S N K V ord) {lf : List Nat} (hl : LV (S.1 18) (lf.map nI)) (hlen : lf.length < 512) (hm : ∀ a ∈ lf, 1 ≤ a ∧ a ≤ N) {f pc : Nat} (hf : f < lf.length) (hpc : pc < 2 ^ 31) :
    ∀ (n i en : Nat), f < i → i ≤ lf.length + 1 → lf.length + 1 - i < n → f ≤ en → en < i → (i = lf.length + 1 → en = lf.length) → ((en = f ∧ ∀ j, f ≤ j → j < i → j < lf.length → K (lf.getD j 0) = K (lf.getD f 0)) ∨ (f < en ∧ bd K lf en ∧ okp K lf pc f en)) →
      ∃ e, m_X2_pieceEnd_L7 S (nI f) (nI pc) n (nI en) (nI i) = nI e ∧ f < e ∧ e ≤ lf.length ∧ bd K lf e ∧ okp K lf pc f e := by
  intro n
  induction n with
  | zero => intro i en _ _ h; exact absurd h (Nat.not_lt_zero _)
  | succ n ih =>
    intro i en hfi hi hn hen hei hend hI
    rw [m_X2_pieceEnd_L7]
    simp only [cs_let, len_eq, hl.1, List.length_map]
    by_cases c1 : lf.length < i
    · rw [if_pos (by rw [nI_ltI (by omega) (by omega)]; exact c1)]
      have e1 := hend (by omega)
      refine ⟨en, rfl, by omega, by omega, ?_, ?_⟩
      · exact Or.inl e1
      · rcases hI with ⟨h, -⟩ | ⟨-, -, h⟩
        · omega
        · exact h
    · rw [if_neg (by rw [nI_ltI (by omega) (by omega)]; exact c1)]
      -- at a place where a key ends
      have atEnd : bd K lf i → ∃ e, (if nI en ≤ nI f then m_X2_pieceEnd_L7 S (nI f) (nI pc) n (nI i) (nI i + 1) else if nI i - nI f ≤ nI pc then m_X2_pieceEnd_L7 S (nI f) (nI pc) n (nI i) (nI i + 1) else nI en) = nI e ∧ f < e ∧ e ≤ lf.length ∧ bd K lf e ∧ okp K lf pc f e := by
        intro hb
        have go : okp K lf pc f i → ∃ e, m_X2_pieceEnd_L7 S (nI f) (nI pc) n (nI i) (nI i + 1) = nI e ∧ f < e ∧ e ≤ lf.length ∧ bd K lf e ∧ okp K lf pc f e := by
          intro ho
          rw [nI_1]
          exact ih (i + 1) i (by omega) (by omega) (by omega) (by omega) (by omega) (by omega) (Or.inr ⟨hfi, hb, ho⟩)
        by_cases c2 : en ≤ f
        · rw [if_pos (by rw [nI_leI (by omega) (by omega)]; exact c2)]
          refine go (Or.inr (fun j h1 h2 => ?_))
          rcases hI with ⟨-, h⟩ | ⟨h, -, -⟩
          · exact h j h1 h2 (by omega)
          · omega
        · rw [if_neg (by rw [nI_leI (by omega) (by omega)]; exact c2), pk_sub (by omega)]
          by_cases c3 : i - f ≤ pc
          · rw [if_pos (by rw [nI_leI (by omega) (by omega)]; exact c3)]
            exact go (Or.inl c3)
          · rw [if_neg (by rw [nI_leI (by omega) (by omega)]; exact c3)]
            rcases hI with ⟨h, -⟩ | ⟨h1, h2, h3⟩
            · omega
            · exact ⟨en, rfl, h1, by omega, h2, h3⟩
      by_cases c2 : i = lf.length
      · rw [if_pos (by rw [c2])]
        exact atEnd (Or.inl c2)
      · rw [if_neg (by rw [nI_eq (by omega) (by omega)]; exact c2)]
        have hil : i < lf.length := by omega
        have x1 : m_X3_at S 18 (nI i) = nI (lf.getD i 0) := LV_at hl (by rw [List.length_map]; show _ ≤ 512; omega) (by rw [List.getElem?_map, getD_get hil]; rfl)
        have x2 : m_X3_at S 18 (nI i - 1) = nI (lf.getD (i - 1) 0) := by
          obtain ⟨d, rfl⟩ : ∃ d, i = d + 1 := ⟨i - 1, by omega⟩
          rw [nI_pred]
          exact LV_at hl (by rw [List.length_map]; show _ ≤ 512; omega) (by rw [List.getElem?_map, show d + 1 - 1 = d by omega, getD_get (show d < lf.length by omega)]; rfl)
        have m1 := hm _ (getD_mem hil)
        have m2 := hm _ (getD_mem (show i - 1 < lf.length by omega))
        have k1 := (hL.2.2.2.2.2 _ m1.1 m1.2).2.1
        have k2 := (hL.2.2.2.2.2 _ m2.1 m2.2).2.1
        rw [x1, x2, hL.key m1.1 m1.2, hL.key m2.1 m2.2]
        by_cases c3 : K (lf.getD i 0) = K (lf.getD (i - 1) 0)
        · rw [if_pos (by rw [c3]), nI_1]
          refine ih (i + 1) en (by omega) (by omega) (by omega) hen (by omega) (by omega) ?_
          rcases hI with ⟨h1, h2⟩ | h
          · refine Or.inl ⟨h1, fun j g1 g2 g3 => ?_⟩
            by_cases e : j = i
            · rw [e, c3]
              exact h2 (i - 1) (by omega) (by omega) (by omega)
            · exact h2 j g1 (by omega) g3
          · exact Or.inr h
        · rw [if_neg (by rw [nI_eq (by omega) (by omega)]; exact c3)]
          exact atEnd (Or.inr ⟨hil, c3⟩)
theorem piece_eq {S : cs_St} (hL : Lg S N K V ord) {lf : List Nat} (hl : LV (S.1 18) (lf.map nI)) (hlen : lf.length < 512) (hm : ∀ a ∈ lf, 1 ≤ a ∧ a ≤ N) {f pc : Nat} (hf : f < lf.length) (hpc : pc < 2 ^ 31) : ∃ e, m_X2_pieceEnd S (nI f) (nI pc) = nI e ∧ f < e ∧ e ≤ lf.length ∧ bd K lf e ∧ okp K lf pc f e := by
  unfold m_X2_pieceEnd
  rw [nI_1]
  refine piece_L hL hl hlen hm hf hpc cs_N (f + 1) f (by omega) (by omega) (by show _ < 4294967296; omega) (Nat.le_refl _) (by omega) (by omega) (Or.inl ⟨rfl, fun j h1 h2 _ => ?_⟩)
  rw [show j = f by omega]
end
/-- pieces of a list: whole keys, as many as fit, at least one; with the way 0 all in one -/
def lays (K : Nat → Nat) (way pc : Nat) (b h : Int32) (lf : List Nat) (R : List Run) : Prop :=
  agz R = lf ∧ (∀ r ∈ R, r.1 ≠ [] ∧ r.2 = q4 K b h r.1) ∧ (way = 0 → R.length ≤ 1) ∧ (way ≠ 0 → R.Pairwise (fun r s => ∀ a ∈ r.1, ∀ b ∈ s.1, lf.Pairwise (srt K) → K a < K b) ∧ ∀ r ∈ R, r.1.length ≤ pc ∨ ∀ a ∈ r.1, ∀ b ∈ r.1, K a = K b)
theorem Sh.fits {S : cs_St} {L : Nat → List Run} (h : Sh S L) : (agz (RS L)).length < 512 := h.2.2.2.2.2.2.2.1
theorem slice_mem {lf : List Nat} {f e a : Nat} (h : a ∈ (lf.drop f).take (e - f)) : ∃ j, f ≤ j ∧ j < e ∧ j < lf.length ∧ a = lf.getD j 0 := by
  obtain ⟨j, hj⟩ := List.getElem?_of_mem h
  rw [List.getElem?_take] at hj
  split at hj
  · rw [List.getElem?_drop] at hj
    have h9 := (List.getElem?_eq_some_iff.mp hj).1
    refine ⟨f + j, by omega, by omega, h9, ?_⟩
    rw [List.getD_eq_getElem?_getD, hj]; rfl
  · cases hj
theorem drop_mem {lf : List Nat} {e a : Nat} (h : a ∈ lf.drop e) : ∃ j, e ≤ j ∧ j < lf.length ∧ a = lf.getD j 0 := by
  obtain ⟨j, hj⟩ := List.getElem?_of_mem h
  rw [List.getElem?_drop] at hj
  have h9 := (List.getElem?_eq_some_iff.mp hj).1
  exact ⟨e + j, by omega, h9, by rw [List.getD_eq_getElem?_getD, hj]; rfl⟩
theorem srt_get {K : Nat → Nat} {lf : List Nat} (h : lf.Pairwise (srt K)) {i j : Nat} (hij : i < j) (hj : j < lf.length) : srt K (lf.getD i 0) (lf.getD j 0) := by
  have := List.pairwise_iff_getElem.mp h i j (by omega) hj hij
  rw [List.getD_eq_getElem?_getD, List.getD_eq_getElem?_getD, List.getElem?_eq_getElem hj, List.getElem?_eq_getElem (show i < lf.length by omega)]
  exact this
theorem srt_le {K : Nat → Nat} {lf : List Nat} (h : lf.Pairwise (srt K)) {i j : Nat} (hij : i ≤ j) (hj : j < lf.length) : K (lf.getD i 0) ≤ K (lf.getD j 0) := by
  rcases Nat.lt_or_ge i j with c | c
  · rcases srt_get h c hj with h | ⟨h, -⟩ <;> omega
  · rw [show i = j by omega]; exact Nat.le_refl _
section
variable {N : Nat} {K : Nat → Nat} {V : Nat → Int32} {ord : List Nat}
theorem layPile_L {lf : List Nat} (hlen : lf.length < 512) (hm : ∀ a ∈ lf, 1 ≤ a ∧ a ≤ N) {lv pl way pc : Nat} (hlv : lv < 4) (hpc : pc < 2 ^ 31) {b h : Int32} :
    ∀ (n f made : Nat) (S : cs_St) (L : Nat → List Run), Lg S N K V ord → Sh S L → LV (S.1 18) (lf.map nI) → S.2 1 = nI way → way ≤ 1 → S.2 3 = nI pc → S.2 4 = b → S.2 5 = h → pl + made ≤ (L lv).length → made ≤ f → f ≤ lf.length → 512 - made < n → (agz (RS L)).length + (lf.length - f) < 512 → (way = 0 → f = 0 ∨ f = lf.length) →
      ∃ R, lays K way pc b h (lf.drop f) R ∧ (f = lf.length → R = []) ∧ Sh (m_X6_layPile_L14 (nI lv) (nI pl) n (nI f) (nI made) S).2.2 (Lset L lv ((L lv).take (pl + made) ++ (R ++ (L lv).drop (pl + made)))) ∧ fr [10, 11, 12, 13, 14, 15, 16] S (m_X6_layPile_L14 (nI lv) (nI pl) n (nI f) (nI made) S).2.2 := by
  intro n
  induction n with
  | zero => intro f made S L _ _ _ _ _ _ _ _ _ _ _ h; exact absurd h (Nat.not_lt_zero _)
  | succ n ih =>
    intro f made S L hL hS hl hway hw1 hpcS hb hh hpl hmf hf hn hfit hw0
    have hnil : f = lf.length → lays K way pc b h (lf.drop f) [] := fun e => by
      rw [e, List.drop_length]
      exact ⟨rfl, fun r hr => (by cases hr), fun _ => Nat.zero_le _, fun _ => ⟨List.Pairwise.nil, fun r hr => (by cases hr)⟩⟩
    have hself : Lset L lv ((L lv).take (pl + made) ++ ([] ++ (L lv).drop (pl + made))) = L := by
      rw [List.nil_append, List.take_append_drop]
      exact funext fun l => by
        show (if l = lv then L lv else L l) = L l
        split
        · next e => rw [e]
        · rfl
    have done : f = lf.length → ∃ R, lays K way pc b h (lf.drop f) R ∧ (f = lf.length → R = []) ∧ Sh S (Lset L lv ((L lv).take (pl + made) ++ (R ++ (L lv).drop (pl + made)))) ∧ fr [10, 11, 12, 13, 14, 15, 16] S S := fun e => ⟨[], hnil e, fun _ => rfl, by rw [hself]; exact hS, fr.rf⟩
    rw [m_X6_layPile_L14]
    by_cases c1 : 512 ≤ made
    · omega
    · rw [if_neg (by rw [show (512 : Int32) = nI 512 from rfl, nI_leI (by omega) (by omega)]; exact c1)]
      simp only [cs_let, len_eq, hl.1, List.length_map]
      by_cases c2 : lf.length ≤ f
      · rw [if_pos (by rw [nI_leI (by omega) (by omega)]; exact c2)]
        exact done (by omega)
      · rw [if_neg (by rw [nI_leI (by omega) (by omega)]; exact c2), hway, hb, hh, hpcS, nI_add, nI_1]
        -- one piece laid, and the rest
        have one : ∀ e, f < e → e ≤ lf.length → (way = 0 → e = lf.length) → (way ≠ 0 → bd K lf e ∧ okp K lf pc f e) → ∃ R, lays K way pc b h (lf.drop f) R ∧ (f = lf.length → R = []) ∧ Sh (m_X6_layPile_L14 (nI lv) (nI pl) n (nI e) (nI (made + 1)) (m_X4_insert S (nI lv) (nI (pl + made)) 18 (nI f) (nI e) b h)).2.2 (Lset L lv ((L lv).take (pl + made) ++ (R ++ (L lv).drop (pl + made)))) ∧ fr [10, 11, 12, 13, 14, 15, 16] S (m_X6_layPile_L14 (nI lv) (nI pl) n (nI e) (nI (made + 1)) (m_X4_insert S (nI lv) (nI (pl + made)) 18 (nI f) (nI e) b h)).2.2 := by
          intro e he1 he2 he0 hek
          obtain ⟨i1, i2⟩ := insert_shelf hL hS (lv := lv) (pl := pl + made) (j3 := 18) (f := f) (t := e) (src := lf) hlv (by omega) (Or.inr (by decide)) (by show _ ≤ 512; omega) he1 he2 hm hl (by omega) b h
          generalize m_X4_insert S (nI lv) (nI (pl + made)) 18 (nI f) (nI e) b h = S1 at i1 i2
          generalize hx : (lf.drop f).take (e - f) = xs at i1
          have hxl : xs.length = e - f := by rw [← hx, List.length_take, List.length_drop]; omega
          have hlvs : Lset L lv ((L lv).take (pl + made) ++ (xs, q4 K b h xs) :: (L lv).drop (pl + made)) lv = (L lv).take (pl + made) ++ (xs, q4 K b h xs) :: (L lv).drop (pl + made) := if_pos rfl
          have htl : ((L lv).take (pl + made)).length = pl + made := by rw [List.length_take]; omega
          obtain ⟨Z, hZ, hZs⟩ := RS_at L hlv
          have hnum : (agz (RS (Lset L lv ((L lv).take (pl + made) ++ (xs, q4 K b h xs) :: (L lv).drop (pl + made))))).length = (agz (RS L)).length + (e - f) := by
            rw [hZs, hZ]
            conv => rhs; arg 1; rw [← List.take_append_drop (pl + made) (L lv)]
            simp only [agz_app, agz_cons, List.length_append, hxl]
            omega
          obtain ⟨R, r1, r2, r3, r4⟩ := ih e (made + 1) S1 (Lset L lv ((L lv).take (pl + made) ++ (xs, q4 K b h xs) :: (L lv).drop (pl + made))) (hL.mv i2 (by decide) (by decide) (by decide)) i1 (by rw [i2.2 18 (by decide)]; exact hl) (by rw [i2.1]; exact hway) hw1 (by rw [i2.1]; exact hpcS) (by rw [i2.1]; exact hb) (by rw [i2.1]; exact hh) (by rw [hlvs, List.length_append, List.length_cons, htl]; omega) (by omega) he2 (by omega) (by rw [hnum]; omega) (fun w => Or.inr (he0 w))
          have hdx : lf.drop f = xs ++ lf.drop e := by
            conv => lhs; rw [← List.take_append_drop (e - f) (lf.drop f), List.drop_drop, show f + (e - f) = e by omega]
            rw [hx]
          refine ⟨(xs, q4 K b h xs) :: R, ?_, fun z => by omega, ?_, i2.tr r4⟩
          · obtain ⟨l1, l2, l3, l4⟩ := r1
            refine ⟨by rw [agz_cons, l1, hdx], fun r hr => ?_, fun w => ?_, fun w => ?_⟩
            · rcases List.mem_cons.mp hr with rfl | hr
              · exact ⟨List.length_pos_iff.mp (by show 0 < xs.length; omega), rfl⟩
              · exact l2 r hr
            · rw [r2 (he0 w)]
              exact Nat.le_refl _
            · obtain ⟨hb1, ho1⟩ := hek w
              obtain ⟨p1, p2⟩ := l4 w
              have hxm : ∀ a ∈ xs, ∃ j, f ≤ j ∧ j < e ∧ j < lf.length ∧ a = lf.getD j 0 := fun a ha => slice_mem (by rw [hx]; exact ha)
              refine ⟨List.pairwise_cons.mpr ⟨fun s hs a ha c hc hsort => ?_, p1.imp (fun hh2 a ha c hc hs2 => hh2 a ha c hc (hs2.sublist (by rw [hdx]; exact List.sublist_append_right _ _)))⟩, fun r hr => ?_⟩
              · have hcd : c ∈ lf.drop e := by
                  rw [← l1]
                  exact List.mem_flatMap.mpr ⟨s, hs, hc⟩
                obtain ⟨j, j1, j2, j3, rfl⟩ := hxm a ha
                obtain ⟨k, k1, k2, rfl⟩ := drop_mem hcd
                have g : ∀ i, (lf.drop f).getD i 0 = lf.getD (f + i) 0 := fun i => by rw [List.getD_eq_getElem?_getD, List.getD_eq_getElem?_getD, List.getElem?_drop]
                have hle : ∀ i1 i2, f ≤ i1 → i1 ≤ i2 → i2 < lf.length → K (lf.getD i1 0) ≤ K (lf.getD i2 0) := by
                  intro i1 i2 q1 q2 q3
                  have := srt_le hsort (i := i1 - f) (j := i2 - f) (by omega) (by rw [List.length_drop]; omega)
                  rw [g, g, show f + (i1 - f) = i1 by omega, show f + (i2 - f) = i2 by omega] at this
                  exact this
                rcases hb1 with hb1 | ⟨hb1, hb2⟩
                · omega
                · have a1 := hle j (e - 1) j1 (by omega) (by omega)
                  have a2 := hle (e - 1) e (by omega) (by omega) hb1
                  have a3 := hle e k (by omega) k1 k2
                  omega
              · rcases List.mem_cons.mp hr with rfl | hr
                · show xs.length ≤ pc ∨ ∀ a ∈ xs, ∀ b ∈ xs, K a = K b
                  rcases ho1 with ho1 | ho1
                  · exact Or.inl (by omega)
                  · refine Or.inr (fun a ha c hc => ?_)
                    obtain ⟨j, j1, j2, -, rfl⟩ := hxm a ha
                    obtain ⟨k, k1, k2, -, rfl⟩ := hxm c hc
                    rw [ho1 j j1 j2, ho1 k k1 k2]
                · exact p2 r hr
          · rw [hlvs, show pl + (made + 1) = ((L lv).take (pl + made)).length + 1 by omega, List.take_append, List.drop_append, List.take_of_length_le (l := (L lv).take (pl + made)) (by omega), List.drop_of_length_le (l := (L lv).take (pl + made)) (by omega), Nat.add_sub_cancel_left, List.take_succ_cons, List.take_zero, List.drop_succ_cons, List.drop_zero, List.nil_append] at r3
            have e9 : Lset (Lset L lv ((L lv).take (pl + made) ++ (xs, q4 K b h xs) :: (L lv).drop (pl + made))) lv ((L lv).take (pl + made) ++ [(xs, q4 K b h xs)] ++ (R ++ (L lv).drop (pl + made))) = Lset L lv ((L lv).take (pl + made) ++ ((xs, q4 K b h xs) :: R ++ (L lv).drop (pl + made))) := by
              refine funext fun l => ?_
              show (if l = lv then _ else if l = lv then _ else L l) = if l = lv then _ else L l
              by_cases e : l = lv
              · rw [if_pos e, if_pos e]; simp [List.append_assoc]
              · rw [if_neg e, if_neg e, if_neg e]
            rw [e9] at r3
            exact r3
        by_cases c3 : way = 0
        · rw [if_pos (by rw [nI_eq0 (by omega)]; exact c3)]
          exact one lf.length (by omega) (Nat.le_refl _) (fun _ => rfl) (fun z => absurd c3 z)
        · rw [if_neg (by rw [nI_eq0 (by omega)]; exact c3)]
          obtain ⟨e, e1, e2, e3, e4, e5⟩ := piece_eq hL hl hlen hm (show f < lf.length by omega) hpc
          rw [e1]
          exact one e e2 e3 (fun z => absurd z c3) (fun _ => ⟨e4, e5⟩)
theorem layPile_eq {S : cs_St} {L : Nat → List Run} (hL : Lg S N K V ord) (hS : Sh S L) {lf : List Nat} (hlen : lf.length < 512) (hm : ∀ a ∈ lf, 1 ≤ a ∧ a ≤ N) {lv pl way pc : Nat} (hlv : lv < 4) (hpc : pc < 2 ^ 31) (hl : LV (S.1 18) (lf.map nI)) (hway : S.2 1 = nI way) (hw1 : way ≤ 1) (hpcS : S.2 3 = nI pc) (hpl : pl ≤ (L lv).length) (hfit : (agz (RS L)).length + lf.length < 512) :
    ∃ R, lays K way pc (S.2 4) (S.2 5) lf R ∧ Sh (m_X6_layPile S (nI lv) (nI pl)) (Lset L lv ((L lv).take pl ++ (R ++ (L lv).drop pl))) ∧ fr [0, 10, 11, 12, 13, 14, 15, 16] S (m_X6_layPile S (nI lv) (nI pl)) ∧ ((m_X6_layPile S (nI lv) (nI pl)).1 0).2 = (S.1 0).2 ∧ ∀ k, ((m_X6_layPile S (nI lv) (nI pl)).1 0).1 k = if k = 5 then (S.1 0).1 5 + nI lf.length else (S.1 0).1 k := by
  obtain ⟨R, r1, -, r3, r4⟩ := layPile_L (K := K) (V := V) (ord := ord) (lv := lv) (pl := pl) (pc := pc) (b := S.2 4) (h := S.2 5) hlen hm hlv hpc cs_N 0 0 S L hL hS hl hway hw1 hpcS rfl rfl (by omega) (Nat.le_refl _) (Nat.zero_le _) (by show _ < 4294967296; omega) (by omega) (fun _ => Or.inl rfl)
  have e : m_X6_layPile S (nI lv) (nI pl) = m_X3_raise (m_X6_layPile_L14 (nI lv) (nI pl) cs_N (nI 0) (nI 0) S).2.2 0 (nI 5) (nI ((m_X6_layPile_L14 (nI lv) (nI pl) cs_N (nI 0) (nI 0) S).2.2.1 18).2) := rfl
  rw [e]
  generalize (m_X6_layPile_L14 (nI lv) (nI pl) cs_N (nI 0) (nI 0) S).2.2 = S1 at r3 r4
  rw [raise_eq (show 5 < cs_cap 0 by decide)]
  have h18 : (S1.1 18).2 = lf.length := by rw [r4.2 18 (by decide), hl.1, List.length_map]
  have h0 : S1.1 0 = S.1 0 := r4.2 0 (by decide)
  rw [List.drop_zero] at r1
  rw [Nat.add_zero] at r3
  refine ⟨R, r1, r3.mv fr.sR (fun k hk => by simp at hk; omega), (r4.mono (by simp)).tr (fr.sR.mono (by simp)), ?_, fun k => ?_⟩
  · rw [sR_self]; show (S1.1 0).2 = _; rw [h0]
  · rw [sR_self, h0, h18]
    show (if k = 5 then _ else (S.1 0).1 k) = _
    rfl
end
