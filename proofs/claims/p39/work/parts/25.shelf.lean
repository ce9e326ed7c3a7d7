/-! MATHEMATICS 6: runs are taken off the shelf -/
def Lset (L : Nat → List Run) (lv : Nat) (x : List Run) : Nat → List Run := fun l => if l = lv then x else L l
theorem pre_set (L : Nat → List Run) (lv : Nat) (x : List Run) : ∀ l, l ≤ lv → pre (Lset L lv x) l = pre L l := by
  intro l
  induction l with
  | zero => intro _; rfl
  | succ l ih =>
    intro h
    rw [pre_succ, pre_succ, ih (by omega), show Lset L lv x l = L l from if_neg (by omega)]
theorem RS_at (L : Nat → List Run) {lv : Nat} (h : lv < 4) : ∃ Z, RS L = pre L lv ++ (L lv ++ Z) ∧ ∀ x, RS (Lset L lv x) = pre L lv ++ (x ++ Z) := by
  have key : ∀ m, ∃ Z, pre L (lv + 1 + m) = pre L lv ++ (L lv ++ Z) ∧ ∀ x, pre (Lset L lv x) (lv + 1 + m) = pre L lv ++ (x ++ Z) := by
    intro m
    induction m with
    | zero =>
      refine ⟨[], by rw [List.append_nil, ← pre_succ], fun x => ?_⟩
      rw [List.append_nil]
      show pre (Lset L lv x) (lv + 1) = _
      rw [pre_succ, pre_set L lv x lv (Nat.le_refl _), show Lset L lv x lv = x from if_pos rfl]
    | succ m ih =>
      obtain ⟨Z, h1, h2⟩ := ih
      refine ⟨Z ++ L (lv + 1 + m), ?_, fun x => ?_⟩
      · show pre L (lv + 1 + m + 1) = _
        rw [pre_succ, h1]
        simp [List.append_assoc]
      · show pre (Lset L lv x) (lv + 1 + m + 1) = _
        rw [pre_succ, h2, show Lset L lv x (lv + 1 + m) = L (lv + 1 + m) from if_neg (by omega)]
        simp [List.append_assoc]
  obtain ⟨Z, h1, h2⟩ := key (3 - lv)
  rw [show lv + 1 + (3 - lv) = 4 by omega] at h1 h2
  exact ⟨Z, h1, h2⟩
theorem cutL {S : cs_St} {j a b : Nat} {l : List Int32} (h : LV (S.1 j) l) (hc : l.length ≤ cs_cap j) (hab : a ≤ b) (hb : b ≤ l.length) : ∃ r, m_X3_cut S j (nI a) (nI b) = cs_sR S j r ∧ LV r (l.take a ++ l.drop b) := by
  have hcl := cap_lt j
  by_cases e : a = b
  · subst e
    exact ⟨S.1 j, by rw [cut_no (Nat.le_refl _) (by omega)]; exact sR_eta.symm, by rw [List.take_append_drop]; exact h⟩
  · exact ⟨_, cut_eq (by omega) (by rw [h.1]; exact hb) (by rw [h.1]; exact hc), h.cut (by omega) hb⟩
theorem cutE_L {δ : Int32} {g : Nat → Nat} (u8 u7 u6 u5 u4 u1 u2 u3 : Int32) (hδ : u7 - u8 = δ) : ∀ (n i : Nat) (S : cs_St) (l : List Nat), LV (S.1 11) (l.map nI) → l.length ≤ 512 → i ≤ l.length → l.length - i < n → (∀ x ∈ l.drop i, nI x + δ = nI (g x)) →
    ∃ r, (m_X4_cut_L105 u8 u7 u6 u5 u4 u1 u2 u3 n (nI i) S).2 = cs_sR S 11 r ∧ LV r ((l.take i ++ (l.drop i).map g).map nI) := by
  intro n
  induction n with
  | zero => intro i S l _ _ _ h; exact absurd h (Nat.not_lt_zero _)
  | succ n ih =>
    intro i S l hl hc hi hn hg
    rw [m_X4_cut_L105]
    simp only [cs_let, len_eq, hl.1, List.length_map]
    by_cases hd : l.length ≤ i
    · rw [if_pos (by rw [nI_leI (by omega) (by omega)]; exact hd)]
      refine ⟨S.1 11, sR_eta.symm, ?_⟩
      rw [List.drop_eq_nil_of_le hd, List.take_of_length_le hd]
      simpa using hl
    · have hlt : i < l.length := by omega
      rw [if_neg (by rw [nI_leI (by omega) (by omega)]; exact hd), raise_eq (show i < 512 by omega), hδ, nI_1]
      have hx : (S.1 11).1 i = nI l[i] := hl.2 i _ (by rw [List.getElem?_map, List.getElem?_eq_getElem hlt]; rfl)
      rw [hx, hg l[i] (by rw [List.drop_eq_getElem_cons hlt]; exact List.mem_cons_self)]
      have e1 : (l.set i (g l[i])).take (i + 1) = l.take i ++ [g l[i]] := by
        rw [List.take_add_one, List.take_set, List.getElem?_set_self hlt, List.set_eq_of_length_le (by simp; omega)]
        rfl
      have e2 : (l.set i (g l[i])).drop (i + 1) = l.drop (i + 1) := by
        rw [List.drop_set_of_lt (by omega)]
      obtain ⟨r, a1, a2⟩ := ih (i + 1) (cs_sR S 11 (rw_set (S.1 11) i (nI (g l[i])))) (l.set i (g l[i])) (by rw [sR_self, List.map_set]; exact hl.set i _) (by rw [List.length_set]; exact hc) (by rw [List.length_set]; omega) (by rw [List.length_set]; omega) (by
        rw [e2]
        intro x hx2
        refine hg x ?_
        rw [List.drop_eq_getElem_cons hlt]
        exact List.mem_cons_of_mem _ hx2)
      refine ⟨r, by rw [a1, sR_sR], ?_⟩
      rw [e1, e2] at a2
      rw [List.drop_eq_getElem_cons hlt, List.map_cons]
      simpa [List.append_assoc] using a2
theorem alg1 (x y z : Int32) : (x + y) + (z - (z + y)) = x := by grind
theorem sub_fd {c f d : Nat} (h : d ≤ c) : nI c + (nI f - nI (f + d)) = nI (c - d) := by
  have h1 : nI c = nI (c - d) + nI d := by rw [nI_add, Nat.sub_add_cancel h]
  rw [h1, ← nI_add f d, alg1]
theorem agz_take {R : List Run} (i : Nat) : (agz R).take (agz (R.take i)).length = agz (R.take i) := by
  conv => lhs; arg 2; rw [← List.take_append_drop i R, agz_app]
  exact List.take_left
theorem agz_drop {R : List Run} (i : Nat) : (agz R).drop (agz (R.take i)).length = agz (R.drop i) := by
  conv => lhs; arg 2; rw [← List.take_append_drop i R, agz_app]
  exact List.drop_left
theorem endz_take {R : List Run} (i : Nat) : (endz 0 R).take i = endz 0 (R.take i) := by
  by_cases h : i ≤ R.length
  · have e : (endz 0 (R.take i)).length = i := by rw [endz_len, List.length_take]; omega
    conv => lhs; arg 2; rw [← List.take_append_drop i R, endz_app]
    conv => lhs; arg 1; rw [← e]
    exact List.take_left
  · rw [List.take_of_length_le (by rw [endz_len]; omega), List.take_of_length_le (by omega)]
theorem endz_drop {R : List Run} {i : Nat} (h : i ≤ R.length) : (endz 0 R).drop i = endz (agz (R.take i)).length (R.drop i) := by
  have e : (endz 0 (R.take i)).length = i := by rw [endz_len, List.length_take]; omega
  conv => lhs; arg 2; rw [← List.take_append_drop i R, endz_app]
  conv => lhs; arg 1; rw [← e]
  rw [List.drop_left, Nat.zero_add]
theorem cut_shelf {S : cs_St} {L : Nat → List Run} (h : Sh S L) {lv f t : Nat} (hl : lv < 4) (hft : f ≤ t) (ht : t ≤ (L lv).length) :
    Sh (m_X4_cut S (nI lv) (nI f) (nI t)) (Lset L lv ((L lv).take f ++ (L lv).drop t)) ∧ fr [10, 11, 12, 13, 14, 15, 16] S (m_X4_cut S (nI lv) (nI f) (nI t)) := by
  obtain ⟨Z, hZ, hZs⟩ := RS_at L hl
  have hn := h.nR
  have hcl := h.cnt_le hl
  obtain ⟨h10, h11, h12, h13, h14, h15, h16, hlen, hne⟩ := id h
  generalize hp : (pre L lv).length = p at hcl
  have hR' : RS (Lset L lv ((L lv).take f ++ (L lv).drop t)) = (RS L).take (p + f) ++ (RS L).drop (p + t) := by
    rw [hZs, hZ, ← hp, List.take_append, List.drop_append, List.take_of_length_le (l := pre L lv) (by omega), List.drop_of_length_le (l := pre L lv) (by omega)]
    rw [show (pre L lv).length + f - (pre L lv).length = f by omega, show (pre L lv).length + t - (pre L lv).length = t by omega, List.take_append_of_le_length (by omega), List.drop_append_of_le_length (by omega)]
    simp [List.append_assoc]
  generalize hR : RS L = R at *
  have hbe : ∀ i, i ≤ R.length → m_X4_begin S (nI i) = nI (agz (R.take i)).length := fun i hi => by rw [← hR]; exact h.begin (by rw [hR]; exact hi)
  have hmono : (agz (R.take (p + f))).length ≤ (agz (R.take (p + t))).length := by
    have e : R.take (p + f) = (R.take (p + t)).take (p + f) := by rw [List.take_take, Nat.min_eq_left (by omega)]
    rw [e]
    exact agz_take_le _ _
  have hle := agz_take_le R (p + t)
  unfold m_X4_cut
  simp only [cs_let]
  rw [h.first (by omega), hp, nI_add, nI_add, hbe _ (by omega), hbe _ (by omega)]
  obtain ⟨r10, e10, l10⟩ := cutL (S := S) (j := 10) h10 (by rw [List.length_map]; show _ ≤ 512; omega) hmono (by rw [List.length_map]; exact hle)
  rw [e10]
  obtain ⟨r11, e11, l11⟩ := cutL (S := cs_sR S 10 r10) (j := 11) (a := p + f) (b := p + t) (by rw [sR_ne (by decide)]; exact h11) (by rw [List.length_map, endz_len]; show _ ≤ 512; omega) (by omega) (by rw [List.length_map, endz_len]; omega)
  rw [e11]
  obtain ⟨r12, e12, l12⟩ := cutL (S := cs_sR (cs_sR S 10 r10) 11 r11) (j := 12) (a := p + f) (b := p + t) (by rw [sR_ne (by decide), sR_ne (by decide)]; exact h12) (by rw [List.length_map]; show _ ≤ 512; omega) (by omega) (by rw [List.length_map]; omega)
  rw [e12]
  obtain ⟨r13, e13, l13⟩ := cutL (S := cs_sR (cs_sR (cs_sR S 10 r10) 11 r11) 12 r12) (j := 13) (a := p + f) (b := p + t) (by rw [sR_ne (by decide), sR_ne (by decide), sR_ne (by decide)]; exact h13) (by rw [List.length_map]; show _ ≤ 512; omega) (by omega) (by rw [List.length_map]; omega)
  rw [e13]
  obtain ⟨r14, e14, l14⟩ := cutL (S := cs_sR (cs_sR (cs_sR (cs_sR S 10 r10) 11 r11) 12 r12) 13 r13) (j := 14) (a := p + f) (b := p + t) (by rw [sR_ne (by decide), sR_ne (by decide), sR_ne (by decide), sR_ne (by decide)]; exact h14) (by rw [List.length_map]; show _ ≤ 512; omega) (by omega) (by rw [List.length_map]; omega)
  rw [e14]
  obtain ⟨r15, e15, l15⟩ := cutL (S := cs_sR (cs_sR (cs_sR (cs_sR (cs_sR S 10 r10) 11 r11) 12 r12) 13 r13) 14 r14) (j := 15) (a := p + f) (b := p + t) (by rw [sR_ne (by decide), sR_ne (by decide), sR_ne (by decide), sR_ne (by decide), sR_ne (by decide)]; exact h15) (by rw [List.length_map]; show _ ≤ 512; omega) (by omega) (by rw [List.length_map]; omega)
  rw [e15]
  obtain ⟨d, hd⟩ : ∃ d, (agz (R.take (p + t))).length = (agz (R.take (p + f))).length + d := ⟨_, (Nat.add_sub_cancel' hmono).symm⟩
  rw [← List.map_take, ← List.map_drop, ← List.map_append] at l11
  have eE : (endz 0 R).take (p + f) ++ (endz 0 R).drop (p + t) = endz 0 (R.take (p + f)) ++ endz ((agz (R.take (p + f))).length + d) (R.drop (p + t)) := by rw [endz_take, endz_drop (by omega), hd]
  rw [eE] at l11
  have eL : (endz 0 (R.take (p + f))).length = p + f := by rw [endz_len, List.length_take]; omega
  obtain ⟨s11, f11, m11⟩ := cutE_L (δ := nI (agz (R.take (p + f))).length - nI (agz (R.take (p + t))).length) (g := fun x => x - d) (nI (agz (R.take (p + t))).length) (nI (agz (R.take (p + f))).length) (nI (p + t)) (nI (p + f)) (nI p) (nI lv) (nI f) (nI t) rfl cs_N (p + f) (cs_sR (cs_sR (cs_sR (cs_sR (cs_sR (cs_sR S 10 r10) 11 r11) 12 r12) 13 r13) 14 r14) 15 r15) _ (by rw [sR_ne (by decide), sR_ne (by decide), sR_ne (by decide), sR_ne (by decide), sR_self]; exact l11) (by rw [List.length_append, endz_len, endz_len, List.length_take, List.length_drop]; omega) (by rw [List.length_append, eL]; omega) (by rw [List.length_append, eL, endz_len, List.length_drop]; show _ < 4294967296; omega) (by
    rw [List.drop_append, eL, Nat.sub_self, List.drop_zero, List.drop_of_length_le (by omega), List.nil_append]
    intro x hx
    have h1 := endz_ge _ _ x hx
    rw [hd]
    exact sub_fd (by omega))
  rw [f11]
  rw [List.take_append, List.drop_append, eL, Nat.sub_self, List.drop_zero, List.take_zero, List.append_nil, List.drop_of_length_le (by omega), List.nil_append, List.take_of_length_le (by omega), endz_shift, List.map_map, show ((fun x => x - d) ∘ fun x => x + d) = id from funext fun x => Nat.add_sub_cancel x d, List.map_id] at m11
  have eEnd : endz 0 (R.take (p + f)) ++ endz (agz (R.take (p + f))).length (R.drop (p + t)) = endz 0 (R.take (p + f) ++ R.drop (p + t)) := by rw [endz_app, Nat.zero_add]
  rw [eEnd] at m11
  rw [raise_eq (show lv < cs_cap 16 from hl)]
  have hcnt : (S.1 16).1 lv + (nI f - nI t) = nI ((L lv).take f ++ (L lv).drop t).length := by
    rw [h16 lv hl]
    obtain ⟨e, rfl⟩ : ∃ e, t = f + e := ⟨t - f, by omega⟩
    rw [sub_fd (by omega), List.length_append, List.length_take, List.length_drop]
    congr 1
    omega
  refine ⟨⟨?_, ?_, ?_, ?_, ?_, ?_, ?_, ?_, ?_⟩, ⟨rfl, fun k hk => ?_⟩⟩
  · rw [sR_ne (by decide), sR_ne (by decide), sR_ne (by decide), sR_ne (by decide), sR_ne (by decide), sR_ne (by decide), sR_ne (by decide), sR_self, hR', agz_app]
    rw [← List.map_take, ← List.map_drop, ← List.map_append, agz_take, agz_drop] at l10
    exact l10
  · rw [sR_ne (by decide), sR_self, hR']; exact m11
  · rw [sR_ne (by decide), sR_ne (by decide), sR_ne (by decide), sR_ne (by decide), sR_ne (by decide), sR_self, hR', List.map_append, List.map_take, List.map_drop]; exact l12
  · rw [sR_ne (by decide), sR_ne (by decide), sR_ne (by decide), sR_ne (by decide), sR_self, hR', List.map_append, List.map_take, List.map_drop]; exact l13
  · rw [sR_ne (by decide), sR_ne (by decide), sR_ne (by decide), sR_self, hR', List.map_append, List.map_take, List.map_drop]; exact l14
  · rw [sR_ne (by decide), sR_ne (by decide), sR_self, hR', List.map_append, List.map_take, List.map_drop]; exact l15
  · intro l hl4
    rw [sR_self]
    simp only [sR_ne (show (16 : Nat) ≠ 11 by decide), sR_ne (show (16 : Nat) ≠ 15 by decide), sR_ne (show (16 : Nat) ≠ 14 by decide), sR_ne (show (16 : Nat) ≠ 13 by decide), sR_ne (show (16 : Nat) ≠ 12 by decide), sR_ne (show (16 : Nat) ≠ 10 by decide)]
    show (if l = lv then _ else (S.1 16).1 l) = nI (if l = lv then _ else L l).length
    by_cases e : l = lv
    · rw [if_pos e, if_pos e]; exact hcnt
    · rw [if_neg e, if_neg e]; exact h16 l hl4
  · rw [hR', agz_app, List.length_append]
    have h1 : (agz R).length = (agz (R.take (p + t))).length + (agz (R.drop (p + t))).length := by
      conv => lhs; rw [← List.take_append_drop (p + t) R, agz_app, List.length_append]
    omega
  · rw [hR']
    intro r hr
    rcases List.mem_append.mp hr with h1 | h1
    · exact hne r (List.mem_of_mem_take h1)
    · exact hne r (List.mem_of_mem_drop h1)
  · simp at hk
    rw [sR_ne (by omega), sR_ne (by omega), sR_ne (by omega), sR_ne (by omega), sR_ne (by omega), sR_ne (by omega), sR_ne (by omega), sR_ne (by omega)]
