/-! MATHEMATICS 13: which runs are taken -/
theorem i32_as (x y : Int32) : (x + y) - x = y := by grind
theorem sl (x y z w : List Nat) {a b : Nat} (ha : a = x.length + y.length) (hb : b = x.length + (y.length + z.length)) : ((x ++ ((y ++ z) ++ w)).take b).drop a = z := by
  have e : x ++ ((y ++ z) ++ w) = ((x ++ y) ++ z) ++ w := by simp [List.append_assoc]
  rw [e, List.take_left' (by simp only [List.length_append]; omega), List.drop_left' (by simp only [List.length_append]; omega)]
theorem cs_lx {α β : Type} (a : α) (f : α → β) : cs_let a f = f a := (Eq.refl (f a)).trans rfl
def lo (K : Nat → Nat) (r : Run) : Nat := K (r.1.headD 0)
def hi (K : Nat → Nat) (r : Run) : Nat := K (r.1.getLastD 0)
theorem headD_s {l : List Nat} (h : l ≠ []) : l.head? = some (l.headD 0) := by
  cases l with
  | nil => exact absurd rfl h
  | cons a t => rfl
theorem lastD_s {l : List Nat} (h : l ≠ []) : l.getLast? = some (l.getLastD 0) := by
  rw [List.getLastD_eq_getLast?, List.getLast?_eq_some_getLast h]
  rfl
theorem lo_le {K : Nat → Nat} {r : Run} (hs : r.1.Pairwise (srt K)) {a : Nat} (ha : a ∈ r.1) : lo K r ≤ K a := srt_head hs (headD_s (List.ne_nil_of_mem ha)) ha
theorem le_hi {K : Nat → Nat} {r : Run} (hs : r.1.Pairwise (srt K)) {a : Nat} (ha : a ∈ r.1) : K a ≤ hi K r := srt_last hs (lastD_s (List.ne_nil_of_mem ha)) ha
theorem lo_hi {K : Nat → Nat} {r : Run} (hs : r.1.Pairwise (srt K)) (h : r.1 ≠ []) : lo K r ≤ hi K r := le_hi hs (List.mem_of_mem_head? (headD_s h))
theorem RS_get (L : Nat → List Run) {lv i : Nat} (hl : lv < 4) (hi : i < (L lv).length) : (RS L)[(pre L lv).length + i]? = (L lv)[i]? := by
  obtain ⟨Z, h, -⟩ := RS_at L hl
  rw [h, List.getElem?_append_right (by omega), Nat.add_sub_cancel_left, List.getElem?_append_left hi]
theorem RS_mem (L : Nat → List Run) {lv : Nat} (hl : lv < 4) {r : Run} (h : r ∈ L lv) : r ∈ RS L := by
  obtain ⟨Z, e, -⟩ := RS_at L hl
  rw [e]; simp [h]
section
variable {S : cs_St} {N : Nat} {K : Nat → Nat} {V : Nat → Int32} {ord : List Nat} {L : Nat → List Run}
theorem Bs.lo9 (h : Bs S N K V ord L) {i : Nat} {r : Run} (hr : (RS L)[i]? = some r) : lo K r < 10000 := h.K9 hr (List.mem_of_mem_head? (headD_s (h.2.1.2.2.2.2.2.2.2.2 r (List.mem_of_getElem? hr))))
theorem Bs.hi9 (h : Bs S N K V ord L) {i : Nat} {r : Run} (hr : (RS L)[i]? = some r) : hi K r < 10000 := h.K9 hr (List.mem_of_getLast? (lastD_s (h.2.1.2.2.2.2.2.2.2.2 r (List.mem_of_getElem? hr))))
theorem Bs.leastR (h : Bs S N K V ord L) {i : Nat} {r : Run} (hr : (RS L)[i]? = some r) : m_X4_least S (nI i) = nI (lo K r) := h.least hr (headD_s (h.2.1.2.2.2.2.2.2.2.2 r (List.mem_of_getElem? hr)))
theorem Bs.greatestR (h : Bs S N K V ord L) {i : Nat} {r : Run} (hr : (RS L)[i]? = some r) : m_X4_greatest S (nI i) = nI (hi K r) := h.greatest hr (lastD_s (h.2.1.2.2.2.2.2.2.2.2 r (List.mem_of_getElem? hr)))
theorem Bs.leastOf_L (h : Bs S N K V ord L) {j : Nat} (hj : j ≤ (RS L).length) (u1 : Int32) : ∀ (n i v : Nat), v < 10000 → i ≤ j → j - i < n →
    ∃ m, (m_X4_leastOf_L7 S u1 (nI j) n (nI v) (nI i)).1 = nI m ∧ m ≤ v ∧ ∀ k r, i ≤ k → k < j → (RS L)[k]? = some r → m ≤ lo K r := by
  have hn := h.2.1.nR
  intro n
  induction n with
  | zero => intro i v _ _ hn; exact absurd hn (Nat.not_lt_zero _)
  | succ n ih =>
    intro i v hv hij hlt
    rw [m_X4_leastOf_L7]
    by_cases c : j ≤ i
    · rw [if_pos (by rw [nI_leI (by omega) (by omega)]; exact c)]
      exact ⟨v, rfl, Nat.le_refl _, fun k r h1 h2 _ => by omega⟩
    · rw [if_neg (by rw [nI_leI (by omega) (by omega)]; exact c)]
      have hr : (RS L)[i]? = some (RS L)[i] := List.getElem?_eq_getElem (by omega)
      generalize (RS L)[i] = r at hr
      have h9 := h.lo9 hr
      simp only [cs_let]
      rw [h.leastR hr, nI_1]
      by_cases c2 : lo K r < v
      · rw [if_pos (by rw [nI_ltI (by omega) (by omega)]; exact c2)]
        obtain ⟨m, m1, m2, m3⟩ := ih (i + 1) (lo K r) h9 (by omega) (by omega)
        refine ⟨m, m1, by omega, fun k s h1 h2 hs => ?_⟩
        by_cases e : k = i
        · rw [e, hr] at hs; cases hs; exact m2
        · exact m3 k s (by omega) h2 hs
      · rw [if_neg (by rw [nI_ltI (by omega) (by omega)]; exact c2)]
        obtain ⟨m, m1, m2, m3⟩ := ih (i + 1) v hv (by omega) (by omega)
        refine ⟨m, m1, by omega, fun k s h1 h2 hs => ?_⟩
        by_cases e : k = i
        · rw [e, hr] at hs; cases hs; omega
        · exact m3 k s (by omega) h2 hs
theorem Bs.leastOf (h : Bs S N K V ord L) {i j : Nat} (hij : i ≤ j) (hj : j ≤ (RS L).length) : ∃ m, m_X4_leastOf S (nI i) (nI j) = nI m ∧ m < 10000 ∧ ∀ k r, i ≤ k → k < j → (RS L)[k]? = some r → m ≤ lo K r := by
  have hn := h.2.1.nR
  obtain ⟨m, m1, m2, m3⟩ := h.leastOf_L hj (nI i) cs_N i 9999 (by omega) hij (by show _ < 4294967296; omega)
  refine ⟨m, ?_, by omega, m3⟩
  rw [m_X4_leastOf, cs_let, show (9999 : Int32) = nI 9999 from rfl]
  exact m1
theorem Bs.greatestOf_L (h : Bs S N K V ord L) {j : Nat} (hj : j ≤ (RS L).length) (u1 : Int32) : ∀ (n i v : Nat), v < 10000 → i ≤ j → j - i < n →
    ∃ m, (m_X4_greatestOf_L5 S u1 (nI j) n (nI v) (nI i)).1 = nI m ∧ v ≤ m ∧ m < 10000 ∧ ∀ k r, i ≤ k → k < j → (RS L)[k]? = some r → hi K r ≤ m := by
  have hn := h.2.1.nR
  intro n
  induction n with
  | zero => intro i v _ _ hn; exact absurd hn (Nat.not_lt_zero _)
  | succ n ih =>
    intro i v hv hij hlt
    rw [m_X4_greatestOf_L5]
    by_cases c : j ≤ i
    · rw [if_pos (by rw [nI_leI (by omega) (by omega)]; exact c)]
      exact ⟨v, rfl, Nat.le_refl _, hv, fun k r h1 h2 _ => by omega⟩
    · rw [if_neg (by rw [nI_leI (by omega) (by omega)]; exact c)]
      have hr : (RS L)[i]? = some (RS L)[i] := List.getElem?_eq_getElem (by omega)
      generalize (RS L)[i] = r at hr
      have h9 := h.hi9 hr
      simp only [cs_let]
      rw [h.greatestR hr, nI_1]
      by_cases c2 : v < hi K r
      · rw [if_pos (by rw [nI_ltI (by omega) (by omega)]; exact c2)]
        obtain ⟨m, m1, m2, m4, m3⟩ := ih (i + 1) (hi K r) h9 (by omega) (by omega)
        refine ⟨m, m1, by omega, m4, fun k s h1 h2 hs => ?_⟩
        by_cases e : k = i
        · rw [e, hr] at hs; cases hs; exact m2
        · exact m3 k s (by omega) h2 hs
      · rw [if_neg (by rw [nI_ltI (by omega) (by omega)]; exact c2)]
        obtain ⟨m, m1, m2, m4, m3⟩ := ih (i + 1) v hv (by omega) (by omega)
        refine ⟨m, m1, by omega, m4, fun k s h1 h2 hs => ?_⟩
        by_cases e : k = i
        · rw [e, hr] at hs; cases hs; omega
        · exact m3 k s (by omega) h2 hs
theorem Bs.greatestOf (h : Bs S N K V ord L) {i j : Nat} (hij : i ≤ j) (hj : j ≤ (RS L).length) : ∃ m, m_X4_greatestOf S (nI i) (nI j) = nI m ∧ m < 10000 ∧ ∀ k r, i ≤ k → k < j → (RS L)[k]? = some r → hi K r ≤ m := by
  have hn := h.2.1.nR
  obtain ⟨m, m1, m2, m4, m3⟩ := h.greatestOf_L hj (nI i) cs_N i 0 (by omega) hij (by show _ < 4294967296; omega)
  refine ⟨m, ?_, m4, m3⟩
  rw [m_X4_greatestOf, cs_let]
  exact m1
theorem Bs.beyond_L (h : Bs S N K V ord L) {lv : Nat} (hl : lv < 4) (x : Int32) : ∀ (n i : Nat), i ≤ (L lv).length → (L lv).length - i < n →
    ∃ p, m_X4_firstBeyond_L9 S (nI (pre L lv).length) (nI lv) x n (nI i) = nI p ∧ i ≤ p ∧ p ≤ (L lv).length ∧ (∀ k r, i ≤ k → k < p → (L lv)[k]? = some r → nI (lo K r) ≤ x) ∧ ∀ r, (L lv)[p]? = some r → ¬ nI (lo K r) ≤ x := by
  have hn := h.2.1.nR
  have hcl := h.2.1.cnt_le hl
  have hct : m_X3_at S 16 (nI lv) = nI (L lv).length := h.2.1.count hl
  intro n
  induction n with
  | zero => intro i _ hn; exact absurd hn (Nat.not_lt_zero _)
  | succ n ih =>
    intro i hi hlt
    rw [m_X4_firstBeyond_L9]
    simp only [cs_let, hct]
    by_cases c : (L lv).length ≤ i
    · rw [if_pos (by rw [nI_leI (by omega) (by omega)]; exact c)]
      refine ⟨(L lv).length, rfl, hi, Nat.le_refl _, fun k r h1 h2 _ => by omega, fun r hr => ?_⟩
      rw [List.getElem?_eq_none (Nat.le_refl _)] at hr; cases hr
    · rw [if_neg (by rw [nI_leI (by omega) (by omega)]; exact c)]
      have hr : (L lv)[i]? = some (L lv)[i] := List.getElem?_eq_getElem (by omega)
      generalize (L lv)[i] = r at hr
      have hr2 : (RS L)[(pre L lv).length + i]? = some r := by rw [RS_get L hl (by omega)]; exact hr
      rw [nI_add, h.leastR hr2, nI_1]
      by_cases c2 : nI (lo K r) ≤ x
      · rw [if_pos c2]
        obtain ⟨p, p1, p2, p3, p4, p5⟩ := ih (i + 1) (by omega) (by omega)
        refine ⟨p, p1, by omega, p3, fun k s h1 h2 hs => ?_, p5⟩
        by_cases e : k = i
        · rw [e, hr] at hs; cases hs; exact c2
        · exact p4 k s (by omega) h2 hs
      · rw [if_neg c2]
        exact ⟨i, rfl, Nat.le_refl _, hi, fun k r h1 h2 _ => by omega, fun s hs => by rw [hr] at hs; cases hs; exact c2⟩
theorem Bs.beyond (h : Bs S N K V ord L) {lv : Nat} (hl : lv < 4) (x : Int32) :
    ∃ p, m_X4_firstBeyond S (nI lv) x = nI p ∧ p ≤ (L lv).length ∧ (∀ k r, k < p → (L lv)[k]? = some r → nI (lo K r) ≤ x) ∧ ∀ r, (L lv)[p]? = some r → ¬ nI (lo K r) ≤ x := by
  have hn := h.2.1.nR
  have hcl := h.2.1.cnt_le hl
  obtain ⟨p, p1, -, p3, p4, p5⟩ := h.beyond_L hl x cs_N 0 (Nat.zero_le _) (by show _ < 4294967296; omega)
  refine ⟨p, ?_, p3, fun k r => p4 k r (Nat.zero_le _), p5⟩
  rw [m_X4_firstBeyond, cs_let, h.2.1.first (by omega)]
  exact p1
theorem Bs.reach_L (h : Bs S N K V ord L) {lv : Nat} (hl : lv < 4) {x : Nat} (hx : x < 10000) : ∀ (n i : Nat), i ≤ (L lv).length → (L lv).length - i < n →
    ∃ p, m_X4_firstReaching_L9 S (nI (pre L lv).length) (nI lv) (nI x) n (nI i) = nI p ∧ i ≤ p ∧ p ≤ (L lv).length ∧ (∀ k r, i ≤ k → k < p → (L lv)[k]? = some r → hi K r < x) ∧ ∀ r, (L lv)[p]? = some r → x ≤ hi K r := by
  have hn := h.2.1.nR
  have hcl := h.2.1.cnt_le hl
  have hct : m_X3_at S 16 (nI lv) = nI (L lv).length := h.2.1.count hl
  intro n
  induction n with
  | zero => intro i _ hn; exact absurd hn (Nat.not_lt_zero _)
  | succ n ih =>
    intro i hI hlt
    rw [m_X4_firstReaching_L9]
    simp only [cs_let, hct]
    by_cases c : (L lv).length ≤ i
    · rw [if_pos (by rw [nI_leI (by omega) (by omega)]; exact c)]
      refine ⟨(L lv).length, rfl, hI, Nat.le_refl _, fun k r h1 h2 _ => by omega, fun r hr => ?_⟩
      rw [List.getElem?_eq_none (Nat.le_refl _)] at hr; cases hr
    · rw [if_neg (by rw [nI_leI (by omega) (by omega)]; exact c)]
      have hr : (L lv)[i]? = some (L lv)[i] := List.getElem?_eq_getElem (by omega)
      generalize (L lv)[i] = r at hr
      have hr2 : (RS L)[(pre L lv).length + i]? = some r := by rw [RS_get L hl (by omega)]; exact hr
      have h9 := h.hi9 hr2
      rw [nI_add, h.greatestR hr2, nI_1]
      by_cases c2 : hi K r < x
      · rw [if_pos (by rw [nI_ltI (by omega) (by omega)]; exact c2)]
        obtain ⟨p, p1, p2, p3, p4, p5⟩ := ih (i + 1) (by omega) (by omega)
        refine ⟨p, p1, by omega, p3, fun k s h1 h2 hs => ?_, p5⟩
        by_cases e : k = i
        · rw [e, hr] at hs; cases hs; exact c2
        · exact p4 k s (by omega) h2 hs
      · rw [if_neg (by rw [nI_ltI (by omega) (by omega)]; exact c2)]
        exact ⟨i, rfl, Nat.le_refl _, hI, fun k r h1 h2 _ => by omega, fun s hs => by rw [hr] at hs; cases hs; omega⟩
theorem Bs.reach (h : Bs S N K V ord L) {lv : Nat} (hl : lv < 4) {x : Nat} (hx : x < 10000) :
    ∃ p, m_X4_firstReaching S (nI lv) (nI x) = nI p ∧ p ≤ (L lv).length ∧ (∀ k r, k < p → (L lv)[k]? = some r → hi K r < x) ∧ ∀ r, (L lv)[p]? = some r → x ≤ hi K r := by
  have hn := h.2.1.nR
  have hcl := h.2.1.cnt_le hl
  obtain ⟨p, p1, -, p3, p4, p5⟩ := h.reach_L hl hx cs_N 0 (Nat.zero_le _) (by show _ < 4294967296; omega)
  refine ⟨p, ?_, p3, fun k r => p4 k r (Nat.zero_le _), p5⟩
  rw [m_X4_firstReaching, cs_let, h.2.1.first (by omega)]
  exact p1
theorem Sh.beginLv (h : Sh S L) {lv i : Nat} (hl : lv < 4) (hi : i ≤ (L lv).length) : m_X4_begin S (nI (pre L lv).length + nI i) = nI ((agz (pre L lv)).length + (agz ((L lv).take i)).length) := by
  have hcl := h.cnt_le hl
  rw [nI_add, h.begin (by omega)]
  obtain ⟨Z, e, -⟩ := RS_at L hl
  rw [e, List.take_append, List.take_of_length_le (by omega), Nat.add_sub_cancel_left, List.take_append, show i - (L lv).length = 0 by omega, List.take_zero, List.append_nil, agz_app, List.length_append]
theorem Sh.entriesOn (h : Sh S L) {lv : Nat} (hl : lv < 4) : m_X4_entriesOn S (nI lv) = nI (agz (L lv)).length := by
  have hcl := h.cnt_le hl
  have hf := h.fits
  have b1 := h.beginLv hl (i := 0) (Nat.zero_le _)
  have b2 := h.beginLv hl (i := (L lv).length) (Nat.le_refl _)
  rw [nI_add, List.take_length] at b2
  rw [nI_add, List.take_zero, Nat.add_zero] at b1
  rw [m_X4_entriesOn]
  simp only [cs_let]
  rw [nI_1, h.first (by omega), h.first (by omega), pre_succ, List.length_append, b1, b2, agz_nil, List.length_nil, Nat.add_zero, ← nI_add, i32_as]
theorem takeRuns_is {S1 : cs_St} {a f t n b c : Int32} (h1 : m_X4_first S a = n) (h2 : m_X4_begin S (n + f) = b) (h3 : m_X4_begin S (n + t) = c) (h4 : m_X2_gather S 10 b c = S1) : m_X6_takeRuns S a f t = m_X4_cut S1 a f t := by
  rw [m_X6_takeRuns]
  simp only [cs_lx]
  rw [h1, h2, h3, h4]
theorem Bs.takeRuns (h : Bs S N K V ord L) {lv f t : Nat} (hl : lv < 4) (hft : f ≤ t) (ht : t ≤ (L lv).length) :
    Sh (m_X6_takeRuns S (nI lv) (nI f) (nI t)) (Lset L lv ((L lv).take f ++ (L lv).drop t)) ∧ fr [17, 10, 11, 12, 13, 14, 15, 16] S (m_X6_takeRuns S (nI lv) (nI f) (nI t)) ∧ ∀ x, ((m_X6_takeRuns S (nI lv) (nI f) (nI t)).1 17).1 x = if x ∈ agz (((L lv).take t).drop f) then 1 else (S.1 17).1 x := by
  have hN := h.1.N0
  have hfit := h.2.1.fits
  have e1 := h.2.1.beginLv hl (i := f) (by omega)
  have e2 := h.2.1.beginLv hl (i := t) ht
  have hle : (agz ((L lv).take f)).length ≤ (agz ((L lv).take t)).length := by
    have : (L lv).take f = ((L lv).take t).take f := by rw [List.take_take, Nat.min_eq_left hft]
    rw [this]; exact agz_take_le _ _
  obtain ⟨Z, eR, -⟩ := RS_at L hl
  have hag : agz (RS L) = agz (pre L lv) ++ (agz ((L lv).take t) ++ (agz ((L lv).drop t) ++ agz Z)) := by
    rw [eR, agz_app, agz_app]
    conv => lhs; rw [← List.take_append_drop t (L lv), agz_app, List.append_assoc]
  have hlen : (agz (pre L lv)).length + (agz ((L lv).take t)).length ≤ (agz (RS L)).length := by
    rw [hag]; simp only [List.length_append]; omega
  obtain ⟨r, g1, g2⟩ := gather_eq (j := 10) (a := (agz (pre L lv)).length + (agz ((L lv).take f)).length) (b := (agz (pre L lv)).length + (agz ((L lv).take t)).length) (l := agz (RS L)) S (by decide) (by show _ ≤ 512; omega) (by omega) hlen (fun x hx => by have := h.2.2 x hx; omega) h.2.1.1
  have e := takeRuns_is (h.2.1.first (show lv ≤ 4 by omega)) e1 e2 g1
  rw [e]
  have hS1 : Sh (cs_sR S 17 r) L := h.2.1.mv (P := [17]) fr.sR (fun k hk => by have := List.mem_singleton.mp hk; omega)
  have h17 : ((cs_sR S 17 r).1 17) = r := sR_self
  have hfr : fr [17] S (cs_sR S 17 r) := fr.sR
  generalize cs_sR S 17 r = S1 at hS1 h17 hfr
  obtain ⟨c1, c2⟩ := cut_shelf hS1 hl hft ht
  refine ⟨c1, (hfr.mono (by simp)).tr (c2.mono (by simp)), fun x => ?_⟩
  rw [c2.2 17 (by decide), h17, g2]
  have e5 : ((agz (RS L)).take ((agz (pre L lv)).length + (agz ((L lv).take t)).length)).drop ((agz (pre L lv)).length + (agz ((L lv).take f)).length) = agz (((L lv).take t).drop f) := by
    have : agz ((L lv).take t) = agz ((L lv).take f) ++ agz (((L lv).take t).drop f) := by
      rw [← agz_app]
      conv => lhs; rw [← List.take_append_drop f ((L lv).take t), List.take_take, Nat.min_eq_left hft]
    rw [hag, this]
    exact sl _ _ _ _ rfl (by simp only [List.length_append])
  rw [e5]
end
