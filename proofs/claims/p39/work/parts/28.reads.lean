/-! MATHEMATICS 9: reading -/
def srt (K : Nat → Nat) (a b : Nat) : Prop := K a < K b ∨ (K a = K b ∧ b < a)
def isK (K : Nat → Nat) (k lim : Nat) : Nat → Bool := fun a => decide (K a = k) && decide (a ≤ lim)
theorem isK_t {K : Nat → Nat} {k lim a : Nat} : isK K k lim a = true ↔ K a = k ∧ a ≤ lim := by simp [isK]
/-- a run is sorted and its filter has its keys -/
def rok (K : Nat → Nat) (r : Run) : Prop := r.1.Pairwise (srt K) ∧ ∀ a ∈ r.1, psQ r.2 (nI (K a))
theorem srt_head {K : Nat → Nat} {l : List Nat} (h : l.Pairwise (srt K)) {x a : Nat} (hx : l.head? = some x) (ha : a ∈ l) : K x ≤ K a := by
  cases l with
  | nil => cases ha
  | cons c t =>
    cases hx
    rcases List.mem_cons.mp ha with rfl | ha
    · exact Nat.le_refl _
    · rcases (List.pairwise_cons.mp h).1 a ha with h | ⟨h, -⟩ <;> omega
theorem srt_last {K : Nat → Nat} : ∀ {l : List Nat}, l.Pairwise (srt K) → ∀ {x a : Nat}, l.getLast? = some x → a ∈ l → K a ≤ K x := by
  intro l
  induction l with
  | nil => intro _ x a _ ha; cases ha
  | cons c t ih =>
    intro h x a hx ha
    obtain ⟨h1, h2⟩ := List.pairwise_cons.mp h
    cases t with
    | nil =>
      cases hx
      rcases List.mem_cons.mp ha with rfl | ha
      · exact Nat.le_refl _
      · cases ha
    | cons d t =>
      rw [List.getLast?_cons_cons] at hx
      rcases List.mem_cons.mp ha with rfl | ha
      · have hm : x ∈ d :: t := List.mem_of_getLast? hx
        rcases h1 x hm with h | ⟨h, -⟩ <;> omega
      · exact ih h2 hx ha
section
variable {S : cs_St} {N : Nat} {K : Nat → Nat} {V : Nat → Int32} {ord : List Nat} {L : Nat → List Run}
theorem Bs.mv {S' : cs_St} {P : List Nat} (h : Bs S N K V ord L) (hf : fr P S S') (hP : ∀ k ∈ P, k < 5 ∨ 16 < k ∨ k = 8 ∨ k = 9) : Bs S' N K V ord L :=
  ⟨h.1.mv hf (fun z => by have := hP _ z; omega) (fun z => by have := hP _ z; omega) (fun z => by have := hP _ z; omega), h.2.1.mv hf (fun k hk => by have := hP k hk; omega), h.2.2⟩
theorem Bs.spans (h : Bs S N K V ord L) {i : Nat} {r : Run} (hr : (RS L)[i]? = some r) {k : Nat} (hk : k < 10000) : m_X4_spans S (nI i) (nI k) = 0 ∨ m_X4_spans S (nI i) (nI k) = 1 := by
  unfold m_X4_spans
  simp only [cs_let]
  split
  · exact Or.inl rfl
  · split
    · exact Or.inl rfl
    · exact Or.inr rfl
theorem Bs.spans0 (h : Bs S N K V ord L) {i : Nat} {r : Run} (hr : (RS L)[i]? = some r) (ho : r.1.Pairwise (srt K)) {k : Nat} (hk : k < 10000) (h0 : m_X4_spans S (nI i) (nI k) = 0) : ∀ a ∈ r.1, K a ≠ k := by
  have hne : r.1 ≠ [] := h.2.1.2.2.2.2.2.2.2.2 r (List.mem_of_getElem? hr)
  obtain ⟨x, hx⟩ : ∃ x, r.1.head? = some x := by
    cases hh : r.1 with
    | nil => exact absurd hh hne
    | cons c t => exact ⟨c, rfl⟩
  obtain ⟨y, hy⟩ : ∃ y, r.1.getLast? = some y := ⟨_, List.getLast?_eq_some_getLast hne⟩
  have hxK := h.K9 hr (List.mem_of_head? hx)
  have hyK := h.K9 hr (List.mem_of_getLast? hy)
  unfold m_X4_spans at h0
  simp only [cs_let] at h0
  rw [h.least hr hx, h.greatest hr hy] at h0
  intro a ha e
  have g1 := srt_head ho hx ha
  have g2 := srt_last ho hy ha
  rw [if_neg (by rw [nI_ltI (by omega) (by omega)]; omega), if_neg (by rw [nI_ltI (by omega) (by omega)]; omega)] at h0
  exact absurd h0 (by decide)
theorem Bs.find (h : Bs S N K V ord L) {i : Nat} {r : Run} (hr : (RS L)[i]? = some r) {k lim : Nat} (hk : k < 10000) (hlim : lim < 512) : m_X4_find S (nI i) (nI k) (nI lim) = nI ((r.1.find? (isK K k lim)).getD 0) := by
  have hi := (List.getElem?_eq_some_iff.mp hr).1
  have hl := h.2.1.2.2.2.2.2.2.2.1
  have hle := agz_take_le (RS L) (i + 1)
  have htg := take_get hr
  unfold m_X4_find
  simp only [cs_let]
  rw [h.2.1.begin (Nat.le_of_lt hi), h.2.1.end_ hi]
  rw [find_eq h.1 h.2.1.1 (by show _ ≤ 512; omega) (by rw [htg, List.length_append]; omega) hle h.2.2 (by omega) (by omega)]
  rw [agz_take, htg, List.drop_left]
  rfl
theorem Lg.N0 (h : Lg S N K V ord) : N < 512 := h.1
/-- how the counters of a row j moved: s searches, al alarms -/
def cnt (j : Nat) (S S' : cs_St) (s al : Nat) : Prop := (S'.1 j).2 = (S.1 j).2 ∧ (S'.1 j).1 1 = (S.1 j).1 1 + nI s ∧ (S'.1 j).1 2 = (S.1 j).1 2 + nI al ∧ ∀ k, 3 ≤ k → (S'.1 j).1 k = (S.1 j).1 k
theorem nI_z (x : Int32) : x + nI 0 = x := by rw [show nI 0 = 0 from rfl]; exact Int32.add_zero x
theorem cnt.rf {j : Nat} {S : cs_St} : cnt j S S 0 0 := ⟨rfl, (nI_z _).symm, (nI_z _).symm, fun _ _ => rfl⟩
theorem cnt.tr {j : Nat} {S S1 S2 : cs_St} {s al s2 al2 : Nat} (h : cnt j S S1 s al) (h2 : cnt j S1 S2 s2 al2) : cnt j S S2 (s + s2) (al + al2) := by
  obtain ⟨a, b, c, d⟩ := h
  obtain ⟨a2, b2, c2, d2⟩ := h2
  refine ⟨a2.trans a, ?_, ?_, fun k hk => (d2 k hk).trans (d k hk)⟩
  · rw [b2, b, Int32.add_assoc, nI_add]
  · rw [c2, c, Int32.add_assoc, nI_add]
theorem cap1 {j : Nat} : 4 ≤ cs_cap j := by
  match j with
  | 0 => decide | 1 => decide | 2 => decide | 3 => decide | 4 => decide | 5 => decide | 6 => decide | 7 => decide | 8 => decide | 9 => decide
  | 10 => decide | 11 => decide | 12 => decide | 13 => decide | 14 => decide | 15 => decide | 16 => decide | 17 => decide | 18 => decide
  | n + 19 => show 4 ≤ 512; decide
theorem raise_c {S : cs_St} {j k : Nat} (hk : k < 3) : fr [j] S (m_X3_raise S j (nI k) 1) ∧ cnt j S (m_X3_raise S j (nI k) 1) (if k = 1 then 1 else 0) (if k = 2 then 1 else 0) := by
  have hc := @cap1 j
  rw [raise_eq (show k < cs_cap j by omega)]
  refine ⟨fr.sR, ?_⟩
  have hu : ∀ i, ((cs_sR S j (rw_set (S.1 j) k ((S.1 j).1 k + 1))).1 j).1 i = if i = k then (S.1 j).1 k + 1 else (S.1 j).1 i := fun i => by rw [sR_self]; rfl
  refine ⟨by rw [sR_self]; rfl, ?_, ?_, fun i hi => by rw [hu, if_neg (by omega)]⟩
  · rw [hu]
    by_cases e : 1 = k
    · rw [if_pos e, if_pos e.symm, ← e]; rfl
    · rw [if_neg e, if_neg (fun z => e z.symm), nI_z]
  · rw [hu]
    by_cases e : 2 = k
    · rw [if_pos e, if_pos e.symm, ← e]; rfl
    · rw [if_neg e, if_neg (fun z => e z.symm), nI_z]
theorem find_none {α : Type} {l : List α} {p : α → Bool} (h : ∀ a ∈ l, p a = false) : l.find? p = none := by
  rw [List.find?_eq_none]
  intro a ha hp
  rw [h a ha] at hp
  cases hp
theorem getD0 {l : List Nat} {p : Nat → Bool} (hp : ∀ a ∈ l, 1 ≤ a) : (l.find? p).getD 0 = 0 ↔ l.find? p = none := by
  cases h : l.find? p with
  | none => simp
  | some a =>
    have := hp a (List.mem_of_find?_eq_some h)
    simp
    omega
theorem Bs.inRun (h : Bs S N K V ord L) {i : Nat} {r : Run} (hr : (RS L)[i]? = some r) (ho : rok K r) {k lim j : Nat} (hj : j < 5) (hk : k < 10000) (hlim : lim < 512) :
    (m_X6_lookInRun S (nI i) (nI k) (nI lim) j).1 = nI ((r.1.find? (isK K k lim)).getD 0) ∧ fr [j] S (m_X6_lookInRun S (nI i) (nI k) (nI lim) j).2 ∧ ∃ s al, s ≤ 1 ∧ al ≤ s ∧ cnt j S (m_X6_lookInRun S (nI i) (nI k) (nI lim) j).2 s al := by
  obtain ⟨p1, p0⟩ := h.2.1.passes hr (nI k)
  unfold m_X6_lookInRun
  simp only [cs_let]
  by_cases c : m_X4_passes S (nI i) (nI k) = 0
  · rw [if_pos c]
    obtain ⟨f1, c1⟩ := raise_c (S := S) (j := j) (k := 0) (by decide)
    refine ⟨?_, f1, 0, 0, Nat.zero_le _, Nat.le_refl _, c1⟩
    rw [find_none (fun a ha => ?_)]
    · rfl
    · have := ho.2 a ha
      cases hz : isK K k lim a with
      | false => rfl
      | true => exact absurd ((isK_t.mp hz).1 ▸ this) (p0.mp c)
  · rw [if_neg c]
    obtain ⟨f1, c1⟩ := raise_c (S := S) (j := j) (k := 1) (by decide)
    rw [show (1 : Int32) = nI 1 from rfl] at *
    generalize hS1 : m_X3_raise S j (nI 1) (nI 1) = S1 at *
    have hB1 : Bs S1 N K V ord L := h.mv f1 (fun z hz => by simp at hz; omega)
    rw [hB1.find hr hk hlim]
    by_cases c2 : m_X4_find S1 (nI i) (nI k) (m_X1_newest S1) = 0
    · rw [if_pos c2]
      obtain ⟨f2, c3⟩ := raise_c (S := S1) (j := j) (k := 2) (by decide)
      rw [show (1 : Int32) = nI 1 from rfl, show (2 : Int32) = nI 2 from rfl] at *
      have hB2 : Bs (m_X3_raise S1 j (nI 2) (nI 1)) N K V ord L := hB1.mv f2 (fun z hz => by simp at hz; omega)
      rw [hB2.find hr hk hlim]
      exact ⟨rfl, f1.tr f2, 1, 1, Nat.le_refl _, Nat.le_refl _, c1.tr c3⟩
    · rw [if_neg c2]
      exact ⟨rfl, f1, 1, 0, Nat.le_refl _, Nat.zero_le _, c1⟩
theorem Bs.inRuns_L (hR : ∀ r ∈ RS L, rok K r) {k lim j : Nat} (hj : j < 5) (hk : k < 10000) (hlim : lim < 512) : ∀ (n i : Nat) (S : cs_St), Bs S N K V ord L → i ≤ (RS L).length → (RS L).length - i < n →
    (m_X6_lookInRuns_L3 j (nI k) (nI lim) n (nI i) S).1 = nI (((agz ((RS L).drop i)).find? (isK K k lim)).getD 0) ∧ fr [j] S (m_X6_lookInRuns_L3 j (nI k) (nI lim) n (nI i) S).2 ∧ ∃ s al, s ≤ (RS L).length - i ∧ al ≤ s ∧ cnt j S (m_X6_lookInRuns_L3 j (nI k) (nI lim) n (nI i) S).2 s al := by
  intro n
  induction n with
  | zero => intro i S _ _ h; exact absurd h (Nat.not_lt_zero _)
  | succ n ih =>
    intro i S h hi hn
    have hnR := h.2.1.nR
    rw [m_X6_lookInRuns_L3]
    simp only [cs_let]
    rw [h.2.1.total]
    by_cases hd : (RS L).length ≤ i
    · rw [if_pos (by rw [nI_leI (by omega) (by omega)]; exact hd), List.drop_eq_nil_of_le hd]
      exact ⟨rfl, fr.rf, 0, 0, Nat.zero_le _, Nat.le_refl _, cnt.rf⟩
    · have hlt : i < (RS L).length := by omega
      rw [if_neg (by rw [nI_leI (by omega) (by omega)]; exact hd)]
      have hr : (RS L)[i]? = some (RS L)[i] := List.getElem?_eq_getElem hlt
      have hro := hR _ (List.getElem_mem hlt)
      have hdc : (RS L).drop i = (RS L)[i] :: (RS L).drop (i + 1) := List.drop_eq_getElem_cons hlt
      generalize (RS L)[i] = r at hr hro hdc
      rw [hdc, agz_cons, List.find?_append]
      by_cases c : m_X4_spans S (nI i) (nI k) = 0
      · rw [if_pos c, nI_1]
        have h0 := h.spans0 hr hro.1 hk c
        rw [find_none (l := r.1) (fun a ha => by
          cases hz : isK K k lim a with
          | false => rfl
          | true => exact absurd (isK_t.mp hz).1 (h0 a ha)), Option.none_or]
        obtain ⟨a1, a2, s, al, a3, a4, a5⟩ := ih (i + 1) S h (by omega) (by omega)
        exact ⟨a1, a2, s, al, by omega, a4, a5⟩
      · rw [if_neg c]
        obtain ⟨b1, b2, s, al, b3, b4, b5⟩ := h.inRun hr hro hj hk hlim
        rw [b1]
        have hpos : ∀ a ∈ r.1, 1 ≤ a := fun a ha => (h.mem hr ha).1
        have hsm : (r.1.find? (isK K k lim)).getD 0 < 2 ^ 31 := by
          have hN := h.1.N0
          cases hf : r.1.find? (isK K k lim) with
          | none => decide
          | some a =>
            have := (h.mem hr (List.mem_of_find?_eq_some hf)).2
            simp
            omega
        by_cases c2 : r.1.find? (isK K k lim) = none
        · rw [if_pos (by rw [c2]; rfl), c2, Option.none_or, nI_1]
          obtain ⟨a1, a2, s2, al2, a3, a4, a5⟩ := ih (i + 1) _ (h.mv b2 (fun z hz => by simp at hz; omega)) (by omega) (by omega)
          exact ⟨a1, b2.tr a2, s + s2, al + al2, by omega, by omega, b5.tr a5⟩
        · rw [if_neg (by rw [nI_eq0 hsm, getD0 hpos]; exact c2)]
          obtain ⟨a, ha⟩ := Option.ne_none_iff_exists'.mp c2
          rw [ha, Option.some_or]
          exact ⟨rfl, b2, s, al, by omega, b4, b5⟩
theorem Bs.inRuns (h : Bs S N K V ord L) (hR : ∀ r ∈ RS L, rok K r) {k lim j : Nat} (hj : j < 5) (hk : k < 10000) (hlim : lim < 512) :
    (m_X6_lookInRuns S (nI k) (nI lim) j).1 = nI (((agz (RS L)).find? (isK K k lim)).getD 0) ∧ fr [j] S (m_X6_lookInRuns S (nI k) (nI lim) j).2 ∧ ∃ s al, s ≤ (RS L).length ∧ al ≤ s ∧ cnt j S (m_X6_lookInRuns S (nI k) (nI lim) j).2 s al := by
  have hnR := h.2.1.nR
  exact Bs.inRuns_L hR hj hk hlim cs_N 0 S h (Nat.zero_le _) (by show _ < 4294967296; omega)
/-- reading through hand and runs -/
theorem Bs.lookUp (h : Bs S N K V ord L) (hR : ∀ r ∈ RS L, rok K r) {Hd : List Nat} (hH : LV (S.1 3) (Hd.map nI)) (hH1 : ∀ a ∈ Hd, 1 ≤ a ∧ a ≤ N) (hH4 : Hd.length ≤ 40) {k lim j : Nat} (hj : j < 5) (hk : k < 10000) (hlim : lim < 512) :
    (m_X6_lookUp S (nI k) (nI lim) j).1 = nI (((Hd ++ agz (RS L)).find? (isK K k lim)).getD 0) ∧ fr [j] S (m_X6_lookUp S (nI k) (nI lim) j).2 ∧ ∃ s al, s ≤ (RS L).length ∧ al ≤ s ∧ cnt j S (m_X6_lookUp S (nI k) (nI lim) j).2 s al := by
  unfold m_X6_lookUp
  simp only [cs_let, len_eq, hH.1, List.length_map]
  have e := find_eq (f := 0) (t := Hd.length) h.1 hH (show Hd.length ≤ cs_cap 3 from hH4) (Nat.zero_le _) (Nat.le_refl _) hH1 (show k < 2 ^ 31 by omega) (show lim < 2 ^ 31 by omega)
  rw [List.take_length, List.drop_zero] at e
  have e2 : m_X1_find S 3 0 (nI Hd.length) (nI k) (nI lim) = nI ((Hd.find? (isK K k lim)).getD 0) := e
  rw [e2, List.find?_append]
  have hN := h.1.N0
  have hsm : (Hd.find? (isK K k lim)).getD 0 < 2 ^ 31 := by
    cases hf : Hd.find? (isK K k lim) with
    | none => decide
    | some a =>
      have := (hH1 a (List.mem_of_find?_eq_some hf)).2
      simp
      omega
  by_cases c : Hd.find? (isK K k lim) = none
  · rw [if_pos (by rw [c]; rfl), c, Option.none_or]
    obtain ⟨a1, a2, a3⟩ := h.inRuns hR hj hk hlim
    exact ⟨a1, a2, a3⟩
  · rw [if_neg (by rw [nI_eq0 hsm, getD0 (fun a ha => (hH1 a ha).1)]; exact c)]
    obtain ⟨a, ha⟩ := Option.ne_none_iff_exists'.mp c
    rw [ha, Option.some_or]
    exact ⟨rfl, fr.rf, 0, 0, Nat.zero_le _, Nat.le_refl _, cnt.rf⟩
/-- what is read: the value of the first one found, -1 without one -/
def rd (K : Nat → Nat) (V : Nat → Int32) (C : List Nat) (k lim : Nat) : Int32 := match C.find? (isK K k lim) with
  | none => -1
  | some a => V a
theorem Lg.valueOf (h : Lg S N K V ord) {C : List Nat} (hC : ∀ a ∈ C, 1 ≤ a ∧ a ≤ N) (k lim : Nat) : m_X6_valueOf S (nI ((C.find? (isK K k lim)).getD 0)) = rd K V C k lim := by
  have hN := h.N0
  unfold m_X6_valueOf rd
  cases hf : C.find? (isK K k lim) with
  | none => rfl
  | some a =>
    obtain ⟨h1, h2⟩ := hC a (List.mem_of_find?_eq_some hf)
    simp only [cs_let, Option.getD_some]
    rw [if_neg (by rw [nI_eq0 (by omega)]; omega)]
    exact h.val h1 h2
end
