/-! MATHEMATICS 10: what is kept, what is there, what is read: pure lists -/
def ro (K : Nat → Nat) (C : List Nat) : Prop := C.Pairwise (fun a b => K a = K b → b < a)
theorem ro_top {K : Nat → Nat} {k lim : Nat} : ∀ {C : List Nat}, ro K C → ∀ {a : Nat}, C.find? (isK K k lim) = some a → ∀ b ∈ C, K b = k → b ≤ lim → b ≤ a := by
  intro C
  induction C with
  | nil => intro _ a h; cases h
  | cons c t ih =>
    intro h a hf b hb hk hl
    obtain ⟨h1, h2⟩ := List.pairwise_cons.mp h
    rw [List.find?_cons] at hf
    cases hc : isK K k lim c with
    | true =>
      rw [hc] at hf
      cases hf
      rcases List.mem_cons.mp hb with rfl | hb
      · exact Nat.le_refl _
      · exact Nat.le_of_lt (h1 b hb ((isK_t.mp hc).1.trans hk.symm))
    | false =>
      rw [hc] at hf
      rcases List.mem_cons.mp hb with rfl | hb
      · have := isK_t.mpr ⟨hk, hl⟩
        rw [this] at hc
        cases hc
      · exact ih h2 hf b hb hk hl
theorem ro_is {K : Nat → Nat} {k lim : Nat} {C : List Nat} (h : ro K C) {a : Nat} (ha : a ∈ C) (hk : K a = k) (hl : a ≤ lim) (ht : ∀ b ∈ C, K b = k → b ≤ lim → b ≤ a) : C.find? (isK K k lim) = some a := by
  cases hf : C.find? (isK K k lim) with
  | none =>
    rw [List.find?_eq_none] at hf
    exact absurd (isK_t.mpr ⟨hk, hl⟩) (hf a ha)
  | some c =>
    have h1 := ro_top h hf a ha hk hl
    have h2 := isK_t.mp (List.find?_some hf)
    have h3 := ht c (List.mem_of_find?_eq_some hf) h2.1 h2.2
    rw [show c = a by omega]
theorem rd_keep {K : Nat → Nat} {V : Nat → Int32} {C C' : List Nat} {k lim : Nat} (hC : ro K C) (hC' : ro K C') (hsub : ∀ a ∈ C', a ∈ C) (h : ∀ a ∈ C, K a = k → a ≤ lim → (∀ b ∈ C, K b = k → b ≤ lim → b ≤ a) → a ∈ C' ∨ (V a = -1 ∧ ∀ b ∈ C', K b = k → lim < b)) : rd K V C' k lim = rd K V C k lim := by
  unfold rd
  cases hf : C.find? (isK K k lim) with
  | none =>
    rw [List.find?_eq_none] at hf
    rw [List.find?_eq_none.mpr (fun a ha => hf a (hsub a ha))]
  | some a =>
    have ham := List.mem_of_find?_eq_some hf
    obtain ⟨h1, h2⟩ := isK_t.mp (List.find?_some hf)
    have ht := ro_top hC hf
    rcases h a ham h1 h2 ht with h3 | ⟨h3, h4⟩
    · rw [ro_is hC' h3 h1 h2 (fun b hb => ht b (hsub b hb))]
    · rw [List.find?_eq_none.mpr (fun b hb hp => by
        have h5 := isK_t.mp hp
        have := h4 b hb h5.1
        omega)]
      exact h3.symm
theorem kn_sub (K : Nat → Nat) (G : Nat → Bool) (sn : List Nat) : ∀ (l : List Nat) (w : Nat), (kn K G sn w l).Sublist l ∧ ∀ a ∈ kn K G sn w l, G a = true := by
  intro l
  induction l with
  | nil => intro w; exact ⟨List.Sublist.refl _, fun a h => by cases h⟩
  | cons c t ih =>
    intro w
    rw [kn]
    by_cases hg : G c = true
    · rw [if_pos hg]
      split
      · refine ⟨(ih c).1.cons_cons c, fun a ha => ?_⟩
        rcases List.mem_cons.mp ha with rfl | ha
        · exact hg
        · exact (ih c).2 a ha
      · exact ⟨(ih c).1.cons c, (ih c).2⟩
    · rw [if_neg hg]
      exact ⟨(ih w).1.cons c, (ih w).2⟩
/-- the newest one of its key for a view is kept -/
theorem kn_top {K : Nat → Nat} {G : Nat → Bool} {sn : List Nat} {lim : Nat} (hv : lim ∈ sn ∨ ∀ b, G b = true → b ≤ lim) : ∀ (l : List Nat) (w : Nat), l.Pairwise (srt K) → (∀ b ∈ l, 1 ≤ b) → (w ≠ 0 → G w = true) → ∀ a ∈ l, G a = true → a ≤ lim → (w ≠ 0 → K w = K a → lim < w) → (∀ b ∈ l, G b = true → K b = K a → b ≤ lim → b ≤ a) → a ∈ kn K G sn w l := by
  intro l
  induction l with
  | nil => intro w _ _ _ a ha; cases ha
  | cons c t ih =>
    intro w hs hp hw a ha hga hal hwa htop
    obtain ⟨h1, h2⟩ := List.pairwise_cons.mp hs
    rw [kn]
    rcases List.mem_cons.mp ha with rfl | hat
    · rw [if_pos hga]
      have : w = 0 ∨ K w ≠ K a ∨ seen sn a w = true := by
        by_cases w0 : w = 0
        · exact Or.inl w0
        · by_cases hk : K w = K a
          · have hlw := hwa w0 hk
            rcases hv with hv | hv
            · refine Or.inr (Or.inr ?_)
              unfold seen
              rw [List.any_eq_true]
              exact ⟨lim, hv, by simp; omega⟩
            · have := hv w (hw w0)
              omega
          · exact Or.inr (Or.inl hk)
      rw [if_pos this]
      exact List.mem_cons_self
    · have hpc := hp c List.mem_cons_self
      by_cases hg : G c = true
      · rw [if_pos hg]
        have hin : a ∈ kn K G sn c t := by
          refine ih c h2 (fun b hb => hp b (List.mem_cons_of_mem _ hb)) (fun _ => hg) a hat hga hal (fun _ hk => ?_) (fun b hb => htop b (List.mem_cons_of_mem _ hb))
          rcases Nat.lt_or_ge lim c with h | h
          · exact h
          · have := htop c List.mem_cons_self hg hk h
            rcases h1 a hat with h3 | ⟨-, h3⟩ <;> omega
        split
        · exact List.mem_cons_of_mem _ hin
        · exact hin
      · rw [if_neg hg]
        exact ih w h2 (fun b hb => hp b (List.mem_cons_of_mem _ hb)) hw a hat hga hal hwa (fun b hb => htop b (List.mem_cons_of_mem _ hb))
theorem ds_sub (K : Nat → Nat) (V : Nat → Int32) (B : Nat → Bool) : ∀ l : List Nat, (ds K V B l).1.Sublist l := by
  intro l
  induction l with
  | nil => exact List.Sublist.refl _
  | cons c t ih =>
    rw [ds]
    split
    · exact ih.cons c
    · exact ih.cons_cons c
/-- what goes: stones without anything behind, and all older ones of the key with them -/
theorem ds_gone {K : Nat → Nat} {V : Nat → Int32} {B : Nat → Bool} : ∀ l : List Nat, l.Pairwise (srt K) →
    ((ds K V B l).2.1 = (match l with | [] => 0 | x :: _ => K x + 1)) ∧ ((ds K V B l).2.2 = true → ∀ x, l.head? = some x → ∀ b ∈ l, K b = K x → b ∉ (ds K V B l).1) ∧ ∀ a ∈ l, a ∉ (ds K V B l).1 → V a = -1 ∧ B (K a) = false ∧ ∀ b ∈ l, K b = K a → b < a → b ∉ (ds K V B l).1 := by
  intro l
  induction l with
  | nil => intro _; exact ⟨rfl, fun h => (by cases h), fun a h => (by cases h)⟩
  | cons c t ih =>
    intro hs
    obtain ⟨h1, h2⟩ := List.pairwise_cons.mp hs
    obtain ⟨i1, i2, i3⟩ := ih h2
    have hsub := ds_sub K V B t
    have hct : c ∉ t := fun z => by
      rcases h1 c z with h | ⟨-, h⟩ <;> omega
    have hcs : c ∉ (ds K V B t).1 := fun z => hct (hsub.mem z)
    rw [ds]
    by_cases hc : ((ds K V B t).2.2 = true ∨ (ds K V B t).2.1 ≠ K c + 1) ∧ V c = -1 ∧ B (K c) = false
    · rw [if_pos hc]
      have hold : ∀ b ∈ t, K b = K c → b ∉ (ds K V B t).1 := by
        intro b hb hk
        cases t with
        | nil => cases hb
        | cons x u =>
          have hxK : K x = K c := by
            have g1 := srt_head h2 (x := x) rfl hb
            rcases h1 x List.mem_cons_self with h | ⟨h, -⟩
            · omega
            · exact h.symm
          rcases hc.1 with ho | ho
          · exact i2 ho x rfl b hb (hk.trans hxK.symm)
          · rw [i1] at ho
            exact absurd (show K x + 1 = K c + 1 by rw [hxK]) ho
      refine ⟨rfl, fun _ x hx b hb hk => ?_, fun a ha hna => ?_⟩
      · cases hx
        rcases List.mem_cons.mp hb with rfl | hb
        · exact hcs
        · exact hold b hb hk
      · rcases List.mem_cons.mp ha with rfl | ha
        · refine ⟨hc.2.1, hc.2.2, fun b hb hk hlt => ?_⟩
          rcases List.mem_cons.mp hb with rfl | hb
          · omega
          · exact hold b hb hk
        · obtain ⟨j1, j2, j3⟩ := i3 a ha hna
          refine ⟨j1, j2, fun b hb hk hlt => ?_⟩
          rcases List.mem_cons.mp hb with rfl | hb
          · exact hcs
          · exact j3 b hb hk hlt
    · rw [if_neg hc]
      refine ⟨rfl, fun h => (by cases h), fun a ha hna => ?_⟩
      rcases List.mem_cons.mp ha with e | hat
      · exact absurd (e ▸ List.mem_cons_self) hna
      · obtain ⟨j1, j2, j3⟩ := i3 a hat (fun z => hna (List.mem_cons_of_mem _ z))
        refine ⟨j1, j2, fun b hb hk hlt => ?_⟩
        rcases List.mem_cons.mp hb with e | hbt
        · rw [e] at hk hlt
          rcases h1 a hat with h | ⟨-, h⟩ <;> omega
        · intro z
          rcases List.mem_cons.mp z with e | z
          · exact hct (e ▸ hbt)
          · exact j3 b hbt hk hlt z
theorem kt_sub (K : Nat → Nat) (V : Nat → Int32) (G : Nat → Bool) (lim : Nat) : ∀ (l : List Nat) (c : Nat), (kt K V G lim c l).Sublist l := by
  intro l
  induction l with
  | nil => intro c; exact List.Sublist.refl _
  | cons a t ih =>
    intro c
    rw [kt]
    split
    · split
      · exact (ih _).cons a
      · exact (ih _).cons_cons a
    · exact (ih _).cons a
/-- what is there: the newest of its key for the limit, no stone -/
theorem kt_mem {K : Nat → Nat} {V : Nat → Int32} {G : Nat → Bool} {lim : Nat} : ∀ (l : List Nat) (c : Nat), l.Pairwise (srt K) → (∀ b ∈ l, c ≤ K b + 1) → ∀ a, a ∈ kt K V G lim c l ↔ a ∈ l ∧ G a = true ∧ a ≤ lim ∧ V a ≠ -1 ∧ c ≠ K a + 1 ∧ ∀ b ∈ l, G b = true → K b = K a → b ≤ lim → b ≤ a := by
  intro l
  induction l with
  | nil => intro c _ _ a; simp [kt]
  | cons x t ih =>
    intro c hs hc a
    obtain ⟨h1, h2⟩ := List.pairwise_cons.mp hs
    have hxt : x ∉ t := fun z => by
      rcases h1 x z with h | ⟨-, h⟩ <;> omega
    have hx1 : ∀ b ∈ t, K x + 1 ≤ K b + 1 := fun b hb => by
      rcases h1 b hb with h | ⟨h, -⟩ <;> omega
    rw [kt]
    by_cases hx : G x = true ∧ x ≤ lim ∧ c ≠ K x + 1
    · rw [if_pos hx]
      have key : a ∈ t → ((a ∈ kt K V G lim (K x + 1) t) ↔ a ∈ x :: t ∧ G a = true ∧ a ≤ lim ∧ V a ≠ -1 ∧ c ≠ K a + 1 ∧ ∀ b ∈ x :: t, G b = true → K b = K a → b ≤ lim → b ≤ a) := by
        intro hat
        rw [ih (K x + 1) h2 hx1 a]
        constructor
        · rintro ⟨-, g1, g2, g3, g4, g5⟩
          refine ⟨List.mem_cons_of_mem _ hat, g1, g2, g3, ?_, fun b hb gb kb lb => ?_⟩
          · have := hc x List.mem_cons_self
            rcases h1 a hat with h | ⟨h, -⟩ <;> omega
          · rcases List.mem_cons.mp hb with rfl | hb
            · exact absurd (by omega) g4
            · exact g5 b hb gb kb lb
        · rintro ⟨-, g1, g2, g3, g4, g5⟩
          refine ⟨hat, g1, g2, g3, ?_, fun b hb => g5 b (List.mem_cons_of_mem _ hb)⟩
          intro z
          have := g5 x List.mem_cons_self hx.1 (by omega) hx.2.1
          rcases h1 a hat with h | ⟨-, h⟩ <;> omega
      by_cases hv : V x = -1
      · rw [if_pos hv]
        constructor
        · intro ha
          exact (key ((kt_sub K V G lim t _).mem ha)).mp ha
        · rintro ⟨ha, g⟩
          rcases List.mem_cons.mp ha with rfl | hat
          · exact absurd hv g.2.2.1
          · exact (key hat).mpr ⟨ha, g⟩
      · rw [if_neg hv]
        constructor
        · intro ha
          rcases List.mem_cons.mp ha with rfl | ha
          · refine ⟨List.mem_cons_self, hx.1, hx.2.1, hv, hx.2.2, fun b hb gb kb lb => ?_⟩
            rcases List.mem_cons.mp hb with rfl | hb
            · exact Nat.le_refl _
            · rcases h1 b hb with h | ⟨-, h⟩ <;> omega
          · exact (key ((kt_sub K V G lim t _).mem ha)).mp ha
        · rintro ⟨ha, g⟩
          rcases List.mem_cons.mp ha with rfl | hat
          · exact List.mem_cons_self
          · exact List.mem_cons_of_mem _ ((key hat).mpr ⟨ha, g⟩)
    · rw [if_neg hx, ih c h2 (fun b hb => hc b (List.mem_cons_of_mem _ hb)) a]
      constructor
      · rintro ⟨g0, g1, g2, g3, g4, g5⟩
        refine ⟨List.mem_cons_of_mem _ g0, g1, g2, g3, g4, fun b hb gb kb lb => ?_⟩
        rcases List.mem_cons.mp hb with rfl | hb
        · exact absurd ⟨gb, lb, by omega⟩ hx
        · exact g5 b hb gb kb lb
      · rintro ⟨ha, g1, g2, g3, g4, g5⟩
        rcases List.mem_cons.mp ha with rfl | hat
        · exact absurd ⟨g1, g2, g4⟩ hx
        · exact ⟨hat, g1, g2, g3, g4, fun b hb => g5 b (List.mem_cons_of_mem _ hb)⟩
theorem asc_eq : ∀ {l m : List Nat}, l.Pairwise (· < ·) → m.Pairwise (· < ·) → (∀ x, x ∈ l ↔ x ∈ m) → l = m := by
  intro l
  induction l with
  | nil =>
    intro m _ _ h
    cases m with
    | nil => rfl
    | cons c t => exact absurd ((h c).mpr List.mem_cons_self) List.not_mem_nil
  | cons a t ih =>
    intro m hl hm h
    cases m with
    | nil => exact absurd ((h a).mp List.mem_cons_self) List.not_mem_nil
    | cons c u =>
      obtain ⟨l1, l2⟩ := List.pairwise_cons.mp hl
      obtain ⟨m1, m2⟩ := List.pairwise_cons.mp hm
      have e : a = c := by
        rcases List.mem_cons.mp ((h a).mp List.mem_cons_self) with e | e
        · exact e
        · rcases List.mem_cons.mp ((h c).mpr List.mem_cons_self) with e2 | e2
          · exact e2.symm
          · have := m1 a e
            have := l1 c e2
            omega
      subst e
      rw [ih l2 m2 (fun x => ?_)]
      constructor
      · intro hx
        rcases List.mem_cons.mp ((h x).mp (List.mem_cons_of_mem _ hx)) with rfl | hx2
        · exact absurd (l1 x hx) (Nat.lt_irrefl _)
        · exact hx2
      · intro hx
        rcases List.mem_cons.mp ((h x).mpr (List.mem_cons_of_mem _ hx)) with rfl | hx2
        · exact absurd (m1 x hx) (Nat.lt_irrefl _)
        · exact hx2
/-- what is there, by what is read -/
theorem kt_rd {K : Nat → Nat} {V : Nat → Int32} {G : Nat → Bool} {lim : Nat} {ord C : List Nat} (hs : ord.Pairwise (srt K)) (hC : ro K C) (hG : ∀ a, a ∈ C ↔ a ∈ ord ∧ G a = true) :
    ((kt K V G lim 0 ord).map K).Pairwise (· < ·) ∧ (∀ k, k ∈ (kt K V G lim 0 ord).map K ↔ rd K V C k lim ≠ -1) ∧ (kt K V G lim 0 ord).map V = ((kt K V G lim 0 ord).map K).map (fun k => rd K V C k lim) := by
  have hm := kt_mem (V := V) (G := G) (lim := lim) ord 0 hs (fun b _ => Nat.zero_le _)
  have hval : ∀ a ∈ kt K V G lim 0 ord, rd K V C (K a) lim = V a := by
    intro a ha
    obtain ⟨g0, g1, g2, g3, -, g5⟩ := (hm a).mp ha
    unfold rd
    rw [ro_is hC ((hG a).mpr ⟨g0, g1⟩) rfl g2 (fun b hb kb lb => g5 b ((hG b).mp hb).1 ((hG b).mp hb).2 kb lb)]
  refine ⟨?_, fun k => ?_, ?_⟩
  · rw [List.pairwise_map]
    have hsub := (kt_sub K V G lim ord 0)
    have hp := hs.sublist hsub
    refine List.Pairwise.imp_of_mem ?_ hp
    intro a b ha hb hab
    rcases hab with h | ⟨h, hlt⟩
    · exact h
    · have h1 := (hm a).mp ha
      have h2 := (hm b).mp hb
      have := h2.2.2.2.2.2 a h1.1 h1.2.1 h h1.2.2.1
      omega
  · constructor
    · intro h
      obtain ⟨a, ha, rfl⟩ := List.mem_map.mp h
      rw [hval a ha]
      exact ((hm a).mp ha).2.2.2.1
    · intro h
      unfold rd at h
      cases hf : C.find? (isK K k lim) with
      | none => rw [hf] at h; exact absurd rfl h
      | some a =>
        rw [hf] at h
        have ham := List.mem_of_find?_eq_some hf
        obtain ⟨h1, h2⟩ := isK_t.mp (List.find?_some hf)
        refine List.mem_map.mpr ⟨a, (hm a).mpr ⟨((hG a).mp ham).1, ((hG a).mp ham).2, h2, h, Nat.succ_ne_zero _ |>.symm, fun b hb gb kb lb => ?_⟩, h1⟩
        exact ro_top hC hf b ((hG b).mpr ⟨hb, gb⟩) (kb.trans h1) lb
  · rw [List.map_map]
    exact List.map_congr_left (fun a ha => (hval a ha).symm)
