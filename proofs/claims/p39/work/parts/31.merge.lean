/-! MATHEMATICS 12: a merging, as lists: what it leaves is in order and read as before -/
theorem ro_app {K : Nat → Nat} {a b : List Nat} : ro K (a ++ b) ↔ ro K a ∧ ro K b ∧ ∀ x ∈ a, ∀ y ∈ b, K x = K y → y < x := List.pairwise_append
theorem ro_srt {K : Nat → Nat} {l : List Nat} (h : l.Pairwise (srt K)) : ro K l := h.imp (fun {a b} h e => by rcases h with h | ⟨-, h⟩ <;> omega)
theorem ro_nd {K : Nat → Nat} {l : List Nat} (h : ro K l) : l.Nodup := h.imp (fun {a b} h e => by have := h (by rw [e]); omega)
def mgl (K : Nat → Nat) (V : Nat → Int32) (sn ord T D : List Nat) : List Nat := (ds K V (inB K D) (kn K (fun a => decide (a ∈ T)) sn 0 ord)).1
theorem inB_no {K : Nat → Nat} {l : List Nat} {k : Nat} (h : inB K l k = false) : ∀ a ∈ l, K a ≠ k := by
  intro a ha e
  have : inB K l k = true := List.any_eq_true.mpr ⟨a, ha, by simp [e]⟩
  rw [h] at this; cases this
section
variable {K : Nat → Nat} {V : Nat → Int32} {sn ord : List Nat}
theorem mgl_sub (T D : List Nat) : (mgl K V sn ord T D).Sublist ord ∧ ∀ a ∈ mgl K V sn ord T D, a ∈ T := by
  have h := kn_sub K (fun a => decide (a ∈ T)) sn ord 0
  have h2 := ds_sub K V (inB K D) (kn K (fun a => decide (a ∈ T)) sn 0 ord)
  exact ⟨h2.trans h.1, fun a ha => of_decide_eq_true (h.2 a (h2.subset ha))⟩
theorem mgl_len {T D : List Nat} (hs : ord.Pairwise (srt K)) : (mgl K V sn ord T D).length ≤ T.length := by
  obtain ⟨h1, h2⟩ := mgl_sub (K := K) (V := V) (sn := sn) (ord := ord) T D
  exact List.Nodup.length_le_of_subset (ro_nd (ro_srt (hs.sublist h1))) h2
theorem mg {A T1 M T2 Q D : List Nat} (hs : ord.Pairwise (srt K)) (h0 : ∀ a ∈ ord, 1 ≤ a) (hC : ro K (A ++ (T1 ++ (M ++ (T2 ++ Q))))) (hm : ∀ a, a ∈ T1 ∨ a ∈ T2 → a ∈ ord) (hap : ∀ a ∈ T1, ∀ b ∈ M, K a ≠ K b) (hQ : ∀ b ∈ Q, b ∈ D) :
    ro K (A ++ (M ++ (mgl K V sn ord (T1 ++ T2) D ++ Q))) ∧ (∀ a ∈ A ++ (M ++ (mgl K V sn ord (T1 ++ T2) D ++ Q)), a ∈ A ++ (T1 ++ (M ++ (T2 ++ Q)))) ∧
      ∀ lim, (lim ∈ sn ∨ ∀ b ∈ A ++ (T1 ++ (M ++ (T2 ++ Q))), b ≤ lim) → ∀ k, rd K V (A ++ (M ++ (mgl K V sn ord (T1 ++ T2) D ++ Q))) k lim = rd K V (A ++ (T1 ++ (M ++ (T2 ++ Q)))) k lim := by
  obtain ⟨s1, s2⟩ := mgl_sub (K := K) (V := V) (sn := sn) (ord := ord) (T1 ++ T2) D
  obtain ⟨cA, c1, cA1⟩ := ro_app.mp hC
  obtain ⟨cT1, c2, cT1x⟩ := ro_app.mp c1
  obtain ⟨cM, c3, cMx⟩ := ro_app.mp c2
  obtain ⟨cT2, cQ, cT2x⟩ := ro_app.mp c3
  have mT : ∀ a ∈ mgl K V sn ord (T1 ++ T2) D, a ∈ T1 ∨ a ∈ T2 := fun a ha => List.mem_append.mp (s2 a ha)
  have hro : ro K (A ++ (M ++ (mgl K V sn ord (T1 ++ T2) D ++ Q))) := by
    refine ro_app.mpr ⟨cA, ro_app.mpr ⟨cM, ro_app.mpr ⟨ro_srt (hs.sublist s1), cQ, fun x hx y hy => ?_⟩, fun x hx y hy => ?_⟩, fun x hx y hy => ?_⟩
    · rcases mT x hx with h | h
      · exact cT1x x h y (by simp [hy])
      · exact cT2x x h y hy
    · rcases List.mem_append.mp hy with hy | hy
      · rcases mT y hy with h | h
        · exact fun e => absurd e.symm (hap y h x hx)
        · exact cMx x hx y (by simp [h])
      · exact cMx x hx y (by simp [hy])
    · refine cA1 x hx y ?_
      simp only [List.mem_append] at hy ⊢
      rcases hy with h | h | h
      · exact Or.inr (Or.inl h)
      · rcases mT y h with h | h
        · exact Or.inl h
        · exact Or.inr (Or.inr (Or.inl h))
      · exact Or.inr (Or.inr (Or.inr h))
  have hsub : ∀ a ∈ A ++ (M ++ (mgl K V sn ord (T1 ++ T2) D ++ Q)), a ∈ A ++ (T1 ++ (M ++ (T2 ++ Q))) := by
    intro a ha
    simp only [List.mem_append] at ha ⊢
    rcases ha with h | h | h | h
    · exact Or.inl h
    · exact Or.inr (Or.inr (Or.inl h))
    · rcases mT a h with h | h
      · exact Or.inr (Or.inl h)
      · exact Or.inr (Or.inr (Or.inr (Or.inl h)))
    · exact Or.inr (Or.inr (Or.inr (Or.inr h)))
  refine ⟨hro, hsub, fun lim hlim k => rd_keep hC hro hsub (fun a ha hk hl ht => ?_)⟩
  by_cases hT : a ∈ T1 ∨ a ∈ T2
  · have haO := hm a hT
    have hkn : a ∈ kn K (fun a => decide (a ∈ T1 ++ T2)) sn 0 ord := by
      refine kn_top (lim := lim) ?_ ord 0 hs h0 (fun z => absurd rfl z) a haO (decide_eq_true (List.mem_append.mpr hT)) hl (fun z => absurd rfl z) ?_
      · rcases hlim with h | h
        · exact Or.inl h
        · refine Or.inr (fun b hb => h b ?_)
          have := List.mem_append.mp (of_decide_eq_true hb)
          simp only [List.mem_append]
          rcases this with h | h
          · exact Or.inr (Or.inl h)
          · exact Or.inr (Or.inr (Or.inr (Or.inl h)))
      · intro b _ hb e hbl
        refine ht b ?_ (e.trans hk) hbl
        have := List.mem_append.mp (of_decide_eq_true hb)
        simp only [List.mem_append]
        rcases this with h | h
        · exact Or.inr (Or.inl h)
        · exact Or.inr (Or.inr (Or.inr (Or.inl h)))
    by_cases hin : a ∈ mgl K V sn ord (T1 ++ T2) D
    · exact Or.inl (by simp only [List.mem_append]; exact Or.inr (Or.inr (Or.inl hin)))
    · have hkp := hs.sublist (kn_sub K (fun a => decide (a ∈ T1 ++ T2)) sn ord 0).1
      obtain ⟨g1, g2, g3⟩ := (ds_gone (K := K) (V := V) (B := inB K D) _ hkp).2.2 a hkn hin
      refine Or.inr ⟨g1, fun b hb hkb => ?_⟩
      rcases Nat.lt_or_ge lim b with h | h
      · exact h
      · have hba := ht b (hsub b hb) hkb h
        have hx : ∀ z, z < z → False := fun z h => absurd h (Nat.lt_irrefl z)
        simp only [List.mem_append] at hb
        rcases hb with hb | hb | hb | hb
        · have := cA1 b hb a (by simp only [List.mem_append]; rcases hT with h | h; exact Or.inl h; exact Or.inr (Or.inr (Or.inl h))) (hkb.trans hk.symm)
          omega
        · rcases hT with h | h
          · exact absurd (hk.trans hkb.symm) (hap a h b hb)
          · have := cMx b hb a (by simp [h]) (hkb.trans hk.symm)
            omega
        · rcases Nat.lt_or_ge b a with h9 | h9
          · exact absurd hb (g3 b ((ds_sub K V (inB K D) _).subset hb) (hkb.trans hk.symm) h9)
          · rw [show b = a by omega] at hb
            exact absurd hb hin
        · exact absurd (hkb.trans hk.symm) (inB_no g2 b (hQ b hb))
  · refine Or.inl ?_
    simp only [List.mem_append] at ha ⊢
    rcases ha with h | h | h | h | h
    · exact Or.inl h
    · exact absurd (Or.inl h) hT
    · exact Or.inr (Or.inl h)
    · exact absurd (Or.inr h) hT
    · exact Or.inr (Or.inr (Or.inr h))
end
