/-! MATHEMATICS 28: the same readings, the same list; a new object -/
theorem tha_eq {K : Nat → Nat} {V : Nat → Int32} {ord C C' : List Nat} (hs : ord.Pairwise (srt K)) (hC : ro K C) (hC' : ro K C') (hin : ∀ a ∈ C, a ∈ ord) (hin' : ∀ a ∈ C', a ∈ ord) {lim : Nat} (h : ∀ q, rd K V C' q lim = rd K V C q lim) :
    (tha K V ord C' lim).map K = (tha K V ord C lim).map K ∧ (tha K V ord C' lim).map V = (tha K V ord C lim).map V := by
  obtain ⟨a1, a2, a3⟩ := kt_rd (V := V) (G := fun a => decide (a ∈ C)) (lim := lim) hs hC (fun a => ⟨fun z => ⟨hin a z, decide_eq_true z⟩, fun z => of_decide_eq_true z.2⟩)
  obtain ⟨b1, b2, b3⟩ := kt_rd (V := V) (G := fun a => decide (a ∈ C')) (lim := lim) hs hC' (fun a => ⟨fun z => ⟨hin' a z, decide_eq_true z⟩, fun z => of_decide_eq_true z.2⟩)
  have e : (tha K V ord C' lim).map K = (tha K V ord C lim).map K := asc_eq b1 a1 (fun x => by
    unfold tha
    rw [b2, a2, h])
  refine ⟨e, ?_⟩
  unfold tha at e ⊢
  rw [b3, a3, e]
  exact congrArg (fun f => List.map f _) (funext h)
section
variable {S : cs_St} {N : Nat} {K : Nat → Nat} {V : Nat → Int32} {ord : List Nat} {L L' : Nat → List Run} {sn H W : List Nat} {sf way fan pc : Nat}
theorem Iv.roH (hI : Iv S N K V ord L sn H W sf way fan pc) : ro K (H ++ agz (RS L)) ∧ ∀ a ∈ H ++ agz (RS L), a ∈ ord := by
  obtain ⟨⟨hB, hs, hc, hsh, hro⟩, -, ⟨hHe, hWm, hWp⟩, hn, hsn⟩ := hI
  refine ⟨by rw [hHe]; exact ro_H hB.1.2.2.2.2.1 hro hn, fun a ha => (hB.1.2.2.2.1 a).mpr ?_⟩
  rcases List.mem_append.mp ha with h | h
  · rw [hHe] at h; exact kn_in hWm a h
  · exact hB.2.2 a h
/-- keys() and sum() answer the same when the readings of now are the same -/
theorem same_list {S' : cs_St} (hI : Iv S N K V ord L sn H W sf way fan pc) (hI' : Iv S' N K V ord L' sn H W sf way fan pc) (h : ∀ q, rd K V (H ++ agz (RS L')) q N = rd K V (H ++ agz (RS L)) q N) : (m_X6_keys S').1 = (m_X6_keys S).1 ∧ (m_X6_sum S' 0 9999).1 = (m_X6_sum S 0 9999).1 := by
  obtain ⟨e1, e2⟩ := tha_eq hI.1.1.1.2.2.2.2.1 hI.roH.1 hI'.roH.1 hI.roH.2 hI'.roH.2 h
  obtain ⟨_, k1, -⟩ := keys_eq hI
  obtain ⟨_, k2, -⟩ := keys_eq hI'
  obtain ⟨_, s1, -⟩ := sum_eq hI
  obtain ⟨_, s2, -⟩ := sum_eq hI'
  rw [k1, k2, s1, s2, e2]
  refine ⟨?_, rfl⟩
  have := congrArg List.length e1
  rw [List.length_map, List.length_map] at this
  rw [this]
end
theorem S0_fr : fr [2] cs_S00 cs_S0 := by
  have w : ∀ (S : cs_St) (i : Nat), i < 4 → fr [2] S (m_X3_write S 2 (nI i) (-1)) := fun S i hi => by
    rw [write_eq (show i < cs_cap 2 from hi)]
    exact fr.sR
  unfold cs_S0
  exact (w cs_S00 0 (by decide)).tr ((w _ 1 (by decide)).tr ((w _ 2 (by decide)).tr (w _ 3 (by decide))))
theorem start_gd {S : cs_St} {way fan pc wide : Nat} (e : S.1 = cs_S0.1) (h7 : S.2 7 = 0) (hc : Cf S way fan pc) : Gd S 0 (fun _ => 0) (fun _ => 0) [] (fun _ => []) [] [] [] 0 way fan pc wide 0 := by
  have r : ∀ k, k ≠ 2 → S.1 k = (fun _ => 0, 0) := fun k hk => by
    rw [e, S0_fr.2 k (by simp; exact hk)]
    rfl
  have hfan := hc.2.2.2.1
  have hRS : RS (fun _ => ([] : List Run)) = [] := rfl
  have nil : ∀ k, k ≠ 2 → LV (S.1 k) [] := fun k hk => by rw [r k hk]; exact LV.nil _
  refine ⟨⟨⟨⟨⟨by decide, nil 7 (by decide), rfl, fun a => ⟨fun h => (by cases h), fun h => (by omega)⟩, List.Pairwise.nil, fun a h1 h2 => (by omega)⟩, ⟨nil 10 (by decide), nil 11 (by decide), nil 12 (by decide), nil 13 (by decide), nil 14 (by decide), nil 15 (by decide), fun l hl => (by rw [r 16 (by decide)]; rfl), (by rw [hRS]; decide), fun r hr => (by rw [hRS] at hr; cases hr)⟩, fun a ha => (by rw [hRS] at ha; cases ha)⟩, ⟨nil 9 (by decide), by decide, fun s h => (by cases h)⟩, hc, ⟨fun r hr => (by rw [hRS] at hr; cases hr), fun _ lv _ _ => ⟨List.Pairwise.nil, fun r hr => (by cases hr)⟩⟩, List.Pairwise.nil⟩, ⟨nil 3 (by decide), nil 4 (by decide), h7, Nat.le_refl _, by decide⟩, ⟨rfl, fun a ha => (by cases ha), List.Pairwise.nil⟩, fun a ha => (by cases ha), fun s h => (by cases h)⟩, fun lv hl => ?_, fun a h1 h2 => (by omega), 0, 0, 0, ⟨(by rw [r 0 (by decide)]; rfl), (by rw [r 0 (by decide)]; rfl), Nat.le_refl _, (by rw [r 0 (by decide)]; rfl), (by rw [r 0 (by decide)]; rfl), by rw [hRS]; exact Nat.le_refl _⟩, Nat.le_refl _, Nat.le_refl _⟩
  unfold Ful
  by_cases h1 : way = 0 ∨ lv = 0
  · rw [if_pos h1]
    show ¬ fan ≤ 0
    omega
  · rw [if_neg h1]
    by_cases h3 : lv = 3
    · rw [if_pos h3]; exact id
    · rw [if_neg h3]
      exact Nat.not_lt_zero _
