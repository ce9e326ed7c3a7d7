/-! MATHEMATICS 27: asking changes nothing: the digest before and after -/
section
variable {S S' : cs_St}
theorem at_c (h : fr [1, 17, 18] S S') (j : Nat) (hj : j ≠ 1 ∧ j ≠ 17 ∧ j ≠ 18) (a : Int32) : m_X3_at S' j a = m_X3_at S j a := by
  unfold m_X3_at
  rw [h.2 j (by simp; omega)]
theorem len_c (h : fr [1, 17, 18] S S') (j : Nat) (hj : j ≠ 1 ∧ j ≠ 17 ∧ j ≠ 18) : m_X3_length S' j = m_X3_length S j := by
  unfold m_X3_length
  rw [h.2 j (by simp; omega)]
theorem first_c (h : fr [1, 17, 18] S S') (u : Int32) : m_X4_first S' u = m_X4_first S u := by
  have key : ∀ (n : Nat) (v2 v3 : Int32), m_X4_first_L4 S' u n v2 v3 = m_X4_first_L4 S u n v2 v3 := by
    intro n
    induction n with
    | zero => intro v2 v3; rfl
    | succ n ih =>
      intro v2 v3
      rw [m_X4_first_L4, m_X4_first_L4]
      simp only [cs_lx]
      rw [at_c h 16 (by decide), ih]
  rw [m_X4_first, m_X4_first]
  simp only [cs_lx]
  rw [key]
theorem begin_c (h : fr [1, 17, 18] S S') (u : Int32) : m_X4_begin S' u = m_X4_begin S u := by
  rw [m_X4_begin, m_X4_begin]
  simp only [cs_lx]
  rw [at_c h 11 (by decide)]
theorem length_c (h : fr [1, 17, 18] S S') (u : Int32) : m_X4_length S' u = m_X4_length S u := by
  rw [m_X4_length, m_X4_length]
  simp only [cs_lx]
  rw [at_c h 11 (by decide), begin_c h]
theorem age_c (h : fr [1, 17, 18] S S') (u p : Int32) : m_X4_age S' u p = m_X4_age S u p := by
  rw [m_X4_age, m_X4_age]
  simp only [cs_lx]
  rw [begin_c h, at_c h 10 (by decide)]
theorem setBits_c (h : fr [1, 17, 18] S S') (u : Int32) : m_X4_setBits S' u = m_X4_setBits S u := by
  have hf : m_X4_filterOf S' u = m_X4_filterOf S u := by
    rw [m_X4_filterOf, m_X4_filterOf]
    simp only [cs_lx]
    rw [at_c h 15 (by decide), at_c h 14 (by decide)]
  rw [m_X4_setBits, m_X4_setBits]
  simp only [cs_lx]
  rw [at_c h 12 (by decide), hf]
  rfl
theorem key_c (h : fr [1, 17, 18] S S') (u : Int32) : m_X1_key S' u = m_X1_key S u := by
  rw [m_X1_key, m_X1_key]
  simp only [cs_lx]
  rw [at_c h 5 (by decide)]
theorem value_c (h : fr [1, 17, 18] S S') (u : Int32) : m_X1_value S' u = m_X1_value S u := by
  rw [m_X1_value, m_X1_value]
  simp only [cs_lx]
  rw [at_c h 6 (by decide)]
theorem stone_c (h : fr [1, 17, 18] S S') (u : Int32) : m_X1_isStone S' u = m_X1_isStone S u := by
  rw [m_X1_isStone, m_X1_isStone]
  simp only [cs_lx]
  rw [at_c h 6 (by decide)]
theorem dRun_c (h : fr [1, 17, 18] S S') (a : Int64) (u : Int32) : m_X6_digestRun S' a u = m_X6_digestRun S a u := by
  have key : ∀ (n : Nat) (v4 : Int64) (v6 : Int32), m_X6_digestRun_L38 S' a u n v4 v6 = m_X6_digestRun_L38 S a u n v4 v6 := by
    intro n
    induction n with
    | zero => intro v4 v6; rfl
    | succ n ih =>
      intro v4 v6
      rw [m_X6_digestRun_L38, m_X6_digestRun_L38]
      simp only [cs_lx]
      rw [length_c h, age_c h, key_c h, value_c h, ih]
  rw [m_X6_digestRun, m_X6_digestRun]
  simp only [cs_lx]
  rw [length_c h, setBits_c h, key]
theorem stones_c (h : fr [1, 17, 18] S S') : m_X6_stones S' = m_X6_stones S := by
  have key : ∀ (n : Nat) (v1 v2 : Int32), m_X6_stones_L4 S' n v1 v2 = m_X6_stones_L4 S n v1 v2 := by
    intro n
    induction n with
    | zero => intro v1 v2; rfl
    | succ n ih =>
      intro v1 v2
      rw [m_X6_stones_L4, m_X6_stones_L4]
      simp only [cs_lx]
      rw [len_c h 10 (by decide), at_c h 10 (by decide), stone_c h, ih, ih]
  rw [m_X6_stones, m_X6_stones]
  simp only [cs_lx]
  rw [key]
theorem d90_c (h : fr [1, 17, 18] S S') : ∀ (n : Nat) (v1 : Int64) (v3 : Int32), m_X6_digest_L90 S' n v1 v3 = m_X6_digest_L90 S n v1 v3 := by
  intro n
  induction n with
  | zero => intro v1 v3; rfl
  | succ n ih =>
    intro v1 v3
    rw [m_X6_digest_L90, m_X6_digest_L90]
    simp only [cs_lx]
    rw [at_c h 0 (by decide), ih]
theorem d180_c (h : fr [1, 17, 18] S S') (u : Int32) : ∀ (n : Nat) (v1 : Int64) (v4 : Int32), m_X6_digest_L180 S' u n v1 v4 = m_X6_digest_L180 S u n v1 v4 := by
  intro n
  induction n with
  | zero => intro v1 v4; rfl
  | succ n ih =>
    intro v1 v4
    rw [m_X6_digest_L180, m_X6_digest_L180]
    simp only [cs_lx]
    rw [first_c h, dRun_c h, ih]
end
section
variable {N : Nat} {K : Nat → Nat} {V : Nat → Int32} {ord : List Nat} {L : Nat → List Run} {sn H W : List Nat} {sf way fan pc : Nat}
theorem Iv.sc {S S' : cs_St} (h : Iv S N K V ord L sn H W sf way fan pc) (f : fr [1, 17, 18] S S') : Iv S' N K V ord L sn H W sf way fan pc :=
  h.mv (fun i _ => by rw [f.1]) (fun k hk => f.2 k (fun z => hk (by simp at z ⊢; omega)))
theorem fr3 {S S1 S' S1' : cs_St} (h : fr [1, 17, 18] S S') (a : fr [17, 18] S S1) (b : fr [17, 18] S' S1') : fr [1, 17, 18] S1 S1' := by
  refine ⟨by rw [b.1, h.1, a.1], fun k hk => ?_⟩
  rw [b.2 k (fun z => hk (by simp at z ⊢; omega)), h.2 k hk, a.2 k (fun z => hk (by simp at z ⊢; omega))]
theorem d120_c : ∀ (n i : Nat) (v : Int64) (S S' : cs_St), i ≤ 4 → Iv S N K V ord L sn H W sf way fan pc → fr [1, 17, 18] S S' →
    (m_X6_digest_L120 n v (nI i) S').1 = (m_X6_digest_L120 n v (nI i) S).1 ∧ fr [17, 18] S (m_X6_digest_L120 n v (nI i) S).2.2 ∧ fr [17, 18] S' (m_X6_digest_L120 n v (nI i) S').2.2 := by
  intro n
  induction n with
  | zero => intro i v S S' _ _ _; exact ⟨rfl, fr.rf, fr.rf⟩
  | succ n ih =>
    intro i v S S' hi hI hf
    rw [m_X6_digest_L120, m_X6_digest_L120]
    by_cases c : 4 ≤ i
    · rw [if_pos (show (4 : Int32) ≤ nI i by rw [show (4 : Int32) = nI 4 from rfl, nI_leI (by omega) (by omega)]; exact c), if_pos (show (4 : Int32) ≤ nI i by rw [show (4 : Int32) = nI 4 from rfl, nI_leI (by omega) (by omega)]; exact c)]
      exact ⟨rfl, fr.rf, fr.rf⟩
    · rw [if_neg (show ¬ (4 : Int32) ≤ nI i by rw [show (4 : Int32) = nI 4 from rfl, nI_leI (by omega) (by omega)]; exact c), if_neg (show ¬ (4 : Int32) ≤ nI i by rw [show (4 : Int32) = nI 4 from rfl, nI_leI (by omega) (by omega)]; exact c)]
      obtain ⟨S1, p1, p2, -⟩ := plan_eq hI (lv := i) (by omega)
      obtain ⟨S1', q1, q2, -⟩ := plan_eq (hI.sc hf) (lv := i) (by omega)
      have hf1 := fr3 hf p2 q2
      have hct : m_X4_count S' (nI i) = m_X4_count S (nI i) := by
        rw [m_X4_count, m_X4_count]
        simp only [cs_lx]
        rw [at_c hf 16 (by decide)]
      simp only [cs_lx]
      rw [p1, q1, hct, at_c hf 2 (by decide)]
      simp only
      rw [first_c hf1, d180_c hf1, nI_1]
      obtain ⟨e1, e2, e3⟩ := ih (i + 1) (m_X6_digest_L180 S1 (nI i) cs_N ((((((v * 31) + (m_X4_count S (nI i)).toInt64) * 31) + (m_X3_at S 2 (nI i)).toInt64) * 31) + (nI ((tpk L way i).length - (mgl K V sn ord (tpk L way i) []).length)).toInt64) (m_X4_first S1 (nI i))).1 S1 S1' (by omega) (hI.sc (p2.mono (by simp))) hf1
      exact ⟨e1, p2.tr e2, q2.tr e3⟩
theorem digest_eq {S S' : cs_St} (hI : Iv S N K V ord L sn H W sf way fan pc) (hf : fr [1, 17, 18] S S') :
    (m_X6_digest S').1 = (m_X6_digest S).1 ∧ fr [17, 18] S (m_X6_digest S).2 := by
  obtain ⟨S1, k1, k2⟩ := keys_eq hI
  obtain ⟨S1', k1', k2'⟩ := keys_eq (hI.sc hf)
  have hf1 := fr3 hf k2 k2'
  have h1 : m_X6_hand S' = m_X6_hand S := by
    rw [m_X6_hand, m_X6_hand]; simp only [cs_lx]; rw [len_c hf 3 (by decide)]
  have h2 : m_X6_log S' = m_X6_log S := by
    rw [m_X6_log, m_X6_log]; simp only [cs_lx]; rw [len_c hf 4 (by decide)]
  have h3 : m_X6_unsafe S' = m_X6_unsafe S := by
    rw [m_X6_unsafe, m_X6_unsafe]; simp only [cs_lx, m_X0_unsafeWrites]; rw [len_c hf 4 (by decide), hf.1]
  have h4 : m_X6_snapshots S' = m_X6_snapshots S := by
    rw [m_X6_snapshots, m_X6_snapshots]; simp only [cs_lx, m_X5_there]; rw [len_c hf 8 (by decide)]
  have h5 : m_X6_entries S1' = m_X6_entries S1 := by
    rw [m_X6_entries, m_X6_entries]; simp only [cs_lx]; rw [len_c hf1 10 (by decide)]
  have hI1 := hI.sc (k2.mono (by simp))
  rw [m_X6_digest, m_X6_digest]
  simp only [cs_lx]
  rw [k1, k1']
  simp only
  rw [h1, h2, h3, h4, h5, stones_c hf1, d90_c hf1]
  generalize (m_X6_digest_L90 S1 cs_N _ 0).1 = v
  obtain ⟨e1, e2, e3⟩ := d120_c (n := cs_N) 0 v S1 S1' (by decide) hI1 hf1
  have e1' : (m_X6_digest_L120 cs_N v 0 S1').1 = (m_X6_digest_L120 cs_N v 0 S1).1 := e1
  have e2' : fr [17, 18] S1 (m_X6_digest_L120 cs_N v 0 S1).2.2 := e2
  have e3' : fr [17, 18] S1' (m_X6_digest_L120 cs_N v 0 S1').2.2 := e3
  have hI2 := hI1.sc (e2'.mono (by simp))
  have hI2' := (hI1.sc hf1).sc (e3'.mono (by simp))
  obtain ⟨S2, s1, s2⟩ := sum_eq hI2
  obtain ⟨S2', s1', s2'⟩ := sum_eq hI2'
  rw [s1, s1', e1']
  exact ⟨rfl, k2.tr (e2'.tr s2)⟩
end
