/-! MATHEMATICS 16: one merging with the way 1 -/
theorem mem_seg {α : Type} {l : List α} {f t : Nat} {r : α} (h : r ∈ (l.take t).drop f) : ∃ k, f ≤ k ∧ k < t ∧ l[k]? = some r := by
  obtain ⟨j, hj⟩ := List.getElem?_of_mem h
  rw [List.getElem?_drop, List.getElem?_take] at hj
  split at hj
  · exact ⟨f + j, by omega, by omega, hj⟩
  · cases hj
theorem mem_tk {α : Type} {l : List α} {t : Nat} {r : α} (h : r ∈ l.take t) : ∃ k, k < t ∧ l[k]? = some r := by
  obtain ⟨k, -, h2, h3⟩ := mem_seg (f := 0) (by rw [List.drop_zero]; exact h)
  exact ⟨k, h2, h3⟩
theorem mem_dr {α : Type} {l : List α} {f : Nat} {r : α} (h : r ∈ l.drop f) : ∃ k, f ≤ k ∧ l[k]? = some r := by
  obtain ⟨j, hj⟩ := List.getElem?_of_mem h
  rw [List.getElem?_drop] at hj
  exact ⟨f + j, by omega, hj⟩
theorem Apt_get {K : Nat → Nat} {l : List Run} (h : Apt K l) {i j : Nat} {r s : Run} (hij : i < j) (hr : l[i]? = some r) (hs : l[j]? = some s) : ∀ a ∈ r.1, ∀ b ∈ s.1, K a < K b := by
  obtain ⟨h1, h2⟩ := List.getElem?_eq_some_iff.mp hr
  obtain ⟨h3, h4⟩ := List.getElem?_eq_some_iff.mp hs
  have := List.pairwise_iff_getElem.mp h i j h1 h3 hij
  rw [h2, h4] at this
  exact this
theorem td_sub {α : Type} (l : List α) {f t : Nat} (h : f ≤ t) : (l.take f ++ l.drop t).Sublist l := by
  conv => rhs; rw [← List.take_append_drop f l]
  refine List.Sublist.append (List.Sublist.refl _) ?_
  rw [show t = f + (t - f) by omega, ← List.drop_drop]
  exact List.drop_sublist _ _
theorem td_split {α : Type} (l : List α) {f t : Nat} (h : f ≤ t) : l = l.take f ++ ((l.take t).drop f ++ l.drop t) := by
  conv => lhs; rw [← List.take_append_drop t l, ← List.take_append_drop f (l.take t), List.take_take, Nat.min_eq_left h, List.append_assoc]
section
variable {S : cs_St} {N : Nat} {K : Nat → Nat} {V : Nat → Int32} {ord : List Nat} {L : Nat → List Run} {sn H : List Nat}
theorem Bs.part (h : Bs S N K V ord L) {lv f t : Nat} (hl : lv < 3) (hft : f ≤ t) (ht : t ≤ (L lv).length) : ∃ m g, m_X4_leastOf S (nI (pre L lv).length + nI f) (nI (pre L lv).length + nI t) = nI m ∧ m_X4_greatestOf S (nI (pre L lv).length + nI f) (nI (pre L lv).length + nI t) = nI g ∧ (∀ k r, f ≤ k → k < t → (L lv)[k]? = some r → m ≤ lo K r ∧ hi K r ≤ g) ∧
    ∀ S0, fr [2] S S0 → ∃ met bey, m_X4_firstReaching S0 (nI lv + 1) (nI m) = nI met ∧ m_X4_firstBeyond S0 (nI lv + 1) (nI g) = nI bey ∧ met ≤ (L (lv + 1)).length ∧ bey ≤ (L (lv + 1)).length ∧ (∀ k r, k < met → (L (lv + 1))[k]? = some r → hi K r < m) ∧ (∀ r, (L (lv + 1))[met]? = some r → m ≤ hi K r) ∧ ∀ r, (L (lv + 1))[bey]? = some r → g < lo K r := by
  have hcl := h.2.1.cnt_le (show lv < 4 by omega)
  obtain ⟨m, m1, m2, m3⟩ := h.leastOf (show (pre L lv).length + f ≤ (pre L lv).length + t by omega) (by omega)
  obtain ⟨g, g1, g2, g3⟩ := h.greatestOf (show (pre L lv).length + f ≤ (pre L lv).length + t by omega) (by omega)
  refine ⟨m, g, by rw [nI_add, nI_add]; exact m1, by rw [nI_add, nI_add]; exact g1, fun k r h1 h2 hr => ?_, fun S0 hf => ?_⟩
  · have hr2 : (RS L)[(pre L lv).length + k]? = some r := by rw [RS_get L (by omega) (by omega)]; exact hr
    exact ⟨m3 _ r (by omega) (by omega) hr2, g3 _ r (by omega) (by omega) hr2⟩
  · have h0 : Bs S0 N K V ord L := h.mv hf (fun k hk => by have := List.mem_singleton.mp hk; omega)
    obtain ⟨p, p1, p2, p3, p4⟩ := h0.reach (show lv + 1 < 4 by omega) m2
    obtain ⟨q, q1, q2, -, q4⟩ := h0.beyond (show lv + 1 < 4 by omega) (nI g)
    refine ⟨p, q, by rw [nI_1]; exact p1, by rw [nI_1]; exact q1, p2, q2, p3, p4, fun r hr => ?_⟩
    have hlen := (List.getElem?_eq_some_iff.mp hr).1
    have h9 := h.lo9 (i := (pre L (lv + 1)).length + q) (r := r) (by rw [RS_get L (by omega) hlen]; exact hr)
    have := q4 r hr
    rw [nI_leI (by omega) (by omega)] at this
    omega
theorem Bs.takePart (h : Bs S N K V ord L) {lv : Nat} (hl : lv < 3) (hne : 0 < (L lv).length) :
    ∃ S0 f t m g met bey, m_X6_takePart S (nI lv) = (nI met, m_X6_takeRuns (m_X6_takeRuns S0 (nI lv) (nI f) (nI t)) (nI (lv + 1)) (nI met) (nI bey)) ∧ fr [2] S S0 ∧ f < t ∧ t ≤ (L lv).length ∧ (lv = 0 → f = 0 ∧ t = (L lv).length) ∧ (∀ k r, f ≤ k → k < t → (L lv)[k]? = some r → m ≤ lo K r ∧ hi K r ≤ g) ∧
      met ≤ (L (lv + 1)).length ∧ bey ≤ (L (lv + 1)).length ∧ (∀ k r, k < met → (L (lv + 1))[k]? = some r → hi K r < m) ∧ (∀ r, (L (lv + 1))[met]? = some r → m ≤ hi K r) ∧ ∀ r, (L (lv + 1))[bey]? = some r → g < lo K r := by
  have hl4 : lv < 4 := by omega
  have hnR := h.2.1.nR
  have hcl := h.2.1.cnt_le hl4
  have hct := h.2.1.count hl4
  have hfi := h.2.1.first (show lv ≤ 4 by omega)
  have hz : (0 : Int32) = nI 0 := rfl
  have hz1 : (0 : Int32) + 1 = nI 1 := rfl
  by_cases c : lv = 0
  · have c0 : nI lv ≤ 0 := by rw [hz, nI_leI (by omega) (by omega)]; omega
    obtain ⟨m, g, m1, g1, mg, rest⟩ := h.part hl (Nat.zero_le (L lv).length) (Nat.le_refl _)
    obtain ⟨met, bey, b1, b2, b3⟩ := rest S fr.rf
    refine ⟨S, 0, (L lv).length, m, g, met, bey, ?_, fr.rf, hne, Nat.le_refl _, fun _ => ⟨rfl, rfl⟩, mg, b3⟩
    rw [m_X6_takePart]
    simp only [cs_lx]
    rw [if_pos c0, if_pos c0, hct, hfi, show (nI (pre L lv).length + 0) = nI (pre L lv).length + nI 0 from rfl, m1, g1, b1, b2, nI_1]
    rfl
  · have c0 : ¬ nI lv ≤ 0 := by rw [hz, nI_leI (by omega) (by omega)]; omega
    obtain ⟨p, p1, p2, -, -⟩ := h.beyond hl4 (m_X3_at S 2 (nI lv))
    have gen : ∀ f, f < (L lv).length → ∃ S0 m g met bey, (m_X4_firstReaching (m_X3_write S 2 (nI lv) (m_X4_greatestOf S (nI (pre L lv).length + nI f) (nI (pre L lv).length + nI (f + 1)))) (nI lv + 1) (m_X4_leastOf S (nI (pre L lv).length + nI f) (nI (pre L lv).length + nI (f + 1))), m_X6_takeRuns (m_X6_takeRuns (m_X3_write S 2 (nI lv) (m_X4_greatestOf S (nI (pre L lv).length + nI f) (nI (pre L lv).length + nI (f + 1)))) (nI lv) (nI f) (nI (f + 1))) (nI lv + 1) (m_X4_firstReaching (m_X3_write S 2 (nI lv) (m_X4_greatestOf S (nI (pre L lv).length + nI f) (nI (pre L lv).length + nI (f + 1)))) (nI lv + 1) (m_X4_leastOf S (nI (pre L lv).length + nI f) (nI (pre L lv).length + nI (f + 1)))) (m_X4_firstBeyond (m_X3_write S 2 (nI lv) (m_X4_greatestOf S (nI (pre L lv).length + nI f) (nI (pre L lv).length + nI (f + 1)))) (nI lv + 1) (m_X4_greatestOf S (nI (pre L lv).length + nI f) (nI (pre L lv).length + nI (f + 1))))) = (nI met, m_X6_takeRuns (m_X6_takeRuns S0 (nI lv) (nI f) (nI (f + 1))) (nI (lv + 1)) (nI met) (nI bey)) ∧ fr [2] S S0 ∧ (∀ k r, f ≤ k → k < f + 1 → (L lv)[k]? = some r → m ≤ lo K r ∧ hi K r ≤ g) ∧
      met ≤ (L (lv + 1)).length ∧ bey ≤ (L (lv + 1)).length ∧ (∀ k r, k < met → (L (lv + 1))[k]? = some r → hi K r < m) ∧ (∀ r, (L (lv + 1))[met]? = some r → m ≤ hi K r) ∧ ∀ r, (L (lv + 1))[bey]? = some r → g < lo K r := by
      intro f hf
      obtain ⟨m, g, m1, g1, mg, rest⟩ := h.part hl (show f ≤ f + 1 by omega) (by omega)
      have hw : m_X3_write S 2 (nI lv) (nI g) = cs_sR S 2 (rw_set (S.1 2) lv (nI g)) := write_eq hl4
      have hfr : fr [2] S (m_X3_write S 2 (nI lv) (nI g)) := by rw [hw]; exact fr.sR
      rw [m1, g1]
      generalize m_X3_write S 2 (nI lv) (nI g) = S0 at hfr
      obtain ⟨met, bey, b1, b2, b3⟩ := rest S0 hfr
      refine ⟨S0, m, g, met, bey, ?_, hfr, mg, b3⟩
      rw [b1, b2, nI_1]
    rw [m_X6_takePart]
    simp only [cs_lx]
    rw [if_neg c0, hct, hfi, p1]
    by_cases c2 : (L lv).length ≤ p
    · obtain ⟨S0, m, g, met, bey, q1, q2⟩ := gen 0 hne
      rw [if_pos (by rw [nI_leI (by omega) (by omega)]; exact c2), if_neg c0]
      exact ⟨S0, 0, 1, m, g, met, bey, q1, q2.1, by omega, by omega, fun z => absurd z c, q2.2⟩
    · obtain ⟨S0, m, g, met, bey, q1, q2⟩ := gen p (by omega)
      rw [if_neg (by rw [nI_leI (by omega) (by omega)]; exact c2), if_neg c0, nI_1 (a := p)]
      exact ⟨S0, p, p + 1, m, g, met, bey, q1, q2.1, by omega, by omega, fun z => absurd z c, q2.2⟩
end
