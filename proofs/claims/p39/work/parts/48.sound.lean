/-! MATHEMATICS 29: what the asking methods answer -/
def stn (V : Nat → Int32) (l : List Nat) : Nat := l.countP (fun a => decide (V a = -1))
section
variable {S : cs_St} {N : Nat} {K : Nat → Nat} {V : Nat → Int32} {ord : List Nat} {L : Nat → List Run} {sn H W : List Nat} {sf way fan pc wide b : Nat}
theorem runs_eq (hI : Iv S N K V ord L sn H W sf way fan pc) {l : Nat} (hl : l < 4) : m_X6_runs S (nI l) = nI (L l).length := by
  rw [m_X6_runs]; simp only [cs_lx]; exact hI.1.1.2.1.count hl
theorem num_eq (hI : Iv S N K V ord L sn H W sf way fan pc) {l r : Nat} (hl : l < 4) : m_X6_numberOf S (nI l) (nI r) = nI ((pre L l).length + r) := by
  rw [m_X6_numberOf]; simp only [cs_lx]; rw [hI.1.1.2.1.first (by omega), nI_add]
theorem run_at {l : Nat} (hl : l < 4) {r : Nat} {x : Run} (hr : (L l)[r]? = some x) : (RS L)[(pre L l).length + r]? = some x := by
  rw [RS_get L hl (List.getElem?_eq_some_iff.mp hr).1]; exact hr
theorem size_eq (hI : Iv S N K V ord L sn H W sf way fan pc) {l r : Nat} {x : Run} (hl : l < 4) (hr : (L l)[r]? = some x) : m_X6_size S (nI l) (nI r) = nI x.1.length := by
  rw [m_X6_size]; simp only [cs_lx]; rw [num_eq hI hl]; exact hI.1.1.2.1.length (run_at hl hr)
theorem entry_is (hI : Iv S N K V ord L sn H W sf way fan pc) {l r p a : Nat} {x : Run} (hl : l < 4) (hr : (L l)[r]? = some x) (hp : x.1[p]? = some a) :
    m_X4_length S (m_X6_numberOf S (nI l) (nI r)) = nI x.1.length ∧ m_X6_entry S (nI l) (nI r) (nI p) 0 = nI (K a) ∧ m_X6_entry S (nI l) (nI r) (nI p) 1 = nI a ∧ m_X6_entry S (nI l) (nI r) (nI p) 2 = V a := by
  have hB := hI.1.1
  have hm := hB.mem (run_at hl hr) (List.mem_of_getElem? hp)
  have hag := hB.2.1.age (run_at hl hr) hp
  refine ⟨by rw [num_eq hI hl]; exact hB.2.1.length (run_at hl hr), ?_, ?_, ?_⟩
  · rw [m_X6_entry]; simp only [cs_lx]
    rw [num_eq hI hl, hag, if_neg (by decide), if_pos trivial]
    exact hB.1.key hm.1 hm.2
  · rw [m_X6_entry]; simp only [cs_lx]
    rw [num_eq hI hl, hag, if_pos trivial]
  · rw [m_X6_entry]; simp only [cs_lx]
    rw [num_eq hI hl, hag, if_neg (by decide), if_neg (by decide)]
    exact hB.1.val hm.1 hm.2
theorem may_eq (hI : Iv S N K V ord L sn H W sf way fan pc) {l r a : Nat} {x : Run} (hl : l < 4) (hr : (L l)[r]? = some x) (ha : a ∈ x.1) : m_X6_mayHave S (nI l) (nI r) (nI (K a)) = 1 := by
  rw [m_X6_mayHave]; simp only [cs_lx]
  rw [num_eq hI hl]
  obtain ⟨⟨hB, -, -, hsh, -⟩, -⟩ := hI
  have hok := hsh.1 x (RS_mem L hl (List.mem_of_getElem? hr))
  have hps := hB.2.1.passes (run_at hl hr) (nI (K a))
  have e : m_X4_passes S (nI ((pre L l).length + r)) (nI (K a)) = 1 := hps.1.mpr (hok.2 a ha)
  rw [e]
theorem counted_is (k : Nat) (hk : k < 6) : m_X6_counted S (nI k) = (S.1 0).1 k := by
  rw [m_X6_counted]; simp only [cs_lx]
  exact at_nI (by show k < 6; exact hk)
theorem entries_is (hI : Iv S N K V ord L sn H W sf way fan pc) : m_X6_entries S = nI (agz (RS L)).length := by
  rw [m_X6_entries]; simp only [cs_lx]; exact hI.1.1.2.1.ents
theorem hand_is (hI : Iv S N K V ord L sn H W sf way fan pc) : m_X6_hand S = nI H.length ∧ H.length ≤ W.length := by
  obtain ⟨⟨hB, -⟩, ⟨hH3, -⟩, ⟨hHe, -⟩, -⟩ := hI
  refine ⟨?_, by rw [hHe]; exact kn_len2 hB.1.2.2.2.2.1⟩
  rw [m_X6_hand]; simp only [cs_lx]
  rw [len_eq, hH3.1, List.length_map]
theorem log_is (hI : Iv S N K V ord L sn H W sf way fan pc) : m_X6_log S = nI W.length ∧ W.length < 40 := by
  obtain ⟨-, ⟨-, hW4, -, -, hWl⟩, -⟩ := hI
  refine ⟨?_, hWl⟩
  rw [m_X6_log]; simp only [cs_lx]
  rw [len_eq, hW4.1, List.length_map]
theorem uns_is (hI : Iv S N K V ord L sn H W sf way fan pc) : ∃ u, m_X6_unsafe S = nI u ∧ u ≤ W.length := by
  obtain ⟨-, ⟨-, hW4, hsf, hsfl, hWl⟩, -⟩ := hI
  refine ⟨W.length - sf, ?_, by omega⟩
  rw [m_X6_unsafe]; simp only [cs_lx, m_X0_unsafeWrites]
  rw [len_eq, hW4.1, List.length_map, hsf]
  have : nI W.length = nI sf + nI (W.length - sf) := by rw [nI_add, Nat.add_sub_cancel' hsfl]
  rw [this, i32_as]
theorem stones_L (hI : Iv S N K V ord L sn H W sf way fan pc) : ∀ (n i c : Nat), i ≤ (agz (RS L)).length → (agz (RS L)).length - i < n → (m_X6_stones_L4 S n (nI c) (nI i)).1 = nI (c + stn V ((agz (RS L)).drop i)) := by
  have hB := hI.1.1
  have hfit := hB.2.1.fits
  have hin := hB.2.2
  intro n
  induction n with
  | zero => intro i c _ h; exact absurd h (Nat.not_lt_zero _)
  | succ n ih =>
    intro i c hi hn
    rw [m_X6_stones_L4]
    simp only [cs_lx]
    rw [hB.2.1.ents]
    by_cases d : (agz (RS L)).length ≤ i
    · rw [if_pos (by rw [nI_leI (by omega) (by omega)]; exact d), List.drop_of_length_le d]; rfl
    · rw [if_neg (by rw [nI_leI (by omega) (by omega)]; exact d)]
      have hg : (agz (RS L))[i]? = some (agz (RS L))[i] := List.getElem?_eq_getElem (by omega)
      have hd : (agz (RS L)).drop i = (agz (RS L))[i] :: (agz (RS L)).drop (i + 1) := List.drop_eq_getElem_cons (by omega)
      have ha := hin (agz (RS L))[i] (List.getElem_mem _)
      generalize (agz (RS L))[i] = a at hg hd ha
      have hat : m_X3_at S 10 (nI i) = nI a := LV_at hB.2.1.1 (by rw [List.length_map]; show _ ≤ 512; omega) (by rw [List.getElem?_map, hg]; rfl)
      rw [hat, hB.1.stone ha.1 ha.2, hd]
      unfold stn at ih ⊢
      rw [List.countP_cons]
      by_cases e : V a = -1
      · rw [if_pos e, if_neg (by decide), nI_1, nI_1, ih (i + 1) (c + 1) (by omega) (by omega), if_pos (decide_eq_true e)]
        exact congrArg nI (by omega)
      · rw [if_neg e, if_pos rfl, nI_1, ih (i + 1) c (by omega) (by omega), if_neg (fun z => e (of_decide_eq_true z))]
        exact congrArg nI (by omega)
theorem stones_is (hI : Iv S N K V ord L sn H W sf way fan pc) : m_X6_stones S = nI (stn V (agz (RS L))) := by
  have hfit := hI.1.1.2.1.fits
  have := stones_L hI cs_N 0 0 (Nat.zero_le _) (by show _ < 4294967296; omega)
  rw [List.drop_zero, Nat.zero_add] at this
  rw [m_X6_stones]; simp only [cs_lx]
  exact this
end
