/-! MATHEMATICS 20: the hand reads as the log does; laying the hand down; a new write changes no older reading -/
theorem find_congr {l : List Nat} {p q : Nat → Bool} (h : ∀ a ∈ l, p a = q a) : l.find? p = l.find? q := by
  induction l with
  | nil => rfl
  | cons a t ih =>
    rw [List.find?_cons, List.find?_cons, h a (List.mem_cons_self ..), ih (fun b hb => h b (List.mem_cons_of_mem _ hb))]
theorem rd_congr {K K' : Nat → Nat} {V V' : Nat → Int32} {C : List Nat} (h : ∀ a ∈ C, K' a = K a ∧ V' a = V a) (k lim : Nat) : rd K' V' C k lim = rd K V C k lim := by
  unfold rd
  rw [find_congr (p := isK K' k lim) (q := isK K k lim) (fun a ha => by unfold isK; rw [(h a ha).1])]
  cases hf : C.find? (isK K k lim) with
  | none => rfl
  | some a => exact (h a (List.mem_of_find?_eq_some hf)).2
theorem rd_skip {K : Nat → Nat} {V : Nat → Int32} {C : List Nat} {k lim x : Nat} (h : lim < x) : rd K V (x :: C) k lim = rd K V C k lim := by
  unfold rd
  rw [List.find?_cons]
  have : isK K k lim x = false := by
    unfold isK
    rw [decide_eq_false (show ¬ x ≤ lim by omega), Bool.and_false]
  rw [this]
theorem ro_congr {K K' : Nat → Nat} {C : List Nat} (h : ∀ a ∈ C, K' a = K a) (hr : ro K C) : ro K' C :=
  hr.imp_of_mem (fun {a b} ha hb g e => g (by rw [← h a ha, ← h b hb]; exact e))
theorem agz_in {L : Nat → List Run} {r : Run} (hr : r ∈ RS L) {a : Nat} (ha : a ∈ r.1) : a ∈ agz (RS L) := mem_agz.mpr ⟨r, hr, ha⟩
theorem Shp_congr {K K' : Nat → Nat} {L : Nat → List Run} {way pc : Nat} (h : ∀ a ∈ agz (RS L), K' a = K a) (hs : Shp K L way pc) : Shp K' L way pc := by
  refine ⟨fun r hr => ?_, fun hw lv h1 h4 => ?_⟩
  · obtain ⟨a1, a2⟩ := hs.1 r hr
    refine ⟨a1.imp_of_mem (fun {a b} ha hb g => ?_), fun a ha => ?_⟩
    · unfold srt
      rw [h a (agz_in hr ha), h b (agz_in hr hb)]
      exact g
    · rw [h a (agz_in hr ha)]; exact a2 a ha
  · obtain ⟨a1, a2⟩ := hs.2 hw lv h1 h4
    refine ⟨a1.imp_of_mem (fun {r s} hr hs2 g a ha b hb => ?_), fun r hr => ?_⟩
    · rw [h a (agz_in (RS_mem L h4 hr) ha), h b (agz_in (RS_mem L h4 hs2) hb)]
      exact g a ha b hb
    · rcases a2 r hr with g | g
      · exact Or.inl g
      · refine Or.inr (fun a ha b hb => ?_)
        rw [h a (agz_in (RS_mem L h4 hr) ha), h b (agz_in (RS_mem L h4 hr) hb)]
        exact g a ha b hb
def nw (W C : List Nat) : Prop := ∀ a ∈ W, ∀ b ∈ C, b < a
theorem ro_W {K : Nat → Nat} {W C : List Nat} (hW : W.Pairwise (· < ·)) (hC : ro K C) (hn : nw W C) : ro K (W.reverse ++ C) := by
  refine ro_app.mpr ⟨?_, hC, fun x hx y hy _ => hn x (List.mem_reverse.mp hx) y hy⟩
  exact (List.pairwise_reverse.mpr hW).imp (fun {a b} h (_ : K a = K b) => h)
section
variable {K : Nat → Nat} {V : Nat → Int32} {ord sn W C : List Nat}
theorem ro_H (hs : ord.Pairwise (srt K)) (hC : ro K C) (hn : nw W C) : ro K (kn K (fun a => decide (a ∈ W)) sn 0 ord ++ C) := by
  have hk := kn_sub K (fun a => decide (a ∈ W)) sn ord 0
  exact ro_app.mpr ⟨ro_srt (hs.sublist hk.1), hC, fun x hx y hy _ => hn x (of_decide_eq_true (hk.2 x hx)) y hy⟩
theorem hand_rd (hs : ord.Pairwise (srt K)) (h0 : ∀ a ∈ ord, 1 ≤ a) (hWo : ∀ a ∈ W, a ∈ ord) (hW : W.Pairwise (· < ·)) (hC : ro K C) (hn : nw W C) {lim : Nat} (hl : lim ∈ sn ∨ ∀ b ∈ W, b ≤ lim) (k : Nat) : rd K V (kn K (fun a => decide (a ∈ W)) sn 0 ord ++ C) k lim = rd K V (W.reverse ++ C) k lim := by
  have hk := kn_sub K (fun a => decide (a ∈ W)) sn ord 0
  refine rd_keep (ro_W hW hC hn) (ro_H hs hC hn) (fun a ha => ?_) (fun a ha hka hal ht => Or.inl ?_)
  · rcases List.mem_append.mp ha with h | h
    · exact List.mem_append_left _ (List.mem_reverse.mpr (of_decide_eq_true (hk.2 a h)))
    · exact List.mem_append_right _ h
  · rcases List.mem_append.mp ha with h | h
    · have haW := List.mem_reverse.mp h
      refine List.mem_append_left _ (kn_top (lim := lim) (hl.imp id (fun h b hb => h b (of_decide_eq_true hb))) ord 0 hs h0 (fun z => absurd rfl z) a (hWo a haW) (decide_eq_true haW) hal (fun z => absurd rfl z) ?_)
      intro b _ hb e hbl
      exact ht b (List.mem_append_left _ (List.mem_reverse.mpr (of_decide_eq_true hb))) (e.trans hka) hbl
    · exact List.mem_append_right _ h
end
section
variable {S : cs_St} {N : Nat} {K : Nat → Nat} {V : Nat → Int32} {ord : List Nat} {L : Nat → List Run}
theorem fits_app (hin : ∀ a ∈ agz (RS L), 1 ≤ a ∧ a ≤ N) {H : List Nat} (hH : ∀ a ∈ H, 1 ≤ a ∧ a ≤ N) (hro : ro K (H ++ agz (RS L))) : H.length + (agz (RS L)).length ≤ N := by
  have h := List.Nodup.length_le_of_subset (l₂ := (List.range N).map (· + 1)) (ro_nd hro) (fun a ha => by
    have : 1 ≤ a ∧ a ≤ N := (List.mem_append.mp ha).elim (hH a) (hin a)
    exact List.mem_map.mpr ⟨a - 1, List.mem_range.mpr (by omega), by omega⟩)
  rw [List.length_append, List.length_map, List.length_range] at h
  exact h
theorem layHand_eq (hB : Bs S N K V ord L) {H : List Nat} (hH : LV (S.1 3) (H.map nI)) (hHm : ∀ a ∈ H, 1 ≤ a ∧ a ≤ N) (hH4 : H.length ≤ 40) (hfit : H.length + (agz (RS L)).length ≤ N) :
    ∃ L', Bs (m_X6_layHand S) N K V ord L' ∧ agz (RS L') = H ++ agz (RS L) ∧ (∀ r ∈ RS L', r ∈ RS L ∨ (r.1 = H ∧ r.2 = q4 K (S.2 4) (S.2 5) H)) ∧ (∀ lv, lv ≠ 0 → L' lv = L lv) ∧
      LV ((m_X6_layHand S).1 3) [] ∧ LV ((m_X6_layHand S).1 4) [] ∧ (m_X6_layHand S).2 7 = 0 ∧ (∀ i, i ≠ 7 → (m_X6_layHand S).2 i = S.2 i) ∧ (∀ k, k ∉ [0, 3, 4, 10, 11, 12, 13, 14, 15, 16] → (m_X6_layHand S).1 k = S.1 k) ∧ (∀ k, k < 4 → ((m_X6_layHand S).1 0).1 k = (S.1 0).1 k) ∧ ((m_X6_layHand S).1 0).1 5 = (S.1 0).1 5 + nI H.length := by
  have hN := hB.1.N0
  have hl3 : (S.1 3).2 = H.length := by rw [hH.1, List.length_map]
  have hz : (0 : Int32) = nI 0 := rfl
  have hemp : ∀ S : cs_St, m_X0_empty S = cs_sS (cs_sR (cs_sR S 3 ((S.1 3).1, 0)) 4 ((S.1 4).1, 0)) 7 0 := fun S => by
    rw [m_X0_empty]
    simp only [cs_lx, empty_eq]
    rw [sR_ne (show 4 ≠ 3 by decide)]
  have key : ∀ S1 : cs_St, (m_X0_empty S1).1 = (cs_sR (cs_sR S1 3 ((S1.1 3).1, 0)) 4 ((S1.1 4).1, 0)).1 := fun S1 => by rw [hemp]; rfl
  have k3 : ∀ S1 : cs_St, (m_X0_empty S1).1 3 = ((S1.1 3).1, 0) := fun S1 => by rw [key, sR_ne (by decide), sR_self]
  have k4 : ∀ S1 : cs_St, (m_X0_empty S1).1 4 = ((S1.1 4).1, 0) := fun S1 => by rw [key, sR_self]
  have kr : ∀ (S1 : cs_St) (k : Nat), k ≠ 3 → k ≠ 4 → (m_X0_empty S1).1 k = S1.1 k := fun S1 k h3 h4 => by rw [key, sR_ne h4, sR_ne h3]
  have s7 : ∀ S1 : cs_St, (m_X0_empty S1).2 7 = 0 := fun S1 => by rw [hemp]; rfl
  have sr : ∀ (S1 : cs_St) (i : Nat), i ≠ 7 → (m_X0_empty S1).2 i = S1.2 i := fun S1 i h => by rw [hemp]; exact if_neg h
  have lgm : ∀ S1 : cs_St, Lg S1 N K V ord → Lg (m_X0_empty S1) N K V ord := fun S1 h => h.of (kr S1 5 (by decide) (by decide)) (kr S1 6 (by decide) (by decide)) (kr S1 7 (by decide) (by decide))
  have shm : ∀ (S1 : cs_St) (M : Nat → List Run), Sh S1 M → Sh (m_X0_empty S1) M := fun S1 M h => by
    have h2 : Sh (cs_sR (cs_sR S1 3 ((S1.1 3).1, 0)) 4 ((S1.1 4).1, 0)) M := h.mv (P := [3, 4]) ((fr.sR.mono (by simp)).tr (fr.sR.mono (by simp))) (fun k hk => by simp at hk; omega)
    unfold Sh at h2 ⊢
    rw [key]; exact h2
  by_cases c : H.length = 0
  · have hnil : H = [] := List.eq_nil_of_length_eq_zero c
    have e : m_X6_layHand S = m_X0_empty S := by
      rw [m_X6_layHand]
      simp only [cs_lx, len_eq]
      rw [if_pos (show nI (S.1 3).2 ≤ 0 by rw [hl3, c]; decide)]
    rw [e]
    subst hnil
    exact ⟨L, ⟨lgm S hB.1, shm S L hB.2.1, hB.2.2⟩, rfl, fun r h => Or.inl h, fun _ _ => rfl, by rw [k3]; exact LV.nil _, by rw [k4]; exact LV.nil _, s7 S, sr S, fun k hk => kr S k (fun z => hk (by simp [z])) (fun z => hk (by simp [z])), fun k hk => by rw [kr S 0 (by decide) (by decide)], by rw [kr S 0 (by decide) (by decide)]; exact (nI_z _).symm⟩
  · have e : m_X6_layHand S = m_X0_empty (m_X3_raise (m_X4_insert S (nI 0) (nI 0) 3 (nI 0) (nI H.length) (S.2 4) (S.2 5)) 0 (nI 5) (nI H.length)) := by
      rw [m_X6_layHand]
      simp only [cs_lx, len_eq]
      rw [if_neg (show ¬ nI (S.1 3).2 ≤ 0 by rw [hl3, hz, nI_leI (by omega) (by omega)]; omega), hl3]
      rfl
    rw [e]
    obtain ⟨i1, i2⟩ := insert_shelf hB.1 hB.2.1 (lv := 0) (pl := 0) (j3 := 3) (f := 0) (t := H.length) (src := H) (by decide) (Nat.zero_le _) (Or.inl (by decide)) hH4 (by omega) (Nat.le_refl _) hHm hH (by omega) (S.2 4) (S.2 5)
    rw [List.drop_zero, Nat.sub_zero, List.take_length, List.take_zero, List.drop_zero, List.nil_append] at i1
    generalize m_X4_insert S (nI 0) (nI 0) 3 (nI 0) (nI H.length) (S.2 4) (S.2 5) = S1 at i1 i2
    rw [raise_eq (show 5 < cs_cap 0 by decide)]
    have f0 : fr [0] S1 (cs_sR S1 0 (rw_set (S1.1 0) 5 ((S1.1 0).1 5 + nI H.length))) := fr.sR
    have h0 : (cs_sR S1 0 (rw_set (S1.1 0) 5 ((S1.1 0).1 5 + nI H.length))).1 0 = rw_set (S1.1 0) 5 ((S1.1 0).1 5 + nI H.length) := sR_self
    generalize cs_sR S1 0 (rw_set (S1.1 0) 5 ((S1.1 0).1 5 + nI H.length)) = S2 at f0 h0
    have hRS : RS (Lset L 0 ((H, q4 K (S.2 4) (S.2 5) H) :: L 0)) = (H, q4 K (S.2 4) (S.2 5) H) :: RS L := by
      rw [RS4, RS4]; rfl
    have hag : agz (RS (Lset L 0 ((H, q4 K (S.2 4) (S.2 5) H) :: L 0))) = H ++ agz (RS L) := by rw [hRS, agz_cons]
    have f2 : fr [0, 10, 11, 12, 13, 14, 15, 16] S S2 := (i2.mono (by simp)).tr (f0.mono (by simp))
    refine ⟨Lset L 0 ((H, q4 K (S.2 4) (S.2 5) H) :: L 0), ⟨lgm S2 (hB.1.mv f2 (by decide) (by decide) (by decide)), shm S2 _ (i1.mv f0 (fun k hk => by have := List.mem_singleton.mp hk; omega)), fun a ha => ?_⟩, hag, fun r hr => ?_, fun lv h => Lset_ne h, by rw [k3]; exact LV.nil _, by rw [k4]; exact LV.nil _, s7 S2, fun i hi => by rw [sr S2 i hi, f2.1], fun k hk => ?_, fun k hk => ?_, ?_⟩
    · rw [hag] at ha
      exact (List.mem_append.mp ha).elim (hHm a) (hB.2.2 a)
    · rw [hRS] at hr
      rcases List.mem_cons.mp hr with h | h
      · exact Or.inr ⟨by rw [h], by rw [h]⟩
      · exact Or.inl h
    · rw [kr S2 k (fun z => hk (by simp [z])) (fun z => hk (by simp [z])), f2.2 k (fun z => hk (by simp at z ⊢; omega))]
    · rw [kr S2 0 (by decide) (by decide), h0, ← i2.2 0 (by decide)]
      exact if_neg (by omega)
    · rw [kr S2 0 (by decide) (by decide), h0, ← i2.2 0 (by decide)]
      rfl
end
