/-! MATHEMATICS 21: what holds at rest, and a write -/
def Iv (S : cs_St) (N : Nat) (K : Nat → Nat) (V : Nat → Int32) (ord : List Nat) (L : Nat → List Run) (sn H W : List Nat) (sf way fan pc : Nat) : Prop :=
  (Bs S N K V ord L ∧ Ss S sn ∧ Cf S way fan pc ∧ Shp K L way pc ∧ ro K (agz (RS L))) ∧ (LV (S.1 3) (H.map nI) ∧ LV (S.1 4) (W.map nI) ∧ S.2 7 = nI sf ∧ sf ≤ W.length ∧ W.length < 40) ∧ (H = kn K (fun a => decide (a ∈ W)) sn 0 ord ∧ (∀ a ∈ W, 1 ≤ a ∧ a ≤ N) ∧ W.Pairwise (· < ·)) ∧ nw W (agz (RS L)) ∧ ∀ s ∈ sn, s ≤ N
def tl (S : cs_St) : cs_St := cs_let (m_X6_fillHand S) (fun S_8 => cs_let (m_X3_length S_8 3) (fun r_9 => (if (S_8.2 0) ≤ r_9 then m_X6_layHand S_8 else cs_let (m_X3_length S_8 4) (fun r_12 => (if r_12 < 40 then S_8 else m_X6_layHand S_8)))))
def w6 (S : cs_St) (a1 a2 : Int32) : cs_St := m_X3_append (m_X3_raise (m_X1_note S a1 a2).2 0 3 1) 4 (m_X1_note S a1 a2).1
theorem write_s (S : cs_St) (a1 a2 : Int32) (h : m_X1_isFull S = 0) : m_X6_write S a1 a2 = ((m_X1_note S a1 a2).1, tl (w6 S a1 a2)) ∨ m_X6_write S a1 a2 = ((m_X1_note S a1 a2).1, tl (m_X0_makeSafe (w6 S a1 a2))) := by
  have key : ∀ (r : Int32) (S : cs_St), (if (m_X6_fillHand S).2 0 ≤ m_X3_length (m_X6_fillHand S) 3 then (r, m_X6_layHand (m_X6_fillHand S)) else (if m_X3_length (m_X6_fillHand S) 4 < 40 then (r, m_X6_fillHand S) else (r, m_X6_layHand (m_X6_fillHand S)))) = (r, tl S) := fun r S => by
    unfold tl
    simp only [cs_lx]
    by_cases c1 : (m_X6_fillHand S).2 0 ≤ m_X3_length (m_X6_fillHand S) 3
    · rw [if_pos c1, if_pos c1]
    · rw [if_neg c1, if_neg c1]
      by_cases c2 : m_X3_length (m_X6_fillHand S) 4 < 40
      · rw [if_pos c2, if_pos c2]
      · rw [if_neg c2, if_neg c2]
  rw [m_X6_write]
  simp only [cs_lx]
  rw [if_pos h]
  have e : m_X3_append (m_X3_raise (m_X1_note S a1 a2).2 0 3 1) 4 (m_X1_note S a1 a2).1 = w6 S a1 a2 := by rw [w6]
  rw [e]
  by_cases c1 : (w6 S a1 a2).2 6 ≤ 0
  · rw [if_pos c1, key]; exact Or.inl rfl
  · rw [if_neg c1]
    by_cases c2 : (m_X1_note S a1 a2).1 - (m_X1_note S a1 a2).1 / (w6 S a1 a2).2 6 * (w6 S a1 a2).2 6 = 0
    · rw [if_pos c2, key]; exact Or.inr rfl
    · rw [if_neg c2, key]; exact Or.inl rfl
section
variable {S : cs_St} {N : Nat} {K : Nat → Nat} {V : Nat → Int32} {ord : List Nat} {L : Nat → List Run} {sn H W : List Nat} {sf way fan pc : Nat}
theorem kn_nil : kn K (fun a => decide (a ∈ ([] : List Nat))) sn 0 ord = [] := by
  refine List.eq_nil_iff_forall_not_mem.mpr (fun a ha => ?_)
  have := (kn_sub K (fun a => decide (a ∈ ([] : List Nat))) sn ord 0).2 a ha
  exact absurd (of_decide_eq_true this) (by simp)
theorem kn_in (hm : ∀ a ∈ W, 1 ≤ a ∧ a ≤ N) : ∀ a ∈ kn K (fun a => decide (a ∈ W)) sn 0 ord, 1 ≤ a ∧ a ≤ N := fun a ha => hm a (of_decide_eq_true ((kn_sub K _ sn ord 0).2 a ha))
theorem kn_len2 (hs : ord.Pairwise (srt K)) : (kn K (fun a => decide (a ∈ W)) sn 0 ord).length ≤ W.length := by
  have hk := kn_sub K (fun a => decide (a ∈ W)) sn ord 0
  exact List.Nodup.length_le_of_subset (ro_nd (ro_srt (hs.sublist hk.1))) (fun a ha => of_decide_eq_true (hk.2 a ha))
/-- laying the hand down, for what holds at rest -/
theorem lay_iv (hB : Bs S N K V ord L) (hs : Ss S sn) (hc : Cf S way fan pc) (hsh : Shp K L way pc) (hro : ro K (agz (RS L))) (hH : LV (S.1 3) ((kn K (fun a => decide (a ∈ W)) sn 0 ord).map nI)) (hWl : W.length ≤ 40) (hWm : ∀ a ∈ W, 1 ≤ a ∧ a ≤ N) (hn : nw W (agz (RS L))) (hsn : ∀ s ∈ sn, s ≤ N) {d : Nat} (hd : (S.1 0).1 5 = nI d) (hdl : (agz (RS L)).length ≤ d) :
    ∃ L', Iv (m_X6_layHand S) N K V ord L' sn [] [] 0 way fan pc ∧ [] ++ agz (RS L') = kn K (fun a => decide (a ∈ W)) sn 0 ord ++ agz (RS L) ∧ (∀ i, i ≠ 7 → (m_X6_layHand S).2 i = S.2 i) ∧ (∀ k, k ∉ [0, 3, 4, 10, 11, 12, 13, 14, 15, 16] → (m_X6_layHand S).1 k = S.1 k) ∧ (∀ k, k < 4 → ((m_X6_layHand S).1 0).1 k = (S.1 0).1 k) ∧ ∃ d', ((m_X6_layHand S).1 0).1 5 = nI d' ∧ d' ≤ d + 512 ∧ (agz (RS L')).length ≤ d' := by
  have hord := hB.1.2.2.2.2.1
  have hHm := kn_in (K := K) (sn := sn) (ord := ord) hWm
  have hroH := ro_H (sn := sn) hord hro hn
  have hlen := kn_len2 (W := W) (sn := sn) hord
  have hksub := (kn_sub K (fun a => decide (a ∈ W)) sn ord 0).1
  obtain ⟨L', a1, a2, a3, a4, a5, a6, a7, a8, a9, a10, a11⟩ := layHand_eq hB hH hHm (by omega) (fits_app hB.2.2 hHm hroH)
  generalize kn K (fun a => decide (a ∈ W)) sn 0 ord = H at *
  refine ⟨L', ⟨⟨a1, hs.mv (a9 9 (by decide)), ?_, ⟨fun r hr => ?_, fun hw lv h1 h4 => ?_⟩, by rw [a2]; exact hroH⟩, ⟨a5, a6, a7, Nat.le_refl _, by decide⟩, ⟨kn_nil.symm, fun a ha => (by cases ha), List.Pairwise.nil⟩, fun a ha => (by cases ha), hsn⟩, a2, a8, a9, a10, d + H.length, by rw [a11, hd, nI_add], by omega, by rw [a2, List.length_append]; omega⟩
  · unfold Cf
    rw [a8 1 (by decide), a8 2 (by decide), a8 3 (by decide)]
    exact hc
  · rcases a3 r hr with h | ⟨h, h2⟩
    · exact hsh.1 r h
    · refine ⟨by rw [h]; exact hord.sublist hksub, fun a ha => ?_⟩
      rw [h2]
      exact psQ_q4 (by rw [← h]; exact ha)
  · rw [a4 lv (by omega)]
    exact hsh.2 hw lv h1 h4
theorem tail_eq (hB : Bs S N K V ord L) (hs : Ss S sn) (hc : Cf S way fan pc) (hsh : Shp K L way pc) (hro : ro K (agz (RS L))) (hW : LV (S.1 4) (W.map nI)) (hsf : S.2 7 = nI sf) (hsfl : sf ≤ W.length) (hWl : W.length ≤ 40) (hWm : ∀ a ∈ W, 1 ≤ a ∧ a ≤ N) (hWp : W.Pairwise (· < ·)) (hn : nw W (agz (RS L))) (hsn : ∀ s ∈ sn, s ≤ N) {d : Nat} (hd : (S.1 0).1 5 = nI d) (hdl : (agz (RS L)).length ≤ d) :
    ∃ L' H' W' sf', Iv (tl S) N K V ord L' sn H' W' sf' way fan pc ∧ H' ++ agz (RS L') = kn K (fun a => decide (a ∈ W)) sn 0 ord ++ agz (RS L) ∧ (∀ i, i ≠ 7 → (tl S).2 i = S.2 i) ∧ (∀ k, k ∉ [0, 3, 4, 10, 11, 12, 13, 14, 15, 16, 17, 18] → (tl S).1 k = S.1 k) ∧ (∀ k, k < 4 → ((tl S).1 0).1 k = (S.1 0).1 k) ∧ ∃ d', ((tl S).1 0).1 5 = nI d' ∧ d' ≤ d + 512 ∧ (agz (RS L')).length ≤ d' := by
  obtain ⟨f1, f2⟩ := fill_eq hB.1 hs hW hWl hWm
  have hB1 : Bs (m_X6_fillHand S) N K V ord L := hB.mv f2 (fun k hk => by simp at hk; omega)
  have hs1 := hs.mv (f2.2 9 (by decide))
  have hc1 := hc.mv f2.1
  have hd1 : ((m_X6_fillHand S).1 0).1 5 = nI d := by rw [f2.2 0 (by decide)]; exact hd
  have hW1 : LV ((m_X6_fillHand S).1 4) (W.map nI) := by rw [f2.2 4 (by decide)]; exact hW
  have hlay : ∃ L' H' W' sf', Iv (m_X6_layHand (m_X6_fillHand S)) N K V ord L' sn H' W' sf' way fan pc ∧ H' ++ agz (RS L') = kn K (fun a => decide (a ∈ W)) sn 0 ord ++ agz (RS L) ∧ (∀ i, i ≠ 7 → (m_X6_layHand (m_X6_fillHand S)).2 i = S.2 i) ∧ (∀ k, k ∉ [0, 3, 4, 10, 11, 12, 13, 14, 15, 16, 17, 18] → (m_X6_layHand (m_X6_fillHand S)).1 k = S.1 k) ∧ (∀ k, k < 4 → ((m_X6_layHand (m_X6_fillHand S)).1 0).1 k = (S.1 0).1 k) ∧ ∃ d', ((m_X6_layHand (m_X6_fillHand S)).1 0).1 5 = nI d' ∧ d' ≤ d + 512 ∧ (agz (RS L')).length ≤ d' := by
    obtain ⟨L', b1, b2, b3, b4, b5, b6⟩ := lay_iv hB1 hs1 hc1 hsh hro f1 hWl hWm hn hsn hd1 hdl
    refine ⟨L', [], [], 0, b1, b2, fun i hi => by rw [b3 i hi, f2.1], fun k hk => ?_, fun k hk => by rw [b5 k hk, f2.2 0 (by decide)], b6⟩
    rw [b4 k (fun z => hk (by simp at z ⊢; omega)), f2.2 k (fun z => hk (by simp at z ⊢; omega))]
  have hl4 : ((m_X6_fillHand S).1 4).2 = W.length := by rw [hW1.1, List.length_map]
  rw [tl]
  simp only [cs_lx, len_eq]
  by_cases c1 : (m_X6_fillHand S).2 0 ≤ nI ((m_X6_fillHand S).1 3).2
  · rw [if_pos c1]; exact hlay
  · rw [if_neg c1]
    by_cases c2 : nI ((m_X6_fillHand S).1 4).2 < 40
    · rw [if_pos c2]
      rw [hl4, show (40 : Int32) = nI 40 from rfl, nI_ltI (by omega) (by omega)] at c2
      exact ⟨L, _, W, sf, ⟨⟨hB1, hs1, hc1, hsh, hro⟩, ⟨f1, hW1, by rw [f2.1]; exact hsf, hsfl, c2⟩, ⟨rfl, hWm, hWp⟩, hn, hsn⟩, rfl, fun i _ => by rw [f2.1], fun k hk => f2.2 k (fun z => hk (by simp at z ⊢; omega)), fun k _ => by rw [f2.2 0 (by decide)], d, hd1, by omega, hdl⟩
    · rw [if_neg c2]; exact hlay
end
