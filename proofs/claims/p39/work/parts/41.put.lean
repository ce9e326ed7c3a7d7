/-! MATHEMATICS 22: a write, whole -/
theorem Bs.rows {S S' : cs_St} {N : Nat} {K : Nat → Nat} {V : Nat → Int32} {ord : List Nat} {L : Nat → List Run} (h : Bs S N K V ord L) (e : S'.1 = S.1) : Bs S' N K V ord L := by
  unfold Bs Lg Sh at h ⊢
  rw [e]; exact h
section
variable {S : cs_St} {N : Nat} {K : Nat → Nat} {V : Nat → Int32} {ord : List Nat} {L : Nat → List Run} {sn H W : List Nat} {sf way fan pc : Nat}
theorem write_eq2 (hI : Iv S N K V ord L sn H W sf way fan pc) {k : Nat} (hk : k < 10000) (hN1 : N + 1 < 512) (v : Int32) {d : Nat} (hd : (S.1 0).1 5 = nI d) (hdl : (agz (RS L)).length ≤ d) (h3 : (S.1 0).1 3 = nI N) :
    ∃ S' ord' L' H' W' sf', m_X6_write S (nI k) v = (nI (N + 1), S') ∧ Iv S' (N + 1) (kup K (N + 1) k) (vup V (N + 1) v) ord' L' sn H' W' sf' way fan pc ∧ (∀ lim ∈ sn, ∀ q, rd (kup K (N + 1) k) (vup V (N + 1) v) (H' ++ agz (RS L')) q lim = rd K V (H ++ agz (RS L)) q lim) ∧
      (∀ i, i ≠ 7 → S'.2 i = S.2 i) ∧ (∀ k, k ∉ [0, 3, 4, 5, 6, 7, 10, 11, 12, 13, 14, 15, 16, 17, 18] → S'.1 k = S.1 k) ∧ (∀ k, k < 3 → (S'.1 0).1 k = (S.1 0).1 k) ∧ (S'.1 0).1 3 = nI (N + 1) ∧ ∃ d', (S'.1 0).1 5 = nI d' ∧ d' ≤ d + 512 ∧ (agz (RS L')).length ≤ d' := by
  obtain ⟨⟨hB, hs, hc, hsh, hro⟩, ⟨hH3, hW4, hsf, hsfl, hWl⟩, ⟨hHe, hWm, hWp⟩, hn, hsn⟩ := hI
  have hfull : m_X1_isFull S = 0 := by
    rw [m_X1_isFull]
    simp only [cs_lx, len_eq]
    rw [hB.1.2.1.1, List.length_map, hB.1.2.2.1, if_pos (by rw [show (512 : Int32) = nI 512 from rfl, nI_ltI (by omega) (by omega)]; omega)]
  obtain ⟨S1, ord', n1, n2, n3, n4⟩ := note_eq hB.1 hk hN1 v
  have e6 : w6 S (nI k) v = cs_sR (cs_sR S1 0 (rw_set (S1.1 0) 3 ((S1.1 0).1 3 + 1))) 4 (rw_app (S.1 4) (nI (N + 1))) := by
    have hr : m_X3_raise S1 0 3 1 = cs_sR S1 0 (rw_set (S1.1 0) 3 ((S1.1 0).1 3 + 1)) := raise_eq (i := 3) (j := 0) (x := 1) (by decide)
    have h4 : (cs_sR S1 0 (rw_set (S1.1 0) 3 ((S1.1 0).1 3 + 1))).1 4 = S.1 4 := by rw [sR_ne (by decide), n3.2 4 (by decide)]
    rw [w6, n1, hr, append_eq (by rw [h4, hW4.1, List.length_map]; exact hWl), h4]
  have hrow0 : (w6 S (nI k) v).1 0 = rw_set (S.1 0) 3 ((S.1 0).1 3 + 1) := by rw [e6, sR_ne (by decide), sR_self, n3.2 0 (by decide)]
  have hrow4 : LV ((w6 S (nI k) v).1 4) ((W ++ [N + 1]).map nI) := by
    rw [e6, sR_self, List.map_append]
    exact hW4.app (nI (N + 1))
  have hfr : fr [0, 4, 5, 6, 7] S (w6 S (nI k) v) := by
    rw [e6]
    exact (n3.mono (by simp)).tr ((fr.sR.mono (by simp)).tr (fr.sR.mono (by simp)))
  have hLg : Lg (w6 S (nI k) v) (N + 1) (kup K (N + 1) k) (vup V (N + 1) v) ord' := by
    rw [e6]
    exact n2.mv (P := [0, 4]) ((fr.sR.mono (by simp)).tr (fr.sR.mono (by simp))) (by decide) (by decide) (by decide)
  have hSh : Sh (w6 S (nI k) v) L := hB.2.1.mv hfr (fun k hk => by simp at hk; omega)
  have hK : ∀ a ∈ agz (RS L), kup K (N + 1) k a = K a := fun a ha => kup_old (by have := hB.2.2 a ha; omega)
  have hord' := hLg.2.2.2.2.1
  have hWm2 : ∀ a ∈ W ++ [N + 1], 1 ≤ a ∧ a ≤ N + 1 := fun a ha => by
    rcases List.mem_append.mp ha with h | h
    · have := hWm a h; omega
    · have := List.mem_singleton.mp h; omega
  have hWp2 : (W ++ [N + 1]).Pairwise (· < ·) := List.pairwise_append.mpr ⟨hWp, List.pairwise_singleton _ _, fun a ha b hb => by
    have h1 := hWm a ha
    have h2 := List.mem_singleton.mp hb
    omega⟩
  have hn2 : nw (W ++ [N + 1]) (agz (RS L)) := fun a ha b hb => by
    rcases List.mem_append.mp ha with h | h
    · exact hn a h b hb
    · have h1 := List.mem_singleton.mp h
      have h2 := hB.2.2 b hb
      omega
  have hsh2 := Shp_congr hK hsh
  have hro2 := ro_congr hK hro
  have hd2 : ((w6 S (nI k) v).1 0).1 5 = nI d := by rw [hrow0]; exact hd
  have gen : ∀ (S4 : cs_St) (sf4 : Nat), S4.1 = (w6 S (nI k) v).1 → (∀ i, i ≠ 7 → S4.2 i = (w6 S (nI k) v).2 i) → S4.2 7 = nI sf4 → sf4 ≤ (W ++ [N + 1]).length → ∃ S' L' H' W' sf', tl S4 = S' ∧ Iv S' (N + 1) (kup K (N + 1) k) (vup V (N + 1) v) ord' L' sn H' W' sf' way fan pc ∧ (∀ lim ∈ sn, ∀ q, rd (kup K (N + 1) k) (vup V (N + 1) v) (H' ++ agz (RS L')) q lim = rd K V (H ++ agz (RS L)) q lim) ∧
      (∀ i, i ≠ 7 → S'.2 i = S.2 i) ∧ (∀ k, k ∉ [0, 3, 4, 5, 6, 7, 10, 11, 12, 13, 14, 15, 16, 17, 18] → S'.1 k = S.1 k) ∧ (∀ k, k < 3 → (S'.1 0).1 k = (S.1 0).1 k) ∧ (S'.1 0).1 3 = nI (N + 1) ∧ ∃ d', (S'.1 0).1 5 = nI d' ∧ d' ≤ d + 512 ∧ (agz (RS L')).length ≤ d' := by
    intro S4 sf4 r1 r2 r3 r4
    have hc4 : Cf S4 way fan pc := by
      unfold Cf
      rw [r2 1 (by decide), r2 2 (by decide), r2 3 (by decide), hfr.1]
      exact hc
    have hB4 : Bs S4 (N + 1) (kup K (N + 1) k) (vup V (N + 1) v) ord' L := Bs.rows ⟨hLg, hSh, fun a ha => by have := hB.2.2 a ha; omega⟩ r1
    obtain ⟨L', H', W', sf', t1, t2, t3, t4, t5, d', t6, t7, t8⟩ := tail_eq (sn := sn) (W := W ++ [N + 1]) (d := d) hB4 (hs.mv (by rw [r1, hfr.2 9 (by decide)])) hc4 hsh2 hro2 (by rw [r1]; exact hrow4) r3 r4 (by rw [List.length_append]; show _ + 1 ≤ 40; omega) hWm2 hWp2 hn2 (fun s h => by have := hsn s h; omega) (by rw [r1]; exact hd2) hdl
    refine ⟨_, L', H', W', sf', rfl, t1, fun lim hl q => ?_, fun i hi => by rw [t3 i hi, r2 i hi, hfr.1], fun j hj => ?_, fun j hj => ?_, ?_, d', t6, t7, t8⟩
    · have hlN := hsn lim hl
      rw [t2, hand_rd hord' (fun a ha => (hLg.mem ha).1) (fun a ha => (hLg.2.2.2.1 a).mpr (hWm2 a ha)) hWp2 hro2 hn2 (Or.inl hl) q, List.reverse_append, List.reverse_singleton, List.singleton_append, List.cons_append, rd_skip (by omega), hHe, hand_rd hB.1.2.2.2.2.1 (fun a ha => (hB.1.mem ha).1) (fun a ha => (hB.1.2.2.2.1 a).mpr (hWm a ha)) hWp hro hn (Or.inl hl) q]
      refine rd_congr (fun a ha => ?_) q lim
      have ha2 : a < N + 1 := by
        rcases List.mem_append.mp ha with h | h
        · have := hWm a (List.mem_reverse.mp h); omega
        · have := hB.2.2 a h; omega
      exact ⟨kup_old ha2, vup_old ha2⟩
    · rw [t4 j (fun z => hj (by simp at z ⊢; omega)), r1, hfr.2 j (fun z => hj (by simp at z ⊢; omega))]
    · rw [t5 j (by omega), r1, hrow0]
      exact if_neg (by omega)
    · rw [t5 3 (by decide), r1, hrow0]
      show (S.1 0).1 3 + 1 = nI (N + 1)
      rw [h3, nI_1]
  rcases write_s S (nI k) v hfull with h | h
  · obtain ⟨S', L', H', W', sf', g1, g2⟩ := gen (w6 S (nI k) v) sf rfl (fun _ _ => rfl) (by rw [hfr.1]; exact hsf) (by rw [List.length_append]; omega)
    exact ⟨S', ord', L', H', W', sf', by rw [h, g1, n1], g2⟩
  · have em : m_X0_makeSafe (w6 S (nI k) v) = cs_sS (w6 S (nI k) v) 7 (nI (W ++ [N + 1]).length) := by
      rw [m_X0_makeSafe]
      simp only [cs_lx, len_eq]
      rw [hrow4.1, List.length_map]
    obtain ⟨S', L', H', W', sf', g1, g2⟩ := gen (m_X0_makeSafe (w6 S (nI k) v)) (W ++ [N + 1]).length (by rw [em]; rfl) (fun i hi => by rw [em]; exact if_neg hi) (by rw [em]; rfl) (Nat.le_refl _)
    exact ⟨S', ord', L', H', W', sf', by rw [h, g1, n1], g2⟩
/-- settling, for what holds at rest -/
theorem settle_iv (hI : Iv S N K V ord L sn H W sf way fan pc) {d : Nat} (hd : (S.1 0).1 5 = nI d) (hdl : (agz (RS L)).length ≤ d) :
    ∃ L', Iv (m_X6_settle S) N K V ord L' sn H W sf way fan pc ∧ (∀ lv, lv < 4 → ¬ Ful L' way fan pc lv) ∧ (∀ lim, (lim ∈ sn ∨ lim = N) → ∀ q, rd K V (H ++ agz (RS L')) q lim = rd K V (H ++ agz (RS L)) q lim) ∧ fr [0, 2, 10, 11, 12, 13, 14, 15, 16, 17, 18] S (m_X6_settle S) ∧ (∀ k, k < 4 → ((m_X6_settle S).1 0).1 k = (S.1 0).1 k) ∧ ∃ d', ((m_X6_settle S).1 0).1 5 = nI d' ∧ d' ≤ d + 1048576 ∧ (agz (RS L')).length ≤ d' := by
  obtain ⟨⟨hB, hs, hc, hsh, hro⟩, ⟨hH3, hW4, hsf, hsfl, hWl⟩, ⟨hHe, hWm, hWp⟩, hn, hsn⟩ := hI
  have hroH : ro K (H ++ agz (RS L)) := by rw [hHe]; exact ro_H hB.1.2.2.2.2.1 hro hn
  obtain ⟨L', ⟨k1, k2, k3, k4, k5, k6, k7, k8, e, k9, k10⟩, hF⟩ := settle_eq hB hs hc hsh hroH
  generalize m_X6_settle S = S' at *
  have hall : ∀ b ∈ H ++ agz (RS L), b ≤ N := fun b hb => by
    rcases List.mem_append.mp hb with h | h
    · rw [hHe] at h
      exact (kn_in hWm b h).2
    · exact (hB.2.2 b h).2
  refine ⟨L', ⟨⟨k1, hs.mv (k6.2 9 (by decide)), hc.mv k6.1, k2, (ro_app.mp k3).2.1⟩, ⟨by rw [k6.2 3 (by decide)]; exact hH3, by rw [k6.2 4 (by decide)]; exact hW4, by rw [k6.1]; exact hsf, hsfl, hWl⟩, ⟨hHe, hWm, hWp⟩, fun a ha b hb => hn a ha b (k4 b hb), hsn⟩, hF, fun lim hl q => k5 lim (hl.imp id (fun h b hb => by have := hall b hb; omega)) q, k6, k7, d + e, by rw [k9, hd, nI_add], by omega, by omega⟩
end
