/-! MATHEMATICS 24: snapshots, crash, what a crash would leave -/
section
variable {S : cs_St} {N : Nat} {K : Nat → Nat} {V : Nat → Int32} {ord : List Nat} {L : Nat → List Run} {sn H W : List Nat} {sf way fan pc wide b : Nat}
theorem op_snap (hG : Gd S N K V ord L [] H W sf way fan pc wide b) (h8 : LV (S.1 8) []) :
    (m_X6_snap S).1 = S.2 8 ∧ Gd (m_X6_snap S).2 N K V ord L [N] H W sf way fan pc wide b ∧ LV ((m_X6_snap S).2.1 8) [S.2 8] ∧ (m_X6_snap S).2.2 8 = S.2 8 + 1 := by
  obtain ⟨hI, hF, hK, d, s, al, ⟨y1, y2, y3, y4, y5, y6⟩, hb⟩ := hG
  have hI0 := hI
  obtain ⟨⟨hB, hs, hc, hsh, hro⟩, ⟨hH3, hW4, hsf, hsfl, hWl⟩, ⟨hHe, hWm, hWp⟩, hn, hsn⟩ := hI
  have h9 := hs.1
  have e : m_X6_snap S = (S.2 8, cs_sS (cs_sR (cs_sR S 8 (rw_app (S.1 8) (S.2 8))) 9 (rw_app (S.1 9) (nI N))) 8 (S.2 8 + 1)) := by
    have a1 : m_X3_append S 8 (S.2 8) = cs_sR S 8 (rw_app (S.1 8) (S.2 8)) := append_eq (by rw [h8.1]; decide)
    have a2 : m_X3_append (cs_sR S 8 (rw_app (S.1 8) (S.2 8))) 9 (nI N) = cs_sR (cs_sR S 8 (rw_app (S.1 8) (S.2 8))) 9 (rw_app (S.1 9) (nI N)) := by
      rw [append_eq (by rw [sR_ne (by decide), h9.1]; decide), sR_ne (by decide)]
    rw [m_X6_snap]
    simp only [cs_lx, m_X5_take]
    rw [hB.1.new, a1, a2]
    rfl
  rw [e]
  have r8 : (cs_sS (cs_sR (cs_sR S 8 (rw_app (S.1 8) (S.2 8))) 9 (rw_app (S.1 9) (nI N))) 8 (S.2 8 + 1)).1 8 = rw_app (S.1 8) (S.2 8) := by
    show (cs_sR (cs_sR S 8 (rw_app (S.1 8) (S.2 8))) 9 (rw_app (S.1 9) (nI N))).1 8 = _
    rw [sR_ne (by decide), sR_self]
  have r9 : (cs_sS (cs_sR (cs_sR S 8 (rw_app (S.1 8) (S.2 8))) 9 (rw_app (S.1 9) (nI N))) 8 (S.2 8 + 1)).1 9 = rw_app (S.1 9) (nI N) := by
    show (cs_sR (cs_sR S 8 (rw_app (S.1 8) (S.2 8))) 9 (rw_app (S.1 9) (nI N))).1 9 = _
    rw [sR_self]
  have rk : ∀ k, k ≠ 8 → k ≠ 9 → (cs_sS (cs_sR (cs_sR S 8 (rw_app (S.1 8) (S.2 8))) 9 (rw_app (S.1 9) (nI N))) 8 (S.2 8 + 1)).1 k = S.1 k := fun k h1 h2 => by
    show (cs_sR (cs_sR S 8 (rw_app (S.1 8) (S.2 8))) 9 (rw_app (S.1 9) (nI N))).1 k = _
    rw [sR_ne h2, sR_ne h1]
  have rs : ∀ i, i ≠ 8 → (cs_sS (cs_sR (cs_sR S 8 (rw_app (S.1 8) (S.2 8))) 9 (rw_app (S.1 9) (nI N))) 8 (S.2 8 + 1)).2 i = S.2 i := fun i h => if_neg h
  have rs8 : (cs_sS (cs_sR (cs_sR S 8 (rw_app (S.1 8) (S.2 8))) 9 (rw_app (S.1 9) (nI N))) 8 (S.2 8 + 1)).2 8 = S.2 8 + 1 := rfl
  show S.2 8 = S.2 8 ∧ _
  have hN := hB.1.N0
  generalize cs_sS (cs_sR (cs_sR S 8 (rw_app (S.1 8) (S.2 8))) 9 (rw_app (S.1 9) (nI N))) 8 (S.2 8 + 1) = S' at *
  refine ⟨rfl, ⟨⟨⟨?_, ⟨by rw [r9]; exact h9.app (nI N), (show 1 ≤ 4 by decide), fun x hx => by have := List.mem_singleton.mp hx; omega⟩, ?_, hsh, hro⟩, ⟨by rw [rk 3 (by decide) (by decide)]; exact hH3, by rw [rk 4 (by decide) (by decide)]; exact hW4, by rw [rs 7 (by decide)]; exact hsf, hsfl, hWl⟩, ⟨?_, hWm, hWp⟩, hn, fun x hx => by have := List.mem_singleton.mp hx; omega⟩, hF, hK, d, s, al, ?_, hb⟩, by rw [r8]; exact h8.app _, rs8⟩
  · unfold Bs Lg Sh at hB ⊢
    rw [rk 5 (by decide) (by decide), rk 6 (by decide) (by decide), rk 7 (by decide) (by decide), rk 10 (by decide) (by decide), rk 11 (by decide) (by decide), rk 12 (by decide) (by decide), rk 13 (by decide) (by decide), rk 14 (by decide) (by decide), rk 15 (by decide) (by decide), rk 16 (by decide) (by decide)]
    exact hB
  · unfold Cf
    rw [rs 1 (by decide), rs 2 (by decide), rs 3 (by decide)]
    exact hc
  · have := kn_snap (K := K) (G := fun a => decide (a ∈ W)) (sn := []) (n := N) ord 0 (Nat.zero_le _) (fun a ha => (hB.1.mem ha).2)
    rw [List.nil_append] at this
    rw [this]; exact hHe
  · unfold Ty
    rw [rk 0 (by decide) (by decide)]
    exact ⟨y1, y2, y3, y4, y5, y6⟩
/-- the hand is made anew for another log, or other snapshots -/
theorem refill (hB : Bs S N K V ord L) (hs : Ss S sn) (hc : Cf S way fan pc) (hsh : Shp K L way pc) (hro : ro K (agz (RS L))) (hW : LV (S.1 4) (W.map nI)) (hsf : S.2 7 = nI sf) (hsfl : sf ≤ W.length) (hWl : W.length < 40) (hWm : ∀ a ∈ W, 1 ≤ a ∧ a ≤ N) (hWp : W.Pairwise (· < ·)) (hn : nw W (agz (RS L))) (hsn : ∀ s ∈ sn, s ≤ N) :
    Iv (m_X6_fillHand S) N K V ord L sn (kn K (fun a => decide (a ∈ W)) sn 0 ord) W sf way fan pc ∧ fr [3, 17, 18] S (m_X6_fillHand S) := by
  obtain ⟨f1, f2⟩ := fill_eq hB.1 hs hW (by omega) hWm
  exact ⟨⟨⟨hB.mv f2 (fun k hk => by simp at hk; omega), hs.mv (f2.2 9 (by decide)), hc.mv f2.1, hsh, hro⟩, ⟨f1, by rw [f2.2 4 (by decide)]; exact hW, by rw [f2.1]; exact hsf, hsfl, hWl⟩, ⟨rfl, hWm, hWp⟩, hn, hsn⟩, f2⟩
theorem place0 {j : Int32} (h8 : LV (S.1 8) [j]) : m_X5_placeOf S j = 0 := by
  have h1 : (S.1 8).1 0 = j := h8.2 0 j rfl
  have h2 : m_X3_at S 8 0 = j := (at_nI (i := 0) (j := 8) (by decide)).trans h1
  have h3 : (S.1 8).2 = 1 := h8.1
  rw [m_X5_placeOf, show cs_N = (cs_N - 1) + 1 from rfl, m_X5_placeOf_L2]
  simp only [cs_lx, len_eq]
  rw [h3, if_neg (by decide), h2, if_pos rfl]
theorem op_getAt {j : Int32} {s0 k : Nat} (hG : Gd S N K V ord L [s0] H W sf way fan pc wide b) (h8 : LV (S.1 8) [j]) (hk : k < 10000) :
    (m_X6_getAt S j (nI k)).1 = rd K V (H ++ agz (RS L)) k s0 ∧ Gd (m_X6_getAt S j (nI k)).2 N K V ord L [s0] H W sf way fan pc wide (b + 512) ∧ fr [0] S (m_X6_getAt S j (nI k)).2 := by
  have hs := hG.1.1.2.1
  have h9 : m_X3_at S 9 0 = nI s0 := (at_nI (i := 0) (j := 9) (by decide)).trans (hs.1.2 0 _ rfl)
  rw [m_X6_getAt]
  simp only [cs_lx, m_X6_placeOfSnapshot, m_X5_age]
  rw [place0 h8, h9]
  exact op_get hG hk (hs.2.2 s0 (List.mem_singleton.mpr rfl))
theorem op_release {j : Int32} {s0 : Nat} (hG : Gd S N K V ord L [s0] H W sf way fan pc wide b) (h8 : LV (S.1 8) [j]) :
    ∃ H', Gd (m_X6_release S j).2 N K V ord L [] H' W sf way fan pc wide b ∧ LV ((m_X6_release S j).2.1 8) [] ∧ (m_X6_release S j).2.2 = S.2 := by
  obtain ⟨hI, hF, hK, d, s, al, ⟨y1, y2, y3, y4, y5, y6⟩, hb⟩ := hG
  obtain ⟨⟨hB, hs, hc, hsh, hro⟩, ⟨hH3, hW4, hsf, hsfl, hWl⟩, ⟨hHe, hWm, hWp⟩, hn, hsn⟩ := hI
  obtain ⟨r8, c1, c2⟩ := cutL (S := S) (j := 8) (a := 0) (b := 1) h8 (show 1 ≤ 4 by decide) (by decide) (Nat.le_refl 1)
  have h9' : LV ((cs_sR S 8 r8).1 9) ([s0].map nI) := by rw [sR_ne (by decide)]; exact hs.1
  obtain ⟨r9, d1, d2⟩ := cutL (S := cs_sR S 8 r8) (j := 9) (a := 0) (b := 1) h9' (show 1 ≤ 4 by decide) (by decide) (Nat.le_refl 1)
  have e : (m_X6_release S j).2 = m_X6_fillHand (cs_sR (cs_sR S 8 r8) 9 r9) := by
    rw [m_X6_release]
    simp only [cs_lx, m_X6_placeOfSnapshot, m_X5_letGo]
    rw [place0 h8, show (0 : Int32) = nI 0 from rfl, nI_1, c1, d1]
  rw [e]
  have f0 : fr [8, 9] S (cs_sR (cs_sR S 8 r8) 9 r9) := (fr.sR.mono (by simp)).tr (fr.sR.mono (by simp))
  have e8 : (cs_sR (cs_sR S 8 r8) 9 r9).1 8 = r8 := by rw [sR_ne (by decide), sR_self]
  have e9 : (cs_sR (cs_sR S 8 r8) 9 r9).1 9 = r9 := sR_self
  generalize cs_sR (cs_sR S 8 r8) 9 r9 = S1 at f0 e8 e9
  obtain ⟨g1, g2⟩ := refill (sn := []) (hB.mv f0 (fun k hk => by simp at hk; omega)) ⟨by rw [e9]; exact d2, by decide, fun s h => by cases h⟩ (hc.mv f0.1) hsh hro (by rw [f0.2 4 (by decide)]; exact hW4) (by rw [f0.1]; exact hsf) hsfl hWl hWm hWp hn (fun s h => by cases h)
  refine ⟨_, ⟨g1, hF, hK, d, s, al, ?_, hb⟩, by rw [g2.2 8 (by decide), e8]; exact c2, by rw [g2.1, f0.1]⟩
  unfold Ty
  rw [g2.2 0 (by decide), f0.2 0 (by decide)]
  exact ⟨y1, y2, y3, y4, y5, y6⟩
theorem op_crash (hG : Gd S N K V ord L sn H W sf way fan pc wide b) {nu : List Int32} (h8 : LV (S.1 8) nu) :
    ∃ H', Gd (m_X6_crash S).2 N K V ord L [] H' (W.take sf) sf way fan pc wide b ∧ LV ((m_X6_crash S).2.1 8) [] ∧ (m_X6_crash S).2.2 = S.2 ∧ ∀ q, rd K V (H' ++ agz (RS L)) q N = rd K V ((W.take sf).reverse ++ agz (RS L)) q N := by
  obtain ⟨hI, hF, hK, d, s, al, ⟨y1, y2, y3, y4, y5, y6⟩, hb⟩ := hG
  obtain ⟨⟨hB, hs, hc, hsh, hro⟩, ⟨hH3, hW4, hsf, hsfl, hWl⟩, ⟨hHe, hWm, hWp⟩, hn, hsn⟩ := hI
  obtain ⟨r4, c1, c2⟩ := cutL (S := S) (j := 4) (a := sf) (b := W.length) hW4 (by rw [List.length_map]; show _ ≤ 40; omega) hsfl (by rw [List.length_map]; exact Nat.le_refl _)
  have e : (m_X6_crash S).2 = m_X6_fillHand (cs_sR (cs_sR (cs_sR S 4 r4) 8 ((S.1 8).1, 0)) 9 ((S.1 9).1, 0)) := by
    rw [m_X6_crash]
    simp only [cs_lx, m_X0_loseUnsafe, m_X5_loseAll, len_eq, empty_eq]
    rw [hsf, hW4.1, List.length_map, c1, sR_ne (show 8 ≠ 4 by decide), sR_ne (show 9 ≠ 8 by decide), sR_ne (show 9 ≠ 4 by decide)]
  rw [e]
  have f0 : fr [4, 8, 9] S (cs_sR (cs_sR (cs_sR S 4 r4) 8 ((S.1 8).1, 0)) 9 ((S.1 9).1, 0)) := (fr.sR.mono (by simp)).tr ((fr.sR.mono (by simp)).tr (fr.sR.mono (by simp)))
  have e4 : (cs_sR (cs_sR (cs_sR S 4 r4) 8 ((S.1 8).1, 0)) 9 ((S.1 9).1, 0)).1 4 = r4 := by rw [sR_ne (by decide), sR_ne (by decide), sR_self]
  have e8 : (cs_sR (cs_sR (cs_sR S 4 r4) 8 ((S.1 8).1, 0)) 9 ((S.1 9).1, 0)).1 8 = ((S.1 8).1, 0) := by rw [sR_ne (by decide), sR_self]
  have e9 : (cs_sR (cs_sR (cs_sR S 4 r4) 8 ((S.1 8).1, 0)) 9 ((S.1 9).1, 0)).1 9 = ((S.1 9).1, 0) := sR_self
  generalize cs_sR (cs_sR (cs_sR S 4 r4) 8 ((S.1 8).1, 0)) 9 ((S.1 9).1, 0) = S1 at f0 e4 e8 e9
  have ht : LV r4 ((W.take sf).map nI) := by
    rw [← List.map_take, List.drop_of_length_le (by rw [List.length_map]; exact Nat.le_refl _), List.append_nil] at c2
    exact c2
  have hWm' : ∀ a ∈ W.take sf, 1 ≤ a ∧ a ≤ N := fun a ha => hWm a (List.mem_of_mem_take ha)
  have hWp' := hWp.sublist (List.take_sublist sf W)
  have hn' : nw (W.take sf) (agz (RS L)) := fun a ha => hn a (List.mem_of_mem_take ha)
  obtain ⟨g1, g2⟩ := refill (sn := []) (W := W.take sf) (hB.mv f0 (fun k hk => by simp at hk; omega)) ⟨by rw [e9]; exact LV.nil _, by decide, fun s h => by cases h⟩ (hc.mv f0.1) hsh hro (by rw [e4]; exact ht) (by rw [f0.1]; exact hsf) (by rw [List.length_take]; omega) (by rw [List.length_take]; omega) hWm' hWp' hn' (fun s h => by cases h)
  refine ⟨_, ⟨g1, hF, hK, d, s, al, ?_, hb⟩, by rw [g2.2 8 (by decide), e8]; exact LV.nil _, by rw [g2.1, f0.1], fun q => hand_rd hB.1.2.2.2.2.1 (fun a ha => (hB.1.mem ha).1) (fun a ha => (hB.1.2.2.2.1 a).mpr (hWm' a ha)) hWp' hro hn' (Or.inr (fun x hx => (hWm' x hx).2)) q⟩
  unfold Ty
  rw [g2.2 0 (by decide), f0.2 0 (by decide)]
  exact ⟨y1, y2, y3, y4, y5, y6⟩
theorem safe_L (hG : Gd S N K V ord L sn H W sf way fan pc wide b) {k : Nat} (hk : k < 10000) : ∀ (n i v : Nat), i ≤ sf → sf - i < n →
    (m_X6_getSafe_L8 S (nI k) n (nI v) (nI i)).1 = nI ((((W.take sf).drop i).reverse.find? (isK K k N)).getD v) := by
  obtain ⟨⟨⟨hB, hs, hc, hsh, hro⟩, ⟨hH3, hW4, hsf, hsfl, hWl⟩, ⟨hHe, hWm, hWp⟩, hn, hsn⟩, -⟩ := hG
  intro n
  induction n with
  | zero => intro i v _ h; exact absurd h (Nat.not_lt_zero _)
  | succ n ih =>
    intro i v hi hlt
    rw [m_X6_getSafe_L8, hsf]
    by_cases c : sf ≤ i
    · rw [if_pos (by rw [nI_leI (by omega) (by omega)]; exact c), List.drop_of_length_le (by rw [List.length_take]; omega)]
      rfl
    · rw [if_neg (by rw [nI_leI (by omega) (by omega)]; exact c)]
      simp only [cs_lx]
      have hlen : i < (W.take sf).length := by rw [List.length_take]; omega
      have hWi : W[i]? = some W[i] := List.getElem?_eq_getElem (by omega)
      have hd : (W.take sf).drop i = W[i] :: (W.take sf).drop (i + 1) := by
        rw [List.drop_eq_getElem_cons hlen, List.getElem_take]
      have hm := hWm W[i] (List.getElem_mem _)
      generalize W[i] = a at hWi hd hm
      have hat : m_X3_at S 4 (nI i) = nI a := LV_at hW4 (by rw [List.length_map]; show _ ≤ 40; omega) (by rw [List.getElem?_map, hWi]; rfl)
      have hK9 := (hB.1.2.2.2.2.2 a hm.1 hm.2).2.1
      rw [hat, hB.1.key hm.1 hm.2, nI_1, hd, List.reverse_cons, List.find?_append]
      by_cases c2 : K a = k
      · rw [if_pos (by rw [c2]), ih (i + 1) a (by omega) (by omega)]
        have : [a].find? (isK K k N) = some a := by rw [List.find?_cons, isK_t.mpr ⟨c2, hm.2⟩]
        rw [this]
        cases ((W.take sf).drop (i + 1)).reverse.find? (isK K k N) with
        | none => rfl
        | some x => rfl
      · rw [if_neg (fun e => c2 ((nI_eq (a := K a) (b := k) (by omega) (by omega)).mp e)), ih (i + 1) v (by omega) (by omega)]
        have : [a].find? (isK K k N) = none := find_none (fun x hx => by
          rw [List.mem_singleton.mp hx]
          unfold isK
          rw [decide_eq_false c2, Bool.false_and])
        rw [this, Option.or_none]
theorem op_safe (hG : Gd S N K V ord L sn H W sf way fan pc wide b) {k : Nat} (hk : k < 10000) :
    (m_X6_getSafe S (nI k)).1 = rd K V ((W.take sf).reverse ++ agz (RS L)) k N ∧ fr [1] S (m_X6_getSafe S (nI k)).2 := by
  have hl := safe_L hG hk cs_N 0 0 (Nat.zero_le _) (by have := hG.1.2.1.2.2.2.1; have := hG.1.2.1.2.2.2.2; show _ < 4294967296; omega)
  obtain ⟨⟨⟨hB, hs, hc, hsh, hro⟩, ⟨hH3, hW4, hsf, hsfl, hWl⟩, ⟨hHe, hWm, hWp⟩, hn, hsn⟩, -⟩ := hG
  rw [List.drop_zero] at hl
  have hN := hB.1.N0
  have hWm' : ∀ a ∈ (W.take sf).reverse, 1 ≤ a ∧ a ≤ N := fun a ha => hWm a (List.mem_of_mem_take (List.mem_reverse.mp ha))
  have hall : ∀ a ∈ (W.take sf).reverse ++ agz (RS L), 1 ≤ a ∧ a ≤ N := fun a ha => (List.mem_append.mp ha).elim (hWm' a) (hB.2.2 a)
  rw [m_X6_getSafe]
  simp only [cs_lx]
  have hl' : (m_X6_getSafe_L8 S (nI k) cs_N 0 0).1 = nI ((((W.take sf).reverse).find? (isK K k N)).getD 0) := hl
  rw [hl']
  have hfa := List.find?_append (xs := (W.take sf).reverse) (ys := agz (RS L)) (p := isK K k N)
  cases hf : (W.take sf).reverse.find? (isK K k N) with
  | none =>
    rw [hf] at hfa
    rw [if_pos (by rfl), hB.1.new]
    obtain ⟨l1, l2, -⟩ := hB.inRuns hsh.1 (j := 1) (by decide) hk hN
    refine ⟨?_, l2⟩
    rw [l1]
    have := (hB.1.mv l2 (by decide) (by decide) (by decide)).valueOf hall k N
    rw [hfa, Option.none_or] at this
    exact this
  | some a =>
    rw [hf] at hfa
    have ha := hWm' a (List.mem_of_find?_eq_some hf)
    rw [if_neg (by rw [Option.getD_some, nI_eq0 (by omega)]; omega)]
    refine ⟨?_, fr.rf⟩
    have := hB.1.valueOf hall k N
    rw [hfa] at this
    exact this
end
