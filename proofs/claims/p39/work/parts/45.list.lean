/-! MATHEMATICS 26: what is there, how many keys, their sum, the next one; what a reading costs -/
section
variable {S : cs_St} {N : Nat} {K : Nat → Nat} {V : Nat → Int32} {ord : List Nat} {L : Nat → List Run} {sn H W : List Nat} {sf way fan pc wide b : Nat}
def tha (K : Nat → Nat) (V : Nat → Int32) (ord : List Nat) (C : List Nat) (lim : Nat) : List Nat := kt K V (fun a => decide (a ∈ C)) lim 0 ord
theorem there_eq (hI : Iv S N K V ord L sn H W sf way fan pc) {lim : Nat} (hlim : lim < 512) :
    fr [17, 18] S (m_X6_listThere S (nI lim)) ∧ LV ((m_X6_listThere S (nI lim)).1 18) ((tha K V ord (H ++ agz (RS L)) lim).map nI) := by
  obtain ⟨⟨hB, hs, hc, hsh, hro⟩, ⟨hH3, hW4, hsf, hsfl, hWl⟩, ⟨hHe, hWm, hWp⟩, hn, hsn⟩ := hI
  have hN := hB.1.N0
  have hfit := hB.2.1.fits
  have hHm : ∀ a ∈ H, 1 ≤ a ∧ a ≤ N := by rw [hHe]; exact kn_in hWm
  have hH4 : H.length ≤ 40 := by
    have := kn_len2 (W := W) (sn := sn) hB.1.2.2.2.2.1
    rw [hHe]; omega
  obtain ⟨b1, b2, b3, -⟩ := begin_eq S
  obtain ⟨r, g1, g2⟩ := gather_eq (j := 3) (a := 0) (b := H.length) (l := H) (m_X2_begin S) (by decide) hH4 (Nat.zero_le _) (Nat.le_refl _) (fun x hx => by have := hHm x hx; omega) (by rw [b1.2 3 (by decide)]; exact hH3)
  rw [List.take_length, List.drop_zero] at g2
  have f1 : fr [17] (m_X2_begin S) (cs_sR (m_X2_begin S) 17 r) := fr.sR
  have h17 : (cs_sR (m_X2_begin S) 17 r).1 17 = r := sR_self
  have h18 : (cs_sR (m_X2_begin S) 17 r).1 18 = (m_X2_begin S).1 18 := sR_ne (by decide)
  have e : m_X6_listThere S (nI lim) = m_X2_keepThere (m_X2_gather (cs_sR (m_X2_begin S) 17 r) 10 (nI 0) (nI (agz (RS L)).length)) (nI lim) := by
    rw [m_X6_listThere]
    simp only [cs_lx]
    rw [len_eq, b1.2 3 (by decide), hH3.1, List.length_map, show (0 : Int32) = nI 0 from rfl, g1]
    rw [len_eq, f1.2 10 (by decide), b1.2 10 (by decide), hB.2.1.1.1, List.length_map]
  rw [e]
  generalize cs_sR (m_X2_begin S) 17 r = S2 at f1 h17 h18
  generalize m_X2_begin S = S1 at *
  have f2 : fr [17, 18] S S2 := b1.tr (f1.mono (by simp))
  obtain ⟨r2, k1, k2⟩ := gather_eq (j := 10) (a := 0) (b := (agz (RS L)).length) (l := agz (RS L)) S2 (by decide) (by show _ ≤ 512; omega) (Nat.zero_le _) (Nat.le_refl _) (fun x hx => by have := hB.2.2 x hx; omega) (by rw [f2.2 10 (by decide)]; exact hB.2.1.1)
  rw [List.take_length, List.drop_zero] at k2
  rw [k1]
  have f3 : fr [17] S2 (cs_sR S2 17 r2) := fr.sR
  have h173 : (cs_sR S2 17 r2).1 17 = r2 := sR_self
  have h183 : (cs_sR S2 17 r2).1 18 = S2.1 18 := sR_ne (by decide)
  generalize cs_sR S2 17 r2 = S3 at f3 h173 h183
  have f4 : fr [17, 18] S S3 := f2.tr (f3.mono (by simp))
  obtain ⟨r3, t1, t2⟩ := keepThere_eq (S := S3) (G := fun a => decide (a ∈ H ++ agz (RS L))) hlim (hB.1.mv f4 (by decide) (by decide) (by decide)) (fun a h1 h2 => by
    rw [h173, k2 a, h17, g2 a, b2 a (by omega)]
    by_cases h : a ∈ agz (RS L)
    · rw [if_pos h]; exact ⟨fun _ => decide_eq_true (List.mem_append_right _ h), fun _ => rfl⟩
    · rw [if_neg h]
      by_cases h2 : a ∈ H
      · rw [if_pos h2]; exact ⟨fun _ => decide_eq_true (List.mem_append_left _ h2), fun _ => rfl⟩
      · rw [if_neg h2]; exact ⟨fun z => absurd z (by decide), fun z => absurd (List.mem_append.mp (of_decide_eq_true z)) (fun z => z.elim h2 h)⟩) (by rw [h183, h18]; exact b3)
  rw [t1, sR_self]
  exact ⟨f4.tr ((fr.sR (j := 18) (r := r3)).mono (by simp)), t2⟩
theorem keys_eq (hI : Iv S N K V ord L sn H W sf way fan pc) : ∃ S', m_X6_keys S = (nI (tha K V ord (H ++ agz (RS L)) N).length, S') ∧ fr [17, 18] S S' := by
  have hL := hI.1.1.1
  obtain ⟨a, t⟩ := there_eq hI hL.N0
  refine ⟨m_X6_listThere S (nI N), ?_, a⟩
  rw [m_X6_keys]
  simp only [cs_lx]
  rw [hL.new, len_eq, t.1, List.length_map]
theorem sum_L {l : List Nat} (hL : Lg S N K V ord) (h18 : LV (S.1 18) (l.map nI)) (hl : l.length ≤ 512) (hm : ∀ a ∈ l, 1 ≤ a ∧ a ≤ N) : ∀ (n i : Nat) (s : Int32), i ≤ l.length → l.length - i < n →
    (m_X6_sum_L23 S 0 9999 n s (nI i)).1 = ((l.drop i).map V).foldl (· + ·) s := by
  intro n
  induction n with
  | zero => intro i s _ h; exact absurd h (Nat.not_lt_zero _)
  | succ n ih =>
    intro i s hi hn
    rw [m_X6_sum_L23]
    simp only [cs_lx, len_eq]
    rw [h18.1, List.length_map]
    by_cases c : l.length ≤ i
    · rw [if_pos (by rw [nI_leI (by omega) (by omega)]; exact c), List.drop_of_length_le c]; rfl
    · rw [if_neg (by rw [nI_leI (by omega) (by omega)]; exact c)]
      have hg : l[i]? = some l[i] := List.getElem?_eq_getElem (by omega)
      have hd : l.drop i = l[i] :: l.drop (i + 1) := List.drop_eq_getElem_cons (by omega)
      have ha := hm l[i] (List.getElem_mem _)
      generalize l[i] = a at hg hd ha
      have hat : m_X3_at S 18 (nI i) = nI a := LV_at h18 (by rw [List.length_map]; exact hl) (by rw [List.getElem?_map, hg]; rfl)
      have hK9 := (hL.2.2.2.2.2 a ha.1 ha.2).2.1
      rw [hat, hL.key ha.1 ha.2, hL.val ha.1 ha.2, if_neg (show ¬ nI (K a) < 0 by rw [show (0 : Int32) = nI 0 from rfl, nI_ltI (by omega) (by omega)]; omega), if_neg (show ¬ (9999 : Int32) < nI (K a) by rw [show (9999 : Int32) = nI 9999 from rfl, nI_ltI (by omega) (by omega)]; omega), nI_1, ih (i + 1) _ (by omega) (by omega), hd]
      rfl
theorem tha_sub (C : List Nat) (lim : Nat) : (tha K V ord C lim).Sublist ord := kt_sub K V _ lim ord 0
theorem sum_eq (hI : Iv S N K V ord L sn H W sf way fan pc) : ∃ S', m_X6_sum S 0 9999 = (((tha K V ord (H ++ agz (RS L)) N).map V).foldl (· + ·) 0, S') ∧ fr [17, 18] S S' := by
  have hL := hI.1.1.1
  obtain ⟨a, t⟩ := there_eq hI hL.N0
  have hsub := tha_sub (K := K) (V := V) (ord := ord) (H ++ agz (RS L)) N
  have hlen := hsub.length_le
  have hlo := hL.2.2.1
  have hN := hL.N0
  refine ⟨m_X6_listThere S (nI N), ?_, a⟩
  rw [m_X6_sum]
  simp only [cs_lx]
  rw [hL.new]
  have := sum_L (hL.mv a (by decide) (by decide) (by decide)) t (by omega) (fun x hx => hL.mem (hsub.subset hx)) cs_N 0 0 (Nat.zero_le _) (by show _ < 4294967296; omega)
  rw [List.drop_zero] at this
  rw [← this]
  rfl
def nxt (ks : List Nat) (u : Int32) : Int32 := match ks.find? (fun k => decide (¬ nI k ≤ u)) with
  | none => -1
  | some k => nI k
theorem next_L {l : List Nat} (hL : Lg S N K V ord) (h18 : LV (S.1 18) (l.map nI)) (hl : l.length ≤ 512) (hm : ∀ a ∈ l, 1 ≤ a ∧ a ≤ N) (u : Int32) : ∀ (n i : Nat), i ≤ l.length → l.length - i < n →
    m_X6_next_L36 S u n (nI i) = (nxt ((l.drop i).map K) u, S) := by
  intro n
  induction n with
  | zero => intro i _ h; exact absurd h (Nat.not_lt_zero _)
  | succ n ih =>
    intro i hi hn
    rw [m_X6_next_L36]
    simp only [cs_lx, len_eq]
    rw [h18.1, List.length_map]
    by_cases c : l.length ≤ i
    · rw [if_pos (by rw [nI_leI (by omega) (by omega)]; exact c), List.drop_of_length_le c]; rfl
    · rw [if_neg (by rw [nI_leI (by omega) (by omega)]; exact c)]
      have hg : l[i]? = some l[i] := List.getElem?_eq_getElem (by omega)
      have hd : l.drop i = l[i] :: l.drop (i + 1) := List.drop_eq_getElem_cons (by omega)
      have ha := hm l[i] (List.getElem_mem _)
      generalize l[i] = a at hg hd ha
      have hat : m_X3_at S 18 (nI i) = nI a := LV_at h18 (by rw [List.length_map]; exact hl) (by rw [List.getElem?_map, hg]; rfl)
      rw [hat, hL.key ha.1 ha.2, hd, List.map_cons]
      by_cases c2 : nI (K a) ≤ u
      · rw [if_pos c2, nI_1, ih (i + 1) (by omega) (by omega)]
        unfold nxt
        rw [List.find?_cons, decide_eq_false (fun z => z c2)]
      · rw [if_neg c2]
        unfold nxt
        rw [List.find?_cons, decide_eq_true c2]
theorem next_eq (hI : Iv S N K V ord L sn H W sf way fan pc) (u : Int32) : ∃ S', m_X6_next S u = (nxt ((tha K V ord (H ++ agz (RS L)) N).map K) u, S') ∧ fr [17, 18] S S' := by
  have hL := hI.1.1.1
  obtain ⟨a, t⟩ := there_eq hI hL.N0
  have hsub := tha_sub (K := K) (V := V) (ord := ord) (H ++ agz (RS L)) N
  have hlen := hsub.length_le
  have hlo := hL.2.2.1
  have hN := hL.N0
  refine ⟨m_X6_listThere S (nI N), ?_, a⟩
  rw [m_X6_next]
  simp only [cs_lx]
  rw [hL.new]
  have := next_L (hL.mv a (by decide) (by decide) (by decide)) t (by omega) (fun x hx => hL.mem (hsub.subset hx)) u cs_N 0 (Nat.zero_le _) (by show _ < 4294967296; omega)
  rw [List.drop_zero] at this
  exact this
theorem cost_eq (hI : Iv S N K V ord L sn H W sf way fan pc) {k : Nat} (hk : k < 10000) : ∃ S' c, m_X6_cost S (nI k) = (nI c, S') ∧ c ≤ (RS L).length ∧ fr [1] S S' := by
  obtain ⟨⟨hB, hs, hc, hsh, hro⟩, ⟨hH3, hW4, hsf, hsfl, hWl⟩, ⟨hHe, hWm, hWp⟩, hn, hsn⟩ := hI
  have hN := hB.1.N0
  have hHm : ∀ a ∈ H, 1 ≤ a ∧ a ≤ N := by rw [hHe]; exact kn_in hWm
  have hH4 : H.length ≤ 40 := by
    have := kn_len2 (W := W) (sn := sn) hB.1.2.2.2.2.1
    rw [hHe]; omega
  obtain ⟨r, w1, -, w3⟩ := wipe_L (j := 1) cs_N 0 S (Nat.zero_le _) (by decide) (fun k h => absurd h (Nat.not_lt_zero _))
  have we : m_X3_wipe S 1 = cs_sR S 1 r := by
    rw [m_X3_wipe]
    simp only [cs_lx]
    exact w1
  have f1 : fr [1] S (cs_sR S 1 r) := fr.sR
  have h1 : (cs_sR S 1 r).1 1 = r := sR_self
  rw [m_X6_cost]
  simp only [cs_lx]
  rw [we]
  generalize cs_sR S 1 r = S1 at f1 h1
  have hB1 : Bs S1 N K V ord L := hB.mv f1 (fun k hk => by have := List.mem_singleton.mp hk; omega)
  rw [hB1.1.new]
  obtain ⟨-, l2, s', al', q1, q2, c1, c2, -⟩ := hB1.lookUp hsh.1 (by rw [f1.2 3 (by decide)]; exact hH3) hHm hH4 (j := 1) (by decide) hk hN
  generalize m_X6_lookUp S1 (nI k) (nI N) 1 = T at *
  refine ⟨T.2, s', ?_, q1, f1.tr l2⟩
  have : m_X3_at T.2 1 1 = nI s' := by
    refine (at_nI (i := 1) (j := 1) (by decide)).trans ?_
    rw [c2, h1, w3 1 (by decide), show (0 : Int32) = nI 0 from rfl, nI_add, Nat.zero_add]
  rw [this]
end
