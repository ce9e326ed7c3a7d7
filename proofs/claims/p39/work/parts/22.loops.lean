/-! MATHEMATICS 3: gathering, what is there, stones, finding -/
def fr (P : List Nat) (S S' : cs_St) : Prop := S'.2 = S.2 ∧ ∀ k, k ∉ P → S'.1 k = S.1 k
theorem fr.rf {P : List Nat} {S : cs_St} : fr P S S := ⟨rfl, fun _ _ => rfl⟩
theorem fr.tr {P : List Nat} {S S1 S2 : cs_St} (h : fr P S S1) (h2 : fr P S1 S2) : fr P S S2 := ⟨h2.1.trans h.1, fun k hk => (h2.2 k hk).trans (h.2 k hk)⟩
theorem fr.mono {P P' : List Nat} {S S1 : cs_St} (h : fr P S S1) (hP : ∀ k ∈ P, k ∈ P') : fr P' S S1 := ⟨h.1, fun k hk => h.2 k (fun z => hk (hP k z))⟩
theorem fr.sR {S : cs_St} {j : Nat} {r : cs_R} : fr [j] S (cs_sR S j r) := ⟨rfl, fun k hk => sR_ne (fun z => hk (by simp [z]))⟩
theorem fr.at {P : List Nat} {S S1 : cs_St} (h : fr P S S1) (k : Nat) (hk : k ∉ P) : S1.1 k = S.1 k := h.2 k hk
theorem Lg.mv {S S' : cs_St} {N : Nat} {K : Nat → Nat} {V : Nat → Int32} {ord : List Nat} {P : List Nat} (h : Lg S N K V ord) (hf : fr P S S') (h5 : 5 ∉ P) (h6 : 6 ∉ P) (h7 : 7 ∉ P) : Lg S' N K V ord := h.of (hf.2 5 h5) (hf.2 6 h6) (hf.2 7 h7)
theorem sR_eta {S : cs_St} {j : Nat} : cs_sR S j (S.1 j) = S := by
  refine Prod.ext (funext fun k => ?_) rfl
  show (if k = j then S.1 j else S.1 k) = S.1 k
  by_cases h : k = j
  · rw [if_pos h, h]
  · rw [if_neg h]
theorem wipe_L {j : Nat} : ∀ (n i : Nat) (S : cs_St), i ≤ cs_cap j → cs_cap j - i < n → (∀ k, k < i → (S.1 j).1 k = 0) → ∃ r, (m_X3_wipe_L2 j n (nI i) S).2 = cs_sR S j r ∧ r.2 = (S.1 j).2 ∧ ∀ k, k < cs_cap j → r.1 k = 0 := by
  intro n
  induction n with
  | zero => intro i S _ h; exact absurd h (Nat.not_lt_zero _)
  | succ n ih =>
    intro i S hi hn h0
    have hc := cap_lt j
    rw [m_X3_wipe_L2]
    by_cases hd : cs_cap j ≤ i
    · rw [if_pos (by rw [nI_leI (by omega) (by omega)]; exact hd)]
      exact ⟨S.1 j, sR_eta.symm, rfl, fun k hk => h0 k (by omega)⟩
    · rw [if_neg (by rw [nI_leI (by omega) (by omega)]; exact hd)]
      simp only [cs_let]
      rw [nI_1, nI_clamp (by omega)]
      obtain ⟨r, h1, h2, h3⟩ := ih (i + 1) (cs_sR S j (upd (S.1 j).1 i 0, (S.1 j).2)) (by omega) (by omega) (fun k hk => by
        rw [sR_self]
        show (if k = i then (0 : Int32) else (S.1 j).1 k) = 0
        by_cases e : k = i
        · rw [if_pos e]
        · rw [if_neg e]; exact h0 k (by omega))
      exact ⟨r, by rw [h1, sR_sR], by rw [h2, sR_self], h3⟩
theorem begin_eq (S : cs_St) : fr [17, 18] S (m_X2_begin S) ∧ (∀ k, k < 513 → ((m_X2_begin S).1 17).1 k = 0) ∧ LV ((m_X2_begin S).1 18) [] ∧ ((m_X2_begin S).1 17).2 = (S.1 17).2 := by
  obtain ⟨r, h1, h2, h3⟩ := wipe_L (j := 17) cs_N 0 S (Nat.zero_le _) (by decide) (fun k hk => absurd hk (Nat.not_lt_zero _))
  have e : m_X2_begin S = m_X3_empty (cs_sR S 17 r) 18 := by
    show m_X3_empty (m_X3_wipe S 17) 18 = _
    rw [show m_X3_wipe S 17 = cs_sR S 17 r from h1]
  rw [e, empty_eq]
  refine ⟨?_, fun k hk => ?_, ?_, ?_⟩
  · exact (fr.sR.mono (by simp)).tr (fr.sR.mono (by simp))
  · rw [sR_ne (by decide), sR_self]; exact h3 k hk
  · rw [sR_self]; exact LV.nil _
  · rw [sR_ne (by decide), sR_self]; exact h2
theorem gather_L {j to_ : Nat} {l : List Nat} (hj : j ≠ 17) (hc : l.length ≤ cs_cap j) (ht : to_ ≤ l.length) (hb : ∀ a ∈ l, a < 513) (u2 : Int32) : ∀ (n i : Nat) (S : cs_St), LV (S.1 j) (l.map nI) → i ≤ to_ → to_ - i < n → ∃ r, (m_X2_gather_L3 j u2 (nI to_) n (nI i) S).2 = cs_sR S 17 r ∧ r.2 = (S.1 17).2 ∧ ∀ a, r.1 a = if a ∈ (l.take to_).drop i then 1 else (S.1 17).1 a := by
  intro n
  induction n with
  | zero => intro i S _ _ h; exact absurd h (Nat.not_lt_zero _)
  | succ n ih =>
    intro i S hl hi hn
    have hcl := cap_lt j
    rw [m_X2_gather_L3]
    by_cases hd : to_ ≤ i
    · rw [if_pos (by rw [nI_leI (by omega) (by omega)]; exact hd)]
      refine ⟨S.1 17, sR_eta.symm, rfl, fun a => ?_⟩
      rw [List.drop_eq_nil_of_le (by simp; omega), if_neg List.not_mem_nil]
    · rw [if_neg (by rw [nI_leI (by omega) (by omega)]; exact hd)]
      have hlt : i < l.length := by omega
      simp only [cs_let]
      have hx : m_X3_at S j (nI i) = nI l[i] := LV_at hl (by rw [List.length_map]; exact hc) (by rw [List.getElem?_map, List.getElem?_eq_getElem hlt]; rfl)
      have hbi := hb _ (List.getElem_mem hlt)
      rw [hx, write_eq (show l[i] < cs_cap 17 from hbi), nI_1]
      obtain ⟨r, h1, h2, h3⟩ := ih (i + 1) (cs_sR S 17 (rw_set (S.1 17) l[i] 1)) (by rw [sR_ne hj]; exact hl) (by omega) (by omega)
      refine ⟨r, by rw [h1, sR_sR], by rw [h2, sR_self]; rfl, fun a => ?_⟩
      rw [h3 a, sR_self, show (l.take to_).drop i = l[i] :: (l.take to_).drop (i + 1) by
        rw [List.drop_eq_getElem_cons (by simp; omega)]; congr 1; exact List.getElem_take]
      show (if a ∈ List.drop (i + 1) (List.take to_ l) then (1 : Int32) else if a = l[i] then 1 else (S.1 17).1 a) = _
      by_cases e : a = l[i]
      · rw [if_pos e, if_pos (show a ∈ l[i] :: _ by rw [e]; exact List.mem_cons_self)]
        split <;> rfl
      · rw [if_neg e]
        by_cases e2 : a ∈ (l.take to_).drop (i + 1)
        · rw [if_pos e2, if_pos (List.mem_cons_of_mem _ e2)]
        · rw [if_neg e2, if_neg (fun z => (List.mem_cons.mp z).elim e e2)]
theorem gather_eq {j a b : Nat} {l : List Nat} (S : cs_St) (hj : j ≠ 17) (hc : l.length ≤ cs_cap j) (hab : a ≤ b) (ht : b ≤ l.length) (hb : ∀ x ∈ l, x < 513) (hl : LV (S.1 j) (l.map nI)) : ∃ r, m_X2_gather S j (nI a) (nI b) = cs_sR S 17 r ∧ ∀ x, r.1 x = if x ∈ (l.take b).drop a then 1 else (S.1 17).1 x := by
  have hcl := cap_lt j
  obtain ⟨r, h1, -, h3⟩ := gather_L hj hc ht hb (nI a) cs_N a S hl hab (by show _ < 4294967296; omega)
  exact ⟨r, h1, h3⟩
theorem copy_L {j j1 : Nat} {l : List Int32} (hj : j ≠ j1) (hc : l.length ≤ cs_cap j) (hc1 : l.length ≤ cs_cap j1) : ∀ (n i : Nat) (S : cs_St), LV (S.1 j1) l → LV (S.1 j) (l.take i) → i ≤ l.length → l.length - i < n → ∃ r, (m_X3_copy_L7 j j1 n (nI i) S).2 = cs_sR S j r ∧ LV r l := by
  intro n
  induction n with
  | zero => intro i S _ _ _ h; exact absurd h (Nat.not_lt_zero _)
  | succ n ih =>
    intro i S h1 hl hi hn
    have hcl := cap_lt j
    rw [m_X3_copy_L7]
    simp only [cs_let, len_eq, h1.1]
    by_cases hd : l.length ≤ i
    · rw [if_pos (by rw [nI_leI (by omega) (by omega)]; exact hd)]
      refine ⟨S.1 j, sR_eta.symm, ?_⟩
      rw [List.take_of_length_le hd] at hl
      exact hl
    · have hlt : i < l.length := by omega
      rw [if_neg (by rw [nI_leI (by omega) (by omega)]; exact hd), LV_at h1 hc1 (List.getElem?_eq_getElem hlt)]
      have hu : (S.1 j).2 = i := by rw [hl.1, List.length_take]; omega
      rw [append_eq (by omega), nI_1]
      obtain ⟨r, a1, a2⟩ := ih (i + 1) (cs_sR S j (rw_app (S.1 j) l[i])) (by rw [sR_ne (fun z => hj z.symm)]; exact h1) (by
        rw [sR_self, List.take_add_one, List.getElem?_eq_getElem hlt]; exact hl.app _) (by omega) (by omega)
      exact ⟨r, by rw [a1, sR_sR], a2⟩
theorem copy_eq {j j1 : Nat} {l : List Int32} (S : cs_St) (hj : j ≠ j1) (hc : l.length ≤ cs_cap j) (hc1 : l.length ≤ cs_cap j1) (h1 : LV (S.1 j1) l) : ∃ r, m_X3_copy S j j1 = cs_sR S j r ∧ LV r l := by
  have hcl := cap_lt j
  obtain ⟨r, a1, a2⟩ := copy_L hj hc hc1 cs_N 0 (cs_sR S j ((S.1 j).1, 0)) (by rw [sR_ne (fun z => hj z.symm)]; exact h1) (by rw [sR_self]; exact LV.nil _) (Nat.zero_le _) (by show _ < 4294967296; omega)
  refine ⟨r, ?_, a2⟩
  rw [sR_sR] at a1
  exact a1
theorem keepNeeded_eq {S : cs_St} {N : Nat} {K : Nat → Nat} {V : Nat → Int32} {ord sn : List Nat} {G : Nat → Bool} (hL : Lg S N K V ord) (h4 : sn.length ≤ 4) (hb : ∀ s ∈ sn, s < 512) (hs : LV (S.1 9) (sn.map nI)) (hG : ∀ a, 1 ≤ a → a ≤ N → ((S.1 17).1 a = 1 ↔ G a = true)) (hl : LV (S.1 18) []) : ∃ r, m_X2_keepNeeded S = cs_sR S 18 r ∧ LV r ((kn K G sn 0 ord).map nI) := by
  have hN := hL.N512
  have ho := hL.2.2.1
  obtain ⟨r, h1, h2⟩ := keepNeeded_L (V := V) h4 hb cs_N 0 0 S [] hL hs hG hl (Nat.zero_le _) (Nat.zero_le _) (by show _ < 4294967296; omega) (by simp; omega)
  exact ⟨r, h1, h2⟩
/-- what is there for a limit; c: one more than the last key, 0 without one -/
def kt (K : Nat → Nat) (V : Nat → Int32) (G : Nat → Bool) (lim : Nat) : Nat → List Nat → List Nat
  | _, [] => []
  | c, a :: t => if G a = true ∧ a ≤ lim ∧ c ≠ K a + 1 then (if V a = -1 then kt K V G lim (K a + 1) t else a :: kt K V G lim (K a + 1) t) else kt K V G lim c t
def lk (c : Nat) : Int32 := nI c - 1
theorem lk_eq {k c : Nat} (hk : k < 10000) (hc : c ≤ 10000) : nI k = lk c ↔ c = k + 1 := by
  cases c with
  | zero =>
    constructor
    · intro h
      exfalso
      have h1 : (nI k).toInt = (lk 0).toInt := by rw [h]
      rw [nI_toInt (by omega)] at h1
      have h2 : (lk 0).toInt = -1 := by decide
      omega
    · intro h; omega
  | succ c =>
    rw [lk, nI_pred, nI_eq (by omega) (by omega)]
    omega
theorem keepThere_L {N : Nat} {K : Nat → Nat} {V : Nat → Int32} {ord : List Nat} {G : Nat → Bool} {lim : Nat} (hlim : lim < 512) :
    ∀ (n i c : Nat) (S : cs_St) (lf : List Nat), Lg S N K V ord → (∀ a, 1 ≤ a → a ≤ N → ((S.1 17).1 a = 1 ↔ G a = true)) → LV (S.1 18) (lf.map nI) → c ≤ 10000 → i ≤ ord.length → ord.length - i < n → lf.length + (ord.length - i) < 512 →
      ∃ r, (m_X2_keepThere_L4 (nI lim) n (lk c) (nI i) S).2.2 = cs_sR S 18 r ∧ LV r ((lf ++ kt K V G lim c (ord.drop i)).map nI) := by
  intro n
  induction n with
  | zero => intro i c S lf _ _ _ _ _ h; exact absurd h (Nat.not_lt_zero _)
  | succ n ih =>
    intro i c S lf hL hG hl hc0 hi hn hc
    have hN := hL.N512
    have ho := hL.2.2.1
    have h18 : (S.1 18).2 = lf.length := by rw [hl.1, List.length_map]
    rw [m_X2_keepThere_L4]
    simp only [cs_let, len_eq, hL.2.1.1, List.length_map]
    by_cases hd : ord.length ≤ i
    · rw [if_pos (by rw [nI_leI (by omega) (by omega)]; exact hd), List.drop_eq_nil_of_le hd]
      exact ⟨S.1 18, sR_eta.symm, by rw [kt, List.append_nil]; exact hl⟩
    · have hlt : i < ord.length := by omega
      rw [if_neg (by rw [nI_leI (by omega) (by omega)]; exact hd)]
      obtain ⟨hx, ha1, ha2⟩ := hL.at (List.getElem?_eq_getElem hlt)
      rw [hx, List.drop_eq_getElem_cons hlt]
      generalize ord[i] = a at ha1 ha2
      have hKa := (hL.2.2.2.2.2 a ha1 ha2).2.1
      rw [at_nI (show a < 513 by omega), kt, hL.key ha1 ha2, hL.stone ha1 ha2]
      have step : ∀ (c' : Nat), c' ≤ 10000 → ∃ r, (m_X2_keepThere_L4 (nI lim) n (lk c') (nI i + 1) S).2.2 = cs_sR S 18 r ∧ LV r ((lf ++ kt K V G lim c' (ord.drop (i + 1))).map nI) := by
        intro c' hc'
        rw [nI_1]
        exact ih (i + 1) c' S lf hL hG hl hc' (by omega) (by omega) (by omega)
      have elk : nI (K a) = lk (K a + 1) := by rw [lk, nI_pred]
      by_cases hg : G a = true
      · rw [if_pos ((hG a ha1 ha2).mpr hg)]
        by_cases h1 : a ≤ lim
        · rw [if_neg (by rw [nI_ltI (by omega) (by omega)]; omega)]
          by_cases h2 : c = K a + 1
          · rw [if_pos ((lk_eq hKa hc0).mpr h2), if_neg (fun z => z.2.2 h2)]
            exact step c hc0
          · rw [if_neg (fun z => h2 ((lk_eq hKa hc0).mp z)), if_pos (show G a = true ∧ a ≤ lim ∧ c ≠ K a + 1 from ⟨hg, h1, h2⟩)]
            by_cases hs : V a = -1
            · simp only [if_pos hs]
              rw [if_neg (show ¬ (1 : Int32) = 0 by decide), elk]
              exact step (K a + 1) (by omega)
            · simp only [if_neg hs, if_true]
              rw [elk, nI_1, append_eq (by rw [h18]; show lf.length < 512; omega)]
              obtain ⟨r, h1, h2⟩ := ih (i + 1) (K a + 1) (cs_sR S 18 (rw_app (S.1 18) (nI a))) (lf ++ [a]) (hL.of (sR_ne (by decide)) (sR_ne (by decide)) (sR_ne (by decide))) (by rw [sR_ne (by decide)]; exact hG) (by rw [sR_self, List.map_append]; exact hl.app _) (by omega) (by omega) (by omega) (by simp; omega)
              refine ⟨r, by rw [h1, sR_sR], ?_⟩
              rw [List.append_assoc] at h2
              exact h2
        · rw [if_pos (by rw [nI_ltI (by omega) (by omega)]; omega), if_neg (fun z => h1 z.2.1)]
          exact step c hc0
      · rw [if_neg (fun z => hg ((hG a ha1 ha2).mp z)), if_neg (fun z => hg z.1)]
        exact step c hc0
theorem keepThere_eq {S : cs_St} {N : Nat} {K : Nat → Nat} {V : Nat → Int32} {ord : List Nat} {G : Nat → Bool} {lim : Nat} (hlim : lim < 512) (hL : Lg S N K V ord) (hG : ∀ a, 1 ≤ a → a ≤ N → ((S.1 17).1 a = 1 ↔ G a = true)) (hl : LV (S.1 18) []) : ∃ r, m_X2_keepThere S (nI lim) = cs_sR S 18 r ∧ LV r ((kt K V G lim 0 ord).map nI) := by
  have hN := hL.N512
  have ho := hL.2.2.1
  obtain ⟨r, h1, h2⟩ := keepThere_L (V := V) hlim cs_N 0 0 S [] hL hG hl (by decide) (Nat.zero_le _) (by show _ < 4294967296; omega) (by simp; omega)
  exact ⟨r, h1, h2⟩
