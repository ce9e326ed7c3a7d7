/-! MATHEMATICS 2: the loops over rows are list functions -/
theorem nI_eq0 {w : Nat} (h : w < 2 ^ 31) : nI w = 0 ↔ w = 0 := by
  rw [show (0 : Int32) = nI 0 from rfl, nI_eq h (by decide)]
/-- what is held of the ledger: N writes, their keys K, the order ord -/
def Lg (S : cs_St) (N : Nat) (K : Nat → Nat) (V : Nat → Int32) (ord : List Nat) : Prop :=
  N < 512 ∧ LV (S.1 7) (ord.map nI) ∧ ord.length = N ∧ (∀ a, a ∈ ord ↔ 1 ≤ a ∧ a ≤ N) ∧ ord.Pairwise (fun a b => K a < K b ∨ (K a = K b ∧ b < a)) ∧ (∀ a, 1 ≤ a → a ≤ N → (S.1 5).1 a = nI (K a) ∧ K a < 10000 ∧ (S.1 6).1 a = V a)
theorem Lg.of {S S' : cs_St} {N : Nat} {K : Nat → Nat} {V : Nat → Int32} {ord : List Nat} (h : Lg S N K V ord) (h5 : S'.1 5 = S.1 5) (h6 : S'.1 6 = S.1 6) (h7 : S'.1 7 = S.1 7) : Lg S' N K V ord := by
  obtain ⟨a, b, c, d, e, f⟩ := h
  exact ⟨a, by rw [h7]; exact b, c, d, e, by rw [h5, h6]; exact f⟩
section
variable {N : Nat} {K : Nat → Nat} {V : Nat → Int32} {ord : List Nat}
theorem Lg.key {S : cs_St} (h : Lg S N K V ord) {a : Nat} (h1 : 1 ≤ a) (h2 : a ≤ N) : m_X1_key S (nI a) = nI (K a) := by
  obtain ⟨hN, -, -, -, -, f⟩ := h
  show m_X3_at S 5 (nI a) = _
  rw [at_nI (show a < 513 by omega)]
  exact (f a h1 h2).1
theorem Lg.val {S : cs_St} (h : Lg S N K V ord) {a : Nat} (h1 : 1 ≤ a) (h2 : a ≤ N) : m_X1_value S (nI a) = V a := by
  obtain ⟨hN, -, -, -, -, f⟩ := h
  show m_X3_at S 6 (nI a) = _
  rw [at_nI (show a < 513 by omega)]
  exact (f a h1 h2).2.2
theorem Lg.stone {S : cs_St} (h : Lg S N K V ord) {a : Nat} (h1 : 1 ≤ a) (h2 : a ≤ N) : m_X1_isStone S (nI a) = if V a = -1 then 1 else 0 := by
  have h3 := h.val h1 h2
  show (if m_X3_at S 6 (nI a) = -1 then (1 : Int32) else 0) = _
  rw [show m_X3_at S 6 (nI a) = V a from h3]
theorem Lg.mem {S : cs_St} (h : Lg S N K V ord) {a : Nat} (ha : a ∈ ord) : 1 ≤ a ∧ a ≤ N := (h.2.2.2.1 a).mp ha
theorem Lg.new {S : cs_St} (h : Lg S N K V ord) : m_X1_newest S = nI N := by
  show nI (S.1 7).2 = nI N
  rw [h.2.1.1, List.length_map, h.2.2.1]
theorem Lg.N512 {S : cs_St} (h : Lg S N K V ord) : N < 512 := h.1
/-- an element of the order, by its place -/
theorem Lg.at {S : cs_St} (h : Lg S N K V ord) {i a : Nat} (hi : ord[i]? = some a) : m_X3_at S 7 (nI i) = nI a ∧ 1 ≤ a ∧ a ≤ N := by
  refine ⟨LV_at h.2.1 ?_ ?_, h.mem (List.mem_of_getElem? hi)⟩
  · rw [List.length_map, h.2.2.1]
    have := h.1
    show N ≤ 512
    omega
  · rw [List.getElem?_map, hi]; rfl
end
/-- snapshots' ages -/
def seen (sn : List Nat) (a w : Nat) : Bool := sn.any (fun s => decide (a ≤ s) && decide (s < w))
theorem see_L {S : cs_St} {sn : List Nat} (hs : LV (S.1 9) (sn.map nI)) (h4 : sn.length ≤ 4) (hb : ∀ s ∈ sn, s < 512) {a w : Nat} (ha : a < 513) (hw : w < 513) : ∀ (n i : Nat), i ≤ sn.length → sn.length - i < n → m_X5_see_L2 S (nI a) (nI w) n (nI i) = if seen (sn.drop i) a w then 1 else 0 := by
  intro n
  induction n with
  | zero => intro i _ h; exact absurd h (Nat.not_lt_zero _)
  | succ n ih =>
    intro i hi hn
    rw [m_X5_see_L2]
    simp only [cs_let, len_eq, hs.1, List.length_map]
    by_cases hd : sn.length ≤ i
    · have e : i = sn.length := by omega
      rw [if_pos (by rw [nI_leI (by omega) (by omega)]; exact hd), e, List.drop_length]
      rfl
    · have hlt : i < sn.length := by omega
      rw [if_neg (by rw [nI_leI (by omega) (by omega)]; exact hd)]
      have hx : m_X3_at S 9 (nI i) = nI sn[i] := LV_at hs (by rw [List.length_map]; exact h4) (by rw [List.getElem?_map, List.getElem?_eq_getElem hlt]; rfl)
      have hbi := hb _ (List.getElem_mem hlt)
      rw [hx, nI_1, ih (i + 1) (by omega) (by omega), List.drop_eq_getElem_cons hlt]
      rw [show seen (sn[i] :: sn.drop (i + 1)) a w = ((decide (a ≤ sn[i]) && decide (sn[i] < w)) || seen (sn.drop (i + 1)) a w) from rfl]
      by_cases c1 : sn[i] < a
      · rw [if_pos (by rw [nI_ltI (by omega) (by omega)]; exact c1)]
        rw [show decide (a ≤ sn[i]) = false from decide_eq_false (by omega)]
        simp
      · rw [if_neg (by rw [nI_ltI (by omega) (by omega)]; exact c1)]
        rw [show decide (a ≤ sn[i]) = true from decide_eq_true (by omega)]
        by_cases c2 : w ≤ sn[i]
        · rw [if_pos (by rw [nI_leI (by omega) (by omega)]; exact c2)]
          rw [show decide (sn[i] < w) = false from decide_eq_false (by omega)]
          simp
        · rw [if_neg (by rw [nI_leI (by omega) (by omega)]; exact c2)]
          rw [show decide (sn[i] < w) = true from decide_eq_true (by omega)]
          simp
theorem see_eq {S : cs_St} {sn : List Nat} (hs : LV (S.1 9) (sn.map nI)) (h4 : sn.length ≤ 4) (hb : ∀ s ∈ sn, s < 512) {a w : Nat} (ha : a < 513) (hw : w < 513) : m_X5_see S (nI a) (nI w) = if seen sn a w then 1 else 0 :=
  see_L hs h4 hb ha hw cs_N 0 (Nat.zero_le _) (by show _ < 4294967296; omega)
/-- what keepNeeded keeps of what was gathered, w the gathered one before -/
def kn (K : Nat → Nat) (G : Nat → Bool) (sn : List Nat) : Nat → List Nat → List Nat
  | _, [] => []
  | w, a :: t => if G a then (if w = 0 ∨ K w ≠ K a ∨ seen sn a w = true then a :: kn K G sn a t else kn K G sn a t) else kn K G sn w t
theorem kn_len (K : Nat → Nat) (G : Nat → Bool) (sn : List Nat) : ∀ (l : List Nat) (w : Nat), (kn K G sn w l).length ≤ l.length := by
  intro l
  induction l with
  | nil => intro w; exact Nat.le_refl _
  | cons a t ih =>
    intro w
    rw [kn]
    split
    · split
      · have := ih a; simp; omega
      · have := ih a; simp; omega
    · have := ih w; simp; omega
theorem keepNeeded_L {N : Nat} {K : Nat → Nat} {V : Nat → Int32} {ord : List Nat} {sn : List Nat} {G : Nat → Bool} (h4 : sn.length ≤ 4) (hb : ∀ s ∈ sn, s < 512) :
    ∀ (n i w : Nat) (S : cs_St) (lf : List Nat), Lg S N K V ord → LV (S.1 9) (sn.map nI) → (∀ a, 1 ≤ a → a ≤ N → ((S.1 17).1 a = 1 ↔ G a = true)) → LV (S.1 18) (lf.map nI) → w ≤ N → i ≤ ord.length → ord.length - i < n → lf.length + (ord.length - i) < 512 →
      ∃ r, (m_X2_keepNeeded_L4 n (nI w) (nI i) S).2.2 = cs_sR S 18 r ∧ LV r ((lf ++ kn K G sn w (ord.drop i)).map nI) := by
  intro n
  induction n with
  | zero => intro i w S lf _ _ _ _ _ _ h; exact absurd h (Nat.not_lt_zero _)
  | succ n ih =>
    intro i w S lf hL hs hG hl hw hi hn hc
    have hN := hL.N512
    have ho := hL.2.2.1
    have h18 : (S.1 18).2 = lf.length := by rw [hl.1, List.length_map]
    have step : ∀ (w' : Nat), w' ≤ N → i < ord.length → ∃ r, (m_X2_keepNeeded_L4 n (nI w') (nI i + 1) S).2.2 = cs_sR S 18 r ∧ LV r ((lf ++ kn K G sn w' (ord.drop (i + 1))).map nI) := by
      intro w' hw' hi'
      rw [nI_1]
      exact ih (i + 1) w' S lf hL hs hG hl hw' (by omega) (by omega) (by omega)
    have push : ∀ (a : Nat), a ≤ N → i < ord.length → ∃ r, (m_X2_keepNeeded_L4 n (nI a) (nI i + 1) (m_X3_append S 18 (nI a))).2.2 = cs_sR S 18 r ∧ LV r ((lf ++ a :: kn K G sn a (ord.drop (i + 1))).map nI) := by
      intro a ha hi'
      rw [nI_1, append_eq (by rw [h18]; show lf.length < 512; omega)]
      obtain ⟨r, h1, h2⟩ := ih (i + 1) a (cs_sR S 18 (rw_app (S.1 18) (nI a))) (lf ++ [a]) (hL.of (sR_ne (by decide)) (sR_ne (by decide)) (sR_ne (by decide))) (by rw [sR_ne (by decide)]; exact hs) (by rw [sR_ne (by decide)]; exact hG) (by rw [sR_self, List.map_append]; exact hl.app _) ha (by omega) (by omega) (by simp; omega)
      refine ⟨r, by rw [h1, sR_sR], ?_⟩
      rw [List.append_assoc] at h2
      exact h2
    rw [m_X2_keepNeeded_L4]
    simp only [cs_let, len_eq, hL.2.1.1, List.length_map]
    by_cases hd : ord.length ≤ i
    · rw [if_pos (by rw [nI_leI (by omega) (by omega)]; exact hd), List.drop_eq_nil_of_le hd]
      exact ⟨S.1 18, by refine Prod.ext (funext fun k => ?_) rfl; show S.1 k = if k = 18 then S.1 18 else S.1 k; split; · next h => rw [h]
                        · rfl, by rw [kn, List.append_nil]; exact hl⟩
    · have hlt : i < ord.length := by omega
      rw [if_neg (by rw [nI_leI (by omega) (by omega)]; exact hd)]
      obtain ⟨hx, ha1, ha2⟩ := hL.at (List.getElem?_eq_getElem hlt)
      rw [hx, List.drop_eq_getElem_cons hlt]
      generalize ord[i] = a at ha1 ha2
      rw [at_nI (show a < 513 by omega), kn]
      by_cases hg : G a = true
      · rw [if_pos ((hG a ha1 ha2).mpr hg), if_pos hg]
        by_cases hw0 : w = 0
        · rw [if_pos (by rw [nI_eq0 (by omega)]; exact hw0), if_pos (Or.inl hw0)]
          exact push a ha2 hlt
        · rw [if_neg (by rw [nI_eq0 (by omega)]; exact hw0), hL.key (by omega) hw, hL.key ha1 ha2]
          have hKw := (hL.2.2.2.2.2 w (by omega) hw).2.1
          have hKa := (hL.2.2.2.2.2 a ha1 ha2).2.1
          by_cases hk : K w = K a
          · rw [if_pos (by rw [hk]), see_eq hs h4 hb (by omega) (by omega)]
            by_cases hse : seen sn a w = true
            · rw [if_pos hse, if_neg (by decide), if_pos (Or.inr (Or.inr hse))]
              exact push a ha2 hlt
            · rw [if_neg hse, if_pos rfl, if_neg (fun z => z.elim hw0 (fun z => z.elim (fun z => z hk) hse))]
              exact step a ha2 hlt
          · rw [if_neg (by rw [nI_eq (by omega) (by omega)]; exact hk), if_pos (Or.inr (Or.inl hk))]
            exact push a ha2 hlt
      · rw [if_neg (fun z => hg ((hG a ha1 ha2).mp z)), if_neg hg]
        exact step w hw hlt
