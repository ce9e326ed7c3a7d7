/-! MATHEMATICS 7: a run is put on the shelf -/
theorem bits_L (S S' : cs_St) (a b c : Int32) : ∀ (n : Nat) (F : Int64) (v : Int32), m_X4_bitsOf_L9 S a b c n F v = m_X4_bitsOf_L9 S' a b c n F v := by
  intro n
  induction n with
  | zero => intro F v; rfl
  | succ n ih =>
    intro F v
    rw [m_X4_bitsOf_L9, m_X4_bitsOf_L9]
    simp only [cs_let, ih]
/-- the bits of a key -/
def bOf (k b h : Int32) : Int64 := m_X4_bitsOf cs_S00 k b h
theorem bits_S (S : cs_St) (a b c : Int32) : m_X4_bitsOf S a b c = bOf a b c := by
  unfold bOf m_X4_bitsOf
  simp only [cs_let, bits_L S cs_S00]
def fil (K : Nat → Nat) (b h : Int32) (l : List Nat) (F : Int64) : Int64 := l.foldl (fun F a => F ||| bOf (nI (K a)) b h) F
theorem ins_L {N : Nat} {K : Nat → Nat} {V : Nat → Int32} {ord : List Nat} {j3 w b f : Nat} {src : List Nat} (hj : j3 ≠ 10) (hj2 : 10 ≤ j3 ∨ j3 < 5) (hcap : src.length ≤ cs_cap j3) (hw : f + w ≤ src.length) (hbw : b + w ≤ 512) (hs : ∀ a ∈ src, 1 ≤ a ∧ a ≤ N) (u8 u1 u2 u5 u6 u7 : Int32) :
    ∀ (n i : Nat) (F : Int64) (S : cs_St), Lg S N K V ord → LV (S.1 j3) (src.map nI) → i ≤ w → w - i < n →
      ∃ r, (m_X4_insert_L41 j3 (nI w) (nI b) u8 u1 u2 (nI f) u5 u6 u7 n F (nI i) S).2.2 = cs_sR S 10 r ∧ (m_X4_insert_L41 j3 (nI w) (nI b) u8 u1 u2 (nI f) u5 u6 u7 n F (nI i) S).1 = fil K u6 u7 ((src.drop (f + i)).take (w - i)) F ∧ r.2 = (S.1 10).2 ∧ ∀ k, r.1 k = if b + i ≤ k ∧ k < b + w then nI (src.getD (f + (k - b)) 0) else (S.1 10).1 k := by
  intro n
  induction n with
  | zero => intro i F S _ _ _ h; exact absurd h (Nat.not_lt_zero _)
  | succ n ih =>
    intro i F S hL hl hi hn
    have hN := hL.N512
    have hcl := cap_lt j3
    rw [m_X4_insert_L41]
    by_cases hd : w ≤ i
    · rw [if_pos (by rw [nI_leI (by omega) (by omega)]; exact hd), show w - i = 0 by omega, List.take_zero]
      refine ⟨S.1 10, sR_eta.symm, rfl, rfl, fun k => ?_⟩
      rw [if_neg (by omega)]
    · have hlt : f + i < src.length := by omega
      rw [if_neg (by rw [nI_leI (by omega) (by omega)]; exact hd)]
      simp only [cs_let]
      have hx : m_X3_at S j3 (nI (f + i)) = nI src[f + i] := LV_at hl (by rw [List.length_map]; exact hcap) (by rw [List.getElem?_map, List.getElem?_eq_getElem hlt]; rfl)
      obtain ⟨b1, b2⟩ := hs _ (List.getElem_mem hlt)
      have htd : (src.drop (f + i)).take (w - i) = src[f + i] :: (src.drop (f + (i + 1))).take (w - (i + 1)) := by
        rw [List.drop_eq_getElem_cons hlt, show w - i = w - (i + 1) + 1 by omega, List.take_succ_cons]
        rfl
      have hgd : src.getD (f + i) 0 = src[f + i] := by rw [List.getD_eq_getElem?_getD, List.getElem?_eq_getElem hlt]; rfl
      rw [nI_add, nI_add, hx, htd, nI_1]
      generalize src[f + i] = a at b1 b2 hgd
      rw [write_eq (show b + i < 512 by omega)]
      have hL1 : Lg (cs_sR S 10 (rw_set (S.1 10) (b + i) (nI a))) N K V ord := hL.of (sR_ne (by decide)) (sR_ne (by decide)) (sR_ne (by decide))
      rw [hL1.key b1 b2, bits_S]
      obtain ⟨r, h1, h2, h3, h4⟩ := ih (i + 1) (F ||| bOf (nI (K a)) u6 u7) (cs_sR S 10 (rw_set (S.1 10) (b + i) (nI a))) hL1 (by rw [sR_ne hj]; exact hl) (by omega) (by omega)
      refine ⟨r, by rw [h1, sR_sR], by rw [h2]; rfl, by rw [h3, sR_self]; rfl, fun k => ?_⟩
      rw [h4 k, sR_self]
      show (if b + (i + 1) ≤ k ∧ k < b + w then _ else if k = b + i then nI a else (S.1 10).1 k) = _
      by_cases c1 : b + (i + 1) ≤ k ∧ k < b + w
      · rw [if_pos c1, if_pos (by omega)]
      · rw [if_neg c1]
        by_cases c2 : k = b + i
        · rw [if_pos c2, if_pos (by omega), c2, show f + (b + i - b) = f + i by omega, hgd]
        · rw [if_neg c2, if_neg (by omega)]
theorem LV.insw {r r' : cs_R} {l xs : List Int32} {b : Nat} (h : LV r l) (hb : b ≤ l.length) (h2 : r'.2 = l.length + xs.length) (hf : ∀ k, r'.1 k = if b ≤ k ∧ k < b + xs.length then xs.getD (k - b) 0 else (rw_opn r b xs.length).1 k) : LV r' (l.take b ++ (xs ++ l.drop b)) := by
  refine ⟨by rw [h2]; simp; omega, fun k y hy => ?_⟩
  rw [hf k]
  rw [List.getElem?_append] at hy
  have hl : (l.take b).length = b := by simp; omega
  rw [hl] at hy
  by_cases c1 : k < b
  · rw [if_neg (by omega)]
    rw [if_pos c1, List.getElem?_take, if_pos c1] at hy
    show va_cpy r.1 r.1 b (b + xs.length) (r.2 - b) k = y
    unfold va_cpy
    rw [if_neg (by omega)]
    exact h.2 k y hy
  · rw [if_neg c1, List.getElem?_append] at hy
    by_cases c2 : k - b < xs.length
    · rw [if_pos (by omega), List.getD_eq_getElem?_getD]
      rw [if_pos c2] at hy
      rw [hy]; rfl
    · rw [if_neg (by omega)]
      rw [if_neg c2, List.getElem?_drop] at hy
      have h9 := (List.getElem?_eq_some_iff.mp hy).1
      show va_cpy r.1 r.1 b (b + xs.length) (r.2 - b) k = y
      unfold va_cpy
      rw [h.1, if_pos (by omega), show b + (k - (b + xs.length)) = b + (k - b - xs.length) by omega]
      exact h.2 _ y hy
theorem insE_L {w : Nat} (j3 : Nat) (u11 : Int64) (u9 u8 u1 u2 u4 u5 u6 u7 : Int32) : ∀ (n i : Nat) (S : cs_St) (l : List Nat), LV (S.1 11) (l.map nI) → l.length ≤ 512 → i ≤ l.length → l.length - i < n →
    ∃ r, (m_X4_insert_L126 j3 u11 (nI w) u9 u8 u1 u2 u4 u5 u6 u7 n (nI i) S).2 = cs_sR S 11 r ∧ LV r ((l.take i ++ (l.drop i).map (· + w)).map nI) := by
  intro n
  induction n with
  | zero => intro i S l _ _ _ h; exact absurd h (Nat.not_lt_zero _)
  | succ n ih =>
    intro i S l hl hc hi hn
    rw [m_X4_insert_L126]
    simp only [cs_let, len_eq, hl.1, List.length_map]
    by_cases hd : l.length ≤ i
    · rw [if_pos (by rw [nI_leI (by omega) (by omega)]; exact hd)]
      refine ⟨S.1 11, sR_eta.symm, ?_⟩
      rw [List.drop_eq_nil_of_le hd, List.take_of_length_le hd]
      simpa using hl
    · have hlt : i < l.length := by omega
      rw [if_neg (by rw [nI_leI (by omega) (by omega)]; exact hd), raise_eq (show i < 512 by omega), nI_1]
      have hx : (S.1 11).1 i = nI l[i] := hl.2 i _ (by rw [List.getElem?_map, List.getElem?_eq_getElem hlt]; rfl)
      rw [hx, nI_add]
      have e1 : (l.set i (l[i] + w)).take (i + 1) = l.take i ++ [l[i] + w] := by
        rw [List.take_add_one, List.take_set, List.getElem?_set_self hlt, List.set_eq_of_length_le (by simp; omega)]
        rfl
      have e2 : (l.set i (l[i] + w)).drop (i + 1) = l.drop (i + 1) := by
        rw [List.drop_set_of_lt (by omega)]
      obtain ⟨r, a1, a2⟩ := ih (i + 1) (cs_sR S 11 (rw_set (S.1 11) i (nI (l[i] + w)))) (l.set i (l[i] + w)) (by rw [sR_self, List.map_set]; exact hl.set i _) (by rw [List.length_set]; exact hc) (by rw [List.length_set]; omega) (by rw [List.length_set]; omega)
      refine ⟨r, by rw [a1, sR_sR], ?_⟩
      rw [e1, e2] at a2
      rw [List.drop_eq_getElem_cons hlt, List.map_cons]
      simpa [List.append_assoc] using a2
/-- the four numbers that a run's filter lies in -/
def q4 (K : Nat → Nat) (b h : Int32) (l : List Nat) : Q4 := (b, h, (fil K b h l 0).toInt32, ((fil K b h l 0).toUInt64 >>> ((32 : Int32).toInt64.toUInt64 &&& Int64.toUInt64 63)).toInt64.toInt32)
theorem insert_shelf {S : cs_St} {N : Nat} {K : Nat → Nat} {V : Nat → Int32} {ord : List Nat} {L : Nat → List Run} (hL : Lg S N K V ord) (h : Sh S L) {lv pl j3 f t : Nat} {src : List Nat} (hl : lv < 4) (hpl : pl ≤ (L lv).length) (hj : j3 < 5 ∨ 16 < j3) (hcap : src.length ≤ cs_cap j3) (hft : f < t) (ht : t ≤ src.length) (hs : ∀ a ∈ src, 1 ≤ a ∧ a ≤ N) (hsrc : LV (S.1 j3) (src.map nI)) (hfit : (agz (RS L)).length + (t - f) < 512) (a6 a7 : Int32) :
    Sh (m_X4_insert S (nI lv) (nI pl) j3 (nI f) (nI t) a6 a7) (Lset L lv ((L lv).take pl ++ ((src.drop f).take (t - f), q4 K a6 a7 ((src.drop f).take (t - f))) :: (L lv).drop pl)) ∧ fr [10, 11, 12, 13, 14, 15, 16] S (m_X4_insert S (nI lv) (nI pl) j3 (nI f) (nI t) a6 a7) := by
  obtain ⟨Z, hZ, hZs⟩ := RS_at L hl
  have hn := h.nR
  have hcl := h.cnt_le hl
  have hcpl := cap_lt j3
  obtain ⟨h10, h11, h12, h13, h14, h15, h16, hlen, hne⟩ := id h
  generalize hp : (pre L lv).length = p at hcl
  generalize hx : (src.drop f).take (t - f) = xs
  have hxl : xs.length = t - f := by rw [← hx, List.length_take, List.length_drop]; omega
  have hR' : RS (Lset L lv ((L lv).take pl ++ (xs, q4 K a6 a7 xs) :: (L lv).drop pl)) = (RS L).take (p + pl) ++ (xs, q4 K a6 a7 xs) :: (RS L).drop (p + pl) := by
    rw [hZs, hZ, ← hp, List.take_append, List.drop_append, List.take_of_length_le (l := pre L lv) (by omega), List.drop_of_length_le (l := pre L lv) (by omega)]
    rw [show (pre L lv).length + pl - (pre L lv).length = pl by omega, List.take_append_of_le_length (by omega), List.drop_append_of_le_length (by omega)]
    simp [List.append_assoc]
  generalize hR : RS L = R at *
  have hbe : ∀ i, i ≤ R.length → m_X4_begin S (nI i) = nI (agz (R.take i)).length := fun i hi => by rw [← hR]; exact h.begin (by rw [hR]; exact hi)
  have hle := agz_take_le R (p + pl)
  have hRn : R.length + 1 < 512 := by
    have := agz_ge R hne
    omega
  unfold m_X4_insert
  simp only [cs_let]
  rw [h.first (by omega), hp, nI_add, hbe _ (by omega), pk_sub (Nat.le_of_lt hft)]
  generalize hb : (agz (R.take (p + pl))).length = b at hle
  have hu10 : (S.1 10).2 = (agz R).length := by rw [h10.1, List.length_map]
  rw [open_eq (S := S) (j := 10) (by omega) (by omega) (by show _ ≤ 512; omega)]
  have hL3 : Lg (cs_sR S 10 (rw_opn (S.1 10) b (t - f))) N K V ord := hL.of (sR_ne (by decide)) (sR_ne (by decide)) (sR_ne (by decide))
  obtain ⟨r10, e1, e2, e3, e4⟩ := ins_L (K := K) (V := V) (ord := ord) (b := b) (w := t - f) (f := f) (src := src) (j3 := j3) (by omega) (by omega) hcap (by omega) (by omega) hs (nI (p + pl)) (nI lv) (nI pl) (nI t) a6 a7 cs_N 0 0 _ hL3 (by rw [sR_ne (by omega)]; exact hsrc) (Nat.zero_le _) (by show _ < 4294967296; omega)
  rw [show (0 : Int32) = nI 0 from rfl]
  rw [Nat.add_zero, Nat.sub_zero, hx] at e2
  rw [e1, e2, sR_sR]
  have l10 : LV r10 ((agz (R.take (p + pl)) ++ (xs ++ agz (R.drop (p + pl)))).map nI) := by
    have h9 := h10.insw (r' := r10) (xs := xs.map nI) (b := b) (by rw [List.length_map]; omega) (by rw [e3, sR_self, List.length_map, List.length_map, hxl]; show (S.1 10).2 + (t - f) = _; rw [hu10]) (fun k => by
      rw [e4 k, sR_self, List.length_map, hxl, Nat.add_zero]
      by_cases c : b ≤ k ∧ k < b + (t - f)
      · rw [if_pos c, if_pos c]
        have hk : k - b < xs.length := by omega
        rw [List.getD_eq_getElem?_getD, List.getD_eq_getElem?_getD, List.getElem?_map, ← hx, List.getElem?_take, if_pos (by omega), List.getElem?_drop]
        have hk2 : f + (k - b) < src.length := by omega
        rw [List.getElem?_eq_getElem hk2]; rfl
      · rw [if_neg c, if_neg c])
    rw [← List.map_take, ← List.map_drop, ← hb, agz_take, agz_drop, ← List.map_append, ← List.map_append] at h9
    exact h9
  unfold m_X4_openRun
  simp only [cs_let]
  have hu : ∀ j, 11 ≤ j → j ≤ 15 → (S.1 j).2 = R.length := by
    intro j g1 g2
    rcases (show j = 11 ∨ j = 12 ∨ j = 13 ∨ j = 14 ∨ j = 15 by omega) with rfl | rfl | rfl | rfl | rfl
    · rw [h11.1, List.length_map, endz_len]
    · rw [h12.1, List.length_map]
    · rw [h13.1, List.length_map]
    · rw [h14.1, List.length_map]
    · rw [h15.1, List.length_map]
  have hop : ∀ (T : cs_St) (j : Nat), 11 ≤ j → j ≤ 15 → T.1 j = S.1 j → m_X3_open T j (nI (p + pl)) 1 = cs_sR T j (rw_opn (S.1 j) (p + pl) 1) := by
    intro T j g1 g2 hT
    have hcj : cs_cap j = 512 := by
      rcases (show j = 11 ∨ j = 12 ∨ j = 13 ∨ j = 14 ∨ j = 15 by omega) with rfl | rfl | rfl | rfl | rfl <;> rfl
    rw [show (1 : Int32) = nI 1 from rfl, open_eq (by rw [hT, hu j g1 g2]; omega) (by decide) (by rw [hT, hu j g1 g2, hcj]; omega), hT]
  rw [hop _ 11 (by decide) (by decide) (sR_ne (by decide))]
  rw [hop _ 12 (by decide) (by decide) (by rw [sR_ne (by decide), sR_ne (by decide)])]
  rw [hop _ 13 (by decide) (by decide) (by rw [sR_ne (by decide), sR_ne (by decide), sR_ne (by decide)])]
  rw [hop _ 14 (by decide) (by decide) (by rw [sR_ne (by decide), sR_ne (by decide), sR_ne (by decide), sR_ne (by decide)])]
  rw [hop _ 15 (by decide) (by decide) (by rw [sR_ne (by decide), sR_ne (by decide), sR_ne (by decide), sR_ne (by decide), sR_ne (by decide)])]
  rw [nI_add, nI_1]
  generalize hS6 : cs_sR (cs_sR (cs_sR (cs_sR (cs_sR (cs_sR S 10 r10) 11 (rw_opn (S.1 11) (p + pl) 1)) 12 (rw_opn (S.1 12) (p + pl) 1)) 13 (rw_opn (S.1 13) (p + pl) 1)) 14 (rw_opn (S.1 14) (p + pl) 1)) 15 (rw_opn (S.1 15) (p + pl) 1) = S6
  have g10 : S6.1 10 = r10 := by rw [← hS6, sR_ne (by decide), sR_ne (by decide), sR_ne (by decide), sR_ne (by decide), sR_ne (by decide), sR_self]
  have g11 : S6.1 11 = rw_opn (S.1 11) (p + pl) 1 := by rw [← hS6, sR_ne (by decide), sR_ne (by decide), sR_ne (by decide), sR_ne (by decide), sR_self]
  have g12 : S6.1 12 = rw_opn (S.1 12) (p + pl) 1 := by rw [← hS6, sR_ne (by decide), sR_ne (by decide), sR_ne (by decide), sR_self]
  have g13 : S6.1 13 = rw_opn (S.1 13) (p + pl) 1 := by rw [← hS6, sR_ne (by decide), sR_ne (by decide), sR_self]
  have g14 : S6.1 14 = rw_opn (S.1 14) (p + pl) 1 := by rw [← hS6, sR_ne (by decide), sR_self]
  have g15 : S6.1 15 = rw_opn (S.1 15) (p + pl) 1 := by rw [← hS6, sR_self]
  have gk : ∀ k, k < 10 ∨ 15 < k → S6.1 k = S.1 k := fun k hk => by rw [← hS6, sR_ne (by omega), sR_ne (by omega), sR_ne (by omega), sR_ne (by omega), sR_ne (by omega), sR_ne (by omega)]
  have gs : S6.2 = S.2 := by rw [← hS6]; rfl
  clear hS6
  rw [write_eq (S := S6) (j := 11) (show p + pl < 512 by omega)]
  have l11 : LV (rw_set (S6.1 11) (p + pl) (nI (b + (t - f)))) (((endz 0 R).take (p + pl) ++ (b + (t - f)) :: (endz 0 R).drop (p + pl)).map nI) := by
    rw [g11]
    have := h11.ins (p := p + pl) (by rw [List.length_map, endz_len]; omega) (nI (b + (t - f)))
    rw [List.map_append, List.map_cons, List.map_take, List.map_drop]
    exact this
  have eL : ((endz 0 R).take (p + pl)).length = p + pl := by rw [List.length_take, endz_len]; omega
  obtain ⟨s11, f11, m11⟩ := insE_L (w := t - f) j3 (fil K a6 a7 xs 0) (nI b) (nI (p + pl)) (nI lv) (nI pl) (nI f) (nI t) a6 a7 cs_N (p + pl + 1) (cs_sR S6 11 (rw_set (S6.1 11) (p + pl) (nI (b + (t - f))))) _ (by rw [sR_self]; exact l11) (by rw [List.length_append, eL, List.length_cons, List.length_drop, endz_len]; omega) (by rw [List.length_append, eL, List.length_cons]; omega) (by rw [List.length_append, eL, List.length_cons, List.length_drop, endz_len]; show _ < 4294967296; omega)
  rw [f11, sR_sR]
  have eF : (((endz 0 R).take (p + pl) ++ (b + (t - f)) :: (endz 0 R).drop (p + pl)).take (p + pl + 1) ++ (((endz 0 R).take (p + pl) ++ (b + (t - f)) :: (endz 0 R).drop (p + pl)).drop (p + pl + 1)).map (· + (t - f))) = endz 0 (R.take (p + pl) ++ (xs, q4 K a6 a7 xs) :: R.drop (p + pl)) := by
    rw [List.take_append, List.drop_append, eL, show p + pl + 1 - (p + pl) = 1 by omega, List.take_of_length_le (l := (endz 0 R).take (p + pl)) (by omega), List.drop_of_length_le (l := (endz 0 R).take (p + pl)) (by omega), List.nil_append, List.take_succ_cons, List.take_zero, List.drop_succ_cons, List.drop_zero, endz_take, endz_drop (by omega), ← endz_shift, endz_app, endz, Nat.zero_add, hb, hxl]
    simp [List.append_assoc]
  rw [eF] at m11
  have hset : ∀ (T : cs_St) (j : Nat) (x : Int32), 11 ≤ j → j ≤ 15 → m_X3_write T j (nI (p + pl)) x = cs_sR T j (rw_set (T.1 j) (p + pl) x) := by
    intro T j x g1 g2
    have hcj : cs_cap j = 512 := by
      rcases (show j = 11 ∨ j = 12 ∨ j = 13 ∨ j = 14 ∨ j = 15 by omega) with rfl | rfl | rfl | rfl | rfl <;> rfl
    exact write_eq (by rw [hcj]; omega)
  rw [hset _ 12 _ (by decide) (by decide), hset _ 13 _ (by decide) (by decide), hset _ 14 _ (by decide) (by decide), hset _ 15 _ (by decide) (by decide)]
  rw [raise_eq (show lv < cs_cap 16 from hl)]
  simp only [sR_self, sR_ne (show (12 : Nat) ≠ 11 by decide), sR_ne (show (13 : Nat) ≠ 11 by decide), sR_ne (show (14 : Nat) ≠ 11 by decide), sR_ne (show (15 : Nat) ≠ 11 by decide), sR_ne (show (16 : Nat) ≠ 11 by decide), sR_ne (show (13 : Nat) ≠ 12 by decide), sR_ne (show (14 : Nat) ≠ 12 by decide), sR_ne (show (15 : Nat) ≠ 12 by decide), sR_ne (show (16 : Nat) ≠ 12 by decide), sR_ne (show (14 : Nat) ≠ 13 by decide), sR_ne (show (15 : Nat) ≠ 13 by decide), sR_ne (show (16 : Nat) ≠ 13 by decide), sR_ne (show (15 : Nat) ≠ 14 by decide), sR_ne (show (16 : Nat) ≠ 14 by decide), sR_ne (show (16 : Nat) ≠ 15 by decide)]
  rw [g12, g13, g14, g15, gk 16 (by decide)]
  have hins : ∀ (j : Nat) (g : Run → Int32), LV (S.1 j) (R.map g) → LV (rw_set (rw_opn (S.1 j) (p + pl) 1) (p + pl) (g (xs, q4 K a6 a7 xs))) ((R.take (p + pl) ++ (xs, q4 K a6 a7 xs) :: R.drop (p + pl)).map g) := by
    intro j g hg
    have := hg.ins (p := p + pl) (by rw [List.length_map]; omega) (g (xs, q4 K a6 a7 xs))
    rw [List.map_append, List.map_cons, List.map_take, List.map_drop]
    exact this
  refine ⟨⟨?_, ?_, ?_, ?_, ?_, ?_, ?_, ?_, ?_⟩, ⟨by show S6.2 = S.2; exact gs, fun k hk => ?_⟩⟩
  · rw [sR_ne (by decide), sR_ne (by decide), sR_ne (by decide), sR_ne (by decide), sR_ne (by decide), sR_ne (by decide), g10, hR', agz_app, agz_cons]; exact l10
  · rw [sR_ne (by decide), sR_ne (by decide), sR_ne (by decide), sR_ne (by decide), sR_ne (by decide), sR_self, hR']; exact m11
  · rw [sR_ne (by decide), sR_ne (by decide), sR_ne (by decide), sR_ne (by decide), sR_self, hR']; exact hins 12 (fun r => r.2.1) h12
  · rw [sR_ne (by decide), sR_ne (by decide), sR_ne (by decide), sR_self, hR']; exact hins 13 (fun r => r.2.2.1) h13
  · rw [sR_ne (by decide), sR_ne (by decide), sR_self, hR']; exact hins 14 (fun r => r.2.2.2.1) h14
  · rw [sR_ne (by decide), sR_self, hR']; exact hins 15 (fun r => r.2.2.2.2) h15
  · intro l hl4
    rw [sR_self]
    show (if l = lv then (S.1 16).1 lv + 1 else (S.1 16).1 l) = nI (if l = lv then _ else L l).length
    by_cases e : l = lv
    · rw [if_pos e, if_pos e, h16 lv hl, nI_1, List.length_append, List.length_cons, List.length_take, List.length_drop]
      congr 1
      omega
    · rw [if_neg e, if_neg e]; exact h16 l hl4
  · rw [hR', agz_app, agz_cons, List.length_append, List.length_append, hxl]
    have h1 : (agz R).length = (agz (R.take (p + pl))).length + (agz (R.drop (p + pl))).length := by
      conv => lhs; rw [← List.take_append_drop (p + pl) R, agz_app, List.length_append]
    omega
  · rw [hR']
    intro r hr
    rcases List.mem_append.mp hr with h1 | h1
    · exact hne r (List.mem_of_mem_take h1)
    · rcases List.mem_cons.mp h1 with rfl | h1
      · exact List.length_pos_iff.mp (by show 0 < xs.length; omega)
      · exact hne r (List.mem_of_mem_drop h1)
  · simp at hk
    rw [sR_ne (by omega), sR_ne (by omega), sR_ne (by omega), sR_ne (by omega), sR_ne (by omega), sR_ne (by omega), gk k (by omega)]
