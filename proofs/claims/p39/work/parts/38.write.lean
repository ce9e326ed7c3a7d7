/-! MATHEMATICS 19: noting a write, filling the hand, laying it down -/
def kup (K : Nat → Nat) (n k : Nat) : Nat → Nat := fun a => if a = n then k else K a
def vup (V : Nat → Int32) (n : Nat) (v : Int32) : Nat → Int32 := fun a => if a = n then v else V a
theorem kup_old {K : Nat → Nat} {n k a : Nat} (h : a < n) : kup K n k a = K a := if_neg (by omega)
theorem kup_new {K : Nat → Nat} {n k : Nat} : kup K n k n = k := if_pos rfl
theorem vup_old {V : Nat → Int32} {n a : Nat} {v : Int32} (h : a < n) : vup V n v a = V a := if_neg (by omega)
theorem vup_new {V : Nat → Int32} {n : Nat} {v : Int32} : vup V n v n = v := if_pos rfl
section
variable {S : cs_St} {N : Nat} {K : Nat → Nat} {V : Nat → Int32} {ord : List Nat}
theorem note_L (hL : Lg S N K V ord) {k : Nat} (hk : k < 10000) (u3 u2 : Int32) : ∀ (n i : Nat), i ≤ N → N - i < n → (∀ a ∈ ord.take i, K a < k) →
    ∃ p, m_X1_note_L13 S u3 (nI k) u2 n (nI i) = nI p ∧ p ≤ N ∧ (∀ a ∈ ord.take p, K a < k) ∧ ∀ a, ord[p]? = some a → k ≤ K a := by
  have hN := hL.N0
  have hlen := hL.2.2.1
  have h7 : (S.1 7).2 = N := by rw [hL.2.1.1, List.length_map, hlen]
  intro n
  induction n with
  | zero => intro i _ h; exact absurd h (Nat.not_lt_zero _)
  | succ n ih =>
    intro i hi hn hb
    rw [m_X1_note_L13]
    simp only [cs_lx, len_eq, h7]
    by_cases c : N ≤ i
    · rw [if_pos (by rw [nI_leI (by omega) (by omega)]; exact c)]
      refine ⟨i, rfl, hi, hb, fun a ha => ?_⟩
      rw [List.getElem?_eq_none (by omega)] at ha; cases ha
    · rw [if_neg (by rw [nI_leI (by omega) (by omega)]; exact c)]
      have ha : ord[i]? = some ord[i] := List.getElem?_eq_getElem (by omega)
      generalize ord[i] = a at ha
      obtain ⟨a1, a2, a3⟩ := hL.at ha
      have hK := (hL.2.2.2.2.2 a a2 a3).2.1
      have hKa : m_X3_at S 5 (nI a) = nI (K a) := hL.key a2 a3
      rw [a1, hKa, nI_1]
      by_cases c2 : k ≤ K a
      · rw [if_pos (by rw [nI_leI (by omega) (by omega)]; exact c2)]
        exact ⟨i, rfl, hi, hb, fun b hb2 => by rw [ha] at hb2; cases hb2; exact c2⟩
      · rw [if_neg (by rw [nI_leI (by omega) (by omega)]; exact c2)]
        refine ih (i + 1) (by omega) (by omega) (fun b hb2 => ?_)
        rw [List.take_add_one, ha] at hb2
        rcases List.mem_append.mp hb2 with h | h
        · exact hb b h
        · rw [show b = a by simpa using h]; omega
theorem note_eq (hL : Lg S N K V ord) {k : Nat} (hk : k < 10000) (hN1 : N + 1 < 512) (v : Int32) :
    ∃ S' ord', m_X1_note S (nI k) v = (nI (N + 1), S') ∧ Lg S' (N + 1) (kup K (N + 1) k) (vup V (N + 1) v) ord' ∧ fr [5, 6, 7] S S' ∧ (∀ a, a ∈ ord' ↔ a ∈ ord ∨ a = N + 1) := by
  obtain ⟨p, p1, p2, p3, p4⟩ := note_L hL hk (nI N + 1) v cs_N 0 (Nat.zero_le _) (by have := hL.N0; show _ < 4294967296; omega) (fun a ha => by rw [List.take_zero] at ha; cases ha)
  obtain ⟨hN, h7, hlen, hmem, hord, hkv⟩ := hL
  have h72 : (S.1 7).2 = N := by rw [h7.1, List.length_map, hlen]
  have e5 : m_X3_write S 5 (nI (N + 1)) (nI k) = cs_sR S 5 (rw_set (S.1 5) (N + 1) (nI k)) := write_eq (show N + 1 < 513 by omega)
  have e6 : ∀ S : cs_St, m_X3_write S 6 (nI (N + 1)) v = cs_sR S 6 (rw_set (S.1 6) (N + 1) v) := fun S => write_eq (show N + 1 < 513 by omega)
  have e7 : ∀ S : cs_St, (S.1 7).2 = N → m_X3_open S 7 (nI p) 1 = cs_sR S 7 (rw_opn (S.1 7) p 1) := fun S h => open_eq (w := 1) (by omega) (by decide) (by show _ ≤ 512; omega)
  have e8 : ∀ S : cs_St, m_X3_write S 7 (nI p) (nI (N + 1)) = cs_sR S 7 (rw_set (S.1 7) p (nI (N + 1))) := fun S => write_eq (show p < 512 by omega)
  refine ⟨cs_sR (cs_sR (cs_sR S 5 (rw_set (S.1 5) (N + 1) (nI k))) 6 (rw_set (S.1 6) (N + 1) v)) 7 (rw_set (rw_opn (S.1 7) p 1) p (nI (N + 1))), ord.take p ++ (N + 1) :: ord.drop p, ?_, ⟨hN1, ?_, ?_, ?_, ?_, ?_⟩, ?_, ?_⟩
  · rw [m_X1_note]
    simp only [cs_lx, len_eq, h72]
    have p1' : m_X1_note_L13 S (nI N + 1) (nI k) v cs_N 0 = nI p := p1
    rw [p1', nI_1, e5, e6, e7 _ (by rw [sR_ne (by decide), sR_ne (by decide)]; exact h72), e8, sR_sR, sR_self, sR_ne (show 7 ≠ 6 by decide), sR_ne (show 7 ≠ 5 by decide), sR_ne (show 6 ≠ 5 by decide)]
  · rw [sR_self]
    have := h7.ins (p := p) (by rw [List.length_map]; omega) (nI (N + 1))
    rw [List.map_append, List.map_cons, List.map_take, List.map_drop]
    exact this
  · rw [List.length_append, List.length_cons, List.length_take, List.length_drop]; omega
  · intro a
    have hsp : a ∈ ord ↔ a ∈ ord.take p ∨ a ∈ ord.drop p := by
      conv => lhs; rw [← List.take_append_drop p ord]
      exact List.mem_append
    rw [List.mem_append, List.mem_cons]
    constructor
    · rintro (h | h | h)
      · have := (hmem a).mp (hsp.mpr (Or.inl h)); omega
      · omega
      · have := (hmem a).mp (hsp.mpr (Or.inr h)); omega
    · intro h
      by_cases e : a = N + 1
      · exact Or.inr (Or.inl e)
      · rcases hsp.mp ((hmem a).mpr (by omega)) with h | h
        · exact Or.inl h
        · exact Or.inr (Or.inr h)
  · have hle : ∀ a ∈ ord, a < N + 1 := fun a ha => by have := (hmem a).mp ha; omega
    have hw := hord
    rw [← List.take_append_drop p ord] at hw
    obtain ⟨w1, w2, w3⟩ := List.pairwise_append.mp hw
    have tl : ∀ a ∈ ord.take p, a < N + 1 := fun a ha => hle a (List.mem_of_mem_take ha)
    have dl : ∀ a ∈ ord.drop p, a < N + 1 := fun a ha => hle a (List.mem_of_mem_drop ha)
    have dk : ∀ a ∈ ord.drop p, k ≤ K a := fun a ha => by
      obtain ⟨j, j1, j2⟩ := mem_dr ha
      have hpl : p < ord.length := by have := (List.getElem?_eq_some_iff.mp j2).1; omega
      have hb : ord[p]? = some ord[p] := List.getElem?_eq_getElem hpl
      have h1 := p4 _ hb
      by_cases e : j = p
      · rw [e, hb] at j2; cases j2; exact h1
      · obtain ⟨q1, q2⟩ := List.getElem?_eq_some_iff.mp j2
        have := List.pairwise_iff_getElem.mp hord p j hpl q1 (by omega)
        rw [q2] at this
        rcases this with h | ⟨h, -⟩ <;> omega
    refine List.pairwise_append.mpr ⟨w1.imp_of_mem (fun {a b} ha hb h => ?_), List.pairwise_cons.mpr ⟨fun a ha => ?_, w2.imp_of_mem (fun {a b} ha hb h => ?_)⟩, fun a ha b hb => ?_⟩
    · rw [kup_old (tl a ha), kup_old (tl b hb)]; exact h
    · rw [kup_new, kup_old (dl a ha)]
      have h1 := dk a ha
      have h2 := dl a ha
      omega
    · rw [kup_old (dl a ha), kup_old (dl b hb)]; exact h
    · rw [kup_old (tl a ha)]
      rcases List.mem_cons.mp hb with h | h
      · rw [h, kup_new]; exact Or.inl (p3 a ha)
      · rw [kup_old (dl b h)]; exact w3 a ha b h
  · intro a h1 h2
    rw [sR_ne (show 5 ≠ 7 by decide), sR_ne (show 5 ≠ 6 by decide), sR_self, sR_ne (show 6 ≠ 7 by decide), sR_self]
    by_cases e : a = N + 1
    · subst e
      rw [kup_new, vup_new]
      exact ⟨if_pos rfl, hk, if_pos rfl⟩
    · rw [kup_old (by omega), vup_old (by omega)]
      obtain ⟨x1, x2, x3⟩ := hkv a h1 (by omega)
      exact ⟨(if_neg e).trans x1, x2, (if_neg e).trans x3⟩
  · exact (fr.sR.mono (by simp)).tr ((fr.sR.mono (by simp)).tr (fr.sR.mono (by simp)))
  · intro a
    have hsp : a ∈ ord ↔ a ∈ ord.take p ∨ a ∈ ord.drop p := by
      conv => lhs; rw [← List.take_append_drop p ord]
      exact List.mem_append
    rw [hsp, List.mem_append, List.mem_cons]
    constructor
    · rintro (h | h | h)
      · exact Or.inl (Or.inl h)
      · exact Or.inr h
      · exact Or.inl (Or.inr h)
    · rintro ((h | h) | h)
      · exact Or.inl h
      · exact Or.inr (Or.inr h)
      · exact Or.inr (Or.inl h)
theorem fill_eq (hL : Lg S N K V ord) {sn W : List Nat} (hs : Ss S sn) (hW : LV (S.1 4) (W.map nI)) (hl : W.length ≤ 40) (hm : ∀ a ∈ W, 1 ≤ a ∧ a ≤ N) :
    LV ((m_X6_fillHand S).1 3) ((kn K (fun a => decide (a ∈ W)) sn 0 ord).map nI) ∧ fr [3, 17, 18] S (m_X6_fillHand S) := by
  have hN := hL.N0
  obtain ⟨b1, b2, b3, -⟩ := begin_eq S
  have e : m_X6_fillHand S = m_X3_copy (m_X2_keepNeeded (m_X2_gather (m_X2_begin S) 4 (nI 0) (nI W.length))) 3 18 := by
    rw [m_X6_fillHand]
    simp only [cs_lx, len_eq]
    rw [b1.2 4 (by decide), hW.1, List.length_map]
    rfl
  rw [e]
  generalize m_X2_begin S = S1 at b1 b2 b3
  obtain ⟨r, g1, g2⟩ := gather_eq (j := 4) (a := 0) (b := W.length) (l := W) S1 (by decide) hl (Nat.zero_le _) (Nat.le_refl _) (fun x hx => by have := hm x hx; omega) (by rw [b1.2 4 (by decide)]; exact hW)
  rw [g1]
  rw [List.take_length, List.drop_zero] at g2
  have f1 : fr [17] S1 (cs_sR S1 17 r) := fr.sR
  have h17 : (cs_sR S1 17 r).1 17 = r := sR_self
  have h18 : (cs_sR S1 17 r).1 18 = S1.1 18 := sR_ne (by decide)
  generalize cs_sR S1 17 r = S2 at f1 h17 h18
  have f2 : fr [17, 18] S S2 := b1.tr (f1.mono (by simp))
  obtain ⟨r2, k1, k2⟩ := keepNeeded_eq (S := S2) (G := fun a => decide (a ∈ W)) (sn := sn) (hL.mv f2 (by decide) (by decide) (by decide)) hs.2.1 hs.2.2 (by rw [f2.2 9 (by decide)]; exact hs.1) (fun a h1 h2 => by
    rw [h17, g2 a, b2 a (by omega)]
    by_cases h : a ∈ W
    · rw [if_pos h]; exact ⟨fun _ => decide_eq_true h, fun _ => rfl⟩
    · rw [if_neg h]; exact ⟨fun z => absurd z (by decide), fun z => absurd (of_decide_eq_true z) h⟩) (by rw [h18]; exact b3)
  rw [k1]
  have hk := kn_sub K (fun a => decide (a ∈ W)) sn ord 0
  have hkl : (kn K (fun a => decide (a ∈ W)) sn 0 ord).length ≤ 40 :=
    Nat.le_trans (List.Nodup.length_le_of_subset (ro_nd (ro_srt (hL.2.2.2.2.1.sublist hk.1))) (fun a ha => of_decide_eq_true (hk.2 a ha))) hl
  have f3 : fr [18] S2 (cs_sR S2 18 r2) := fr.sR
  have h182 : (cs_sR S2 18 r2).1 18 = r2 := sR_self
  generalize cs_sR S2 18 r2 = S3 at f3 h182
  obtain ⟨r3, c1, c2⟩ := copy_eq (j := 3) (j1 := 18) (l := (kn K (fun a => decide (a ∈ W)) sn 0 ord).map nI) S3 (by decide) (by rw [List.length_map]; exact hkl) (by rw [List.length_map]; show _ ≤ 512; omega) (by rw [h182]; exact k2)
  rw [c1, sR_self]
  exact ⟨c2, (f2.mono (by simp)).tr ((f3.mono (by simp)).tr (fr.sR.mono (by simp)))⟩
end
