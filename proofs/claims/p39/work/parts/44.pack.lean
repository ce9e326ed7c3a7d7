/-! MATHEMATICS 25: packing: what it would save, and what it does -/
section
variable {S : cs_St} {N : Nat} {K : Nat → Nat} {V : Nat → Int32} {ord : List Nat} {L : Nat → List Run} {sn H W : List Nat} {sf way fan pc wide b : Nat}
def fpk (way lv : Nat) : Nat := if way = 0 then lv else 0
def tpk (L : Nat → List Run) (way lv : Nat) : List Nat := (agz (RS L)).drop (agz (pre L (fpk way lv))).length
theorem fpk_lt {way lv : Nat} (h : lv < 4) : fpk way lv < 4 := by unfold fpk; split <;> omega
theorem tpk_is (L : Nat → List Run) (way lv : Nat) (h : lv < 4) : ∃ X, RS L = pre L (fpk way lv) ++ X ∧ tpk L way lv = agz X := by
  obtain ⟨X, hX⟩ := pre_le L (show fpk way lv ≤ 4 by have := fpk_lt (way := way) h; omega)
  have hX' : RS L = pre L (fpk way lv) ++ X := hX
  exact ⟨X, hX', by unfold tpk; rw [hX', agz_app, List.drop_left]⟩
theorem plan_eq (hI : Iv S N K V ord L sn H W sf way fan pc) {lv : Nat} (hl : lv < 4) :
    ∃ S', m_X6_planPack S (nI lv) = (nI ((tpk L way lv).length - (mgl K V sn ord (tpk L way lv) []).length), S') ∧ fr [17, 18] S S' ∧ LV (S'.1 18) ((mgl K V sn ord (tpk L way lv) []).map nI) := by
  obtain ⟨⟨hB, hs, hc, hsh, hro⟩, -⟩ := hI
  have hN := hB.1.N0
  have hfit := hB.2.1.fits
  have hf4 := fpk_lt (way := way) hl
  obtain ⟨X, hX, hT⟩ := tpk_is L way lv hl
  have hfp : m_X6_firstPacked S (nI lv) = nI (fpk way lv) := by
    rw [m_X6_firstPacked, hc.1]
    have hw := hc.2.1
    unfold fpk
    by_cases c : way = 0
    · rw [if_pos (by rw [nI_eq0 (by omega)]; exact c), if_pos c]
    · rw [if_neg (by rw [nI_eq0 (by omega)]; exact c), if_neg c]; rfl
  have hbg : m_X4_begin S (nI (pre L (fpk way lv)).length) = nI (agz (pre L (fpk way lv))).length := by
    have := hB.2.1.begin (i := (pre L (fpk way lv)).length) (by rw [hX, List.length_append]; omega)
    rw [hX, List.take_left] at this
    exact this
  have hle : (agz (pre L (fpk way lv))).length + (tpk L way lv).length = (agz (RS L)).length := by rw [hT, hX, agz_app, List.length_append]
  obtain ⟨b1, b2, b3, -⟩ := begin_eq S
  have hB1 : Bs (m_X2_begin S) N K V ord L := hB.mv b1 (fun k hk => by simp at hk; omega)
  have e1 : m_X6_planPack S (nI lv) = (nI (agz (RS L)).length - nI (agz (pre L (fpk way lv))).length - nI ((m_X2_dropStones (m_X2_keepNeeded (m_X2_gather (m_X2_begin S) 10 (nI (agz (pre L (fpk way lv))).length) (nI (agz (RS L)).length))) 10 (nI (agz (RS L)).length)).1 18).2, m_X2_dropStones (m_X2_keepNeeded (m_X2_gather (m_X2_begin S) 10 (nI (agz (pre L (fpk way lv))).length) (nI (agz (RS L)).length))) 10 (nI (agz (RS L)).length)) := by
    rw [m_X6_planPack]
    simp only [cs_lx]
    rw [hfp, hB.2.1.first (show fpk way lv ≤ 4 by omega), hbg, hB.2.1.ents, len_eq]
  rw [e1]
  generalize m_X2_begin S = S1 at b1 b2 b3 hB1
  obtain ⟨r, g1, g2⟩ := gather_eq (j := 10) (a := (agz (pre L (fpk way lv))).length) (b := (agz (RS L)).length) (l := agz (RS L)) S1 (by decide) (by show _ ≤ 512; omega) (by omega) (Nat.le_refl _) (fun x hx => by have := hB.2.2 x hx; omega) hB1.2.1.1
  rw [List.take_length] at g2
  rw [g1]
  have f1 : fr [17] S1 (cs_sR S1 17 r) := fr.sR
  have h17 : (cs_sR S1 17 r).1 17 = r := sR_self
  have h18 : (cs_sR S1 17 r).1 18 = S1.1 18 := sR_ne (by decide)
  generalize cs_sR S1 17 r = S2 at f1 h17 h18
  have f2 : fr [17, 18] S S2 := b1.tr (f1.mono (by simp))
  obtain ⟨r2, k1, k2⟩ := keepdrop (T := tpk L way lv) (f := (agz (RS L)).length) (fp := fun _ => nI (agz (RS L)).length) (hB.mv f2 (fun k hk => by simp at hk; omega)) (hs.mv (f2.2 9 (by decide))) (fun a h1 h2 => by
    rw [h17, g2 a, b2 a (by omega)]
    show (if a ∈ tpk L way lv then (1 : Int32) else 0) = 1 ↔ _
    by_cases h : a ∈ tpk L way lv
    · rw [if_pos h]; exact ⟨fun _ => h, fun _ => rfl⟩
    · rw [if_neg h]; exact ⟨fun z => absurd z (by decide), fun z => absurd z h⟩) (by rw [h18]; exact b3) (Nat.le_refl _) (fun _ => rfl)
  rw [List.drop_length] at k2
  have k1' : m_X2_dropStones (m_X2_keepNeeded S2) 10 (nI (agz (RS L)).length) = cs_sR S2 18 r2 := k1
  rw [k1', sR_self]
  have hml := mgl_len (K := K) (V := V) (sn := sn) (T := tpk L way lv) (D := []) hB.1.2.2.2.2.1
  refine ⟨cs_sR S2 18 r2, ?_, f2.tr ((fr.sR (j := 18) (r := r2)).mono (by simp)), by rw [sR_self]; exact k2⟩
  rw [k2.1, List.length_map]
  have : nI (agz (RS L)).length - nI (agz (pre L (fpk way lv))).length = nI (tpk L way lv).length := by rw [← hle, ← nI_add, i32_as]
  rw [this]
  have h2 : nI (tpk L way lv).length = nI (mgl K V sn ord (tpk L way lv) []).length + nI ((tpk L way lv).length - (mgl K V sn ord (tpk L way lv) []).length) := by
    rw [nI_add, Nat.add_sub_cancel' hml]
  rw [h2, i32_as]
theorem empt_L (u3 u2 u1 : Int32) : ∀ (n v : Nat) (S : cs_St) (L : Nat → List Run), Sh S L → v ≤ 4 → 4 - v < n →
    ∃ L', Sh (m_X6_pack_L39 u3 u2 u1 n (nI v) S).2 L' ∧ fr [10, 11, 12, 13, 14, 15, 16] S (m_X6_pack_L39 u3 u2 u1 n (nI v) S).2 ∧ (∀ l, l < v → L' l = L l) ∧ ∀ l, v ≤ l → l < 4 → L' l = [] := by
  intro n
  induction n with
  | zero => intro v S L _ _ h; exact absurd h (Nat.not_lt_zero _)
  | succ n ih =>
    intro v S L hS hv hn
    rw [m_X6_pack_L39]
    by_cases c : 4 ≤ v
    · rw [if_pos (show (4 : Int32) ≤ nI v by rw [show (4 : Int32) = nI 4 from rfl, nI_leI (by omega) (by omega)]; exact c)]
      exact ⟨L, hS, fr.rf, fun _ _ => rfl, fun l h1 h2 => by omega⟩
    · rw [if_neg (show ¬ (4 : Int32) ≤ nI v by rw [show (4 : Int32) = nI 4 from rfl, nI_leI (by omega) (by omega)]; exact c)]
      simp only [cs_lx]
      rw [hS.count (by omega), nI_1]
      obtain ⟨c1, c2⟩ := cut_shelf hS (lv := v) (f := 0) (t := (L v).length) (by omega) (Nat.zero_le _) (Nat.le_refl _)
      rw [List.take_zero, List.drop_of_length_le (Nat.le_refl _), List.nil_append] at c1
      have e0 : m_X4_cut S (nI v) 0 (nI (L v).length) = m_X4_cut S (nI v) (nI 0) (nI (L v).length) := by rw [show (0 : Int32) = nI 0 from rfl]
      rw [e0]
      generalize m_X4_cut S (nI v) (nI 0) (nI (L v).length) = S1 at c1 c2
      obtain ⟨L', d1, d2, d3, d4⟩ := ih (v + 1) S1 (Lset L v []) c1 (by omega) (by omega)
      refine ⟨L', d1, c2.tr d2, fun l h => ?_, fun l h1 h2 => ?_⟩
      · rw [d3 l (by omega), Lset_ne (by omega)]
      · by_cases e : l = v
        · rw [d3 l (by omega), e, Lset_at]
        · exact d4 l (by omega) h2
theorem RS_pack {L L' : Nat → List Run} {f : Nat} (hf : f < 4) (h1 : ∀ l, l < f → L' l = L l) (h2 : ∀ l, f ≤ l → l < 4 → L' l = []) (R : List Run) : RS (Lset L' 3 R) = pre L f ++ R := by
  have p1 : pre L 1 = L 0 ++ [] := rfl
  have p2 : pre L 2 = L 0 ++ (L 1 ++ []) := rfl
  have p3 : pre L 3 = L 0 ++ (L 1 ++ (L 2 ++ [])) := rfl
  have p0 : pre L 0 = [] := rfl
  rw [RS4, Lset_at, Lset_ne (show 0 ≠ 3 by decide), Lset_ne (show 1 ≠ 3 by decide), Lset_ne (show 2 ≠ 3 by decide)]
  rcases (show f = 0 ∨ f = 1 ∨ f = 2 ∨ f = 3 by omega) with rfl | rfl | rfl | rfl
  · rw [h2 0 (by decide) (by decide), h2 1 (by decide) (by decide), h2 2 (by decide) (by decide), p0]; rfl
  · rw [h1 0 (by decide), h2 1 (by decide) (by decide), h2 2 (by decide) (by decide), p1, List.append_nil]; rfl
  · rw [h1 0 (by decide), h1 1 (by decide), h2 2 (by decide) (by decide), p2, List.append_nil, List.append_assoc]; rfl
  · rw [h1 0 (by decide), h1 1 (by decide), h1 2 (by decide), p3, List.append_nil, List.append_assoc, List.append_assoc]
theorem op_pack (hG : Gd S N K V ord L sn H W sf way fan pc wide b) {lv : Nat} (hl : lv < 4) :
    ∃ S' L' p, m_X6_pack S (nI lv) = (nI p, S') ∧ (m_X6_planPack S (nI lv)).1 = nI p ∧ p ≤ (agz (RS L)).length ∧ (agz (RS L')).length = (agz (RS L)).length - p ∧ Gd S' N K V ord L' sn H W sf way fan pc wide (b + 512) ∧ (∀ lim, (lim ∈ sn ∨ lim = N) → ∀ q, rd K V (H ++ agz (RS L')) q lim = rd K V (H ++ agz (RS L)) q lim) ∧ fr [0, 10, 11, 12, 13, 14, 15, 16, 17, 18] S S' := by
  obtain ⟨hI, hF, hK, d, s, al, ⟨y1, y2, y3, y4, y5, y6⟩, hb1, hb2⟩ := hG
  obtain ⟨S1, q1, q2, q3⟩ := plan_eq hI hl
  have hI0 := hI
  obtain ⟨⟨hB, hs, hc, hsh, hro⟩, ⟨hH3, hW4, hsf, hsfl, hWl⟩, ⟨hHe, hWm, hWp⟩, hn, hsn⟩ := hI
  obtain ⟨X, hX, hT⟩ := tpk_is L way lv hl
  have hf4 := fpk_lt (way := way) hl
  have hord := hB.1.2.2.2.2.1
  have hB1 : Bs S1 N K V ord L := hB.mv q2 (fun k hk => by simp at hk; omega)
  have hc1 := hc.mv q2.1
  have hfit := hB.2.1.fits
  have hnR := hB.2.1.nR
  have hfp : m_X6_firstPacked S1 (nI lv) = nI (fpk way lv) := by
    rw [m_X6_firstPacked, hc1.1]
    have hw := hc.2.1
    unfold fpk
    by_cases c : way = 0
    · rw [if_pos (by rw [nI_eq0 (by omega)]; exact c), if_pos c]
    · rw [if_neg (by rw [nI_eq0 (by omega)]; exact c), if_neg c]; rfl
  have hXl : (RS L).length = (pre L (fpk way lv)).length + X.length := by rw [hX, List.length_append]
  have hag : (agz (RS L)).length = (agz (pre L (fpk way lv))).length + (agz X).length := by rw [hX, agz_app, List.length_append]
  have e0 : m_X6_pack S (nI lv) = if nI (pre L (fpk way lv)).length = nI (RS L).length then (0, S1) else (nI ((tpk L way lv).length - (mgl K V sn ord (tpk L way lv) []).length), m_X6_layPile (m_X3_raise (m_X6_pack_L39 (nI (fpk way lv)) (nI ((tpk L way lv).length - (mgl K V sn ord (tpk L way lv) []).length)) (nI lv) cs_N (nI (fpk way lv)) S1).2 0 4 1) (nI 3) (nI 0)) := by
    rw [m_X6_pack]
    simp only [cs_lx]
    rw [q1]
    show (if m_X4_first S1 (m_X6_firstPacked S1 (nI lv)) = m_X4_total S1 then (0, S1) else (_, m_X6_layPile (m_X3_raise (m_X6_pack_L39 (m_X6_firstPacked S1 (nI lv)) _ _ cs_N (m_X6_firstPacked S1 (nI lv)) S1).2 0 4 1) 3 0)) = _
    rw [hfp, hB1.2.1.first (show fpk way lv ≤ 4 by omega), hB1.2.1.total]
    rfl
  rw [e0, q1]
  have hml := mgl_len (K := K) (V := V) (sn := sn) (T := tpk L way lv) (D := []) hord
  obtain ⟨hsub, hmT⟩ := mgl_sub (K := K) (V := V) (sn := sn) (ord := ord) (tpk L way lv) []
  rw [hT] at hml hmT hsub q3 ⊢
  by_cases c : X.length = 0
  · have hXn : X = [] := List.eq_nil_of_length_eq_zero c
    rw [if_pos (by rw [hXl, c, Nat.add_zero])]
    subst hXn
    refine ⟨S1, L, 0, rfl, ?_, Nat.zero_le _, by omega, ⟨hI0.mv (fun i _ => by rw [q2.1]) (fun k hk => q2.2 k (fun z => hk (by simp at z ⊢; omega))), hF, hK, d, s, al, ?_, by omega, by omega⟩, fun _ _ _ => rfl, q2.mono (by simp)⟩
    · rw [agz_nil, List.length_nil, Nat.zero_sub]
    · unfold Ty
      rw [q2.2 0 (by decide)]
      exact ⟨y1, y2, y3, y4, y5, y6⟩
  · rw [if_neg (by rw [nI_eq (by omega) (by omega)]; omega)]
    obtain ⟨L1, p1, p2, p3, p4⟩ := empt_L (nI (fpk way lv)) (nI ((agz X).length - (mgl K V sn ord (agz X) []).length)) (nI lv) cs_N (fpk way lv) S1 L hB1.2.1 (by omega) (by show _ < 4294967296; omega)
    generalize (m_X6_pack_L39 (nI (fpk way lv)) (nI ((agz X).length - (mgl K V sn ord (agz X) []).length)) (nI lv) cs_N (nI (fpk way lv)) S1).2 = S2 at p1 p2
    have hr1 : ∀ R, RS (Lset L1 3 R) = pre L (fpk way lv) ++ R := fun R => RS_pack hf4 p3 p4 R
    have h13 : L1 3 = [] := p4 3 (by omega) (by decide)
    have hRS1 : RS L1 = pre L (fpk way lv) := by
      have := hr1 []
      rw [List.append_nil, show Lset L1 3 [] = L1 from funext fun k => by
        by_cases e : k = 3
        · rw [e, Lset_at, h13]
        · rw [Lset_ne e]] at this
      exact this
    have hin : ∀ a, a ∈ agz (pre L (fpk way lv)) ∨ a ∈ agz X → 1 ≤ a ∧ a ≤ N := fun a ha => hB.2.2 a (by rw [hX, agz_app]; exact List.mem_append.mpr ha)
    have hB2 : Bs S2 N K V ord L1 := ⟨hB1.1.mv p2 (by decide) (by decide) (by decide), p1, fun a ha => hin a (Or.inl (by rw [hRS1] at ha; exact ha))⟩
    obtain ⟨R, l1, l2, l3, -, l4, l5⟩ := lay_eq (lv := 3) (pl := 0) (lf := mgl K V sn ord (agz X) []) hB2 (hc1.mv p2.1) (fun a ha => hin a (Or.inr (hmT a ha))) (by rw [p2.2 18 (by decide)]; exact q3) (by decide) (Nat.zero_le _) (by rw [hRS1]; omega)
    rw [List.take_zero, List.drop_zero, List.nil_append, h13, List.append_nil] at l2
    generalize m_X6_layPile (m_X3_raise S2 0 4 1) (nI 3) (nI 0) = S3 at l2 l3 l4 l5
    have hf3 : fr [0, 10, 11, 12, 13, 14, 15, 16, 17, 18] S S3 := (q2.mono (by simp)).tr ((p2.mono (by simp)).tr (l3.mono (by simp)))
    have hroH : ro K (H ++ agz (RS L)) := by rw [hHe]; exact ro_H hord hro hn
    have hCe : H ++ agz (RS L) = (H ++ agz (pre L (fpk way lv))) ++ (agz X ++ ([] ++ ([] ++ []))) := by
      rw [hX]; simp only [agz_app, List.append_assoc, List.nil_append, List.append_nil]
    obtain ⟨g1, g2, g3⟩ := mg (V := V) (sn := sn) (D := []) hord (fun a ha => (hB.1.mem ha).1) (by rw [← hCe]; exact hroH) (fun a ha => (hB.1.2.2.2.1 a).mpr (hin a (ha.elim Or.inr (fun z => by cases z)))) (fun a _ b hb => by cases hb) (fun b hb => hb)
    have eX : agz X ++ [] = agz X := List.append_nil _
    rw [eX] at g1 g2 g3
    have hRa : agz (RS (Lset L1 3 R)) = agz (pre L (fpk way lv)) ++ mgl K V sn ord (agz X) [] := by rw [hr1, agz_app, l1.1]
    have hCe' : H ++ agz (RS (Lset L1 3 R)) = (H ++ agz (pre L (fpk way lv))) ++ ([] ++ (mgl K V sn ord (agz X) [] ++ [])) := by
      rw [hRa]; simp only [List.append_assoc, List.nil_append, List.append_nil]
    generalize mgl K V sn ord (agz X) [] = lf at *
    have hsubRS : ∀ a ∈ agz (RS (Lset L1 3 R)), a ∈ agz (RS L) := fun a ha => by
      rw [hRa] at ha
      rw [hX, agz_app]
      exact List.mem_append.mpr ((List.mem_append.mp ha).imp id (hmT a))
    have hlen' : (agz (RS (Lset L1 3 R))).length = (agz (pre L (fpk way lv))).length + lf.length := by rw [hRa, List.length_append]
    have hall : ∀ x ∈ H ++ agz (RS L), x ≤ N := fun x hx => by
      rcases List.mem_append.mp hx with h | h
      · rw [hHe] at h
        exact (kn_in hWm x h).2
      · exact (hB.2.2 x h).2
    refine ⟨S3, Lset L1 3 R, (agz X).length - lf.length, rfl, rfl, by omega, by omega, ⟨⟨⟨⟨hB.1.mv hf3 (by decide) (by decide) (by decide), l2, fun a ha => hB.2.2 a (hsubRS a ha)⟩, hs.mv (hf3.2 9 (by decide)), hc.mv hf3.1, ⟨fun r hr => ?_, fun hw v h1 h4 => ?_⟩, ?_⟩, ⟨by rw [hf3.2 3 (by decide)]; exact hH3, by rw [hf3.2 4 (by decide)]; exact hW4, by rw [hf3.1]; exact hsf, hsfl, hWl⟩, ⟨hHe, hWm, hWp⟩, fun a ha x hx => hn a ha x (hsubRS x hx), hsn⟩, fun v hv => ?_, hK, d + lf.length, s, al, ⟨?_, ?_, y3, ?_, ?_, by omega⟩, by omega, by omega⟩, fun lim hlim q => ?_, hf3⟩
    · rw [hr1] at hr
      rcases List.mem_append.mp hr with h | h
      · exact hsh.1 r (by rw [hX]; exact List.mem_append_left _ h)
      · exact lays_rok l1 (hord.sublist hsub) r h
    · have hf0 : fpk way lv = 0 := by unfold fpk; rw [if_neg hw]
      by_cases e : v = 3
      · rw [e, Lset_at]
        obtain ⟨x1, x2⟩ := l1.2.2.2 hw
        exact ⟨x1.imp (fun h a ha b hb => h a ha b hb (hord.sublist hsub)), x2⟩
      · rw [Lset_ne e, p4 v (by omega) h4]
        exact ⟨List.Pairwise.nil, fun r hr => by cases hr⟩
    · have := g1
      rw [← hCe'] at this
      exact (ro_app.mp this).2.1
    · have hfan := hc.2.2.2.1
      by_cases e : v = 3
      · unfold Ful
        rw [e, Lset_at]
        by_cases hw : way = 0
        · rw [if_pos (Or.inl hw)]
          have := l1.2.2.1 hw
          omega
        · rw [if_neg (show ¬ (way = 0 ∨ 3 = 0) by omega), if_pos rfl]
          exact id
      · by_cases h : v < fpk way lv
        · have h1 := hF v hv
          unfold Ful at h1 ⊢
          rw [Lset_ne e, p3 v h]
          exact h1
        · unfold Ful
          rw [Lset_ne e, p4 v (by omega) hv]
          by_cases hw : way = 0 ∨ v = 0
          · rw [if_pos hw, List.length_nil]; omega
          · rw [if_neg hw, if_neg e, agz_nil]; exact Nat.not_lt_zero _
    · rw [l4 1 (by decide), p2.2 0 (by decide), q2.2 0 (by decide)]; exact y1
    · rw [l4 2 (by decide), p2.2 0 (by decide), q2.2 0 (by decide)]; exact y2
    · rw [l4 3 (by decide), p2.2 0 (by decide), q2.2 0 (by decide)]; exact y4
    · rw [l5, p2.2 0 (by decide), q2.2 0 (by decide), y5, nI_add]
    · rw [hCe', hCe]
      refine g3 lim (hlim.imp id (fun e x hx => ?_)) q
      rw [← hCe] at hx
      have := hall x hx
      omega
end
