/-! MATHEMATICS 14: the shape of the runs, and the two halves of a merging -/
def Apt (K : Nat → Nat) (R : List Run) : Prop := R.Pairwise (fun r s => ∀ a ∈ r.1, ∀ b ∈ s.1, K a < K b)
def Sm (K : Nat → Nat) (pc : Nat) (R : List Run) : Prop := ∀ r ∈ R, r.1.length ≤ pc ∨ ∀ a ∈ r.1, ∀ b ∈ r.1, K a = K b
def Shp (K : Nat → Nat) (L : Nat → List Run) (way pc : Nat) : Prop := (∀ r ∈ RS L, rok K r) ∧ (way ≠ 0 → ∀ lv, 1 ≤ lv → lv < 4 → Apt K (L lv) ∧ Sm K pc (L lv))
def Cf (S : cs_St) (way fan pc : Nat) : Prop := S.2 1 = nI way ∧ way ≤ 1 ∧ S.2 2 = nI fan ∧ 2 ≤ fan ∧ fan ≤ 4 ∧ S.2 3 = nI pc ∧ 1 ≤ pc ∧ pc ≤ 20
def Ss (S : cs_St) (sn : List Nat) : Prop := LV (S.1 9) (sn.map nI) ∧ sn.length ≤ 4 ∧ ∀ s ∈ sn, s < 512
theorem Cf.mv {S S' : cs_St} {way fan pc : Nat} (h : Cf S way fan pc) (e : S'.2 = S.2) : Cf S' way fan pc := by unfold Cf; rw [e]; exact h
theorem Ss.mv {S S' : cs_St} {sn : List Nat} (h : Ss S sn) (e : S'.1 9 = S.1 9) : Ss S' sn := by unfold Ss; rw [e]; exact h
theorem RS4 (L : Nat → List Run) : RS L = L 0 ++ (L 1 ++ (L 2 ++ L 3)) := by
  show L 0 ++ (L 1 ++ (L 2 ++ (L 3 ++ []))) = _
  rw [List.append_nil]
theorem lays_rok {K : Nat → Nat} {way pc : Nat} {b h : Int32} {lf : List Nat} {R : List Run} (hl : lays K way pc b h lf R) (hs : lf.Pairwise (srt K)) : ∀ r ∈ R, rok K r := by
  intro r hr
  obtain ⟨h1, h2, -, -⟩ := hl
  refine ⟨hs.sublist ?_, fun a ha => ?_⟩
  · rw [← h1]
    obtain ⟨x, y, e⟩ := List.append_of_mem hr
    rw [e, agz_app, agz_cons]
    exact (List.sublist_append_left _ _).trans (List.sublist_append_right _ _)
  · rw [(h2 r hr).2]
    exact psQ_q4 ha
theorem mem_agz {R : List Run} {a : Nat} : a ∈ agz R ↔ ∃ r ∈ R, a ∈ r.1 := List.mem_flatMap
section
variable {S : cs_St} {N : Nat} {K : Nat → Nat} {V : Nat → Int32} {ord : List Nat} {L : Nat → List Run} {sn : List Nat}
theorem keepdrop (hB : Bs S N K V ord L) (hs : Ss S sn) {T : List Nat} (h17 : ∀ a, 1 ≤ a → a ≤ N → ((S.1 17).1 a = 1 ↔ a ∈ T)) (h18 : LV (S.1 18) []) {f : Nat} (hf : f ≤ (agz (RS L)).length) {fp : cs_St → Int32} (hfp : ∀ r, fp (cs_sR S 18 r) = nI f) :
    ∃ r, m_X2_dropStones (m_X2_keepNeeded S) 10 (fp (m_X2_keepNeeded S)) = cs_sR S 18 r ∧ LV r ((mgl K V sn ord T ((agz (RS L)).drop f)).map nI) := by
  obtain ⟨hL, hSh, hin⟩ := hB
  obtain ⟨r, r1, r2⟩ := keepNeeded_eq (G := fun a => decide (a ∈ T)) hL hs.2.1 hs.2.2 hs.1 (fun a h1 h2 => (h17 a h1 h2).trans ⟨decide_eq_true, of_decide_eq_true⟩) h18
  have hk := (kn_sub K (fun a => decide (a ∈ T)) sn ord 0).1
  have hkl := hk.length_le
  have hf9 := hSh.fits
  have e17 : (cs_sR S 18 r).1 10 = S.1 10 := sR_ne (by decide)
  obtain ⟨r', q1, q2⟩ := dropStones_eq (S := cs_sR S 18 r) (f := f) (ag := agz (RS L)) (M := kn K (fun a => decide (a ∈ T)) sn 0 ord) (hL.mv (P := [18]) fr.sR (by decide) (by decide) (by decide)) (by rw [e17]; exact hSh.1) (by omega) hf hin (by have := hL.2.2.1; have := hL.N0; omega) (fun a ha => hL.mem (hk.subset ha)) (by rw [sR_self]; exact r2)
  refine ⟨r', ?_, q2⟩
  rw [r1, hfp, q1, sR_sR]
theorem lay_eq (hB : Bs S N K V ord L) {way fan pc : Nat} (hc : Cf S way fan pc) {lf : List Nat} (hlm : ∀ a ∈ lf, 1 ≤ a ∧ a ≤ N) (h18 : LV (S.1 18) (lf.map nI)) {lv pl : Nat} (hlv : lv < 4) (hpl : pl ≤ (L lv).length) (hfit : (agz (RS L)).length + lf.length < 512) :
    ∃ R, lays K way pc (S.2 4) (S.2 5) lf R ∧ Sh (m_X6_layPile (m_X3_raise S 0 4 1) (nI lv) (nI pl)) (Lset L lv ((L lv).take pl ++ (R ++ (L lv).drop pl))) ∧ fr [0, 10, 11, 12, 13, 14, 15, 16] S (m_X6_layPile (m_X3_raise S 0 4 1) (nI lv) (nI pl)) ∧ ((m_X6_layPile (m_X3_raise S 0 4 1) (nI lv) (nI pl)).1 0).2 = (S.1 0).2 ∧ (∀ k, k < 4 → ((m_X6_layPile (m_X3_raise S 0 4 1) (nI lv) (nI pl)).1 0).1 k = (S.1 0).1 k) ∧ ((m_X6_layPile (m_X3_raise S 0 4 1) (nI lv) (nI pl)).1 0).1 5 = (S.1 0).1 5 + nI lf.length := by
  obtain ⟨hL, hSh, hin⟩ := hB
  have hr : m_X3_raise S 0 4 1 = cs_sR S 0 (rw_set (S.1 0) 4 ((S.1 0).1 4 + 1)) := raise_eq (i := 4) (j := 0) (x := 1) (by decide)
  have hS1 : Sh (cs_sR S 0 (rw_set (S.1 0) 4 ((S.1 0).1 4 + 1))) L := hSh.mv (P := [0]) fr.sR (fun k hk => by have := List.mem_singleton.mp hk; omega)
  have hL1 : Lg (cs_sR S 0 (rw_set (S.1 0) 4 ((S.1 0).1 4 + 1))) N K V ord := hL.mv (P := [0]) fr.sR (by decide) (by decide) (by decide)
  have h181 : (cs_sR S 0 (rw_set (S.1 0) 4 ((S.1 0).1 4 + 1))).1 18 = S.1 18 := sR_ne (by decide)
  have hfr : fr [0] S (cs_sR S 0 (rw_set (S.1 0) 4 ((S.1 0).1 4 + 1))) := fr.sR
  have h0 : (cs_sR S 0 (rw_set (S.1 0) 4 ((S.1 0).1 4 + 1))).1 0 = rw_set (S.1 0) 4 ((S.1 0).1 4 + 1) := sR_self
  rw [hr]
  generalize cs_sR S 0 (rw_set (S.1 0) 4 ((S.1 0).1 4 + 1)) = S1 at hS1 hL1 h181 hfr h0
  have hc1 := hc.mv hfr.1
  obtain ⟨R, r1, r2, r3, r4, r5⟩ := layPile_eq (K := K) (lv := lv) (pl := pl) (way := way) (pc := pc) hL1 hS1 (by omega) hlm hlv (by have := hc.2.2.2.2.2.2.2; omega) (by rw [h181]; exact h18) hc1.1 hc.2.1 hc1.2.2.2.2.2.1 hpl hfit
  rw [hfr.1] at r1
  refine ⟨R, r1, r2, (hfr.mono (by simp)).tr r3, ?_, fun k hk => ?_, ?_⟩
  · rw [r4, h0]; rfl
  · rw [r5, h0, if_neg (by omega)]
    exact if_neg (by omega)
  · rw [r5, h0, if_pos rfl]
    rfl
end
