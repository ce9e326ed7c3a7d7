/-! MATHEMATICS 15: one merging with the way 0 -/
theorem Lset_at {L : Nat → List Run} {lv : Nat} {x : List Run} : Lset L lv x lv = x := if_pos rfl
theorem Lset_ne {L : Nat → List Run} {lv k : Nat} {x : List Run} (h : k ≠ lv) : Lset L lv x k = L k := if_neg h
theorem Lset2 {L : Nat → List Run} {lv : Nat} {x y : List Run} : Lset (Lset L lv x) lv y = Lset L lv y := by
  refine funext fun k => ?_
  by_cases h : k = lv
  · rw [h, Lset_at, Lset_at]
  · rw [Lset_ne h, Lset_ne h, Lset_ne h]
theorem RS_two (L : Nat → List Run) {lv : Nat} (h : lv < 3) : ∃ Z, RS L = pre L lv ++ (L lv ++ (L (lv + 1) ++ Z)) ∧ ∀ x y, RS (Lset (Lset L lv x) (lv + 1) y) = pre L lv ++ (x ++ (y ++ Z)) := by
  have p1 : pre L 1 = L 0 ++ [] := rfl
  have p2 : pre L 2 = L 0 ++ (L 1 ++ []) := rfl
  have p0 : pre L 0 = [] := rfl
  rcases (show lv = 0 ∨ lv = 1 ∨ lv = 2 by omega) with rfl | rfl | rfl
  · exact ⟨L 2 ++ L 3, by rw [RS4, p0]; rfl, fun x y => by rw [RS4, p0]; rfl⟩
  · exact ⟨L 3, by rw [RS4, p1, List.append_nil], fun x y => by rw [RS4, p1, List.append_nil]; rfl⟩
  · exact ⟨[], by rw [RS4, p2, List.append_nil, List.append_nil, List.append_assoc], fun x y => by rw [RS4, p2, List.append_nil, List.append_nil, List.append_assoc]; rfl⟩
theorem RS_mv (L : Nat → List Run) {lv nx : Nat} (h : (nx = lv + 1 ∧ lv < 3) ∨ (nx = 3 ∧ lv = 3)) : ∃ Z, RS L = pre L lv ++ (L lv ++ Z) ∧ RS (Lset L lv []) = pre L lv ++ Z ∧ ∀ R, RS (Lset (Lset L lv []) nx (R ++ (Lset L lv []) nx)) = pre L lv ++ (R ++ Z) := by
  rcases h with ⟨rfl, h⟩ | ⟨rfl, rfl⟩
  · obtain ⟨Z, z1, z2⟩ := RS_two L h
    refine ⟨L (lv + 1) ++ Z, z1, ?_, fun R => ?_⟩
    · have := z2 [] (L (lv + 1))
      rw [show Lset (Lset L lv []) (lv + 1) (L (lv + 1)) = Lset L lv [] from funext fun k => by
        by_cases e : k = lv + 1
        · rw [e, Lset_at, Lset_ne (by omega)]
        · rw [Lset_ne e]] at this
      exact this
    · rw [z2, Lset_ne (show lv + 1 ≠ lv by omega), List.nil_append, List.append_assoc]
  · obtain ⟨Z, z1, z2⟩ := RS_at L (show 3 < 4 by decide)
    have hZ : Z = [] := by
      have e := RS4 L
      rw [z1, show pre L 3 = L 0 ++ (L 1 ++ (L 2 ++ [])) from rfl, List.append_nil, List.append_assoc, List.append_assoc] at e
      have e2 := List.append_cancel_left (List.append_cancel_left (List.append_cancel_left e))
      have := congrArg List.length e2
      rw [List.length_append] at this
      exact List.eq_nil_of_length_eq_zero (by omega)
    refine ⟨[], ?_, ?_, fun R => ?_⟩
    · rw [z1, hZ]
    · rw [z2, hZ]; rfl
    · rw [Lset2, Lset_at, z2, hZ, List.append_nil]
theorem Sh.behind {S : cs_St} {L : Nat → List Run} (h : Sh S L) {lv : Nat} (hl : lv < 4) : m_X4_begin S (m_X4_first S (nI lv + 1)) = nI ((agz (pre L lv)).length + (agz (L lv)).length) := by
  have b2 := h.beginLv hl (i := (L lv).length) (Nat.le_refl _)
  rw [nI_add, List.take_length] at b2
  rw [nI_1, h.first (by omega), pre_succ, List.length_append, b2]
/-- what a settling, or a packing, keeps -/
def Kp (K : Nat → Nat) (V : Nat → Int32) (ord sn H : List Nat) (N way pc n : Nat) (S S' : cs_St) (L L' : Nat → List Run) : Prop :=
  Bs S' N K V ord L' ∧ Shp K L' way pc ∧ ro K (H ++ agz (RS L')) ∧ (∀ a ∈ agz (RS L'), a ∈ agz (RS L)) ∧ (∀ lim, (lim ∈ sn ∨ ∀ b ∈ H ++ agz (RS L), b ≤ lim) → ∀ k, rd K V (H ++ agz (RS L')) k lim = rd K V (H ++ agz (RS L)) k lim) ∧
    fr [0, 2, 10, 11, 12, 13, 14, 15, 16, 17, 18] S S' ∧ (∀ k, k < 4 → (S'.1 0).1 k = (S.1 0).1 k) ∧ (agz (RS L')).length ≤ (agz (RS L)).length ∧ ∃ e, (S'.1 0).1 5 = (S.1 0).1 5 + nI e ∧ e ≤ 512 * n
theorem Kp.tr {K : Nat → Nat} {V : Nat → Int32} {ord sn H : List Nat} {N way pc n m : Nat} {S S1 S2 : cs_St} {L L1 L2 : Nat → List Run} (h : Kp K V ord sn H N way pc n S S1 L L1) (g : Kp K V ord sn H N way pc m S1 S2 L1 L2) : Kp K V ord sn H N way pc (n + m) S S2 L L2 := by
  obtain ⟨-, -, -, a4, a5, a6, a7, a8, e, e1, e2⟩ := h
  obtain ⟨b1, b2, b3, b4, b5, b6, b7, b8, f, f1, f2⟩ := g
  refine ⟨b1, b2, b3, fun a ha => a4 a (b4 a ha), fun lim hl k => ?_, a6.tr b6, fun k hk => (b7 k hk).trans (a7 k hk), by omega, e + f, ?_, by omega⟩
  · rw [b5 lim (hl.imp id (fun h b hb => h b ?_)) k, a5 lim hl k]
    rcases List.mem_append.mp hb with hb | hb
    · exact List.mem_append_left _ hb
    · exact List.mem_append_right _ (a4 b hb)
  · rw [f1, e1, Int32.add_assoc, nI_add]
section
variable {S : cs_St} {N : Nat} {K : Nat → Nat} {V : Nat → Int32} {ord : List Nat} {L : Nat → List Run} {sn H : List Nat}
/-- the two halves together: what was taken is T1 and T2; L2 is what is left of the shelf -/
theorem fin (hB2 : Bs S N K V ord L) (hs : Ss S sn) {way fan pc : Nat} (hc : Cf S way fan pc) {T : List Nat} (hT : ∀ a ∈ T, 1 ≤ a ∧ a ≤ N) (h17 : ∀ a, 1 ≤ a → a ≤ N → ((S.1 17).1 a = 1 ↔ a ∈ T)) (h18 : LV (S.1 18) []) {lv nx pl : Nat} (hlv : lv < 4) (hnx : nx < 4) (hpl : pl ≤ (L nx).length) (hfit : (agz (RS L)).length + T.length < 512) :
    ∃ R S', m_X6_layPile (m_X3_raise (m_X2_dropStones (m_X2_keepNeeded S) 10 (m_X4_begin (m_X2_keepNeeded S) (m_X4_first (m_X2_keepNeeded S) (nI lv + 1)))) 0 4 1) (nI nx) (nI pl) = S' ∧
      lays K way pc (S.2 4) (S.2 5) (mgl K V sn ord T ((agz (RS L)).drop ((agz (pre L lv)).length + (agz (L lv)).length))) R ∧ Bs S' N K V ord (Lset L nx ((L nx).take pl ++ (R ++ (L nx).drop pl))) ∧ fr [0, 10, 11, 12, 13, 14, 15, 16, 18] S S' ∧ (∀ k, k < 4 → (S'.1 0).1 k = (S.1 0).1 k) ∧ (S'.1 0).1 5 = (S.1 0).1 5 + nI (mgl K V sn ord T ((agz (RS L)).drop ((agz (pre L lv)).length + (agz (L lv)).length))).length := by
  have hin := hB2.2.2
  obtain ⟨Z, zz, -⟩ := RS_at L hlv
  have hle : (agz (pre L lv)).length + (agz (L lv)).length ≤ (agz (RS L)).length := by
    rw [zz]; simp only [agz_app, List.length_append]; omega
  obtain ⟨r, r1, r2⟩ := keepdrop hB2 hs h17 h18 hle (fp := fun S => m_X4_begin S (m_X4_first S (nI lv + 1))) (fun r => Sh.behind (hB2.2.1.mv (P := [18]) fr.sR (fun k hk => by have := List.mem_singleton.mp hk; omega)) hlv)
  rw [r1]
  obtain ⟨m1, m2⟩ := mgl_sub (K := K) (V := V) (sn := sn) (ord := ord) T ((agz (RS L)).drop ((agz (pre L lv)).length + (agz (L lv)).length))
  have m3 := mgl_len (K := K) (V := V) (sn := sn) (T := T) (D := (agz (RS L)).drop ((agz (pre L lv)).length + (agz (L lv)).length)) hB2.1.2.2.2.2.1
  generalize mgl K V sn ord T ((agz (RS L)).drop ((agz (pre L lv)).length + (agz (L lv)).length)) = lf at r2 m1 m2 m3
  have hfr : fr [18] S (cs_sR S 18 r) := fr.sR
  have h18' : (cs_sR S 18 r).1 18 = r := sR_self
  have hB3 : Bs (cs_sR S 18 r) N K V ord L := hB2.mv hfr (fun k hk => by have := List.mem_singleton.mp hk; omega)
  generalize cs_sR S 18 r = S1 at hfr h18' hB3
  obtain ⟨R, q1, q2, q3, q4, q5, q6⟩ := lay_eq (pl := pl) hB3 (hc.mv hfr.1) (fun a ha => hT a (m2 a ha)) (by rw [h18']; exact r2) hnx hpl (by omega)
  generalize m_X6_layPile (m_X3_raise S1 0 4 1) (nI nx) (nI pl) = S2 at q2 q3 q4 q5 q6
  rw [hfr.1] at q1
  have hf2 : fr [0, 10, 11, 12, 13, 14, 15, 16, 18] S S2 := (hfr.mono (by simp)).tr (q3.mono (by simp))
  refine ⟨R, S2, rfl, q1, ⟨hB2.1.mv hf2 (by decide) (by decide) (by decide), q2, fun a ha => ?_⟩, hf2, fun k hk => ?_, ?_⟩
  · obtain ⟨Z2, z1, z2⟩ := RS_at L hnx
    rw [z2] at ha
    simp only [agz_app, List.mem_append] at ha
    have hsub : ∀ x, x ∈ agz (L nx) → x ∈ agz (RS L) := fun x hx => by rw [z1]; simp only [agz_app, List.mem_append]; exact Or.inr (Or.inl hx)
    rcases ha with ha | (ha | ha | ha) | ha
    · exact hin a (by rw [z1]; simp only [agz_app, List.mem_append]; exact Or.inl ha)
    · refine hin a (hsub a ?_)
      obtain ⟨r, hr, har⟩ := mem_agz.mp ha
      exact mem_agz.mpr ⟨r, List.mem_of_mem_take hr, har⟩
    · rw [q1.1] at ha
      exact hT a (m2 a ha)
    · refine hin a (hsub a ?_)
      obtain ⟨r, hr, har⟩ := mem_agz.mp ha
      exact mem_agz.mpr ⟨r, List.mem_of_mem_drop hr, har⟩
    · exact hin a (by rw [z1]; simp only [agz_app, List.mem_append]; exact Or.inr (Or.inr ha))
  · rw [q5 k hk, hfr.2 0 (by decide)]
  · rw [q6, hfr.2 0 (by decide)]
def mr0 (S : cs_St) (lv nx : Int32) : cs_St := m_X6_layPile (m_X3_raise (m_X2_dropStones (m_X2_keepNeeded (m_X6_takeLevel (m_X2_begin S) lv).2) 10 (m_X4_begin (m_X2_keepNeeded (m_X6_takeLevel (m_X2_begin S) lv).2) (m_X4_first (m_X2_keepNeeded (m_X6_takeLevel (m_X2_begin S) lv).2) (lv + 1)))) 0 4 1) nx (m_X6_takeLevel (m_X2_begin S) lv).1
theorem step0 (hB : Bs S N K V ord L) (hs : Ss S sn) {fan pc : Nat} (hc : Cf S 0 fan pc) (hsh : Shp K L 0 pc) (hro : ro K (H ++ agz (RS L))) {lv nx : Nat} (hlv : (nx = lv + 1 ∧ lv < 3) ∨ (nx = 3 ∧ lv = 3)) :
    ∃ L', Kp K V ord sn H N 0 pc 1 S (mr0 S (nI lv) (nI nx)) L L' ∧ (RS L').length + (L lv).length ≤ (RS L).length + 1 := by
  have hl4 : lv < 4 := by omega
  obtain ⟨b1, b2, b3, -⟩ := begin_eq S
  have hB1 : Bs (m_X2_begin S) N K V ord L := hB.mv b1 (fun k hk => by simp at hk; omega)
  have hs1 : Ss (m_X2_begin S) sn := hs.mv (b1.2 9 (by decide))
  have hc1 : Cf (m_X2_begin S) 0 fan pc := hc.mv b1.1
  have htl : m_X6_takeLevel (m_X2_begin S) (nI lv) = (0, m_X6_takeRuns (m_X2_begin S) (nI lv) (nI 0) (nI (L lv).length)) := by
    rw [m_X6_takeLevel]
    simp only [cs_lx]
    rw [hB1.2.1.count hl4]
    rfl
  rw [mr0, htl]
  generalize m_X2_begin S = S1 at b1 b2 b3 hB1 hs1 hc1
  obtain ⟨t1, t2, t3⟩ := hB1.takeRuns hl4 (Nat.zero_le (L lv).length) (Nat.le_refl _)
  generalize m_X6_takeRuns S1 (nI lv) (nI 0) (nI (L lv).length) = S2 at t1 t2 t3
  rw [List.take_zero, List.drop_of_length_le (Nat.le_refl _), List.nil_append] at t1
  rw [List.take_length, List.drop_zero] at t3
  obtain ⟨Z, z1, z2, z3⟩ := RS_mv L hlv
  have hin := hB.2.2
  have hT : ∀ a ∈ agz (L lv), 1 ≤ a ∧ a ≤ N := fun a ha => hin a (by rw [z1]; simp only [agz_app, List.mem_append]; exact Or.inr (Or.inl ha))
  have hB2 : Bs S2 N K V ord (Lset L lv []) := ⟨hB1.1.mv t2 (by decide) (by decide) (by decide), t1, fun a ha => hin a (by
    rw [z2] at ha; rw [z1]
    simp only [agz_app, List.mem_append] at ha ⊢
    rcases ha with h | h
    · exact Or.inl h
    · exact Or.inr (Or.inr h))⟩
  have hfits := hB.2.1.fits
  have hlen : (agz (RS L)).length = (agz (pre L lv)).length + ((agz (L lv)).length + (agz Z).length) := by rw [z1]; simp only [agz_app, List.length_append]
  have hlen2 : (agz (RS (Lset L lv []))).length = (agz (pre L lv)).length + (agz Z).length := by rw [z2]; simp only [agz_app, List.length_append]
  obtain ⟨R, S', e1, e2, e3, e4, e5, e6⟩ := fin (T := agz (L lv)) (lv := lv) (nx := nx) (pl := 0) hB2 (hs1.mv (t2.2 9 (by decide))) (hc1.mv t2.1) hT (fun a h1 h2 => by
    have hN := hB.1.N0
    rw [t3 a, b2 a (by omega)]
    by_cases h : a ∈ agz (L lv)
    · rw [if_pos h]; exact ⟨fun _ => h, fun _ => rfl⟩
    · rw [if_neg h]; exact ⟨fun z => absurd z (by decide), fun z => absurd z h⟩) (by rw [t2.2 18 (by decide)]; exact b3) hl4 (by omega) (Nat.zero_le _) (by omega)
  rw [show ((0 : Int32), S2).2 = S2 from rfl, show ((0 : Int32), S2).1 = nI 0 from rfl, e1]
  rw [List.take_zero, List.drop_zero, List.nil_append] at e3
  have hpre : pre (Lset L lv []) lv = pre L lv := pre_set L lv [] lv (Nat.le_refl _)
  have hD : (agz (RS (Lset L lv []))).drop ((agz (pre (Lset L lv []) lv)).length + (agz (Lset L lv [] lv)).length) = agz Z := by
    rw [hpre, Lset_at, agz_nil, List.length_nil, Nat.add_zero, z2, agz_app, List.drop_left]
  rw [hD] at e2 e6
  have hord := hB.1.2.2.2.2.1
  have hC : ro K ((H ++ agz (pre L lv)) ++ (agz (L lv) ++ ([] ++ ([] ++ agz Z)))) := by
    rw [z1] at hro
    simp only [agz_app, List.append_assoc, List.nil_append] at hro ⊢
    exact hro
  obtain ⟨g1, g2, g3⟩ := mg (V := V) (sn := sn) (D := agz Z) hord (fun a ha => (hB.1.mem ha).1) hC (fun a ha => by
    rcases ha with ha | ha
    · exact (hB.1.2.2.2.1 a).mpr (hT a ha)
    · cases ha) (fun a _ b hb => by cases hb) (fun b hb => hb)
  rw [List.append_nil] at g1 g2 g3
  have hml := mgl_len (K := K) (V := V) (sn := sn) (T := agz (L lv)) (D := agz Z) hord
  obtain ⟨hsub, hmT⟩ := mgl_sub (K := K) (V := V) (sn := sn) (ord := ord) (agz (L lv)) (agz Z)
  generalize mgl K V sn ord (agz (L lv)) (agz Z) = lf at e2 e6 g1 g2 g3 hml hsub hmT
  have hRS : agz (RS (Lset (Lset L lv []) nx (R ++ Lset L lv [] nx))) = agz (pre L lv) ++ (lf ++ agz Z) := by
    rw [z3, agz_app, agz_app, e2.1]
  have hCe : H ++ agz (RS L) = (H ++ agz (pre L lv)) ++ (agz (L lv) ++ ([] ++ ([] ++ agz Z))) := by
    rw [z1]; simp only [agz_app, List.append_assoc, List.nil_append]
  have hCe' : H ++ agz (RS (Lset (Lset L lv []) nx (R ++ Lset L lv [] nx))) = (H ++ agz (pre L lv)) ++ ([] ++ (lf ++ agz Z)) := by
    rw [hRS]; simp only [List.append_assoc, List.nil_append]
  refine ⟨_, ⟨e3, ⟨fun r hr => ?_, fun z => absurd rfl z⟩, by rw [hCe']; exact g1, fun a ha => ?_, fun lim hl k => ?_, ?_, fun k hk => ?_, ?_, lf.length, ?_, by omega⟩, ?_⟩
  · rw [z3] at hr
    rcases List.mem_append.mp hr with hr | hr
    · exact hsh.1 r (by rw [z1]; exact List.mem_append_left _ hr)
    · rcases List.mem_append.mp hr with hr | hr
      · exact lays_rok e2 (hord.sublist hsub) r hr
      · exact hsh.1 r (by rw [z1]; simp [hr])
  · rw [hRS] at ha
    rw [z1]
    simp only [agz_app, List.mem_append] at ha ⊢
    rcases ha with h | h | h
    · exact Or.inl h
    · exact Or.inr (Or.inl (hmT a h))
    · exact Or.inr (Or.inr h)
  · rw [hCe', hCe]
    refine g3 lim (hl.imp id (fun h => ?_)) k
    rw [← hCe]; exact h
  · exact (b1.mono (by simp)).tr ((t2.mono (by simp)).tr (e4.mono (by simp)))
  · rw [e5 k hk, t2.2 0 (by decide), b1.2 0 (by decide)]
  · rw [hRS, hlen]; simp only [List.length_append]; omega
  · rw [e6, t2.2 0 (by decide), b1.2 0 (by decide)]
  · rw [z3, z1]
    have := e2.2.2.1 rfl
    simp only [List.length_append]
    omega
end
