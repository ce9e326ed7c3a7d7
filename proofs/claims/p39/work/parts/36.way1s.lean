/-! MATHEMATICS 17: one merging with the way 1, whole -/
def Phi (L : Nat → List Run) : Nat := 4 * (agz (L 0)).length + (3 * (agz (L 1)).length + (2 * (agz (L 2)).length + (agz (L 3)).length))
def mr1 (S : cs_St) (lv nx : Int32) : cs_St := m_X6_layPile (m_X3_raise (m_X2_dropStones (m_X2_keepNeeded (m_X6_takePart (m_X2_begin S) lv).2) 10 (m_X4_begin (m_X2_keepNeeded (m_X6_takePart (m_X2_begin S) lv).2) (m_X4_first (m_X2_keepNeeded (m_X6_takePart (m_X2_begin S) lv).2) (lv + 1)))) 0 4 1) nx (m_X6_takePart (m_X2_begin S) lv).1
section
variable {S : cs_St} {N : Nat} {K : Nat → Nat} {V : Nat → Int32} {ord : List Nat} {L : Nat → List Run} {sn H : List Nat}
theorem step1 (hB : Bs S N K V ord L) (hs : Ss S sn) {fan pc : Nat} (hc : Cf S 1 fan pc) (hsh : Shp K L 1 pc) (hro : ro K (H ++ agz (RS L))) {lv : Nat} (hlv : lv < 3) (hne : 0 < (L lv).length) :
    ∃ L', Kp K V ord sn H N 1 pc 1 S (mr1 S (nI lv) (nI (lv + 1))) L L' ∧ Phi L' < Phi L := by
  have hl4 : lv < 4 := by omega
  obtain ⟨b1, b2, b3, -⟩ := begin_eq S
  have hB1 : Bs (m_X2_begin S) N K V ord L := hB.mv b1 (fun k hk => by simp at hk; omega)
  have hs1 : Ss (m_X2_begin S) sn := hs.mv (b1.2 9 (by decide))
  have hc1 : Cf (m_X2_begin S) 1 fan pc := hc.mv b1.1
  rw [mr1]
  generalize m_X2_begin S = S1 at b1 b2 b3 hB1 hs1 hc1
  obtain ⟨S0, f, t, m, g, met, bey, tp, f0, hft, htl, hlv0, hmg, hmet, hbey, hrea, hrea2, hbyd⟩ := hB1.takePart hlv hne
  rw [tp]
  have hB0 : Bs S0 N K V ord L := hB1.mv f0 (fun k hk => by have := List.mem_singleton.mp hk; omega)
  obtain ⟨Z, z1, z2⟩ := RS_two L hlv
  have hrok : ∀ (k : Nat) (r : Run), (L lv)[k]? = some r → r.1.Pairwise (srt K) := fun k r h => (hsh.1 r (RS_mem L hl4 (List.mem_of_getElem? h))).1
  have hrok2 : ∀ (k : Nat) (r : Run), (L (lv + 1))[k]? = some r → r.1.Pairwise (srt K) := fun k r h => (hsh.1 r (RS_mem L (by omega) (List.mem_of_getElem? h))).1
  have hne2 : ∀ (k : Nat) (r : Run), (L (lv + 1))[k]? = some r → r.1 ≠ [] := fun k r h => hB.2.1.2.2.2.2.2.2.2.2 r (RS_mem L (by omega) (List.mem_of_getElem? h))
  have hap2 : Apt K (L (lv + 1)) ∧ Sm K pc (L (lv + 1)) := hsh.2 (by decide) (lv + 1) (by omega) (by omega)
  -- there is a run that is taken
  have hrf : (L lv)[f]? = some (L lv)[f] := List.getElem?_eq_getElem (by omega)
  have hrne : (L lv)[f].1 ≠ [] := hB.2.1.2.2.2.2.2.2.2.2 _ (RS_mem L hl4 (List.mem_of_getElem? hrf))
  have hmleg : m ≤ g := by
    have h1 := hmg f _ (Nat.le_refl _) hft hrf
    have h2 := lo_hi (hrok f _ hrf) hrne
    omega
  have hmb : met ≤ bey := by
    rcases Nat.lt_or_ge bey met with h | h
    · have hr : (L (lv + 1))[bey]? = some (L (lv + 1))[bey] := List.getElem?_eq_getElem (by omega)
      have h1 := hrea bey _ h hr
      have h2 := hbyd _ hr
      have h3 := lo_hi (hrok2 bey _ hr) (hne2 bey _ hr)
      omega
    · exact h
  obtain ⟨t1, t2, t3⟩ := hB0.takeRuns hl4 (Nat.le_of_lt hft) htl
  generalize m_X6_takeRuns S0 (nI lv) (nI f) (nI t) = S2 at t1 t2 t3
  have hL1 : (Lset L lv ((L lv).take f ++ (L lv).drop t)) (lv + 1) = L (lv + 1) := Lset_ne (by omega)
  have hin := hB.2.2
  have hRS1 : RS (Lset L lv ((L lv).take f ++ (L lv).drop t)) = pre L lv ++ (((L lv).take f ++ (L lv).drop t) ++ (L (lv + 1) ++ Z)) := by
    have := z2 ((L lv).take f ++ (L lv).drop t) (L (lv + 1))
    rw [show Lset (Lset L lv ((L lv).take f ++ (L lv).drop t)) (lv + 1) (L (lv + 1)) = Lset L lv ((L lv).take f ++ (L lv).drop t) from funext fun k => by
      by_cases e : k = lv + 1
      · rw [e, Lset_at, Lset_ne (by omega)]
      · rw [Lset_ne e]] at this
    exact this
  have hB2 : Bs S2 N K V ord (Lset L lv ((L lv).take f ++ (L lv).drop t)) := ⟨hB0.1.mv t2 (by decide) (by decide) (by decide), t1, fun a ha => hin a (by
    rw [hRS1] at ha
    obtain ⟨r, hr, har⟩ := mem_agz.mp ha
    refine mem_agz.mpr ⟨r, ?_, har⟩
    rw [z1]
    simp only [List.mem_append] at hr ⊢
    rcases hr with h | (h | h) | h
    · exact Or.inl h
    · exact Or.inr (Or.inl (List.mem_of_mem_take h))
    · exact Or.inr (Or.inl (List.mem_of_mem_drop h))
    · exact Or.inr (Or.inr h))⟩
  obtain ⟨u1, u2, u3⟩ := hB2.takeRuns (show lv + 1 < 4 by omega) hmb (by rw [hL1]; exact hbey)
  generalize m_X6_takeRuns S2 (nI (lv + 1)) (nI met) (nI bey) = S3 at u1 u2 u3
  rw [hL1] at u1 u3
  have hMsub := td_sub (L lv) (Nat.le_of_lt hft)
  have hPsub := td_sub (L (lv + 1)) hmb
  have hTl := td_split (L lv) (Nat.le_of_lt hft)
  have hTn := td_split (L (lv + 1)) hmb
  have iT1 : ∀ r ∈ ((L lv).take t).drop f, ∃ k, f ≤ k ∧ k < t ∧ (L lv)[k]? = some r := fun r h => mem_seg h
  have iT2 : ∀ r ∈ ((L (lv + 1)).take bey).drop met, ∃ k, met ≤ k ∧ k < bey ∧ (L (lv + 1))[k]? = some r := fun r h => mem_seg h
  have iP : ∀ r ∈ (L (lv + 1)).take met, ∃ k, k < met ∧ (L (lv + 1))[k]? = some r := fun r h => mem_tk h
  have iQ : ∀ r ∈ (L (lv + 1)).drop bey, ∃ k, bey ≤ k ∧ (L (lv + 1))[k]? = some r := fun r h => mem_dr h
  have iM2 : ∀ r ∈ (L lv).drop t, ∃ k, t ≤ k ∧ (L lv)[k]? = some r := fun r h => mem_dr h
  have lM1 : ((L lv).take f).length = f := by rw [List.length_take]; omega
  have lP : ((L (lv + 1)).take met).length = met := by rw [List.length_take]; omega
  have T1pos : 0 < (agz (((L lv).take t).drop f)).length := by
    have hm : (L lv)[f] ∈ ((L lv).take t).drop f := by
      refine List.mem_of_getElem? (i := 0) ?_
      rw [List.getElem?_drop, List.getElem?_take, if_pos (by omega)]
      exact hrf
    obtain ⟨x, hx⟩ := List.exists_mem_of_ne_nil _ hrne
    exact List.length_pos_of_mem (mem_agz.mpr ⟨_, hm, hx⟩)
  generalize ((L lv).take t).drop f = T1 at iT1 hTl t3 T1pos
  generalize ((L (lv + 1)).take bey).drop met = T2 at iT2 hTn u3
  generalize hM1 : (L lv).take f = M1 at *
  generalize hM2 : (L lv).drop t = M2 at *
  generalize hP : (L (lv + 1)).take met = P at *
  generalize hQ : (L (lv + 1)).drop bey = Q at *
  have hRS2 : RS (Lset (Lset L lv (M1 ++ M2)) (lv + 1) (P ++ Q)) = pre L lv ++ ((M1 ++ M2) ++ ((P ++ Q) ++ Z)) := z2 _ _
  have hRSo : agz (RS L) = agz (pre L lv) ++ ((agz M1 ++ (agz T1 ++ agz M2)) ++ ((agz P ++ (agz T2 ++ agz Q)) ++ agz Z)) := by
    rw [z1, hTl, hTn]; simp only [agz_app]
  have hB3 : Bs S3 N K V ord (Lset (Lset L lv (M1 ++ M2)) (lv + 1) (P ++ Q)) := ⟨hB2.1.mv u2 (by decide) (by decide) (by decide), u1, fun a ha => hin a (by
    rw [hRS2] at ha
    rw [hRSo]
    simp only [agz_app, List.mem_append] at ha ⊢
    rcases ha with h | (h | h) | (h | h) | h
    · exact Or.inl h
    · exact Or.inr (Or.inl (Or.inl h))
    · exact Or.inr (Or.inl (Or.inr (Or.inr h)))
    · exact Or.inr (Or.inr (Or.inl (Or.inl h)))
    · exact Or.inr (Or.inr (Or.inl (Or.inr (Or.inr h))))
    · exact Or.inr (Or.inr (Or.inr h)))⟩
  have hT : ∀ a ∈ agz T1 ++ agz T2, 1 ≤ a ∧ a ≤ N := fun a ha => hin a (by
    rw [hRSo]
    simp only [List.mem_append] at ha ⊢
    rcases ha with h | h
    · exact Or.inr (Or.inl (Or.inr (Or.inl h)))
    · exact Or.inr (Or.inr (Or.inl (Or.inr (Or.inl h)))))
  have hfits := hB.2.1.fits
  have hlen : (agz (RS L)).length = (agz (pre L lv)).length + ((agz M1).length + ((agz T1).length + (agz M2).length) + ((agz P).length + ((agz T2).length + (agz Q).length) + (agz Z).length)) := by rw [hRSo]; simp only [List.length_append]
  have hlen2 : (agz (RS (Lset (Lset L lv (M1 ++ M2)) (lv + 1) (P ++ Q)))).length = (agz (pre L lv)).length + ((agz M1).length + (agz M2).length + ((agz P).length + (agz Q).length + (agz Z).length)) := by rw [hRS2]; simp only [agz_app, List.length_append]
  have hl2 : (Lset (Lset L lv (M1 ++ M2)) (lv + 1) (P ++ Q)) (lv + 1) = P ++ Q := Lset_at
  obtain ⟨R, S', e1, e2, e3, e4, e5, e6⟩ := fin (T := agz T1 ++ agz T2) (lv := lv) (nx := lv + 1) (pl := met) hB3 ((hs1.mv (f0.2 9 (by decide))).mv ((u2.2 9 (by decide)).trans (t2.2 9 (by decide)))) ((hc1.mv f0.1).mv (u2.1.trans t2.1)) hT (fun a h1 h2 => by
    have hN := hB.1.N0
    rw [u3 a, t3 a, f0.2 17 (by decide), b2 a (by omega), List.mem_append]
    by_cases h : a ∈ agz T2
    · rw [if_pos h]; exact ⟨fun _ => Or.inr h, fun _ => rfl⟩
    · rw [if_neg h]
      by_cases h2 : a ∈ agz T1
      · rw [if_pos h2]; exact ⟨fun _ => Or.inl h2, fun _ => rfl⟩
      · rw [if_neg h2]; exact ⟨fun z => absurd z (by decide), fun z => z.elim (fun z => absurd z h2) (fun z => absurd z h)⟩) (by rw [u2.2 18 (by decide), t2.2 18 (by decide), f0.2 18 (by decide)]; exact b3) hl4 (by omega) (by rw [hl2, List.length_append, lP]; omega) (by rw [hlen2, List.length_append]; omega)
  rw [e1]
  rw [hl2, List.take_left' lP, List.drop_left' lP, Lset2] at e3
  have hpre : pre (Lset (Lset L lv (M1 ++ M2)) (lv + 1) (P ++ Q)) lv = pre L lv := by
    rw [pre_set _ _ _ _ (by omega), pre_set _ _ _ _ (Nat.le_refl _)]
  have hlvl : (Lset (Lset L lv (M1 ++ M2)) (lv + 1) (P ++ Q)) lv = M1 ++ M2 := by rw [Lset_ne (by omega), Lset_at]
  have hD : (agz (RS (Lset (Lset L lv (M1 ++ M2)) (lv + 1) (P ++ Q)))).drop ((agz (pre (Lset (Lset L lv (M1 ++ M2)) (lv + 1) (P ++ Q)) lv)).length + (agz ((Lset (Lset L lv (M1 ++ M2)) (lv + 1) (P ++ Q)) lv)).length) = agz ((P ++ Q) ++ Z) := by
    rw [hpre, hlvl, hRS2, show agz (pre L lv ++ ((M1 ++ M2) ++ ((P ++ Q) ++ Z))) = (agz (pre L lv) ++ agz (M1 ++ M2)) ++ agz ((P ++ Q) ++ Z) by simp only [agz_app, List.append_assoc]]
    exact List.drop_left' List.length_append
  rw [hD] at e2 e6
  have hord := hB.1.2.2.2.2.1
  have hCe : H ++ agz (RS L) = (H ++ (agz (pre L lv) ++ agz M1)) ++ (agz T1 ++ ((agz M2 ++ agz P) ++ (agz T2 ++ (agz Q ++ agz Z)))) := by
    rw [hRSo]; simp only [List.append_assoc]
  -- keys of what was taken from the level above are apart from these
  have kT1 : ∀ a ∈ agz T1, m ≤ K a ∧ K a ≤ g := fun a ha => by
    obtain ⟨r, hr, har⟩ := mem_agz.mp ha
    obtain ⟨k, k1, k2, k3⟩ := iT1 r hr
    have h1 := hmg k r k1 k2 k3
    have h2 := lo_le (hrok k r k3) har
    have h3 := le_hi (hrok k r k3) har
    omega
  have kP : ∀ a ∈ agz P, K a < m := fun a ha => by
    obtain ⟨r, hr, har⟩ := mem_agz.mp ha
    obtain ⟨k, k1, k3⟩ := iP r hr
    have h1 := hrea k r k1 k3
    have h3 := le_hi (hrok2 k r k3) har
    omega
  have kQ : ∀ a ∈ agz Q, g < K a := fun a ha => by
    obtain ⟨r, hr, har⟩ := mem_agz.mp ha
    obtain ⟨k, k1, k3⟩ := iQ r hr
    have hbl : bey < (L (lv + 1)).length := by have := (List.getElem?_eq_some_iff.mp k3).1; omega
    have hrb : (L (lv + 1))[bey]? = some (L (lv + 1))[bey] := List.getElem?_eq_getElem hbl
    have h1 := hbyd _ hrb
    by_cases e : k = bey
    · rw [e, hrb] at k3
      cases k3
      have h2 := lo_le (hrok2 bey _ hrb) har
      omega
    · obtain ⟨x, hx⟩ := List.exists_mem_of_ne_nil _ (hne2 bey _ hrb)
      have h2 := Apt_get hap2.1 (show bey < k by omega) hrb k3 x hx a har
      have h3 := lo_le (hrok2 bey _ hrb) hx
      omega
  have kPT : ∀ r ∈ P, ∀ a ∈ r.1, ∀ b, b ∈ agz T1 ∨ b ∈ agz T2 → K a < K b := fun r hr a ha b hb => by
    rcases hb with hb | hb
    · have h1 := kP a (mem_agz.mpr ⟨r, hr, ha⟩)
      have h2 := kT1 b hb
      omega
    · obtain ⟨s, hs2, hbs⟩ := mem_agz.mp hb
      obtain ⟨k, k1, k3⟩ := iP r hr
      obtain ⟨j, j1, -, j3⟩ := iT2 s hs2
      exact Apt_get hap2.1 (by omega) k3 j3 a ha b hbs
  have kTQ : ∀ r ∈ Q, ∀ a ∈ r.1, ∀ b, b ∈ agz T1 ∨ b ∈ agz T2 → K b < K a := fun r hr a ha b hb => by
    rcases hb with hb | hb
    · have h1 := kQ a (mem_agz.mpr ⟨r, hr, ha⟩)
      have h2 := kT1 b hb
      omega
    · obtain ⟨s, hs2, hbs⟩ := mem_agz.mp hb
      obtain ⟨k, k1, k3⟩ := iQ r hr
      obtain ⟨j, -, j1, j3⟩ := iT2 s hs2
      exact Apt_get hap2.1 (by omega) j3 k3 b hbs a ha
  obtain ⟨g1, g2, g3⟩ := mg (V := V) (sn := sn) (D := agz ((P ++ Q) ++ Z)) hord (fun a ha => (hB.1.mem ha).1) (by rw [← hCe]; exact hro) (fun a ha => (hB.1.2.2.2.1 a).mpr (hT a (List.mem_append.mpr ha))) (fun a ha b hb => by
      rcases List.mem_append.mp hb with hb | hb
      · by_cases c : lv = 0
        · obtain ⟨s, hs2, hbs⟩ := mem_agz.mp hb
          obtain ⟨j, j1, j3⟩ := iM2 s hs2
          have := (List.getElem?_eq_some_iff.mp j3).1
          have := (hlv0 c).2
          omega
        · obtain ⟨r, hr, har⟩ := mem_agz.mp ha
          obtain ⟨k, -, k2, k3⟩ := iT1 r hr
          obtain ⟨s, hs2, hbs⟩ := mem_agz.mp hb
          obtain ⟨j, j1, j3⟩ := iM2 s hs2
          have := Apt_get (hsh.2 (by decide) lv (by omega) hl4).1 (show k < j by omega) k3 j3 a har b hbs
          omega
      · have h1 := kP b hb
        have h2 := kT1 a ha
        omega) (fun b hb => by
      simp only [agz_app, List.mem_append] at hb ⊢
      rcases hb with h | h
      · exact Or.inl (Or.inr h)
      · exact Or.inr h)
  have hml := mgl_len (K := K) (V := V) (sn := sn) (T := agz T1 ++ agz T2) (D := agz ((P ++ Q) ++ Z)) hord
  rw [List.length_append] at hml
  obtain ⟨hsub, hmT⟩ := mgl_sub (K := K) (V := V) (sn := sn) (ord := ord) (agz T1 ++ agz T2) (agz ((P ++ Q) ++ Z))
  generalize mgl K V sn ord (agz T1 ++ agz T2) (agz ((P ++ Q) ++ Z)) = lf at e2 e6 g1 g2 g3 hml hsub hmT
  have hRS : RS (Lset (Lset L lv (M1 ++ M2)) (lv + 1) (P ++ (R ++ Q))) = pre L lv ++ ((M1 ++ M2) ++ ((P ++ (R ++ Q)) ++ Z)) := z2 _ _
  have hRSa : agz (RS (Lset (Lset L lv (M1 ++ M2)) (lv + 1) (P ++ (R ++ Q)))) = agz (pre L lv) ++ ((agz M1 ++ agz M2) ++ ((agz P ++ (lf ++ agz Q)) ++ agz Z)) := by
    rw [hRS]; simp only [agz_app, e2.1]
  have hCe' : H ++ agz (RS (Lset (Lset L lv (M1 ++ M2)) (lv + 1) (P ++ (R ++ Q)))) = (H ++ (agz (pre L lv) ++ agz M1)) ++ ((agz M2 ++ agz P) ++ (lf ++ (agz Q ++ agz Z))) := by
    rw [hRSa]; simp only [List.append_assoc]
  have hRm : ∀ r ∈ R, ∀ a ∈ r.1, a ∈ agz T1 ∨ a ∈ agz T2 := fun r hr a ha => List.mem_append.mp (hmT a (by rw [← e2.1]; exact mem_agz.mpr ⟨r, hr, ha⟩))
  have hlfs := hord.sublist hsub
  refine ⟨_, ⟨e3, ⟨fun r hr => ?_, fun _ v hv1 hv4 => ?_⟩, by rw [hCe']; exact g1, fun a ha => ?_, fun lim hl k => ?_, ?_, fun k hk => ?_, ?_, lf.length, ?_, by omega⟩, ?_⟩
  · rw [hRS] at hr
    have hz : ∀ r, r ∈ pre L lv ∨ r ∈ L lv ∨ r ∈ L (lv + 1) ∨ r ∈ Z → rok K r := fun r h => hsh.1 r (by rw [z1]; simp only [List.mem_append]; exact h)
    simp only [List.mem_append] at hr
    rcases hr with h | (h | h) | (h | h | h) | h
    · exact hz r (Or.inl h)
    · exact hz r (Or.inr (Or.inl (hMsub.subset (List.mem_append_left _ h))))
    · exact hz r (Or.inr (Or.inl (hMsub.subset (List.mem_append_right _ h))))
    · exact hz r (Or.inr (Or.inr (Or.inl (hPsub.subset (List.mem_append_left _ h)))))
    · exact lays_rok e2 hlfs r h
    · exact hz r (Or.inr (Or.inr (Or.inl (hPsub.subset (List.mem_append_right _ h)))))
    · exact hz r (Or.inr (Or.inr (Or.inr h)))
  · by_cases c1 : v = lv + 1
    · rw [c1, Lset_at]
      obtain ⟨l3, l4⟩ := e2.2.2.2 (by decide)
      have hPQ := List.pairwise_append.mp (hap2.1.sublist hPsub)
      refine ⟨List.pairwise_append.mpr ⟨hPQ.1, List.pairwise_append.mpr ⟨l3.imp (fun h a ha b hb => h a ha b hb hlfs), hPQ.2.1, fun r hr s hs2 a ha b hb => kTQ s hs2 b hb a (hRm r hr a ha)⟩, fun r hr s hs2 a ha b hb => ?_⟩, fun r hr => ?_⟩
      · rcases List.mem_append.mp hs2 with hs2 | hs2
        · exact kPT r hr a ha b (hRm s hs2 b hb)
        · exact hPQ.2.2 r hr s hs2 a ha b hb
      · rcases List.mem_append.mp hr with hr | hr
        · exact hap2.2 r (hPsub.subset (List.mem_append_left _ hr))
        · rcases List.mem_append.mp hr with hr | hr
          · exact l4 r hr
          · exact hap2.2 r (hPsub.subset (List.mem_append_right _ hr))
    · rw [Lset_ne c1]
      by_cases c2 : v = lv
      · rw [c2, Lset_at]
        obtain ⟨x1, x2⟩ := hsh.2 (by decide) lv (by omega) hl4
        exact ⟨x1.sublist hMsub, fun r hr => x2 r (hMsub.subset hr)⟩
      · rw [Lset_ne c2]
        exact hsh.2 (by decide) v hv1 hv4
  · have h9 : a ∈ H ++ agz (RS L) → False ∨ a ∈ H ++ agz (RS L) := Or.inr
    rw [hRSa] at ha
    rw [hRSo]
    simp only [List.mem_append] at ha ⊢
    rcases ha with h | (h | h) | (h | h | h) | h
    · exact Or.inl h
    · exact Or.inr (Or.inl (Or.inl h))
    · exact Or.inr (Or.inl (Or.inr (Or.inr h)))
    · exact Or.inr (Or.inr (Or.inl (Or.inl h)))
    · rcases List.mem_append.mp (hmT a h) with h | h
      · exact Or.inr (Or.inl (Or.inr (Or.inl h)))
      · exact Or.inr (Or.inr (Or.inl (Or.inr (Or.inl h))))
    · exact Or.inr (Or.inr (Or.inl (Or.inr (Or.inr h))))
    · exact Or.inr (Or.inr (Or.inr h))
  · rw [hCe', hCe]
    refine g3 lim (hl.imp id (fun h => ?_)) k
    rw [← hCe]; exact h
  · exact (b1.mono (by simp)).tr ((f0.mono (by simp)).tr ((t2.mono (by simp)).tr ((u2.mono (by simp)).tr (e4.mono (by simp)))))
  · rw [e5 k hk, u2.2 0 (by decide), t2.2 0 (by decide), f0.2 0 (by decide), b1.2 0 (by decide)]
  · rw [hRSa, hlen]; simp only [List.length_append]; omega
  · rw [e6, u2.2 0 (by decide), t2.2 0 (by decide), f0.2 0 (by decide), b1.2 0 (by decide)]
  · have hA : (agz (L lv)).length = (agz M1).length + ((agz T1).length + (agz M2).length) := by rw [hTl]; simp only [agz_app, List.length_append]
    have hBn : (agz (L (lv + 1))).length = (agz P).length + ((agz T2).length + (agz Q).length) := by rw [hTn]; simp only [agz_app, List.length_append]
    have hA' : (agz (M1 ++ M2)).length = (agz M1).length + (agz M2).length := by simp only [agz_app, List.length_append]
    have hB' : (agz (P ++ (R ++ Q))).length = (agz P).length + (lf.length + (agz Q).length) := by simp only [agz_app, List.length_append, e2.1]
    unfold Phi
    rcases (show lv = 0 ∨ lv = 1 ∨ lv = 2 by omega) with rfl | rfl | rfl
    · have hBk : (agz (L 1)).length = (agz P).length + ((agz T2).length + (agz Q).length) := hBn
      rw [Lset_ne (show 0 ≠ 0 + 1 by decide), Lset_at, Lset_at, Lset_ne (show 2 ≠ 0 + 1 by decide), Lset_ne (show 2 ≠ 0 by decide), Lset_ne (show 3 ≠ 0 + 1 by decide), Lset_ne (show 3 ≠ 0 by decide), hA', hB']
      omega
    · have hBk : (agz (L 2)).length = (agz P).length + ((agz T2).length + (agz Q).length) := hBn
      rw [Lset_ne (show 0 ≠ 1 + 1 by decide), Lset_ne (show 0 ≠ 1 by decide), Lset_ne (show 1 ≠ 1 + 1 by decide), Lset_at, Lset_at, Lset_ne (show 3 ≠ 1 + 1 by decide), Lset_ne (show 3 ≠ 1 by decide), hA', hB']
      omega
    · have hBk : (agz (L 3)).length = (agz P).length + ((agz T2).length + (agz Q).length) := hBn
      rw [Lset_ne (show 0 ≠ 2 + 1 by decide), Lset_ne (show 0 ≠ 2 by decide), Lset_ne (show 1 ≠ 2 + 1 by decide), Lset_ne (show 1 ≠ 2 by decide), Lset_ne (show 2 ≠ 2 + 1 by decide), Lset_at, Lset_at, hA', hB']
      omega
end
