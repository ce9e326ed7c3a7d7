/-! MATHEMATICS 18: settling: it ends, and no level is full then -/
def Ful (L : Nat → List Run) (way fan pc lv : Nat) : Prop := if way = 0 ∨ lv = 0 then fan ≤ (L lv).length else if lv = 3 then False else (if lv = 1 then pc * fan else pc * (fan * fan)) < (agz (L lv)).length
theorem settle_s {n : Nat} {v : Int32} {S : cs_St} : m_X6_settle_L2 (n + 1) v S = (if 1000000 ≤ v then S else if 0 ≤ m_X6_firstFull S then (if (m_X2_begin S).2 1 = 0 then (if 3 ≤ m_X6_firstFull S then m_X6_settle_L2 n (v + 1) (mr0 S (m_X6_firstFull S) 3) else m_X6_settle_L2 n (v + 1) (mr0 S (m_X6_firstFull S) (m_X6_firstFull S + 1))) else (if 3 ≤ m_X6_firstFull S then m_X6_settle_L2 n (v + 1) (mr1 S (m_X6_firstFull S) 3) else m_X6_settle_L2 n (v + 1) (mr1 S (m_X6_firstFull S) (m_X6_firstFull S + 1)))) else S) := by
  rw [m_X6_settle_L2]
  simp only [cs_lx, mr0, mr1]
theorem nI_mul (a b : Nat) : nI a * nI b = nI (a * b) := by
  unfold nI
  exact (Int32.ofNat_mul a b).symm
section
variable {S : cs_St} {N : Nat} {K : Nat → Nat} {V : Nat → Int32} {ord : List Nat} {L : Nat → List Run} {sn H : List Nat} {way fan pc : Nat}
theorem isFull_eq (hB : Bs S N K V ord L) (hc : Cf S way fan pc) {lv : Nat} (hl : lv < 4) : (m_X6_isFull S (nI lv) = 0 ∧ ¬ Ful L way fan pc lv) ∨ (m_X6_isFull S (nI lv) = 1 ∧ Ful L way fan pc lv) := by
  obtain ⟨w1, w2, f1, f2, f3, p1, p2, p3⟩ := hc
  have hR := hB.2.1.nR
  have hcl := hB.2.1.cnt_le hl
  have hfi := hB.2.1.fits
  have hct := hB.2.1.count hl
  obtain ⟨Z, zz, -⟩ := RS_at L hl
  have hag : (agz (L lv)).length ≤ (agz (RS L)).length := by rw [zz]; simp only [agz_app, List.length_append]; omega
  have hcase : (way = 0 ∨ lv = 0) → ((if m_X4_count S (nI lv) < S.2 2 then (0 : Int32) else 1) = 0 ∧ ¬ Ful L way fan pc lv) ∨ ((if m_X4_count S (nI lv) < S.2 2 then (0 : Int32) else 1) = 1 ∧ Ful L way fan pc lv) := fun h => by
    unfold Ful
    rw [if_pos h, hct, f1]
    by_cases c : (L lv).length < fan
    · rw [if_pos (by rw [nI_ltI (by omega) (by omega)]; exact c)]; exact Or.inl ⟨rfl, by omega⟩
    · rw [if_neg (by rw [nI_ltI (by omega) (by omega)]; exact c)]; exact Or.inr ⟨rfl, by omega⟩
  rw [m_X6_isFull]
  simp only [cs_lx]
  by_cases c1 : way = 0
  · rw [if_pos (by rw [w1, nI_eq0 (by omega)]; exact c1)]
    exact hcase (Or.inl c1)
  · rw [if_neg (by rw [w1, nI_eq0 (by omega)]; exact c1)]
    by_cases c2 : lv = 0
    · rw [if_pos (by rw [nI_eq0 (by omega)]; exact c2)]
      exact hcase (Or.inr c2)
    · rw [if_neg (by rw [nI_eq0 (by omega)]; exact c2)]
      unfold Ful
      rw [if_neg (show ¬ (way = 0 ∨ lv = 0) by omega)]
      by_cases c3 : lv = 3
      · rw [if_pos (by rw [c3]; rfl), if_pos c3]; exact Or.inl ⟨rfl, id⟩
      · rw [if_neg (show ¬ nI lv = 3 from fun e => c3 (by rcases (show lv = 1 ∨ lv = 2 by omega) with rfl | rfl <;> exact absurd e (by decide))), if_neg c3, hB.2.1.entriesOn hl, f1, p1]
        have hff : fan * fan ≤ 16 := Nat.mul_le_mul f3 f3
        have hpf : pc * fan ≤ 20 * 4 := Nat.mul_le_mul p3 f3
        have hpff : pc * (fan * fan) ≤ 20 * 16 := Nat.mul_le_mul p3 hff
        by_cases c4 : lv = 1
        · rw [if_pos (by rw [c4]; rfl), if_pos c4, nI_mul]
          by_cases c5 : (agz (L lv)).length ≤ pc * fan
          · rw [if_pos (by rw [nI_leI (by omega) (by omega)]; exact c5)]; exact Or.inl ⟨rfl, by omega⟩
          · rw [if_neg (by rw [nI_leI (by omega) (by omega)]; exact c5)]; exact Or.inr ⟨rfl, by omega⟩
        · rw [if_neg (show ¬ nI lv = 1 from fun e => c4 (by rcases (show lv = 2 by omega) with rfl; exact absurd e (by decide))), if_neg c4, nI_mul, nI_mul]
          by_cases c5 : (agz (L lv)).length ≤ pc * (fan * fan)
          · rw [if_pos (by rw [nI_leI (by omega) (by omega)]; exact c5)]; exact Or.inl ⟨rfl, by omega⟩
          · rw [if_neg (by rw [nI_leI (by omega) (by omega)]; exact c5)]; exact Or.inr ⟨rfl, by omega⟩
theorem firstFull_L (hB : Bs S N K V ord L) (hc : Cf S way fan pc) : ∀ (n i : Nat), i ≤ 4 → 4 - i < n → (∀ k, k < i → ¬ Ful L way fan pc k) → (m_X6_firstFull_L2 S n (nI i) = -1 ∧ ∀ k, k < 4 → ¬ Ful L way fan pc k) ∨ ∃ lv, lv < 4 ∧ m_X6_firstFull_L2 S n (nI i) = nI lv ∧ Ful L way fan pc lv := by
  intro n
  induction n with
  | zero => intro i _ h; exact absurd h (Nat.not_lt_zero _)
  | succ n ih =>
    intro i hi hn hk
    rw [m_X6_firstFull_L2]
    by_cases c : 4 ≤ i
    · rw [if_pos (show (4 : Int32) ≤ nI i by rw [show (4 : Int32) = nI 4 from rfl, nI_leI (by omega) (by omega)]; exact c)]
      exact Or.inl ⟨rfl, fun k h => hk k (by omega)⟩
    · rw [if_neg (show ¬ (4 : Int32) ≤ nI i by rw [show (4 : Int32) = nI 4 from rfl, nI_leI (by omega) (by omega)]; exact c)]
      simp only [cs_lx]
      rcases isFull_eq hB hc (show i < 4 by omega) with ⟨e, h⟩ | ⟨e, h⟩
      · rw [e, if_pos rfl, nI_1]
        refine ih (i + 1) (by omega) (by omega) (fun k h2 => ?_)
        by_cases e2 : k = i
        · rw [e2]; exact h
        · exact hk k (by omega)
      · rw [e, if_neg (by decide)]
        exact Or.inr ⟨i, by omega, rfl, h⟩
theorem firstFull_eq (hB : Bs S N K V ord L) (hc : Cf S way fan pc) : (m_X6_firstFull S = -1 ∧ ∀ k, k < 4 → ¬ Ful L way fan pc k) ∨ ∃ lv, lv < 4 ∧ m_X6_firstFull S = nI lv ∧ Ful L way fan pc lv :=
  firstFull_L hB hc cs_N 0 (by omega) (by show _ < 4294967296; omega) (fun k h => absurd h (Nat.not_lt_zero _))
theorem Kp.rf (hB : Bs S N K V ord L) (hsh : Shp K L way pc) (hro : ro K (H ++ agz (RS L))) : Kp K V ord sn H N way pc 0 S S L L :=
  ⟨hB, hsh, hro, fun _ h => h, fun _ _ _ => rfl, fr.rf, fun _ _ => rfl, Nat.le_refl _, 0, (nI_z _).symm, Nat.zero_le _⟩
theorem Kp.up {n m : Nat} {S' : cs_St} {L' : Nat → List Run} (h : Kp K V ord sn H N way pc n S S' L L') (hnm : n ≤ m) : Kp K V ord sn H N way pc m S S' L L' := by
  obtain ⟨a1, a2, a3, a4, a5, a6, a7, a8, e, e1, e2⟩ := h
  exact ⟨a1, a2, a3, a4, a5, a6, a7, a8, e, e1, by omega⟩
def mu (way : Nat) (L : Nat → List Run) : Nat := if way = 0 then (RS L).length else Phi L
theorem mu_le (h : Sh S L) : mu way L ≤ 2048 := by
  have h1 := h.nR
  have h2 := h.fits
  rw [RS4] at h2
  simp only [agz_app, List.length_append] at h2
  unfold mu Phi
  split <;> omega
theorem settle_step (hB : Bs S N K V ord L) (hs : Ss S sn) (hc : Cf S way fan pc) (hsh : Shp K L way pc) (hro : ro K (H ++ agz (RS L))) {lv : Nat} (hl : lv < 4) (hF : Ful L way fan pc lv) :
    ∃ S' L', (if (m_X2_begin S).2 1 = 0 then (if 3 ≤ nI lv then mr0 S (nI lv) 3 else mr0 S (nI lv) (nI lv + 1)) else (if 3 ≤ nI lv then mr1 S (nI lv) 3 else mr1 S (nI lv) (nI lv + 1))) = S' ∧ Kp K V ord sn H N way pc 1 S S' L L' ∧ mu way L' < mu way L := by
  have hb := (begin_eq S).1.1
  have h3 : (3 : Int32) = nI 3 := rfl
  have hfan := hc.2.2.2.1
  rw [hb, hc.1]
  unfold Ful at hF
  unfold mu
  by_cases c : way = 0
  · rw [if_pos (Or.inl c)] at hF
    rw [if_pos (by rw [nI_eq0 (by omega)]; exact c)]
    subst c
    by_cases c3 : lv = 3
    · obtain ⟨L', k1, k2⟩ := step0 (nx := 3) hB hs hc hsh hro (Or.inr ⟨rfl, c3⟩)
      rw [if_pos (by rw [h3, nI_leI (by omega) (by omega)]; omega)]
      exact ⟨_, L', rfl, k1, by rw [if_pos rfl, if_pos rfl]; omega⟩
    · obtain ⟨L', k1, k2⟩ := step0 (nx := lv + 1) hB hs hc hsh hro (Or.inl ⟨rfl, by omega⟩)
      rw [if_neg (by rw [h3, nI_leI (by omega) (by omega)]; omega), nI_1]
      exact ⟨_, L', rfl, k1, by rw [if_pos rfl, if_pos rfl]; omega⟩
  · have hw1 : way = 1 := by have := hc.2.1; omega
    rw [if_neg (by rw [nI_eq0 (by omega)]; exact c)]
    subst hw1
    have hl3 : lv < 3 ∧ 0 < (L lv).length := by
      by_cases c0 : lv = 0
      · rw [if_pos (Or.inr c0)] at hF; omega
      · rw [if_neg (by omega)] at hF
        by_cases c3 : lv = 3
        · rw [if_pos c3] at hF; exact hF.elim
        · refine ⟨by omega, ?_⟩
          rw [if_neg c3] at hF
          rcases Nat.eq_zero_or_pos (L lv).length with e | e
          · rw [List.eq_nil_of_length_eq_zero e] at hF
            exact absurd hF (by rw [agz_nil]; exact Nat.not_lt_zero _)
          · exact e
    obtain ⟨L', k1, k2⟩ := step1 hB hs hc hsh hro hl3.1 hl3.2
    rw [if_neg (by rw [h3, nI_leI (by omega) (by omega)]; omega), nI_1]
    exact ⟨_, L', rfl, k1, by rw [if_neg c, if_neg c]; exact k2⟩
theorem settle_L : ∀ (n v : Nat) (S : cs_St) (L : Nat → List Run), Bs S N K V ord L → Ss S sn → Cf S way fan pc → Shp K L way pc → ro K (H ++ agz (RS L)) → mu way L + v < 1000000 → mu way L < n →
    ∃ L', Kp K V ord sn H N way pc (mu way L) S (m_X6_settle_L2 n (nI v) S) L L' ∧ ∀ k, k < 4 → ¬ Ful L' way fan pc k := by
  intro n
  induction n with
  | zero => intro v S L _ _ _ _ _ _ h; exact absurd h (Nat.not_lt_zero _)
  | succ n ih =>
    intro v S L hB hs hc hsh hro hv hn
    rw [settle_s, if_neg (by rw [show (1000000 : Int32) = nI 1000000 from rfl, nI_leI (by omega) (by omega)]; omega)]
    rcases firstFull_eq hB hc with ⟨e, h⟩ | ⟨lv, hl, e, h⟩
    · rw [e, if_neg (by decide)]
      exact ⟨L, (Kp.rf hB hsh hro).up (Nat.zero_le _), h⟩
    · rw [e, if_pos (show (0 : Int32) ≤ nI lv by rw [show (0 : Int32) = nI 0 from rfl, nI_leI (by omega) (by omega)]; omega), nI_1 v]
      obtain ⟨S', L', s1, s2, s3⟩ := settle_step hB hs hc hsh hro hl h
      have hout : (if (m_X2_begin S).2 1 = 0 then (if 3 ≤ nI lv then m_X6_settle_L2 n (nI (v + 1)) (mr0 S (nI lv) 3) else m_X6_settle_L2 n (nI (v + 1)) (mr0 S (nI lv) (nI lv + 1))) else (if 3 ≤ nI lv then m_X6_settle_L2 n (nI (v + 1)) (mr1 S (nI lv) 3) else m_X6_settle_L2 n (nI (v + 1)) (mr1 S (nI lv) (nI lv + 1)))) = m_X6_settle_L2 n (nI (v + 1)) S' := by
        rw [← s1]
        by_cases c1 : (m_X2_begin S).2 1 = 0
        · rw [if_pos c1, if_pos c1]
          by_cases c2 : 3 ≤ nI lv
          · rw [if_pos c2, if_pos c2]
          · rw [if_neg c2, if_neg c2]
        · rw [if_neg c1, if_neg c1]
          by_cases c2 : 3 ≤ nI lv
          · rw [if_pos c2, if_pos c2]
          · rw [if_neg c2, if_neg c2]
      rw [hout]
      have hf := s2.2.2.2.2.2.1
      obtain ⟨L2, k1, k2⟩ := ih (v + 1) S' L' s2.1 (hs.mv (hf.2 9 (by decide))) (hc.mv hf.1) s2.2.1 s2.2.2.1 (by omega) (by omega)
      exact ⟨L2, (s2.tr k1).up (by omega), k2⟩
theorem settle_eq (hB : Bs S N K V ord L) (hs : Ss S sn) (hc : Cf S way fan pc) (hsh : Shp K L way pc) (hro : ro K (H ++ agz (RS L))) :
    ∃ L', Kp K V ord sn H N way pc 2048 S (m_X6_settle S) L L' ∧ ∀ k, k < 4 → ¬ Ful L' way fan pc k := by
  have hm := mu_le (way := way) hB.2.1
  obtain ⟨L', k1, k2⟩ := settle_L cs_N 0 S L hB hs hc hsh hro (by omega) (by show _ < 4294967296; omega)
  exact ⟨L', k1.up hm, k2⟩
end
