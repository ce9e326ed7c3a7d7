/-! MATHEMATICS 23: the operations at rest: put, remove, flush, snap, release -/
def Ty (S : cs_St) (N : Nat) (L : Nat → List Run) (d s al : Nat) : Prop := (S.1 0).1 1 = nI s ∧ (S.1 0).1 2 = nI al ∧ al ≤ s ∧ (S.1 0).1 3 = nI N ∧ (S.1 0).1 5 = nI d ∧ (agz (RS L)).length ≤ d
def Gd (S : cs_St) (N : Nat) (K : Nat → Nat) (V : Nat → Int32) (ord : List Nat) (L : Nat → List Run) (sn H W : List Nat) (sf way fan pc wide b : Nat) : Prop :=
  Iv S N K V ord L sn H W sf way fan pc ∧ (∀ lv, lv < 4 → ¬ Ful L way fan pc lv) ∧ (∀ a, 1 ≤ a → a ≤ N → K a < wide) ∧ ∃ d s al, Ty S N L d s al ∧ d ≤ b ∧ s ≤ b
section
variable {S : cs_St} {N : Nat} {K : Nat → Nat} {V : Nat → Int32} {ord : List Nat} {L : Nat → List Run} {sn H W : List Nat} {sf way fan pc wide b : Nat}
theorem op_write (hG : Gd S N K V ord L sn H W sf way fan pc wide b) {k : Nat} (hk : k < wide) (hw : wide ≤ 10000) (hN1 : N + 1 < 512) (v : Int32) :
    ∃ S' ord' L' H' W' sf', m_X6_settle (m_X6_write S (nI k) v).2 = S' ∧ Gd S' (N + 1) (kup K (N + 1) k) (vup V (N + 1) v) ord' L' sn H' W' sf' way fan pc wide (b + 2000000) ∧ (∀ lim ∈ sn, ∀ q, rd (kup K (N + 1) k) (vup V (N + 1) v) (H' ++ agz (RS L')) q lim = rd K V (H ++ agz (RS L)) q lim) ∧
      (∀ i, i ≠ 7 → S'.2 i = S.2 i) ∧ (∀ k, k ∉ [0, 2, 3, 4, 5, 6, 7, 10, 11, 12, 13, 14, 15, 16, 17, 18] → S'.1 k = S.1 k) := by
  obtain ⟨hI, -, hK, d, s, al, ⟨y1, y2, y3, y4, y5, y6⟩, hb1, hb2⟩ := hG
  obtain ⟨S1, ord1, L1, H1, W1, sf1, e1, i1, r1, c1, f1, t1, t3, d1, t5, t6, t7⟩ := write_eq2 hI (show k < 10000 by omega) hN1 v y5 y6 y4
  rw [e1]
  obtain ⟨L2, i2, F2, r2, f2, u1, d2, u5, u6, u7⟩ := settle_iv i1 t5 t7
  refine ⟨_, ord1, L2, H1, W1, sf1, rfl, ⟨i2, F2, fun a h1 h2 => ?_, d2, s, al, ⟨?_, ?_, y3, ?_, u5, u7⟩, by omega, by omega⟩, fun lim hl q => by rw [r2 lim (Or.inl hl) q, r1 lim hl q], fun i hi => by rw [f2.1, c1 i hi], fun j hj => ?_⟩
  · by_cases e : a = N + 1
    · rw [e, kup_new]; exact hk
    · rw [kup_old (by omega)]; exact hK a h1 (by omega)
  · rw [u1 1 (by decide), t1 1 (by decide)]; exact y1
  · rw [u1 2 (by decide), t1 2 (by decide)]; exact y2
  · rw [u1 3 (by decide)]; exact t3
  · rw [f2.2 j (fun z => hj (by simp at z ⊢; omega)), f1 j (fun z => hj (by simp at z ⊢; omega))]
theorem op_flush (hG : Gd S N K V ord L sn H W sf way fan pc wide b) :
    ∃ S' L' , m_X6_settle (m_X6_layHand S) = S' ∧ Gd S' N K V ord L' sn [] [] 0 way fan pc wide (b + 2000000) ∧ (∀ lim ∈ sn, ∀ q, rd K V ([] ++ agz (RS L')) q lim = rd K V (H ++ agz (RS L)) q lim) ∧
      (∀ i, i ≠ 7 → S'.2 i = S.2 i) ∧ (∀ k, k ∉ [0, 2, 3, 4, 5, 6, 7, 10, 11, 12, 13, 14, 15, 16, 17, 18] → S'.1 k = S.1 k) := by
  obtain ⟨⟨⟨hB, hs, hc, hsh, hro⟩, ⟨hH3, hW4, hsf, hsfl, hWl⟩, ⟨hHe, hWm, hWp⟩, hn, hsn⟩, -, hK, d, s, al, ⟨y1, y2, y3, y4, y5, y6⟩, hb1, hb2⟩ := hG
  obtain ⟨L1, i1, r1, c1, f1, t1, d1, t5, t6, t7⟩ := lay_iv hB hs hc hsh hro (by rw [← hHe]; exact hH3) (by omega) hWm hn hsn y5 y6
  rw [← hHe] at r1
  obtain ⟨L2, i2, F2, r2, f2, u1, d2, u5, u6, u7⟩ := settle_iv i1 t5 t7
  refine ⟨_, L2, rfl, ⟨i2, F2, hK, d2, s, al, ⟨?_, ?_, y3, ?_, u5, u7⟩, by omega, by omega⟩, fun lim hl q => by rw [r2 lim (Or.inl hl) q, r1], fun i hi => by rw [f2.1, c1 i hi], fun j hj => ?_⟩
  · rw [u1 1 (by decide), t1 1 (by decide)]; exact y1
  · rw [u1 2 (by decide), t1 2 (by decide)]; exact y2
  · rw [u1 3 (by decide), t1 3 (by decide)]; exact y4
  · rw [f2.2 j (fun z => hj (by simp at z ⊢; omega)), f1 j (fun z => hj (by simp at z ⊢; omega))]
theorem put_is (S : cs_St) (a v : Int32) : (m_X6_put S a v).2 = m_X6_settle (m_X6_write S a v).2 := by
  rw [m_X6_put]; simp only [cs_lx]
theorem remove_is (S : cs_St) (a : Int32) : (m_X6_remove S a).2 = m_X6_settle (m_X6_write S a (-1)).2 := by
  rw [m_X6_remove]; simp only [cs_lx]
theorem flush_is (S : cs_St) : (m_X6_flush S).2 = m_X6_settle (m_X6_layHand S) := by
  rw [m_X6_flush]; simp only [cs_lx]
/-- a state of which only scratch, counters of reading or snapshots' numbers are other -/
theorem Iv.mv {S' : cs_St} (h : Iv S N K V ord L sn H W sf way fan pc) (e2 : ∀ i, i ≠ 8 → S'.2 i = S.2 i) (e : ∀ k, k ∉ [0, 1, 2, 8, 17, 18] → S'.1 k = S.1 k) : Iv S' N K V ord L sn H W sf way fan pc := by
  obtain ⟨⟨hB, hs, hc, hsh, hro⟩, ⟨hH3, hW4, hsf, hsfl, hWl⟩, hR⟩ := h
  refine ⟨⟨?_, hs.mv (e 9 (by decide)), ?_, hsh, hro⟩, ⟨by rw [e 3 (by decide)]; exact hH3, by rw [e 4 (by decide)]; exact hW4, by rw [e2 7 (by decide)]; exact hsf, hsfl, hWl⟩, hR⟩
  · unfold Bs Lg Sh at hB ⊢
    rw [e 5 (by decide), e 6 (by decide), e 7 (by decide), e 10 (by decide), e 11 (by decide), e 12 (by decide), e 13 (by decide), e 14 (by decide), e 15 (by decide), e 16 (by decide)]
    exact hB
  · unfold Cf
    rw [e2 1 (by decide), e2 2 (by decide), e2 3 (by decide)]
    exact hc
theorem Gd.sc {S' : cs_St} (h : Gd S N K V ord L sn H W sf way fan pc wide b) (f : fr [1, 17, 18] S S') : Gd S' N K V ord L sn H W sf way fan pc wide b := by
  obtain ⟨hI, hF, hK, d, s, al, ⟨y1, y2, y3, y4, y5, y6⟩, hb⟩ := h
  have h0 := f.2 0 (by decide)
  exact ⟨hI.mv (fun i _ => by rw [f.1]) (fun k hk => f.2 k (fun z => hk (by simp at z ⊢; omega))), hF, hK, d, s, al, ⟨by rw [h0]; exact y1, by rw [h0]; exact y2, y3, by rw [h0]; exact y4, by rw [h0]; exact y5, y6⟩, hb⟩
/-- reading: what is answered, and what is counted -/
theorem op_get (hG : Gd S N K V ord L sn H W sf way fan pc wide b) {k lim : Nat} (hk : k < 10000) (hl : lim < 512) :
    m_X6_valueOf (m_X6_lookUp S (nI k) (nI lim) 0).2 (m_X6_lookUp S (nI k) (nI lim) 0).1 = rd K V (H ++ agz (RS L)) k lim ∧ Gd (m_X6_lookUp S (nI k) (nI lim) 0).2 N K V ord L sn H W sf way fan pc wide (b + 512) ∧ fr [0] S (m_X6_lookUp S (nI k) (nI lim) 0).2 := by
  obtain ⟨hI, hF, hK, d, s, al, ⟨y1, y2, y3, y4, y5, y6⟩, hb1, hb2⟩ := hG
  have hI0 := hI
  obtain ⟨⟨hB, hs, hc, hsh, hro⟩, ⟨hH3, hW4, hsf, hsfl, hWl⟩, ⟨hHe, hWm, hWp⟩, hn, hsn⟩ := hI
  have hHm : ∀ a ∈ H, 1 ≤ a ∧ a ≤ N := by rw [hHe]; exact kn_in hWm
  have hH4 : H.length ≤ 40 := by
    have := kn_len2 (W := W) (sn := sn) hB.1.2.2.2.2.1
    rw [hHe]; omega
  have hnR := hB.2.1.nR
  obtain ⟨l1, l2, s', al', q1, q2, c1, c2, c3, c4⟩ := hB.lookUp hsh.1 hH3 hHm hH4 (j := 0) (by decide) hk hl
  generalize m_X6_lookUp S (nI k) (nI lim) 0 = T at *
  have hI1 : Iv T.2 N K V ord L sn H W sf way fan pc := hI0.mv (fun i _ => by rw [l2.1]) (fun k hk => l2.2 k (fun z => hk (by simp at z ⊢; omega)))
  refine ⟨?_, ⟨hI1, hF, hK, d, s + s', al + al', ⟨by rw [c2, y1, nI_add], by rw [c3, y2, nI_add], by omega, by rw [c4 3 (by decide)]; exact y4, by rw [c4 5 (by decide)]; exact y5, y6⟩, by omega, by omega⟩, l2⟩
  rw [l1]
  refine (hI1.1.1.1).valueOf (fun a ha => ?_) k lim
  exact (List.mem_append.mp ha).elim (hHm a) (hB.2.2 a)
theorem get_is (hG : Gd S N K V ord L sn H W sf way fan pc wide b) {k : Nat} (hk : k < 10000) : (m_X6_get S (nI k)).1 = rd K V (H ++ agz (RS L)) k N ∧ Gd (m_X6_get S (nI k)).2 N K V ord L sn H W sf way fan pc wide (b + 512) ∧ fr [0] S (m_X6_get S (nI k)).2 := by
  have hL := hG.1.1.1.1
  rw [m_X6_get]
  simp only [cs_lx]
  rw [hL.new]
  exact op_get hG hk hL.N0
theorem kn_snap {G : Nat → Bool} {n : Nat} : ∀ (l : List Nat) (w : Nat), w ≤ n → (∀ a ∈ l, a ≤ n) → kn K G (sn ++ [n]) w l = kn K G sn w l := by
  intro l
  induction l with
  | nil => intro w _ _; rfl
  | cons a t ih =>
    intro w hw hl
    have ha := hl a (List.mem_cons_self ..)
    have ht : ∀ x ∈ t, x ≤ n := fun x hx => hl x (List.mem_cons_of_mem _ hx)
    have hseen : seen (sn ++ [n]) a w = seen sn a w := by
      unfold seen
      rw [List.any_append]
      simp only [List.any_cons, List.any_nil, Bool.or_false]
      rw [decide_eq_false (show ¬ n < w by omega), Bool.and_false, Bool.or_false]
    rw [kn, kn, hseen, ih a ha ht, ih w hw ht]
end
