/-! the law's invariant -/
def Sn (S : cs_St) (K : Nat → Nat) (V : Nat → Int32) (C sn : List Nat) (sp : Int32) (f : Nat → Int32) (wide : Nat) : Prop :=
  (sn = [] ∧ sp = -1 ∧ LV (S.1 8) []) ∨ ∃ s0 t, sn = [s0] ∧ sp = nI t ∧ t < 1000 ∧ LV (S.1 8) [sp] ∧ ∀ q, q < wide → f q = rd K V C q s0
def J (S : cs_St) (way fan pc wide : Nat) (sp : Int32) (f : Nat → Int32) (n b t : Nat) : Prop :=
  ∃ N K V ord L sn Hd Wr sf, Gd S N K V ord L sn Hd Wr sf way fan pc wide b ∧ (∀ a, 1 ≤ a → a ≤ N → V a = -1 ∨ 0 ≤ V a) ∧ N ≤ n ∧ S.2 8 = nI t ∧ Sn S K V (Hd ++ agz (RS L)) sn sp f wide
section
variable {S S' : cs_St} {way fan pc wide : Nat} {sp : Int32} {f : Nat → Int32} {n b t : Nat}
theorem J.mono {n' b' : Nat} (h : J S way fan pc wide sp f n b t) (hn : n ≤ n') (hb : b ≤ b') : J S way fan pc wide sp f n' b' t := by
  obtain ⟨N, K, V, ord, L, sn, Hd, Wr, sf, hG, hV, hN, h8, hs⟩ := h
  exact ⟨N, K, V, ord, L, sn, Hd, Wr, sf, hG.mono hb, hV, Nat.le_trans hN hn, h8, hs⟩
theorem J.write (h : J S way fan pc wide sp f n b t) {k : Nat} (hk : k < wide) (hw : wide ≤ 10000) (hn : n + 1 < 512) {v : Int32} (hv : v = -1 ∨ 0 ≤ v) (e : S' = m_X6_settle (m_X6_write S (nI k) v).2) : J S' way fan pc wide sp f (n + 1) (b + 2000000) t := by
  obtain ⟨N, K, V, ord, L, sn, Hd, Wr, sf, hG, hV, hN, h8, hs⟩ := h
  obtain ⟨S1, ord', L', H', W', sf', e1, hG', hrd, r1, r2⟩ := op_write hG hk hw (by omega) v
  rw [e, e1]
  refine ⟨N + 1, kup K (N + 1) k, vup V (N + 1) v, ord', L', sn, H', W', sf', hG', fun a h1 h2 => ?_, by omega, by rw [r1 8 (by decide)]; exact h8, ?_⟩
  · unfold vup
    by_cases ha : a = N + 1
    · rw [if_pos ha]; exact hv
    · rw [if_neg ha]; exact hV a h1 (by omega)
  · rcases hs with ⟨a1, a2, a3⟩ | ⟨s0, t0, a1, a2, a3, a4, a5⟩
    · exact Or.inl ⟨a1, a2, by rw [r2 8 (by decide)]; exact a3⟩
    · refine Or.inr ⟨s0, t0, a1, a2, a3, by rw [r2 8 (by decide)]; exact a4, fun q hq => ?_⟩
      rw [hrd s0 (by rw [a1]; exact List.mem_singleton.mpr rfl) q]; exact a5 q hq
theorem J.flush (h : J S way fan pc wide sp f n b t) (e : S' = m_X6_settle (m_X6_layHand S)) : J S' way fan pc wide sp f n (b + 2000000) t := by
  obtain ⟨N, K, V, ord, L, sn, Hd, Wr, sf, hG, hV, hN, h8, hs⟩ := h
  obtain ⟨S1, L', e1, hG', hrd, r1, r2⟩ := op_flush hG
  rw [e, e1]
  refine ⟨N, K, V, ord, L', sn, [], [], 0, hG', hV, hN, by rw [r1 8 (by decide)]; exact h8, ?_⟩
  rcases hs with ⟨a1, a2, a3⟩ | ⟨s0, t0, a1, a2, a3, a4, a5⟩
  · exact Or.inl ⟨a1, a2, by rw [r2 8 (by decide)]; exact a3⟩
  · refine Or.inr ⟨s0, t0, a1, a2, a3, by rw [r2 8 (by decide)]; exact a4, fun q hq => ?_⟩
    rw [hrd s0 (by rw [a1]; exact List.mem_singleton.mpr rfl) q]; exact a5 q hq
theorem there0 {l : List Int32} (h : LV (S.1 8) l) : m_X5_there S = nI l.length := by
  rw [m_X5_there]; simp only [cs_lx]; rw [len_eq, h.1]
theorem nI_not_neg {k : Nat} (h : k < 1000) : 0 ≤ nI k := nI_le (a := 0) (Nat.zero_le _) (by omega)
theorem kt_up {K : Nat → Nat} {V : Nat → Int32} {G : Nat → Bool} {lim : Nat} : ∀ (l : List Nat) (c : Nat), l.Pairwise (srt K) → (∀ b ∈ l, c ≤ K b + 1) → (kt K V G lim c l).Pairwise (fun a b => K a < K b) := by
  intro l
  induction l with
  | nil => intro c _ _; exact List.Pairwise.nil
  | cons a t ih =>
    intro c hp hc
    obtain ⟨h1, h2⟩ := List.pairwise_cons.mp hp
    have hc' : ∀ b ∈ t, K a + 1 ≤ K b + 1 := fun b hb => by rcases h1 b hb with z | ⟨z, -⟩ <;> omega
    have hc2 : ∀ b ∈ t, c ≤ K b + 1 := fun b hb => hc b (List.mem_cons_of_mem _ hb)
    rw [kt]
    split
    · split
      · exact ih (K a + 1) h2 hc'
      · refine List.pairwise_cons.mpr ⟨fun b hb => ?_, ih (K a + 1) h2 hc'⟩
        have h3 := (kt_mem t (K a + 1) h2 hc' b).mp hb
        have h4 := hc' b h3.1
        have h5 : K a + 1 ≠ K b + 1 := h3.2.2.2.2.1
        omega
    · exact ih c h2 hc2
theorem tha_up {N : Nat} {K : Nat → Nat} {V : Nat → Int32} {ord : List Nat} {L : Nat → List Run} {sn Hd Wr : List Nat} {sf : Nat} (hI : Iv S N K V ord L sn Hd Wr sf way fan pc) (C : List Nat) (lim : Nat) : ((tha K V ord C lim).map K).Pairwise (· < ·) := by
  rw [List.pairwise_map]
  exact kt_up ord 0 hI.1.1.1.2.2.2.2.1 (fun b _ => Nat.zero_le _)
theorem tha_in {N : Nat} {K : Nat → Nat} {V : Nat → Int32} {ord : List Nat} {L : Nat → List Run} {sn Hd Wr : List Nat} {sf : Nat} (hG : Gd S N K V ord L sn Hd Wr sf way fan pc wide b) (C : List Nat) (lim : Nat) : ∀ k ∈ (tha K V ord C lim).map K, k < wide := by
  intro k hk
  obtain ⟨a, ha, rfl⟩ := List.mem_map.mp hk
  have h1 := hG.1.1.1.1.mem ((tha_sub C lim).subset ha)
  exact hG.2.2.1 a h1.1 h1.2
/-- the answers of next, one behind the other -/
theorem nxt_first {ks : List Nat} (hk : ∀ k ∈ ks, k < 2 ^ 31) : nxt ks (-1) = (match ks[0]? with | some k => nI k | none => -1) := by
  cases ks with
  | nil => rfl
  | cons k t =>
    unfold nxt
    rw [List.find?_cons_of_pos (by
      have h := neg1 (hk k List.mem_cons_self)
      refine decide_eq_true (fun z => ?_)
      have h1 := Int32.lt_iff_toInt_lt.mp h
      have h2 := Int32.le_iff_toInt_le.mp z
      omega)]
    rfl
theorem nxt_next {ks : List Nat} (hu : ks.Pairwise (· < ·)) (hk : ∀ k ∈ ks, k < 2 ^ 31) {i k : Nat} (hi : ks[i]? = some k) : nxt ks (nI k) = (match ks[i + 1]? with | some k => nI k | none => -1) := by
  induction ks generalizing i with
  | nil => simp at hi
  | cons a t ih =>
    obtain ⟨h1, h2⟩ := List.pairwise_cons.mp hu
    have hk2 : ∀ k ∈ t, k < 2 ^ 31 := fun k z => hk k (List.mem_cons_of_mem _ z)
    have hak : a ≤ k := by
      cases i with
      | zero => simp at hi; omega
      | succ i => simp at hi; exact Nat.le_of_lt (h1 k (List.mem_of_getElem? hi))
    have hkm : k < 2 ^ 31 := hk k (List.mem_of_getElem? hi)
    have e : nxt (a :: t) (nI k) = nxt t (nI k) := by
      unfold nxt
      rw [List.find?_cons_of_neg (by
        rw [decide_eq_true_eq]
        exact fun z => z (nI_le hak hkm))]
    rw [e]
    cases i with
    | zero =>
      simp at hi
      subst hi
      rw [List.getElem?_cons_succ]
      cases t with
      | nil => rfl
      | cons x t' =>
        unfold nxt
        rw [List.find?_cons_of_pos (by
          refine decide_eq_true ?_
          exact nI_ge (h1 x List.mem_cons_self) (hk2 x List.mem_cons_self))]
        rfl
    | succ i => rw [List.getElem?_cons_succ]; rw [List.getElem?_cons_succ] at hi; exact ih h2 hk2 hi
theorem nxt_lt {ks : List Nat} {w : Nat} (hw : w < 2 ^ 31) (h0 : 0 < w) (hk : ∀ k ∈ ks, k < w) (u : Int32) : ¬ nI w ≤ nxt ks u := by
  unfold nxt
  split
  · intro z
    have h1 := Int32.le_iff_toInt_le.mp z
    rw [nI_toInt hw] at h1
    have e1 : ((-1 : Int32)).toInt = -1 := by decide
    omega
  · next k hf => exact nI_ge (hk k (List.mem_of_find?_eq_some hf)) hw
end
