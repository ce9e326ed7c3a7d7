/-! FLOATING 6: a half more, and the comparison -/
theorem fp_num {r : UInt64} {s : Bool} {c : Nat} {q : Int} (h : Jvm.FP.Core.val64 r = .fin s c q) : vf_n64 r := by
  have h1 := (Jvm.FP.Core.ne_nan r).mp (by rw [h]; intro z; cases z)
  unfold vf_n64
  rw [UInt64.le_iff_toNat_le, UInt64.toNat_and]
  have e : (0x7fffffffffffffff : UInt64).toNat = 2 ^ 63 - 1 := by decide
  rw [e, Nat.and_two_pow_sub_one_eq_mod]
  exact h1
theorem fp_hb : Jvm.FP.Core.val64 4602678819172646912 = .fin false (2 ^ 52) (-53) := by decide +kernel
theorem fp_mv {c : Nat} {q r E : Int} (h1 : E ≤ r) (h2 : r ≤ q) : Jvm.FP.Core.inUnits (Jvm.FP.Core.inUnits c q r) r E = Jvm.FP.Core.inUnits c q E := by
  unfold Jvm.FP.Core.inUnits
  rw [Nat.mul_assoc, ← Nat.pow_add, show (q - r).toNat + (r - E).toNat = (q - E).toNat by omega]
theorem fp_half {d : Nat} (hd : d < 2 ^ 28) : ∃ c q, Jvm.FP.Core.val64 (Jvm.FP.Core.dadd (Jvm.FP.Core.i2d (nI d)) 4602678819172646912) = .fin false c q ∧ Jvm.FP.Core.b64.qmin ≤ q ∧ Jvm.FP.Core.inUnits c q (Jvm.FP.Core.b64.qmin - 100) = Jvm.FP.Core.inUnits (2 * d + 1) (-1) (Jvm.FP.Core.b64.qmin - 100) := by
  obtain ⟨cd, qd, g1, g2, g3⟩ := fp_i2d hd
  have hz : Jvm.FP.Core.b64.qmin ≤ -53 := by decide
  obtain ⟨E, hE⟩ : ∃ E, E = Jvm.FP.Core.b64.qmin - 100 := ⟨_, rfl⟩
  obtain ⟨r, hr⟩ : ∃ r, r = min qd (-53) := ⟨_, rfl⟩
  obtain ⟨U, hU⟩ : ∃ U, U = Jvm.FP.Core.inUnits cd qd r + Jvm.FP.Core.inUnits (2 ^ 52) (-53) r := ⟨_, rfl⟩
  have hr1 : r ≤ qd := by omega
  have hr2 : r ≤ -53 := by omega
  have hr3 : E ≤ r := by omega
  have hUE : Jvm.FP.Core.inUnits U r E = Jvm.FP.Core.inUnits (2 * d + 1) (-1) E := by
    have a1 := fp_mv (c := cd) hr3 hr1
    have a2 := fp_mv (c := 2 ^ 52) hr3 hr2
    have a3 := g3 E (by omega)
    have a4 : Jvm.FP.Core.inUnits U r E = Jvm.FP.Core.inUnits (Jvm.FP.Core.inUnits cd qd r) r E + Jvm.FP.Core.inUnits (Jvm.FP.Core.inUnits (2 ^ 52) (-53) r) r E := by
      rw [hU]; unfold Jvm.FP.Core.inUnits; rw [Nat.add_mul]
    rw [a4, a1, a2, a3]
    unfold Jvm.FP.Core.inUnits
    rw [← Nat.pow_add, show (0 - E).toNat = 1 + (-1 - E).toNat by omega, show 52 + (-53 - E).toNat = (-1 - E).toNat by omega, Nat.pow_add, Nat.pow_one, ← Nat.mul_assoc, Nat.add_mul, Nat.one_mul, Nat.mul_comm d 2]
  have hUp : 0 < U := by
    rw [hU]
    have : 0 < Jvm.FP.Core.inUnits (2 ^ 52) (-53) r := by
      unfold Jvm.FP.Core.inUnits
      exact Nat.mul_pos (Nat.two_pow_pos _) (Nat.two_pow_pos _)
    omega
  have hv : Jvm.FP.Core.val64 (Jvm.FP.Core.dadd (Jvm.FP.Core.i2d (nI d)) 4602678819172646912) = Jvm.FP.Core.roundRatio Jvm.FP.Core.b64 false U 1 r := by
    rw [Jvm.FP.Core.val64_dadd, g1, fp_hb]
    have hs : Jvm.FP.Core.sumUnits false cd qd false (2 ^ 52) (-53) (min qd (-53)) = (U : Int) := by
      rw [hU, ← hr]
      unfold Jvm.FP.Core.sumUnits Jvm.FP.Core.signed
      simp
    show Jvm.FP.Core.round Jvm.FP.Core.b64 (.fin (Jvm.FP.Core.sumSign false false (Jvm.FP.Core.sumUnits false cd qd false (2 ^ 52) (-53) (min qd (-53)))) (Jvm.FP.Core.sumUnits false cd qd false (2 ^ 52) (-53) (min qd (-53))).natAbs (min qd (-53))) = _
    rw [hs, ← hr]
    have hsg : Jvm.FP.Core.sumSign false false (U : Int) = false := by
      unfold Jvm.FP.Core.sumSign
      rw [if_neg (by omega)]
      exact decide_eq_false (by omega)
    rw [hsg, Int.natAbs_natCast]
    rfl
  have hlt : Jvm.FP.Core.inUnits U r E < 2 ^ (60 - E).toNat * 1 := by
    rw [hUE, Nat.mul_one]
    unfold Jvm.FP.Core.inUnits
    rw [show (60 - E).toNat = 61 + (-1 - E).toNat by omega, Nat.pow_add]
    exact Nat.mul_lt_mul_of_pos_right (by omega) (Nat.two_pow_pos _)
  obtain ⟨c, q, hc⟩ := fp_fin (s := false) (A := U) (B := 1) (e := r) (e0 := E) (by decide) (by omega) hr3 hlt
  have hf := Jvm.FP.Core.roundRatio_fits fp_good false U (B := 1) (by decide) r
  rw [hc] at hf
  have n0 := fp_near (c' := 2 * d + 1) (q' := -1) (e0 := E) (by decide) hc (by omega) (by omega) (by omega) hr3
  refine ⟨c, q, by rw [hv, hc], hf.2.1, ?_⟩
  rw [← hE]
  unfold Jvm.FP.Core.distance at n0
  rw [hUE] at n0
  simp at n0
  omega
theorem fp_cmp {y z : UInt64} {c c' : Nat} {q q' E : Int} (hy : Jvm.FP.Core.val64 y = .fin false c q) (hz : Jvm.FP.Core.val64 z = .fin false c' q') (hq : E ≤ q) (hq' : E ≤ q') (h : Jvm.FP.Core.inUnits c q E ≤ Jvm.FP.Core.inUnits c' q' E) : ¬ 0 < Op.cmpValue (FP.dcmp y z) CmpOp.g := by
  obtain ⟨m, hm⟩ : ∃ m, m = min q q' := ⟨_, rfl⟩
  have e : FP.dcmp y z = some (compare (Jvm.FP.Core.signed false (Jvm.FP.Core.inUnits c q (min q q'))) (Jvm.FP.Core.signed false (Jvm.FP.Core.inUnits c' q' (min q q')))) := by
    show Jvm.FP.Core.order (Jvm.FP.Core.val64 y) (Jvm.FP.Core.val64 z) = _
    rw [hy, hz]; rfl
  have a1 := fp_mv (c := c) (q := q) (r := m) (E := E) (by omega) (by omega)
  have a2 := fp_mv (c := c') (q := q') (r := m) (E := E) (by omega) (by omega)
  rw [← a1, ← a2] at h
  have h2 : Jvm.FP.Core.inUnits c q m ≤ Jvm.FP.Core.inUnits c' q' m := by
    have : ∀ a b : Nat, Jvm.FP.Core.inUnits a m E ≤ Jvm.FP.Core.inUnits b m E → a ≤ b := fun a b hab => Nat.le_of_mul_le_mul_right hab (Nat.two_pow_pos _)
    exact this _ _ h
  rw [e, ← hm]
  generalize Jvm.FP.Core.inUnits c q m = A at h2
  generalize Jvm.FP.Core.inUnits c' q' m = B at h2
  rcases Nat.lt_or_eq_of_le h2 with hl | he
  · have : compare (Jvm.FP.Core.signed false A) (Jvm.FP.Core.signed false B) = .lt := Int.compare_eq_lt.mpr (by show (A : Int) < (B : Int); omega)
    rw [this]; decide
  · have : compare (Jvm.FP.Core.signed false A) (Jvm.FP.Core.signed false B) = .eq := Int.compare_eq_eq.mpr (by show (A : Int) = (B : Int); omega)
    rw [this]; decide
