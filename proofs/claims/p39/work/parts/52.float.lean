/-! FLOATING 4: the quotient of two ints -/
theorem fp_div {d n : Nat} (hd : d < 2 ^ 28) (hn : 1 ≤ n) (hn5 : n ≤ 512) : ∃ c q, Jvm.FP.Core.val64 (Jvm.FP.Core.ddiv (Jvm.FP.Core.i2d (nI d)) (Jvm.FP.Core.i2d (nI n))) = .fin false c q ∧ Jvm.FP.Core.b64.qmin ≤ q ∧ Jvm.FP.Core.roundRatio Jvm.FP.Core.b64 false d n 0 = .fin false c q := by
  obtain ⟨c, q, h1, h2, h3⟩ := fp_i2d hd
  obtain ⟨cn, qn, g1, g2, g3⟩ := fp_i2d (d := n) (by omega)
  have a1 := h3 Jvm.FP.Core.b64.qmin (Int.le_refl _)
  have a2 := g3 Jvm.FP.Core.b64.qmin (Int.le_refl _)
  unfold Jvm.FP.Core.inUnits at a1 a2
  have hcn : 0 < cn := by
    rcases Nat.eq_zero_or_pos cn with e | e
    · rw [e, Nat.zero_mul] at a2
      have := Nat.mul_pos (show 0 < n by omega) (Nat.two_pow_pos (0 - Jvm.FP.Core.b64.qmin).toNat)
      omega
    · exact e
  have hz : Jvm.FP.Core.b64.qmin ≤ 0 := by decide
  have k : c * n * 2 ^ (q - Jvm.FP.Core.b64.qmin).toNat = d * cn * 2 ^ (qn - Jvm.FP.Core.b64.qmin).toNat := by
    rw [Nat.mul_right_comm, a1, Nat.mul_assoc d cn, a2, Nat.mul_assoc d, Nat.mul_comm (2 ^ _) n]
  have hcg : Jvm.FP.Core.roundRatio Jvm.FP.Core.b64 false c cn (q - qn) = Jvm.FP.Core.roundRatio Jvm.FP.Core.b64 false d n 0 := by
    refine Jvm.FP.Core.roundRatio_congr hcn (by omega) ?_
    rcases Int.le_total qn q with e | e
    · rw [show (q - Jvm.FP.Core.b64.qmin).toNat = (q - qn - 0).toNat + (qn - Jvm.FP.Core.b64.qmin).toNat by omega, Nat.pow_add, ← Nat.mul_assoc] at k
      have := Nat.eq_of_mul_eq_mul_right (Nat.two_pow_pos _) k
      rw [show (0 - (q - qn)).toNat = 0 by omega, Nat.pow_zero, Nat.mul_one]
      exact this
    · rw [show (qn - Jvm.FP.Core.b64.qmin).toNat = (0 - (q - qn)).toNat + (q - Jvm.FP.Core.b64.qmin).toNat by omega, Nat.pow_add, ← Nat.mul_assoc] at k
      have := Nat.eq_of_mul_eq_mul_right (Nat.two_pow_pos _) k
      rw [show (q - qn - 0).toNat = 0 by omega, Nat.pow_zero, Nat.mul_one]
      exact this
  obtain ⟨cy, qy, hy⟩ := fp_fin (s := false) (A := d) (B := n) (e := 0) (e0 := Jvm.FP.Core.b64.qmin - 100) (by omega) (by omega) (by omega) (by
    unfold Jvm.FP.Core.inUnits
    rw [show (60 - (Jvm.FP.Core.b64.qmin - 100)).toNat = 60 + (0 - (Jvm.FP.Core.b64.qmin - 100)).toNat by omega, Nat.pow_add]
    have hp := Nat.two_pow_pos (0 - (Jvm.FP.Core.b64.qmin - 100)).toNat
    refine Nat.lt_of_lt_of_le (Nat.mul_lt_mul_of_pos_right (show d < 2 ^ 60 by omega) hp) (Nat.le_mul_of_pos_right _ (by omega)))
  have hf := Jvm.FP.Core.roundRatio_fits fp_good false d (B := n) (by omega) 0
  rw [hy] at hf
  refine ⟨cy, qy, ?_, hf.2.1, hy⟩
  rw [Jvm.FP.Core.val64_ddiv, h1, g1]
  unfold Jvm.FP.Core.quotient
  show (if cn = 0 then _ else Jvm.FP.Core.roundRatio Jvm.FP.Core.b64 (false != false) c cn (q - qn)) = _
  rw [if_neg (by omega), show (false != false) = false from rfl, hcg, hy]
