/-! FLOATING 5: times the divisor again -/
theorem fp_mul {d n : Nat} (hd : d < 2 ^ 28) (hn : 1 ≤ n) (hn5 : n ≤ 512) {y : UInt64} {cy : Nat} {qy : Int} (hy : Jvm.FP.Core.val64 y = .fin false cy qy) (hqy : Jvm.FP.Core.b64.qmin ≤ qy) (hr : Jvm.FP.Core.roundRatio Jvm.FP.Core.b64 false d n 0 = .fin false cy qy) :
    ∃ c q, Jvm.FP.Core.val64 (Jvm.FP.Core.dmul y (Jvm.FP.Core.i2d (nI n))) = .fin false c q ∧ Jvm.FP.Core.b64.qmin ≤ q ∧ Jvm.FP.Core.inUnits c q (Jvm.FP.Core.b64.qmin - 100) ≤ Jvm.FP.Core.inUnits (2 * d + 1) (-1) (Jvm.FP.Core.b64.qmin - 100) := by
  obtain ⟨cn, qn, g1, g2, g3⟩ := fp_i2d (d := n) (by omega)
  have a2 := g3 Jvm.FP.Core.b64.qmin (Int.le_refl _)
  unfold Jvm.FP.Core.inUnits at a2
  have hz : Jvm.FP.Core.b64.qmin ≤ 0 := by decide
  have k : cn * 2 ^ (qn).toNat = n * 2 ^ (-qn).toNat := by
    rcases Int.le_total 0 qn with e | e
    · rw [show (qn - Jvm.FP.Core.b64.qmin).toNat = qn.toNat + (0 - Jvm.FP.Core.b64.qmin).toNat by omega, Nat.pow_add, ← Nat.mul_assoc] at a2
      have := Nat.eq_of_mul_eq_mul_right (Nat.two_pow_pos _) a2
      rw [show (-qn).toNat = 0 by omega, Nat.pow_zero, Nat.mul_one]
      exact this
    · rw [show (0 - Jvm.FP.Core.b64.qmin).toNat = (-qn).toNat + (qn - Jvm.FP.Core.b64.qmin).toNat by omega, Nat.pow_add, ← Nat.mul_assoc] at a2
      have := Nat.eq_of_mul_eq_mul_right (Nat.two_pow_pos _) a2
      rw [show qn.toNat = 0 by omega, Nat.pow_zero, Nat.mul_one]
      exact this
  have hcg : Jvm.FP.Core.roundRatio Jvm.FP.Core.b64 false (cy * cn) 1 (qy + qn) = Jvm.FP.Core.roundRatio Jvm.FP.Core.b64 false (cy * n) 1 qy := by
    refine Jvm.FP.Core.roundRatio_congr (by decide) (by decide) ?_
    rw [Nat.mul_one, Nat.mul_one, show qy + qn - qy = qn by omega, show qy - (qy + qn) = -qn by omega, Nat.mul_assoc, Nat.mul_assoc, k]
  have n0 := fp_near (c' := 0) (q' := 0) (e0 := Jvm.FP.Core.b64.qmin - 100) (by omega) hr (by decide) hz (by omega) (by omega)
  have hfin : Jvm.FP.Core.inUnits (cy * n) qy (Jvm.FP.Core.b64.qmin - 100) < 2 ^ (60 - (Jvm.FP.Core.b64.qmin - 100)).toNat * 1 := by
    unfold Jvm.FP.Core.distance Jvm.FP.Core.inUnits at n0
    unfold Jvm.FP.Core.inUnits
    rw [show (60 - (Jvm.FP.Core.b64.qmin - 100)).toNat = 60 + (0 - (Jvm.FP.Core.b64.qmin - 100)).toNat by omega, Nat.pow_add, Nat.mul_one]
    rw [Nat.zero_mul, ← Int.natCast_mul, ← Int.natCast_mul, Nat.zero_mul] at n0
    rw [Nat.mul_right_comm cy n]
    have hp := Nat.two_pow_pos (0 - (Jvm.FP.Core.b64.qmin - 100)).toNat
    have hlt := Nat.mul_lt_mul_of_pos_right (show 2 * d < 2 ^ 60 by omega) hp
    rw [Nat.mul_assoc] at hlt
    obtain ⟨X, hX⟩ : ∃ x, x = cy * 2 ^ (qy - (Jvm.FP.Core.b64.qmin - 100)).toNat * n := ⟨_, rfl⟩
    obtain ⟨D, hD⟩ : ∃ x, x = d * 2 ^ (0 - (Jvm.FP.Core.b64.qmin - 100)).toNat := ⟨_, rfl⟩
    obtain ⟨T, hT⟩ : ∃ x, x = 2 ^ 60 * 2 ^ (0 - (Jvm.FP.Core.b64.qmin - 100)).toNat := ⟨_, rfl⟩
    rw [← hX, ← hD] at n0
    rw [← hD, ← hT] at hlt
    rw [← hX, ← hT]
    clear hX hD hT hcg k a2 g1 g3 hr hy
    omega
  obtain ⟨c, q, hc⟩ := fp_fin (s := false) (A := cy * n) (B := 1) (e := qy) (by decide) (by omega) (by omega) hfin
  have hf := Jvm.FP.Core.roundRatio_fits fp_good false (cy * n) (B := 1) (by decide) qy
  rw [hc] at hf
  refine ⟨c, q, ?_, hf.2.1, fp_core hn hn5 hd hr hqy hc rfl⟩
  rw [Jvm.FP.Core.val64_dmul, hy, g1]
  show Jvm.FP.Core.roundRatio Jvm.FP.Core.b64 (false != false) (cy * cn) 1 (qy + qn) = _
  rw [show (false != false) = false from rfl, hcg, hc]
