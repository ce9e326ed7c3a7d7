/-! FLOATING 2: d / n, rounded, times n, rounded: no more than d + 1/2 -/
theorem fp_core {s s' t t' : Bool} {d n cy cz : Nat} {qy qz : Int} (hn : 1 ≤ n) (hn5 : n ≤ 512) (hd : d < 2 ^ 28) (h1 : Jvm.FP.Core.roundRatio Jvm.FP.Core.b64 s d n 0 = .fin t cy qy) (hqy : Jvm.FP.Core.b64.qmin ≤ qy) (h2 : Jvm.FP.Core.roundRatio Jvm.FP.Core.b64 s' (cy * n) 1 qy = .fin t' cz qz) {E : Int} (hE : E = Jvm.FP.Core.b64.qmin - 100) :
    Jvm.FP.Core.inUnits cz qz E ≤ Jvm.FP.Core.inUnits (2 * d + 1) (-1) E := by
  have hq : Jvm.FP.Core.b64.qmin ≤ -100 := by decide
  have hm1 : d * 2 ^ 20 ≤ (d * 2 ^ 20 + n - 1) / n * n ∧ (d * 2 ^ 20 + n - 1) / n * n ≤ d * 2 ^ 20 + n - 1 := by
    have h := Nat.div_add_mod (d * 2 ^ 20 + n - 1) n
    have h3 := Nat.mod_lt (d * 2 ^ 20 + n - 1) (show n > 0 by omega)
    rw [Nat.mul_comm] at h
    omega
  have hm53 : (d * 2 ^ 20 + n - 1) / n < 2 ^ 53 := by
    have := Nat.div_le_self (d * 2 ^ 20 + n - 1) n
    omega
  have n1 := fp_near (c' := (d * 2 ^ 20 + n - 1) / n) (q' := -20) (e0 := E) (by omega) h1 hm53 (by omega) (by omega) (by omega)
  have n2 := fp_near (c' := 2 * d + 1) (q' := -1) (e0 := E) (by decide) h2 (by omega) (by omega) (by omega) (by omega)
  generalize (d * 2 ^ 20 + n - 1) / n = m at n1 hm1
  unfold Jvm.FP.Core.distance Jvm.FP.Core.inUnits at n1 n2
  unfold Jvm.FP.Core.inUnits
  rw [show (0 - E).toNat = 20 + (-20 - E).toNat by omega, Nat.pow_add] at n1
  rw [show (-1 - E).toNat = 19 + (-20 - E).toNat by omega, Nat.pow_add] at n2 ⊢
  generalize 2 ^ (-20 - E).toNat = w at n1 n2 ⊢
  have e1 : cy * n * 2 ^ (qy - E).toNat = cy * 2 ^ (qy - E).toNat * n := by rw [Nat.mul_assoc, Nat.mul_comm n, ← Nat.mul_assoc]
  rw [e1] at n2
  generalize cy * 2 ^ (qy - E).toNat = Y at n1 n2
  generalize cz * 2 ^ (qz - E).toNat = Z at n2 ⊢
  rw [← Int.natCast_mul, ← Int.natCast_mul] at n1
  rw [Int.natCast_one, Int.mul_one, Int.mul_one] at n2
  have e2 : m * w * n = m * n * w := by rw [Nat.mul_assoc, Nat.mul_comm w, ← Nat.mul_assoc]
  have e3 : d * (2 ^ 20 * w) = d * 2 ^ 20 * w := by rw [Nat.mul_assoc]
  have e4 : (2 * d + 1) * (2 ^ 19 * w) = (d * 2 ^ 20 + 2 ^ 19) * w := by
    rw [← Nat.mul_assoc]
    exact congrArg (· * w) (by omega)
  rw [e2, e3] at n1
  rw [e4] at n2 ⊢
  have k1 := Nat.mul_le_mul_right w hm1.1
  have k2 := Nat.mul_le_mul_right w (show m * n ≤ d * 2 ^ 20 + 511 by omega)
  have k3 := Nat.mul_le_mul_right w (show d * 2 ^ 20 + 511 ≤ d * 2 ^ 20 + 2 ^ 19 by omega)
  obtain ⟨bb, hb⟩ : ∃ x, x = d * 2 ^ 20 * w := ⟨_, rfl⟩
  obtain ⟨T, hT⟩ : ∃ x, x = (d * 2 ^ 20 + 2 ^ 19) * w := ⟨_, rfl⟩
  obtain ⟨F, hF⟩ : ∃ x, x = (d * 2 ^ 20 + 511) * w := ⟨_, rfl⟩
  obtain ⟨a, ha⟩ : ∃ x, x = m * n * w := ⟨_, rfl⟩
  obtain ⟨X, hX⟩ : ∃ x, x = Y * n := ⟨_, rfl⟩
  rw [← hb, ← ha, ← hX] at n1
  rw [← hT, ← hX] at n2
  rw [← hb, ← ha] at k1
  rw [← ha, ← hF] at k2
  rw [← hF, ← hT] at k3
  rw [← hT]
  clear hb hT hF ha hX hm1 hm53 h1 h2 e1 e2 e3 e4
  omega
