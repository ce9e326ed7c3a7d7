/-! FLOATING 3: an int as a double -/
theorem fp_i2d {d : Nat} (hd : d < 2 ^ 28) : ∃ c q, Jvm.FP.Core.val64 (Jvm.FP.Core.i2d (nI d)) = .fin false c q ∧ Jvm.FP.Core.b64.qmin ≤ q ∧ ∀ E, E ≤ Jvm.FP.Core.b64.qmin → Jvm.FP.Core.inUnits c q E = Jvm.FP.Core.inUnits d 0 E := by
  have hi : (nI d).toInt = (d : Int) := by
    unfold nI
    rw [Int32.toInt_ofNat_of_lt (by omega)]
  have hr : Jvm.FP.Core.round Jvm.FP.Core.b64 (Jvm.FP.Core.ofInt (nI d).toInt) = Jvm.FP.Core.roundRatio Jvm.FP.Core.b64 false d 1 0 := by
    rw [hi]
    unfold Jvm.FP.Core.ofInt Jvm.FP.Core.round
    rw [decide_eq_false (show ¬ (d : Int) < 0 by omega), Int.natAbs_natCast]
  have hq0 : Jvm.FP.Core.b64.qmin ≤ 0 := by decide
  obtain ⟨c, q, h⟩ := fp_fin (s := false) (A := d) (B := 1) (e := 0) (e0 := Jvm.FP.Core.b64.qmin - 100) (by decide) (by omega) (by omega) (by
    unfold Jvm.FP.Core.inUnits
    rw [show (60 - (Jvm.FP.Core.b64.qmin - 100)).toNat = 60 + (0 - (Jvm.FP.Core.b64.qmin - 100)).toNat by omega, Nat.pow_add, Nat.mul_one]
    exact Nat.mul_lt_mul_of_pos_right (by omega) (Nat.two_pow_pos _))
  have hf := Jvm.FP.Core.roundRatio_fits fp_good false d (B := 1) (by decide) 0
  rw [h] at hf
  exact ⟨c, q, by rw [Jvm.FP.Core.val64_i2d, hr, h], hf.2.1, fun E hE => fp_whole h (by omega) hE⟩
