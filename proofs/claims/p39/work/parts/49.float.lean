/-! FLOATING 1: a finite rounding is as near as any other number of the format -/
theorem fp_good : Jvm.FP.Core.Good Jvm.FP.Core.b64 := Jvm.FP.Core.good_b64
theorem fp_near {s t : Bool} {A B c c' : Nat} {e q q' e0 : Int} (hB : 0 < B) (h : Jvm.FP.Core.roundRatio Jvm.FP.Core.b64 s A B e = .fin t c q) (hc' : c' < 2 ^ 53) (hq' : Jvm.FP.Core.b64.qmin ≤ q') (h0 : e0 ≤ Jvm.FP.Core.b64.qmin) (h0e : e0 ≤ e) : Jvm.FP.Core.distance A B e c q e0 ≤ Jvm.FP.Core.distance A B e c' q' e0 :=
  Jvm.FP.Core.roundRatio_nearest fp_good hB h hc' hq' h0 h0e
/-- the value of a rounding that can be met exactly -/
theorem fp_whole {s t : Bool} {c d : Nat} {q e0 : Int} (h : Jvm.FP.Core.roundRatio Jvm.FP.Core.b64 s d 1 0 = .fin t c q) (hd : d < 2 ^ 53) (h0 : e0 ≤ Jvm.FP.Core.b64.qmin) : Jvm.FP.Core.inUnits c q e0 = Jvm.FP.Core.inUnits d 0 e0 := by
  have hq : Jvm.FP.Core.b64.qmin ≤ 0 := by decide
  have := fp_near (c' := d) (q' := 0) (by decide) h hd hq h0 (by omega)
  unfold Jvm.FP.Core.distance at this
  omega
/-- what is below 2^60 rounds to a number -/
theorem fp_fin {s : Bool} {A B : Nat} {e e0 : Int} (hB : 0 < B) (h0 : e0 < Jvm.FP.Core.b64.qmin) (h0e : e0 ≤ e) (hlt : Jvm.FP.Core.inUnits A e e0 < 2 ^ (60 - e0).toNat * B) : ∃ c q, Jvm.FP.Core.roundRatio Jvm.FP.Core.b64 s A B e = .fin s c q := by
  have key : Jvm.FP.Core.roundRatio Jvm.FP.Core.b64 s A B e ≠ .inf s := by
    intro h
    have h2 := (Jvm.FP.Core.roundRatio_inf fp_good (e0 := e0) hB h0 h0e).mp h
    have hq : (60 : Int) ≤ Jvm.FP.Core.b64.qmax - 1 := by decide
    have h3 : 2 ^ (60 - e0).toNat ≤ 2 ^ (Jvm.FP.Core.b64.qmax - 1 - e0).toNat := Nat.pow_le_pow_right (by decide) (by omega)
    have h4 : 1 ≤ 2 ^ (Jvm.FP.Core.b64.p + 1) - 1 := by decide
    have h5 : 2 ^ (60 - e0).toNat ≤ (2 ^ (Jvm.FP.Core.b64.p + 1) - 1) * 2 ^ (Jvm.FP.Core.b64.qmax - 1 - e0).toNat := Nat.le_trans h3 (Nat.le_mul_of_pos_left _ h4)
    have h6 := Nat.mul_le_mul_right B h5
    omega
  unfold Jvm.FP.Core.roundRatio Jvm.FP.Core.roundAt Jvm.FP.Core.settle Jvm.FP.Core.bound at key ⊢
  split
  · exact ⟨_, _, rfl⟩
  · next hA =>
    rw [if_neg hA] at key
    split
    · next h1 =>
      rw [if_pos h1] at key
      split
      · exact ⟨_, _, rfl⟩
      · next h2 => rw [if_neg h2] at key; exact absurd rfl key
    · next h1 =>
      rw [if_neg h1] at key
      split
      · exact ⟨_, _, rfl⟩
      · next h2 => rw [if_neg h2] at key; exact absurd rfl key
