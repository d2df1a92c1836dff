def zS (z : Int64) : Int64 := (z * (6364136223846793005 : Int64)) + (1442695040888963407 : Int64)
def up (z : Int64) : Int32 := (((zS z).toUInt64 >>> ((33 : Int32).toInt64.toUInt64 &&& Int64.toUInt64 63)).toInt64).toInt32
theorem up_nI (z : Int64) : ∃ j, j < 2 ^ 31 ∧ up z = nI j := by
  unfold up
  generalize hu : (zS z).toUInt64 >>> ((33 : Int32).toInt64.toUInt64 &&& Int64.toUInt64 63) = u
  have hlt : u.toNat < 2 ^ 31 := by
    rw [← hu, UInt64.toNat_shiftRight, show ((33 : Int32).toInt64.toUInt64 &&& Int64.toUInt64 63).toNat % 64 = 33 by decide, Nat.shiftRight_eq_div_pow]
    have := (zS z).toUInt64.toNat_lt
    omega
  refine ⟨u.toNat, hlt, ?_⟩
  apply Int32.toInt_inj.mp
  rw [Int64.toInt_toInt32, nI_toInt hlt]
  have e : u.toInt64.toInt = u.toNat := by
    rw [show u.toInt64 = Int64.ofUInt64 u from rfl]
    sorry
  rw [e]
  exact Int.bmod_eq_of_le (by omega) (by omega)
