/-! texts: length and charAt of the constants -/
def sLen (k : Nat) : Int32 := nI (lenJS.getD k 0)
def sAt (k : Nat) (i : Int32) : Option Int32 := ck (inb i (lenJS.getD k 0)) (some ((bytJS.getD k []).getD i.toNatClampNeg 0))
theorem EJ0_length (k : Nat) (σ : Mem) : Ev mJ0_length [.inr (.inr (12, k))] σ (some (.inl (sLen k)) : Option AV) σ := by
  sorry
theorem EJ0_charAt {k : Nat} {i : Int32} {σ : Mem} {w : Int32} (h : sAt k i = some w) : Ev mJ0_charAt [.inr (.inr (12, k)), .inl i] σ (some (.inl w) : Option AV) σ := by
  sorry
