/-! ===== calls keep what holds: runs, marks, texts ===== -/
theorem nI_sj (v : Int32) : ∃ n, v = nI n := ⟨v.toUInt32.toNat, by
  apply Int32.toBitVec_inj.mp
  simp [nI]⟩
