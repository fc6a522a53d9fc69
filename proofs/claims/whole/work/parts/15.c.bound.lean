/-! ===== BOUND (to come) ===== -/
theorem cutl_256 {n : Nat} {X Y : Nat → Int} (hn : n ≤ 8) (dst : ∀ i j, i < n → j < n → X i = X j → Y i = Y j → i = j) : (cutl (crf n X Y) (fN n X Y)).length ≤ 256 := sorry
