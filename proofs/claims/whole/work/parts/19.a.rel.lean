/-! ===== REL: what stands between the two memories ===== -/
def Sh1 (m l n : Int32) (a : Nat → Int64) (n' l' : Int32) (a' : Nat → Int64) : Prop := (m = 0 ∧ ∃ L, L ≤ 20 ∧ n = nI L ∧ n' = nI L ∧ l' = l ∧ ∀ i, i < L → a' i = a i) ∨ (m = 1 ∧ n' = -1)
def ShR (MX MR : Mem) : Prop :=
  Sh1 (MX.1 2 1) (MX.1 2 2) (MX.1 2 3) (MX.2 6) (MR.1 1 0) (MR.1 2 0) (fun i => MR.2 3 (0 + i)) ∧
  Sh1 (MX.1 3 1) (MX.1 3 2) (MX.1 3 3) (MX.2 7) (MR.1 1 1) (MR.1 2 1) (fun i => MR.2 3 (20 + i)) ∧
  Sh1 (MX.1 4 1) (MX.1 4 2) (MX.1 4 3) (MX.2 8) (MR.1 1 2) (MR.1 2 2) (fun i => MR.2 3 (40 + i)) ∧
  Sh1 (MX.1 5 1) (MX.1 5 2) (MX.1 5 3) (MX.2 9) (MR.1 1 3) (MR.1 2 3) (fun i => MR.2 3 (60 + i))
def PoR (MX MR : Mem) : Prop := ∃ n X Y, Pts n X Y ∧ XP n X Y MX ∧ RP n X Y MR
/-- what there is to go back to: L, the latest first -/
def PaR (n : Nat) (X Y : Nat → Int) (H B nx : Nat) (L : List Nat) (MX MR : Mem) : Prop := MX.1 31 0 = nI L.length ∧ MR.1 0 25 = nI L.length ∧ L.length ≤ 10 ∧ ∀ k c, L[k]? = some c → c < cN n X Y ∧ ap n X Y H B c = true ∧ MX.1 32 ((nx + 9 - k) % 10) = nI c ∧ MR.1 15 (L.length - 1 - k) = nI (cg n X Y c)
/-- the ground at hand: i is THE CUTTING -/
def GrW (n : Nat) (X Y : Nat → Int) (H B i nx : Nat) (L : List Nat) (MX MR : Mem) : Prop := 3 ≤ n ∧ Pts n X Y ∧ cN n X Y ≤ 256 ∧ H < 2 ^ 28 ∧ B < 2 ^ 28 ∧ XW n X Y H B MX ∧ RW n X Y H B MR ∧ MX.1 0 9 = nI i ∧ MR.1 0 24 = nI (cg n X Y i) ∧ i < cN n X Y ∧ ap n X Y H B i = true ∧ PaR n X Y H B nx L MX MR ∧ ∀ f, f < fN n X Y → MX.1 33 f = MR.1 12 f
def GrR (nx : Nat) (MX MR : Mem) : Prop := (MX.1 0 8 = 0 ∧ MR.1 0 8 = 0) ∨ (MX.1 0 8 = 1 ∧ MR.1 0 8 = 1 ∧ ∃ n X Y H B i L, GrW n X Y H B i nx L MX MR)
def RsR (MX MR : Mem) : Prop := MX.1 0 10 = MR.1 0 4 ∧ PoR MX MR ∧ ∃ nx, nx < 10 ∧ MX.1 31 2 = nI nx ∧ GrR nx MX MR
def Rel (MX MR : Mem) : Prop := ShR MX MR ∧ RsR MX MR
theorem rel_init : Rel xM0 rM0 := by
  refine ⟨⟨Or.inr ⟨rfl, ?_⟩, Or.inr ⟨rfl, ?_⟩, Or.inr ⟨rfl, ?_⟩, Or.inr ⟨rfl, ?_⟩⟩, rfl, ⟨0, fun _ => 0, fun _ => 0, ⟨by omega, fun i h => absurd h (Nat.not_lt_zero i), fun i j h => absurd h (Nat.not_lt_zero i)⟩, ⟨rfl, fun i h => absurd h (Nat.not_lt_zero i), fun i h => absurd h (Nat.not_lt_zero i)⟩, ⟨rfl, fun i h => absurd h (Nat.not_lt_zero i), fun i h => absurd h (Nat.not_lt_zero i)⟩⟩, 0, by omega, rfl, Or.inl ⟨rfl, rfl⟩⟩ <;>
  decide +kernel
/-! ranges -/
theorem t32 (a : Int32) : a.toInt64.toInt = a.toInt := Int32.toInt_toInt64 a
theorem rw_in {v lo hi : Int64} {M : Mem} {Q : Int32 → Mem → Prop} (q1 : lo.toInt ≤ v.toInt ∧ v.toInt ≤ hi.toInt → Q 1 M) (q0 : ¬ (lo.toInt ≤ v.toInt ∧ v.toInt ≤ hi.toInt) → Q 0 M) : wp_X8_in v lo hi M Q := by
  unfold wp_X8_in
  rw [lg_cmp_lt, lg_cmp_gt, Int64.lt_iff_toInt_lt, Int64.lt_iff_toInt_lt]
  by_cases h1 : v.toInt < lo.toInt
  · exact br_t h1 (q0 (by omega))
  · refine br_f h1 ?_
    by_cases h2 : hi.toInt < v.toInt
    · exact br_t h2 (q0 (by omega))
    · exact br_f h2 (q1 (by omega))
theorem in_lt {x y : Int32} : x < y ↔ x.toInt < y.toInt := Int32.lt_iff_toInt_lt
theorem in_le {x y : Int32} : x ≤ y ↔ x.toInt ≤ y.toInt := Int32.le_iff_toInt_le
theorem xw_isSheet {a : Int32} {M : Mem} {Q : Int32 → Mem → Prop} (q1 : 0 ≤ a.toInt ∧ a.toInt ≤ 3 → Q 1 M) (q0 : ¬ (0 ≤ a.toInt ∧ a.toInt ≤ 3) → Q 0 M) : wp_X7_isSheet a M Q := by
  unfold wp_X7_isSheet
  rw [in_lt, in_le, show (0 : Int32).toInt = 0 by decide, show (4 : Int32).toInt = 4 by decide]
  by_cases h1 : a.toInt < 0
  · exact br_t h1 (q0 (by omega))
  · refine br_f h1 ?_
    by_cases h2 : 4 ≤ a.toInt
    · exact br_t h2 (q0 (by omega))
    · exact br_f h2 (q1 (by omega))
theorem xw_isLane {a : Int32} {M : Mem} {Q : Int32 → Mem → Prop} (q1 : 0 ≤ a.toInt ∧ a.toInt ≤ 3 → Q 1 M) (q0 : ¬ (0 ≤ a.toInt ∧ a.toInt ≤ 3) → Q 0 M) : wp_X7_isLane a M Q := by
  unfold wp_X7_isLane
  rw [in_lt, in_lt, show (0 : Int32).toInt = 0 by decide, show (3 : Int32).toInt = 3 by decide]
  by_cases h1 : a.toInt < 0
  · exact br_t h1 (q0 (by omega))
  · refine br_f h1 ?_
    by_cases h2 : 3 < a.toInt
    · exact br_t h2 (q0 (by omega))
    · exact br_f h2 (q1 (by omega))
theorem to_nI {a : Int32} (h : 0 ≤ a.toInt) : ∃ j : Nat, j < 2 ^ 31 ∧ a = nI j ∧ a.toInt = j := by
  obtain ⟨j, hj, rfl⟩ := nI_of (x := a) (by rw [in_lt, show (0 : Int32).toInt = 0 by decide]; omega)
  exact ⟨j, hj, rfl, nI_toInt hj⟩
theorem four {a : Int32} (h : 0 ≤ a.toInt ∧ a.toInt ≤ 3) : a = 0 ∨ a = 1 ∨ a = 2 ∨ a = 3 := by
  obtain ⟨j, hj, e1, e2⟩ := to_nI h.1
  have : j = 0 ∨ j = 1 ∨ j = 2 ∨ j = 3 := by omega
  rcases this with rfl | rfl | rfl | rfl
  · exact Or.inl e1
  · exact Or.inr (Or.inl e1)
  · exact Or.inr (Or.inr (Or.inl e1))
  · exact Or.inr (Or.inr (Or.inr e1))
/-! frames of the relation -/
theorem RsR_eq {MX MR MX' MR' : Mem} (h : RsR MX MR) (h1 : MX'.1 = MX.1) (h2 : MR'.1 = MR.1) : RsR MX' MR' := by
  obtain ⟨f, g⟩ := MX
  obtain ⟨f', g'⟩ := MX'
  obtain ⟨k, l⟩ := MR
  obtain ⟨k', l'⟩ := MR'
  have h1 : f' = f := h1
  have h2 : k' = k := h2
  subst h1
  subst h2
  exact h
theorem RsR_found {MX MR : Mem} (h : RsR MX MR) : RsR (upI MX 0 10 (MX.1 0 10 + 1)) (upI MR 0 4 (MR.1 0 4 + 1)) := by
  obtain ⟨h1, h2, nx, h3, h4, h5⟩ := h
  exact ⟨by rw [upI_same, upI_same, h1], h2, nx, h3, h4, h5⟩
theorem RsR_thr {MX MR : Mem} (h : RsR MX MR) : RsR MX (upI MR 0 0 0) := h
theorem Rel_thr {MX MR : Mem} (h : Rel MX MR) : Rel MX (upI MR 0 0 0) := h
theorem Rel_found {MX MR : Mem} (h : Rel MX MR) : Rel (upI MX 0 10 (MX.1 0 10 + 1)) (upI MR 0 4 (MR.1 0 4 + 1)) := ⟨h.1, RsR_found h.2⟩
/-- both count a finding -/
theorem both_found {MX MR : Mem} (h : Rel MX MR) (v : Int32) : wp_X7_found v MX (fun r M1 => wp_X8_finds v MR (fun r2 M2 => r = r2 ∧ Rel M1 M2)) := ⟨rfl, Rel_found h⟩
