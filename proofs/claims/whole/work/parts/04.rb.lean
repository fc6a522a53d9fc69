/-! X8_layFences -/
def blk_X8_layFences_0 (Q : Mem → Prop) (P : Nat → Int32 → Int32 → Int32 → Int32 → Mem → Prop) (v1 : Int32) (v2 : Int32) (v3 : Int32) (v4 : Int32) (M : Mem) : Prop :=
  P 1 0 0 0 0 (upI M 0 12 0)
theorem blk_X8_layFences_0_mono {Q Q' : Mem → Prop} {P P' : Nat → Int32 → Int32 → Int32 → Int32 → Mem → Prop} (hQ : ∀ M : Mem, Q M → Q' M) (hP : ∀ (lab : Nat) (v1 : Int32) (v2 : Int32) (v3 : Int32) (v4 : Int32) (M : Mem), P lab v1 v2 v3 v4 M → P' lab v1 v2 v3 v4 M) (v1 : Int32) (v2 : Int32) (v3 : Int32) (v4 : Int32) (M : Mem) (h : blk_X8_layFences_0 Q P v1 v2 v3 v4 M) : blk_X8_layFences_0 Q' P' v1 v2 v3 v4 M := by
  unfold blk_X8_layFences_0 at h ⊢
  exact hP _ _ _ _ _ _ h
def blk_X8_layFences_1 (Q : Mem → Prop) (P : Nat → Int32 → Int32 → Int32 → Int32 → Mem → Prop) (v1 : Int32) (v2 : Int32) (v3 : Int32) (v4 : Int32) (M : Mem) : Prop :=
  (((M.1 0 9) ≤ v1 → P 2 0 0 0 0 M) ∧ (¬ (M.1 0 9) ≤ v1 → P 3 v1 v1 0 0 M))
theorem blk_X8_layFences_1_mono {Q Q' : Mem → Prop} {P P' : Nat → Int32 → Int32 → Int32 → Int32 → Mem → Prop} (hQ : ∀ M : Mem, Q M → Q' M) (hP : ∀ (lab : Nat) (v1 : Int32) (v2 : Int32) (v3 : Int32) (v4 : Int32) (M : Mem), P lab v1 v2 v3 v4 M → P' lab v1 v2 v3 v4 M) (v1 : Int32) (v2 : Int32) (v3 : Int32) (v4 : Int32) (M : Mem) (h : blk_X8_layFences_1 Q P v1 v2 v3 v4 M) : blk_X8_layFences_1 Q' P' v1 v2 v3 v4 M := by
  unfold blk_X8_layFences_1 at h ⊢
  exact ⟨fun c => let h := h.1 c; hP _ _ _ _ _ _ h, fun c => let h := h.2 c; hP _ _ _ _ _ _ h⟩
def blk_X8_layFences_2 (Q : Mem → Prop) (P : Nat → Int32 → Int32 → Int32 → Int32 → Mem → Prop) (v1 : Int32) (v2 : Int32) (v3 : Int32) (v4 : Int32) (M : Mem) : Prop :=
  (((M.1 0 12) ≤ v1 → Q M) ∧ (¬ (M.1 0 12) ≤ v1 → (vp_in v1 28 ∧ P 4 v1 0 0 0 (upI M 11 v1.toNatClampNeg 0))))
theorem blk_X8_layFences_2_mono {Q Q' : Mem → Prop} {P P' : Nat → Int32 → Int32 → Int32 → Int32 → Mem → Prop} (hQ : ∀ M : Mem, Q M → Q' M) (hP : ∀ (lab : Nat) (v1 : Int32) (v2 : Int32) (v3 : Int32) (v4 : Int32) (M : Mem), P lab v1 v2 v3 v4 M → P' lab v1 v2 v3 v4 M) (v1 : Int32) (v2 : Int32) (v3 : Int32) (v4 : Int32) (M : Mem) (h : blk_X8_layFences_2 Q P v1 v2 v3 v4 M) : blk_X8_layFences_2 Q' P' v1 v2 v3 v4 M := by
  unfold blk_X8_layFences_2 at h ⊢
  exact ⟨fun c => let h := h.1 c; hQ _ h, fun c => let h := h.2 c; ⟨h.1, let h := h.2; hP _ _ _ _ _ _ h⟩⟩
def blk_X8_layFences_3 (Q : Mem → Prop) (P : Nat → Int32 → Int32 → Int32 → Int32 → Mem → Prop) (v1 : Int32) (v2 : Int32) (v3 : Int32) (v4 : Int32) (M : Mem) : Prop :=
  (((M.1 0 9) ≤ v2 → P 1 (v1 + 1) 0 0 0 M) ∧ (¬ (M.1 0 9) ≤ v2 → ((v1 = v2 → P 5 v1 v2 0 0 M) ∧ (¬ v1 = v2 → P 5 v1 v2 1 0 M))))
theorem blk_X8_layFences_3_mono {Q Q' : Mem → Prop} {P P' : Nat → Int32 → Int32 → Int32 → Int32 → Mem → Prop} (hQ : ∀ M : Mem, Q M → Q' M) (hP : ∀ (lab : Nat) (v1 : Int32) (v2 : Int32) (v3 : Int32) (v4 : Int32) (M : Mem), P lab v1 v2 v3 v4 M → P' lab v1 v2 v3 v4 M) (v1 : Int32) (v2 : Int32) (v3 : Int32) (v4 : Int32) (M : Mem) (h : blk_X8_layFences_3 Q P v1 v2 v3 v4 M) : blk_X8_layFences_3 Q' P' v1 v2 v3 v4 M := by
  unfold blk_X8_layFences_3 at h ⊢
  exact ⟨fun c => let h := h.1 c; hP _ _ _ _ _ _ h, fun c => let h := h.2 c; ⟨fun c => let h := h.1 c; hP _ _ _ _ _ _ h, fun c => let h := h.2 c; hP _ _ _ _ _ _ h⟩⟩
def blk_X8_layFences_4 (Q : Mem → Prop) (P : Nat → Int32 → Int32 → Int32 → Int32 → Mem → Prop) (v1 : Int32) (v2 : Int32) (v3 : Int32) (v4 : Int32) (M : Mem) : Prop :=
  (((M.1 0 12) ≤ v2 → P 2 (v1 + 1) 0 0 0 M) ∧ (¬ (M.1 0 12) ≤ v2 → (vp_in v1 28 ∧ ((v2 = v1 → (vp_in v1 28 ∧ P 6 v1 v2 0 0 (upI M 11 v1.toNatClampNeg ((M.1 11 v1.toNatClampNeg) ||| (0 : Int32))))) ∧ (¬ v2 = v1 → wp_X8_isCross v1 v2 M (fun r1 M1 => ((r1 = 0 → (vp_in v1 28 ∧ P 6 v1 v2 0 0 (upI M1 11 v1.toNatClampNeg ((M.1 11 v1.toNatClampNeg) ||| (0 : Int32))))) ∧ (¬ r1 = 0 → (vp_in v1 28 ∧ P 6 v1 v2 0 0 (upI M1 11 v1.toNatClampNeg ((M.1 11 v1.toNatClampNeg) ||| ((1 : Int32) <<< (v2 &&& 31)))))))))))))
theorem blk_X8_layFences_4_mono {Q Q' : Mem → Prop} {P P' : Nat → Int32 → Int32 → Int32 → Int32 → Mem → Prop} (hQ : ∀ M : Mem, Q M → Q' M) (hP : ∀ (lab : Nat) (v1 : Int32) (v2 : Int32) (v3 : Int32) (v4 : Int32) (M : Mem), P lab v1 v2 v3 v4 M → P' lab v1 v2 v3 v4 M) (v1 : Int32) (v2 : Int32) (v3 : Int32) (v4 : Int32) (M : Mem) (h : blk_X8_layFences_4 Q P v1 v2 v3 v4 M) : blk_X8_layFences_4 Q' P' v1 v2 v3 v4 M := by
  unfold blk_X8_layFences_4 at h ⊢
  exact ⟨fun c => let h := h.1 c; hP _ _ _ _ _ _ h, fun c => let h := h.2 c; ⟨h.1, let h := h.2; ⟨fun c => let h := h.1 c; ⟨h.1, let h := h.2; hP _ _ _ _ _ _ h⟩, fun c => let h := h.2 c; wp_X8_isCross_mono (fun r1 M1 h => ⟨fun c => let h := h.1 c; ⟨h.1, let h := h.2; hP _ _ _ _ _ _ h⟩, fun c => let h := h.2 c; ⟨h.1, let h := h.2; hP _ _ _ _ _ _ h⟩⟩) h⟩⟩⟩
def blk_X8_layFences_5 (Q : Mem → Prop) (P : Nat → Int32 → Int32 → Int32 → Int32 → Mem → Prop) (v1 : Int32) (v2 : Int32) (v3 : Int32) (v4 : Int32) (M : Mem) : Prop :=
  P 7 v1 v2 v3 0 M
theorem blk_X8_layFences_5_mono {Q Q' : Mem → Prop} {P P' : Nat → Int32 → Int32 → Int32 → Int32 → Mem → Prop} (hQ : ∀ M : Mem, Q M → Q' M) (hP : ∀ (lab : Nat) (v1 : Int32) (v2 : Int32) (v3 : Int32) (v4 : Int32) (M : Mem), P lab v1 v2 v3 v4 M → P' lab v1 v2 v3 v4 M) (v1 : Int32) (v2 : Int32) (v3 : Int32) (v4 : Int32) (M : Mem) (h : blk_X8_layFences_5 Q P v1 v2 v3 v4 M) : blk_X8_layFences_5 Q' P' v1 v2 v3 v4 M := by
  unfold blk_X8_layFences_5 at h ⊢
  exact hP _ _ _ _ _ _ h
def blk_X8_layFences_6 (Q : Mem → Prop) (P : Nat → Int32 → Int32 → Int32 → Int32 → Mem → Prop) (v1 : Int32) (v2 : Int32) (v3 : Int32) (v4 : Int32) (M : Mem) : Prop :=
  P 4 v1 (v2 + 1) 0 0 M
theorem blk_X8_layFences_6_mono {Q Q' : Mem → Prop} {P P' : Nat → Int32 → Int32 → Int32 → Int32 → Mem → Prop} (hQ : ∀ M : Mem, Q M → Q' M) (hP : ∀ (lab : Nat) (v1 : Int32) (v2 : Int32) (v3 : Int32) (v4 : Int32) (M : Mem), P lab v1 v2 v3 v4 M → P' lab v1 v2 v3 v4 M) (v1 : Int32) (v2 : Int32) (v3 : Int32) (v4 : Int32) (M : Mem) (h : blk_X8_layFences_6 Q P v1 v2 v3 v4 M) : blk_X8_layFences_6 Q' P' v1 v2 v3 v4 M := by
  unfold blk_X8_layFences_6 at h ⊢
  exact hP _ _ _ _ _ _ h
def blk_X8_layFences_7 (Q : Mem → Prop) (P : Nat → Int32 → Int32 → Int32 → Int32 → Mem → Prop) (v1 : Int32) (v2 : Int32) (v3 : Int32) (v4 : Int32) (M : Mem) : Prop :=
  (((M.1 0 9) ≤ v4 → P 8 v1 v2 v3 0 M) ∧ (¬ (M.1 0 9) ≤ v4 → ((v3 = 0 → P 8 v1 v2 v3 0 M) ∧ (¬ v3 = 0 → ((v4 = v1 → P 9 v1 v2 0 v4 M) ∧ (¬ v4 = v1 → ((v4 = v2 → P 9 v1 v2 0 v4 M) ∧ (¬ v4 = v2 → wp_X8_isBetween v1 v2 v4 M (fun r2 M2 => ((¬ r2 = 0 → P 10 v1 v2 0 v4 M2) ∧ (r2 = 0 → P 9 v1 v2 0 v4 M2)))))))))))
theorem blk_X8_layFences_7_mono {Q Q' : Mem → Prop} {P P' : Nat → Int32 → Int32 → Int32 → Int32 → Mem → Prop} (hQ : ∀ M : Mem, Q M → Q' M) (hP : ∀ (lab : Nat) (v1 : Int32) (v2 : Int32) (v3 : Int32) (v4 : Int32) (M : Mem), P lab v1 v2 v3 v4 M → P' lab v1 v2 v3 v4 M) (v1 : Int32) (v2 : Int32) (v3 : Int32) (v4 : Int32) (M : Mem) (h : blk_X8_layFences_7 Q P v1 v2 v3 v4 M) : blk_X8_layFences_7 Q' P' v1 v2 v3 v4 M := by
  unfold blk_X8_layFences_7 at h ⊢
  exact ⟨fun c => let h := h.1 c; hP _ _ _ _ _ _ h, fun c => let h := h.2 c; ⟨fun c => let h := h.1 c; hP _ _ _ _ _ _ h, fun c => let h := h.2 c; ⟨fun c => let h := h.1 c; hP _ _ _ _ _ _ h, fun c => let h := h.2 c; ⟨fun c => let h := h.1 c; hP _ _ _ _ _ _ h, fun c => let h := h.2 c; wp_X8_isBetween_mono (fun r2 M2 h => ⟨fun c => let h := h.1 c; hP _ _ _ _ _ _ h, fun c => let h := h.2 c; hP _ _ _ _ _ _ h⟩) h⟩⟩⟩⟩
def blk_X8_layFences_8 (Q : Mem → Prop) (P : Nat → Int32 → Int32 → Int32 → Int32 → Mem → Prop) (v1 : Int32) (v2 : Int32) (v3 : Int32) (v4 : Int32) (M : Mem) : Prop :=
  ((v3 = 0 → (vp_in ((8 * v1) + v2) 64 ∧ P 11 v1 v2 v3 0 (upI M 10 ((8 * v1) + v2).toNatClampNeg (-9)))) ∧ (¬ v3 = 0 → (vp_in ((8 * v1) + v2) 64 ∧ P 11 v1 v2 v3 0 (upI M 10 ((8 * v1) + v2).toNatClampNeg (M.1 0 12)))))
theorem blk_X8_layFences_8_mono {Q Q' : Mem → Prop} {P P' : Nat → Int32 → Int32 → Int32 → Int32 → Mem → Prop} (hQ : ∀ M : Mem, Q M → Q' M) (hP : ∀ (lab : Nat) (v1 : Int32) (v2 : Int32) (v3 : Int32) (v4 : Int32) (M : Mem), P lab v1 v2 v3 v4 M → P' lab v1 v2 v3 v4 M) (v1 : Int32) (v2 : Int32) (v3 : Int32) (v4 : Int32) (M : Mem) (h : blk_X8_layFences_8 Q P v1 v2 v3 v4 M) : blk_X8_layFences_8 Q' P' v1 v2 v3 v4 M := by
  unfold blk_X8_layFences_8 at h ⊢
  exact ⟨fun c => let h := h.1 c; ⟨h.1, let h := h.2; hP _ _ _ _ _ _ h⟩, fun c => let h := h.2 c; ⟨h.1, let h := h.2; hP _ _ _ _ _ _ h⟩⟩
def blk_X8_layFences_9 (Q : Mem → Prop) (P : Nat → Int32 → Int32 → Int32 → Int32 → Mem → Prop) (v1 : Int32) (v2 : Int32) (v3 : Int32) (v4 : Int32) (M : Mem) : Prop :=
  P 10 v1 v2 1 v4 M
theorem blk_X8_layFences_9_mono {Q Q' : Mem → Prop} {P P' : Nat → Int32 → Int32 → Int32 → Int32 → Mem → Prop} (hQ : ∀ M : Mem, Q M → Q' M) (hP : ∀ (lab : Nat) (v1 : Int32) (v2 : Int32) (v3 : Int32) (v4 : Int32) (M : Mem), P lab v1 v2 v3 v4 M → P' lab v1 v2 v3 v4 M) (v1 : Int32) (v2 : Int32) (v3 : Int32) (v4 : Int32) (M : Mem) (h : blk_X8_layFences_9 Q P v1 v2 v3 v4 M) : blk_X8_layFences_9 Q' P' v1 v2 v3 v4 M := by
  unfold blk_X8_layFences_9 at h ⊢
  exact hP _ _ _ _ _ _ h
def blk_X8_layFences_10 (Q : Mem → Prop) (P : Nat → Int32 → Int32 → Int32 → Int32 → Mem → Prop) (v1 : Int32) (v2 : Int32) (v3 : Int32) (v4 : Int32) (M : Mem) : Prop :=
  P 7 v1 v2 v3 (v4 + 1) M
theorem blk_X8_layFences_10_mono {Q Q' : Mem → Prop} {P P' : Nat → Int32 → Int32 → Int32 → Int32 → Mem → Prop} (hQ : ∀ M : Mem, Q M → Q' M) (hP : ∀ (lab : Nat) (v1 : Int32) (v2 : Int32) (v3 : Int32) (v4 : Int32) (M : Mem), P lab v1 v2 v3 v4 M → P' lab v1 v2 v3 v4 M) (v1 : Int32) (v2 : Int32) (v3 : Int32) (v4 : Int32) (M : Mem) (h : blk_X8_layFences_10 Q P v1 v2 v3 v4 M) : blk_X8_layFences_10 Q' P' v1 v2 v3 v4 M := by
  unfold blk_X8_layFences_10 at h ⊢
  exact hP _ _ _ _ _ _ h
def blk_X8_layFences_11 (Q : Mem → Prop) (P : Nat → Int32 → Int32 → Int32 → Int32 → Mem → Prop) (v1 : Int32) (v2 : Int32) (v3 : Int32) (v4 : Int32) (M : Mem) : Prop :=
  ((v3 = 0 → (vp_in ((8 * v2) + v1) 64 ∧ P 12 v1 v2 v3 0 (upI M 10 ((8 * v2) + v1).toNatClampNeg (-9)))) ∧ (¬ v3 = 0 → (vp_in ((8 * v2) + v1) 64 ∧ P 12 v1 v2 v3 0 (upI M 10 ((8 * v2) + v1).toNatClampNeg (M.1 0 12)))))
theorem blk_X8_layFences_11_mono {Q Q' : Mem → Prop} {P P' : Nat → Int32 → Int32 → Int32 → Int32 → Mem → Prop} (hQ : ∀ M : Mem, Q M → Q' M) (hP : ∀ (lab : Nat) (v1 : Int32) (v2 : Int32) (v3 : Int32) (v4 : Int32) (M : Mem), P lab v1 v2 v3 v4 M → P' lab v1 v2 v3 v4 M) (v1 : Int32) (v2 : Int32) (v3 : Int32) (v4 : Int32) (M : Mem) (h : blk_X8_layFences_11 Q P v1 v2 v3 v4 M) : blk_X8_layFences_11 Q' P' v1 v2 v3 v4 M := by
  unfold blk_X8_layFences_11 at h ⊢
  exact ⟨fun c => let h := h.1 c; ⟨h.1, let h := h.2; hP _ _ _ _ _ _ h⟩, fun c => let h := h.2 c; ⟨h.1, let h := h.2; hP _ _ _ _ _ _ h⟩⟩
def blk_X8_layFences_12 (Q : Mem → Prop) (P : Nat → Int32 → Int32 → Int32 → Int32 → Mem → Prop) (v1 : Int32) (v2 : Int32) (v3 : Int32) (v4 : Int32) (M : Mem) : Prop :=
  ((v3 = 0 → P 13 v1 v2 0 0 M) ∧ (¬ v3 = 0 → (vp_in (M.1 0 12) 28 ∧ (vp_in ((upI M 8 (M.1 0 12).toNatClampNeg v1).1 0 12) 28 ∧ (vp_in ((upI (upI M 8 (M.1 0 12).toNatClampNeg v1) 9 ((upI M 8 (M.1 0 12).toNatClampNeg v1).1 0 12).toNatClampNeg v2).1 0 12) 28 ∧ P 13 v1 v2 0 0 (upI (upI (upI (upI M 8 (M.1 0 12).toNatClampNeg v1) 9 ((upI M 8 (M.1 0 12).toNatClampNeg v1).1 0 12).toNatClampNeg v2) 12 ((upI (upI M 8 (M.1 0 12).toNatClampNeg v1) 9 ((upI M 8 (M.1 0 12).toNatClampNeg v1).1 0 12).toNatClampNeg v2).1 0 12).toNatClampNeg 0) 0 12 (((upI (upI (upI M 8 (M.1 0 12).toNatClampNeg v1) 9 ((upI M 8 (M.1 0 12).toNatClampNeg v1).1 0 12).toNatClampNeg v2) 12 ((upI (upI M 8 (M.1 0 12).toNatClampNeg v1) 9 ((upI M 8 (M.1 0 12).toNatClampNeg v1).1 0 12).toNatClampNeg v2).1 0 12).toNatClampNeg 0).1 0 12) + 1)))))))
theorem blk_X8_layFences_12_mono {Q Q' : Mem → Prop} {P P' : Nat → Int32 → Int32 → Int32 → Int32 → Mem → Prop} (hQ : ∀ M : Mem, Q M → Q' M) (hP : ∀ (lab : Nat) (v1 : Int32) (v2 : Int32) (v3 : Int32) (v4 : Int32) (M : Mem), P lab v1 v2 v3 v4 M → P' lab v1 v2 v3 v4 M) (v1 : Int32) (v2 : Int32) (v3 : Int32) (v4 : Int32) (M : Mem) (h : blk_X8_layFences_12 Q P v1 v2 v3 v4 M) : blk_X8_layFences_12 Q' P' v1 v2 v3 v4 M := by
  unfold blk_X8_layFences_12 at h ⊢
  exact ⟨fun c => let h := h.1 c; hP _ _ _ _ _ _ h, fun c => let h := h.2 c; ⟨h.1, let h := h.2; ⟨h.1, let h := h.2; ⟨h.1, let h := h.2; hP _ _ _ _ _ _ h⟩⟩⟩⟩
def blk_X8_layFences_13 (Q : Mem → Prop) (P : Nat → Int32 → Int32 → Int32 → Int32 → Mem → Prop) (v1 : Int32) (v2 : Int32) (v3 : Int32) (v4 : Int32) (M : Mem) : Prop :=
  P 3 v1 (v2 + 1) 0 0 M
theorem blk_X8_layFences_13_mono {Q Q' : Mem → Prop} {P P' : Nat → Int32 → Int32 → Int32 → Int32 → Mem → Prop} (hQ : ∀ M : Mem, Q M → Q' M) (hP : ∀ (lab : Nat) (v1 : Int32) (v2 : Int32) (v3 : Int32) (v4 : Int32) (M : Mem), P lab v1 v2 v3 v4 M → P' lab v1 v2 v3 v4 M) (v1 : Int32) (v2 : Int32) (v3 : Int32) (v4 : Int32) (M : Mem) (h : blk_X8_layFences_13 Q P v1 v2 v3 v4 M) : blk_X8_layFences_13 Q' P' v1 v2 v3 v4 M := by
  unfold blk_X8_layFences_13 at h ⊢
  exact hP _ _ _ _ _ _ h
def blk_X8_layFences (Q : Mem → Prop) (P : Nat → Int32 → Int32 → Int32 → Int32 → Mem → Prop) : Nat → Int32 → Int32 → Int32 → Int32 → Mem → Prop := fun lab v1 v2 v3 v4 M => match lab with
  | 0 => blk_X8_layFences_0 Q P v1 v2 v3 v4 M
  | 1 => blk_X8_layFences_1 Q P v1 v2 v3 v4 M
  | 2 => blk_X8_layFences_2 Q P v1 v2 v3 v4 M
  | 3 => blk_X8_layFences_3 Q P v1 v2 v3 v4 M
  | 4 => blk_X8_layFences_4 Q P v1 v2 v3 v4 M
  | 5 => blk_X8_layFences_5 Q P v1 v2 v3 v4 M
  | 6 => blk_X8_layFences_6 Q P v1 v2 v3 v4 M
  | 7 => blk_X8_layFences_7 Q P v1 v2 v3 v4 M
  | 8 => blk_X8_layFences_8 Q P v1 v2 v3 v4 M
  | 9 => blk_X8_layFences_9 Q P v1 v2 v3 v4 M
  | 10 => blk_X8_layFences_10 Q P v1 v2 v3 v4 M
  | 11 => blk_X8_layFences_11 Q P v1 v2 v3 v4 M
  | 12 => blk_X8_layFences_12 Q P v1 v2 v3 v4 M
  | 13 => blk_X8_layFences_13 Q P v1 v2 v3 v4 M
  | _ => False
theorem blk_X8_layFences_mono {Q Q' : Mem → Prop} {P P' : Nat → Int32 → Int32 → Int32 → Int32 → Mem → Prop} (hQ : ∀ M : Mem, Q M → Q' M) (hP : ∀ (lab : Nat) (v1 : Int32) (v2 : Int32) (v3 : Int32) (v4 : Int32) (M : Mem), P lab v1 v2 v3 v4 M → P' lab v1 v2 v3 v4 M) : ∀ (lab : Nat) (v1 : Int32) (v2 : Int32) (v3 : Int32) (v4 : Int32) (M : Mem), blk_X8_layFences Q P lab v1 v2 v3 v4 M → blk_X8_layFences Q' P' lab v1 v2 v3 v4 M := fun lab v1 v2 v3 v4 M h => match lab, h with
  | 0, h => blk_X8_layFences_0_mono hQ hP v1 v2 v3 v4 M h
  | 1, h => blk_X8_layFences_1_mono hQ hP v1 v2 v3 v4 M h
  | 2, h => blk_X8_layFences_2_mono hQ hP v1 v2 v3 v4 M h
  | 3, h => blk_X8_layFences_3_mono hQ hP v1 v2 v3 v4 M h
  | 4, h => blk_X8_layFences_4_mono hQ hP v1 v2 v3 v4 M h
  | 5, h => blk_X8_layFences_5_mono hQ hP v1 v2 v3 v4 M h
  | 6, h => blk_X8_layFences_6_mono hQ hP v1 v2 v3 v4 M h
  | 7, h => blk_X8_layFences_7_mono hQ hP v1 v2 v3 v4 M h
  | 8, h => blk_X8_layFences_8_mono hQ hP v1 v2 v3 v4 M h
  | 9, h => blk_X8_layFences_9_mono hQ hP v1 v2 v3 v4 M h
  | 10, h => blk_X8_layFences_10_mono hQ hP v1 v2 v3 v4 M h
  | 11, h => blk_X8_layFences_11_mono hQ hP v1 v2 v3 v4 M h
  | 12, h => blk_X8_layFences_12_mono hQ hP v1 v2 v3 v4 M h
  | 13, h => blk_X8_layFences_13_mono hQ hP v1 v2 v3 v4 M h
  | _ + 14, h => False.elim h
def at_X8_layFences (Q : Mem → Prop) : Nat → Int32 → Int32 → Int32 → Int32 → Mem → Prop := fun lab v1 v2 v3 v4 M => ∀ P : Nat → Int32 → Int32 → Int32 → Int32 → Mem → Prop, (∀ (lab : Nat) (v1 : Int32) (v2 : Int32) (v3 : Int32) (v4 : Int32) (M : Mem), blk_X8_layFences Q P lab v1 v2 v3 v4 M → P lab v1 v2 v3 v4 M) → P lab v1 v2 v3 v4 M
theorem at_X8_layFences_fold {Q : Mem → Prop} {lab : Nat} {v1 : Int32} {v2 : Int32} {v3 : Int32} {v4 : Int32} {M : Mem} (h : blk_X8_layFences Q (at_X8_layFences Q) lab v1 v2 v3 v4 M) : at_X8_layFences Q lab v1 v2 v3 v4 M := fun P hP => hP _ _ _ _ _ _ (blk_X8_layFences_mono (fun _ h => h) (fun _ _ _ _ _ _ h => h P hP) _ _ _ _ _ _ h)
theorem at_X8_layFences_mono {Q Q' : Mem → Prop} (hQ : ∀ M : Mem, Q M → Q' M) {lab : Nat} {v1 : Int32} {v2 : Int32} {v3 : Int32} {v4 : Int32} {M : Mem} (h : at_X8_layFences Q lab v1 v2 v3 v4 M) : at_X8_layFences Q' lab v1 v2 v3 v4 M := fun P hP => h P (fun lab v1 v2 v3 v4 M hb => hP _ _ _ _ _ _ (blk_X8_layFences_mono hQ (fun _ _ _ _ _ _ h => h) _ _ _ _ _ _ hb))
def wp_X8_layFences (M : Mem) (Q : Mem → Prop) : Prop := at_X8_layFences Q 0 0 0 0 0 M
theorem wp_X8_layFences_mono {M : Mem} {Q Q' : Mem → Prop} (hQ : ∀ M : Mem, Q M → Q' M) (h : wp_X8_layFences M Q) : wp_X8_layFences M Q' := at_X8_layFences_mono hQ h
def pcl_X8_layFences : Nat → Nat := fun lab => match lab with
  | 0 => 0
  | 1 => 7
  | 2 => 193
  | 3 => 17
  | 4 => 210
  | 5 => 36
  | 6 => 248
  | 7 => 39
  | 8 => 87
  | 9 => 75
  | 10 => 81
  | 11 => 111
  | 12 => 135
  | 13 => 179
  | _ => 0
def lvl_X8_layFences (ad : Nat → Nat) : Nat → Int32 → Int32 → Int32 → Int32 → List (Nat × Value) := fun lab v1 v2 v3 v4 => match lab with
  | 0 => [(0, .ref (ad 0))]
  | 1 => [(0, .ref (ad 0)), (1, .int v1)]
  | 2 => [(0, .ref (ad 0)), (1, .int v1)]
  | 3 => [(0, .ref (ad 0)), (1, .int v1), (2, .int v2)]
  | 4 => [(0, .ref (ad 0)), (1, .int v1), (2, .int v2)]
  | 5 => [(0, .ref (ad 0)), (1, .int v1), (2, .int v2), (3, .int v3)]
  | 6 => [(0, .ref (ad 0)), (1, .int v1), (2, .int v2)]
  | 7 => [(0, .ref (ad 0)), (1, .int v1), (2, .int v2), (3, .int v3), (4, .int v4)]
  | 8 => [(0, .ref (ad 0)), (1, .int v1), (2, .int v2), (3, .int v3)]
  | 9 => [(0, .ref (ad 0)), (1, .int v1), (2, .int v2), (4, .int v4)]
  | 10 => [(0, .ref (ad 0)), (1, .int v1), (2, .int v2), (3, .int v3), (4, .int v4)]
  | 11 => [(0, .ref (ad 0)), (1, .int v1), (2, .int v2), (3, .int v3)]
  | 12 => [(0, .ref (ad 0)), (1, .int v1), (2, .int v2), (3, .int v3)]
  | 13 => [(0, .ref (ad 0)), (1, .int v1), (2, .int v2)]
  | _ => []
abbrev rm_X8_layFences : Jvm.Room := { frames := 3, cells := 0, slots := 0, locals := 66 }
set_option maxHeartbeats 4000000 in
set_option maxRecDepth 100000 in
theorem ct_X8_layFences (l : Launch) (D : va_G) (cy : Nat → ClassId) (ad : Nat → Nat) (B : Nat → Prop) (M : Mem) (Q : Mem → Prop) (h : wp_X8_layFences M Q) : CTv l D cy (wR ad cy) B yX8_layFences wsX8_layFences rm_X8_layFences [.ref (ad 0)] M Q := by
  intro sz
  refine Met.ofW (cc := cX8_layFences) (maxL := 5) (ret := none) (by decide) rfl ?_
  intro p e s m args below meth c s₁ Bd hml hv
  obtain ⟨hargs, hsz, hP, hK, hD⟩ := hv
  subst hsz
  have hx := Bd.exec
  have hb := Bd.bytes
  have hr := Bd.returns
  have hts := atoms_spec (ws := wsX8_layFences) Bd.pre
  have hown : s.vm.findClass RX8 = some m.cls := findClass_of_methodNamed Bd.named
  have hlocks := Bd.notSynchronized
  have hC8 : xC wsX8_layFences 8 RX8 TX8 34 := ⟨by decide +kernel, rfl⟩
  have key : ∀ (P : Nat → Int32 → Int32 → Int32 → Int32 → Mem → Prop), (∀ (lab : Nat) (v1 : Int32) (v2 : Int32) (v3 : Int32) (v4 : Int32) (M : Mem), P lab v1 v2 v3 v4 M → ∀ (H : Heap) (locs : List Loc) (ls : Array Slot), xS D (wR ad cy) B s.heap H locs M → lv_has ls 5 (lvl_X8_layFences ad lab v1 v2 v3 v4 ) → W p l e (headSpec wsX8_layFences rm_X8_layFences).room s m args below meth c H locs 0 0 (MQ below (va_Qv (S := Mem) Q (xB D (wR ad cy) B) (xA B s.heap.size)) args s 0 0 (xA B s.heap.size)) (F0 m (pcl_X8_layFences lab) ls [])) → ∀ (lab : Nat) (v1 : Int32) (v2 : Int32) (v3 : Int32) (v4 : Int32) (M : Mem), blk_X8_layFences Q P lab v1 v2 v3 v4 M → ∀ (H : Heap) (locs : List Loc) (ls : Array Slot), xS D (wR ad cy) B s.heap H locs M → lv_has ls 5 (lvl_X8_layFences ad lab v1 v2 v3 v4 ) → W p l e (headSpec wsX8_layFences rm_X8_layFences).room s m args below meth c H locs 0 0 (MQ below (va_Qv (S := Mem) Q (xB D (wR ad cy) B) (xA B s.heap.size)) args s 0 0 (xA B s.heap.size)) (F0 m (pcl_X8_layFences lab) ls []) := by
    intro P hJ lab v1 v2 v3 v4 M h H locs ls S hl
    match lab, h, hl with
    | 0, h, hl =>
      have hl : lv_has ls 5 [(0, .ref (ad 0))] := hl
      have h : blk_X8_layFences_0 Q P v1 v2 v3 v4 M := h
      unfold blk_X8_layFences_0 at h
      refine W.eq (g2 := F0 m 0 ls []) rfl ?_
      refine lv_aload_n hx hb dX8_layFences_0 rfl (lv_at hl 0 rfl) ?_
      refine lv_iconst (v := 0) hx hb dX8_layFences_1 (by decide) ?_
      refine x_putI hx hb hts (hC8) tyX8 tyX8_ok nmX8 hown hK S 12 (by decide) rf_0_12 (index := 106) (hts _ (List.mem_of_getElem? (i := 1) rfl)) rfl rfl rfl dX8_layFences_2 (fun H locs S => ?_)
      refine lv_iconst (v := 0) hx hb dX8_layFences_5 (by decide) ?_
      refine lv_istore_n (lv' := [(1, .int 0), (0, .ref (ad 0))]) hx hb dX8_layFences_6 rfl hl (by decide) rfl (fun ls hl => ?_)
      exact hJ _ _ _ _ _ _ h _ _ _ S (lv_sub hl [1, 0] rfl)
    | 1, h, hl =>
      have hl : lv_has ls 5 [(0, .ref (ad 0)), (1, .int v1)] := hl
      have h : blk_X8_layFences_1 Q P v1 v2 v3 v4 M := h
      unfold blk_X8_layFences_1 at h
      refine W.eq (g2 := F0 m 7 ls []) rfl ?_
      refine lv_iload_n hx hb dX8_layFences_7 rfl (lv_at hl 1 rfl) ?_
      refine lv_aload_n hx hb dX8_layFences_8 rfl (lv_at hl 0 rfl) ?_
      refine x_getI hx hb hts (hC8) hown hK S 9 (by decide) rf_0_9 (index := 109) (hts _ (List.mem_of_getElem? (i := 2) rfl)) dX8_layFences_9 ?_
      refine lv_icmp_ge (tgt := 191) hx hb dX8_layFences_12 (by decide) (fun c12 => ?_) (fun c12 => ?_)
      · replace h := h.1 c12
        refine lv_iconst (v := 0) hx hb dX8_layFences_191 (by decide) ?_
        refine lv_istore_n (lv' := [(1, .int 0), (0, .ref (ad 0))]) hx hb dX8_layFences_192 rfl hl (by decide) rfl (fun ls hl => ?_)
        exact hJ _ _ _ _ _ _ h _ _ _ S (lv_sub hl [1, 0] rfl)
      · replace h := h.2 c12
        refine lv_iload_n hx hb dX8_layFences_15 rfl (lv_at hl 1 rfl) ?_
        refine lv_istore_n (lv' := [(2, .int v1), (0, .ref (ad 0)), (1, .int v1)]) hx hb dX8_layFences_16 rfl hl (by decide) rfl (fun ls hl => ?_)
        exact hJ _ _ _ _ _ _ h _ _ _ S (lv_sub hl [1, 2, 0] rfl)
    | 2, h, hl =>
      have hl : lv_has ls 5 [(0, .ref (ad 0)), (1, .int v1)] := hl
      have h : blk_X8_layFences_2 Q P v1 v2 v3 v4 M := h
      unfold blk_X8_layFences_2 at h
      refine W.eq (g2 := F0 m 193 ls []) rfl ?_
      refine lv_iload_n hx hb dX8_layFences_193 rfl (lv_at hl 1 rfl) ?_
      refine lv_aload_n hx hb dX8_layFences_194 rfl (lv_at hl 0 rfl) ?_
      refine x_getI hx hb hts (hC8) hown hK S 12 (by decide) rf_0_12 (index := 106) (hts _ (List.mem_of_getElem? (i := 1) rfl)) dX8_layFences_195 ?_
      refine lv_icmp_ge (tgt := 260) hx hb dX8_layFences_198 (by decide) (fun c198 => ?_) (fun c198 => ?_)
      · replace h := h.1 c198
        exact x_vret hx hb hr hlocks S h dX8_layFences_260
      · replace h := h.2 c198
        refine lv_aload_n hx hb dX8_layFences_201 rfl (lv_at hl 0 rfl) ?_
        refine x_getR hx hb hts (hC8) hown hK S 16 (by decide) rf_0_16 (index := 41) (hts _ (List.mem_of_getElem? (i := 7) rfl)) dX8_layFences_202 ?_
        refine lv_iload_n hx hb dX8_layFences_205 rfl (lv_at hl 1 rfl) ?_
        refine lv_iconst (v := 0) hx hb dX8_layFences_206 (by decide) ?_
        refine x_iast hx hb hK S ra_11 h.1 dX8_layFences_207 (fun H locs S => ?_)
        replace h := h.2
        refine lv_iconst (v := 0) hx hb dX8_layFences_208 (by decide) ?_
        refine lv_istore_n (lv' := [(2, .int 0), (0, .ref (ad 0)), (1, .int v1)]) hx hb dX8_layFences_209 rfl hl (by decide) rfl (fun ls hl => ?_)
        exact hJ _ _ _ _ _ _ h _ _ _ S (lv_sub hl [1, 2, 0] rfl)
    | 3, h, hl =>
      have hl : lv_has ls 5 [(0, .ref (ad 0)), (1, .int v1), (2, .int v2)] := hl
      have h : blk_X8_layFences_3 Q P v1 v2 v3 v4 M := h
      unfold blk_X8_layFences_3 at h
      refine W.eq (g2 := F0 m 17 ls []) rfl ?_
      refine lv_iload_n hx hb dX8_layFences_17 rfl (lv_at hl 2 rfl) ?_
      refine lv_aload_n hx hb dX8_layFences_18 rfl (lv_at hl 0 rfl) ?_
      refine x_getI hx hb hts (hC8) hown hK S 9 (by decide) rf_0_9 (index := 109) (hts _ (List.mem_of_getElem? (i := 2) rfl)) dX8_layFences_19 ?_
      refine lv_icmp_ge (tgt := 185) hx hb dX8_layFences_22 (by decide) (fun c22 => ?_) (fun c22 => ?_)
      · replace h := h.1 c22
        refine lv_iinc (v := (v1 + 1)) (lv' := [(1, .int (v1 + 1)), (0, .ref (ad 0)), (2, .int v2)]) hx hb dX8_layFences_185 hl (k := 1) rfl rfl (by decide) rfl (fun ls hl => ?_)
        refine lv_goto (tgt := 7) hx hb dX8_layFences_188 (by decide) ?_
        exact hJ _ _ _ _ _ _ h _ _ _ S (lv_sub hl [1, 0] rfl)
      · replace h := h.2 c22
        refine lv_iload_n hx hb dX8_layFences_25 rfl (lv_at hl 1 rfl) ?_
        refine lv_iload_n hx hb dX8_layFences_26 rfl (lv_at hl 2 rfl) ?_
        refine lv_icmp_eq (tgt := 34) hx hb dX8_layFences_27 (by decide) (fun c27 => ?_) (fun c27 => ?_)
        · replace h := h.1 c27
          refine lv_iconst (v := 0) hx hb dX8_layFences_34 (by decide) ?_
          refine lv_istore_n (lv' := [(3, .int 0), (0, .ref (ad 0)), (1, .int v1), (2, .int v2)]) hx hb dX8_layFences_35 rfl hl (by decide) rfl (fun ls hl => ?_)
          exact hJ _ _ _ _ _ _ h _ _ _ S (lv_sub hl [1, 2, 3, 0] rfl)
        · replace h := h.2 c27
          refine lv_iconst (v := 1) hx hb dX8_layFences_30 (by decide) ?_
          refine lv_goto (tgt := 35) hx hb dX8_layFences_31 (by decide) ?_
          refine lv_istore_n (lv' := [(3, .int 1), (0, .ref (ad 0)), (1, .int v1), (2, .int v2)]) hx hb dX8_layFences_35 rfl hl (by decide) rfl (fun ls hl => ?_)
          exact hJ _ _ _ _ _ _ h _ _ _ S (lv_sub hl [1, 2, 3, 0] rfl)
    | 4, h, hl =>
      have hl : lv_has ls 5 [(0, .ref (ad 0)), (1, .int v1), (2, .int v2)] := hl
      have h : blk_X8_layFences_4 Q P v1 v2 v3 v4 M := h
      unfold blk_X8_layFences_4 at h
      refine W.eq (g2 := F0 m 210 ls []) rfl ?_
      refine lv_iload_n hx hb dX8_layFences_210 rfl (lv_at hl 2 rfl) ?_
      refine lv_aload_n hx hb dX8_layFences_211 rfl (lv_at hl 0 rfl) ?_
      refine x_getI hx hb hts (hC8) hown hK S 12 (by decide) rf_0_12 (index := 106) (hts _ (List.mem_of_getElem? (i := 1) rfl)) dX8_layFences_212 ?_
      refine lv_icmp_ge (tgt := 254) hx hb dX8_layFences_215 (by decide) (fun c215 => ?_) (fun c215 => ?_)
      · replace h := h.1 c215
        refine lv_iinc (v := (v1 + 1)) (lv' := [(1, .int (v1 + 1)), (0, .ref (ad 0)), (2, .int v2)]) hx hb dX8_layFences_254 hl (k := 1) rfl rfl (by decide) rfl (fun ls hl => ?_)
        refine lv_goto (tgt := 193) hx hb dX8_layFences_257 (by decide) ?_
        exact hJ _ _ _ _ _ _ h _ _ _ S (lv_sub hl [1, 0] rfl)
      · replace h := h.2 c215
        refine lv_aload_n hx hb dX8_layFences_218 rfl (lv_at hl 0 rfl) ?_
        refine x_getR hx hb hts (hC8) hown hK S 16 (by decide) rf_0_16 (index := 41) (hts _ (List.mem_of_getElem? (i := 7) rfl)) dX8_layFences_219 ?_
        refine lv_iload_n hx hb dX8_layFences_222 rfl (lv_at hl 1 rfl) ?_
        refine lv_dup2_11 hx hb dX8_layFences_223 rfl rfl ?_
        refine x_iald hx hb hK S ra_11 h.1 dX8_layFences_224 ?_
        replace h := h.2
        refine lv_iload_n hx hb dX8_layFences_225 rfl (lv_at hl 2 rfl) ?_
        refine lv_iload_n hx hb dX8_layFences_226 rfl (lv_at hl 1 rfl) ?_
        refine lv_icmp_eq (tgt := 245) hx hb dX8_layFences_227 (by decide) (fun c227 => ?_) (fun c227 => ?_)
        · replace h := h.1 c227
          refine lv_iconst (v := 0) hx hb dX8_layFences_245 (by decide) ?_
          refine lv_ior hx hb dX8_layFences_246 ?_
          refine x_iast hx hb hK S ra_11 h.1 dX8_layFences_247 (fun H locs S => ?_)
          replace h := h.2
          exact hJ _ _ _ _ _ _ h _ _ _ S (lv_sub hl [0, 1, 2] rfl)
        · replace h := h.2 c227
          refine lv_aload_n hx hb dX8_layFences_230 rfl (lv_at hl 0 rfl) ?_
          refine lv_iload_n hx hb dX8_layFences_231 rfl (lv_at hl 1 rfl) ?_
          refine lv_iload_n hx hb dX8_layFences_232 rfl (lv_at hl 2 rfl) ?_
          refine x_callVi (As := [.int v1, .int v2]) ⟨hx, hb, hml, hown, hts⟩ hK S (ct_X8_isCross l D cy ad B _ _ _ _ h) ro_0 rfl (cwV 2 hts gX8_layFences_X8_isCross rfl rfl rfl (by decide +kernel) ⟨Nat.le_of_ble_eq_true rfl, Nat.le_of_ble_eq_true rfl⟩) rfl hl.1 rfl (Nat.le_of_ble_eq_true rfl) dX8_layFences_233 ⟨Nat.zero_le _, Nat.zero_le _⟩ (fun r1 M1 H locs h S => ?_)
          refine lv_if_eq (tgt := 245) hx hb dX8_layFences_236 (by decide) (fun c236 => ?_) (fun c236 => ?_)
          · replace h := h.1 c236
            refine lv_iconst (v := 0) hx hb dX8_layFences_245 (by decide) ?_
            refine lv_ior hx hb dX8_layFences_246 ?_
            refine x_iast hx hb hK S ra_11 h.1 dX8_layFences_247 (fun H locs S => ?_)
            replace h := h.2
            exact hJ _ _ _ _ _ _ h _ _ _ S (lv_sub hl [0, 1, 2] rfl)
          · replace h := h.2 c236
            refine lv_iconst (v := 1) hx hb dX8_layFences_239 (by decide) ?_
            refine lv_iload_n hx hb dX8_layFences_240 rfl (lv_at hl 2 rfl) ?_
            refine lv_ishl hx hb dX8_layFences_241 ?_
            refine lv_goto (tgt := 246) hx hb dX8_layFences_242 (by decide) ?_
            refine lv_ior hx hb dX8_layFences_246 ?_
            refine x_iast hx hb hK S ra_11 h.1 dX8_layFences_247 (fun H locs S => ?_)
            replace h := h.2
            exact hJ _ _ _ _ _ _ h _ _ _ S (lv_sub hl [0, 1, 2] rfl)
    | 5, h, hl =>
      have hl : lv_has ls 5 [(0, .ref (ad 0)), (1, .int v1), (2, .int v2), (3, .int v3)] := hl
      have h : blk_X8_layFences_5 Q P v1 v2 v3 v4 M := h
      unfold blk_X8_layFences_5 at h
      refine W.eq (g2 := F0 m 36 ls []) rfl ?_
      refine lv_iconst (v := 0) hx hb dX8_layFences_36 (by decide) ?_
      refine lv_istore (lv' := [(4, .int 0), (0, .ref (ad 0)), (1, .int v1), (2, .int v2), (3, .int v3)]) hx hb dX8_layFences_37 hl (by decide) rfl (fun ls hl => ?_)
      exact hJ _ _ _ _ _ _ h _ _ _ S (lv_sub hl [1, 2, 3, 4, 0] rfl)
    | 6, h, hl =>
      have hl : lv_has ls 5 [(0, .ref (ad 0)), (1, .int v1), (2, .int v2)] := hl
      have h : blk_X8_layFences_6 Q P v1 v2 v3 v4 M := h
      unfold blk_X8_layFences_6 at h
      refine W.eq (g2 := F0 m 248 ls []) rfl ?_
      refine lv_iinc (v := (v2 + 1)) (lv' := [(2, .int (v2 + 1)), (0, .ref (ad 0)), (1, .int v1)]) hx hb dX8_layFences_248 hl (k := 2) rfl rfl (by decide) rfl (fun ls hl => ?_)
      refine lv_goto (tgt := 210) hx hb dX8_layFences_251 (by decide) ?_
      exact hJ _ _ _ _ _ _ h _ _ _ S (lv_sub hl [1, 2, 0] rfl)
    | 7, h, hl =>
      have hl : lv_has ls 5 [(0, .ref (ad 0)), (1, .int v1), (2, .int v2), (3, .int v3), (4, .int v4)] := hl
      have h : blk_X8_layFences_7 Q P v1 v2 v3 v4 M := h
      unfold blk_X8_layFences_7 at h
      refine W.eq (g2 := F0 m 39 ls []) rfl ?_
      refine lv_iload hx hb dX8_layFences_39 (lv_at hl 4 rfl) ?_
      refine lv_aload_n hx hb dX8_layFences_41 rfl (lv_at hl 0 rfl) ?_
      refine x_getI hx hb hts (hC8) hown hK S 9 (by decide) rf_0_9 (index := 109) (hts _ (List.mem_of_getElem? (i := 2) rfl)) dX8_layFences_42 ?_
      refine lv_icmp_ge (tgt := 87) hx hb dX8_layFences_45 (by decide) (fun c45 => ?_) (fun c45 => ?_)
      · replace h := h.1 c45
        exact hJ _ _ _ _ _ _ h _ _ _ S (lv_sub hl [0, 1, 2, 3] rfl)
      · replace h := h.2 c45
        refine lv_iload_n hx hb dX8_layFences_48 rfl (lv_at hl 3 rfl) ?_
        refine lv_if_eq (tgt := 87) hx hb dX8_layFences_49 (by decide) (fun c49 => ?_) (fun c49 => ?_)
        · replace h := h.1 c49
          exact hJ _ _ _ _ _ _ h _ _ _ S (lv_sub hl [0, 1, 2, 3] rfl)
        · replace h := h.2 c49
          refine lv_iload hx hb dX8_layFences_52 (lv_at hl 4 rfl) ?_
          refine lv_iload_n hx hb dX8_layFences_54 rfl (lv_at hl 1 rfl) ?_
          refine lv_icmp_eq (tgt := 75) hx hb dX8_layFences_55 (by decide) (fun c55 => ?_) (fun c55 => ?_)
          · replace h := h.1 c55
            exact hJ _ _ _ _ _ _ h _ _ _ S (lv_sub hl [0, 1, 2, 4] rfl)
          · replace h := h.2 c55
            refine lv_iload hx hb dX8_layFences_58 (lv_at hl 4 rfl) ?_
            refine lv_iload_n hx hb dX8_layFences_60 rfl (lv_at hl 2 rfl) ?_
            refine lv_icmp_eq (tgt := 75) hx hb dX8_layFences_61 (by decide) (fun c61 => ?_) (fun c61 => ?_)
            · replace h := h.1 c61
              exact hJ _ _ _ _ _ _ h _ _ _ S (lv_sub hl [0, 1, 2, 4] rfl)
            · replace h := h.2 c61
              refine lv_aload_n hx hb dX8_layFences_64 rfl (lv_at hl 0 rfl) ?_
              refine lv_iload_n hx hb dX8_layFences_65 rfl (lv_at hl 1 rfl) ?_
              refine lv_iload_n hx hb dX8_layFences_66 rfl (lv_at hl 2 rfl) ?_
              refine lv_iload hx hb dX8_layFences_67 (lv_at hl 4 rfl) ?_
              refine x_callVi (As := [.int v1, .int v2, .int v4]) ⟨hx, hb, hml, hown, hts⟩ hK S (ct_X8_isBetween l D cy ad B _ _ _ _ _ h) ro_0 rfl (cwV 3 hts gX8_layFences_X8_isBetween rfl rfl rfl (by decide +kernel) ⟨Nat.le_of_ble_eq_true rfl, Nat.le_of_ble_eq_true rfl⟩) rfl hl.1 rfl (Nat.le_of_ble_eq_true rfl) dX8_layFences_69 ⟨Nat.zero_le _, Nat.zero_le _⟩ (fun r2 M2 H locs h S => ?_)
              refine lv_if_ne (tgt := 79) hx hb dX8_layFences_72 (by decide) (fun c72 => ?_) (fun c72 => ?_)
              · replace h := h.1 c72
                refine lv_iconst (v := 0) hx hb dX8_layFences_79 (by decide) ?_
                refine lv_istore_n (lv' := [(3, .int 0), (0, .ref (ad 0)), (1, .int v1), (2, .int v2), (4, .int v4)]) hx hb dX8_layFences_80 rfl hl (by decide) rfl (fun ls hl => ?_)
                exact hJ _ _ _ _ _ _ h _ _ _ S (lv_sub hl [1, 2, 3, 0, 4] rfl)
              · replace h := h.2 c72
                exact hJ _ _ _ _ _ _ h _ _ _ S (lv_sub hl [0, 1, 2, 4] rfl)
    | 8, h, hl =>
      have hl : lv_has ls 5 [(0, .ref (ad 0)), (1, .int v1), (2, .int v2), (3, .int v3)] := hl
      have h : blk_X8_layFences_8 Q P v1 v2 v3 v4 M := h
      unfold blk_X8_layFences_8 at h
      refine W.eq (g2 := F0 m 87 ls []) rfl ?_
      refine lv_aload_n hx hb dX8_layFences_87 rfl (lv_at hl 0 rfl) ?_
      refine x_getR hx hb hts (hC8) hown hK S 15 (by decide) rf_0_15 (index := 38) (hts _ (List.mem_of_getElem? (i := 3) rfl)) dX8_layFences_88 ?_
      refine lv_bipush (v := 8) hx hb dX8_layFences_91 (by decide) ?_
      refine lv_iload_n hx hb dX8_layFences_93 rfl (lv_at hl 1 rfl) ?_
      refine lv_imul hx hb dX8_layFences_94 ?_
      refine lv_iload_n hx hb dX8_layFences_95 rfl (lv_at hl 2 rfl) ?_
      refine lv_iadd hx hb dX8_layFences_96 ?_
      refine lv_iload_n hx hb dX8_layFences_97 rfl (lv_at hl 3 rfl) ?_
      refine lv_if_eq (tgt := 108) hx hb dX8_layFences_98 (by decide) (fun c98 => ?_) (fun c98 => ?_)
      · replace h := h.1 c98
        refine lv_bipush (v := (-9)) hx hb dX8_layFences_108 (by decide) ?_
        refine x_iast hx hb hK S ra_10 h.1 dX8_layFences_110 (fun H locs S => ?_)
        replace h := h.2
        exact hJ _ _ _ _ _ _ h _ _ _ S (lv_sub hl [0, 1, 2, 3] rfl)
      · replace h := h.2 c98
        refine lv_aload_n hx hb dX8_layFences_101 rfl (lv_at hl 0 rfl) ?_
        refine x_getI hx hb hts (hC8) hown hK S 12 (by decide) rf_0_12 (index := 106) (hts _ (List.mem_of_getElem? (i := 1) rfl)) dX8_layFences_102 ?_
        refine lv_goto (tgt := 110) hx hb dX8_layFences_105 (by decide) ?_
        refine x_iast hx hb hK S ra_10 h.1 dX8_layFences_110 (fun H locs S => ?_)
        replace h := h.2
        exact hJ _ _ _ _ _ _ h _ _ _ S (lv_sub hl [0, 1, 2, 3] rfl)
    | 9, h, hl =>
      have hl : lv_has ls 5 [(0, .ref (ad 0)), (1, .int v1), (2, .int v2), (4, .int v4)] := hl
      have h : blk_X8_layFences_9 Q P v1 v2 v3 v4 M := h
      unfold blk_X8_layFences_9 at h
      refine W.eq (g2 := F0 m 75 ls []) rfl ?_
      refine lv_iconst (v := 1) hx hb dX8_layFences_75 (by decide) ?_
      refine lv_goto (tgt := 80) hx hb dX8_layFences_76 (by decide) ?_
      refine lv_istore_n (lv' := [(3, .int 1), (0, .ref (ad 0)), (1, .int v1), (2, .int v2), (4, .int v4)]) hx hb dX8_layFences_80 rfl hl (by decide) rfl (fun ls hl => ?_)
      exact hJ _ _ _ _ _ _ h _ _ _ S (lv_sub hl [1, 2, 3, 0, 4] rfl)
    | 10, h, hl =>
      have hl : lv_has ls 5 [(0, .ref (ad 0)), (1, .int v1), (2, .int v2), (3, .int v3), (4, .int v4)] := hl
      have h : blk_X8_layFences_10 Q P v1 v2 v3 v4 M := h
      unfold blk_X8_layFences_10 at h
      refine W.eq (g2 := F0 m 81 ls []) rfl ?_
      refine lv_iinc (v := (v4 + 1)) (lv' := [(4, .int (v4 + 1)), (0, .ref (ad 0)), (1, .int v1), (2, .int v2), (3, .int v3)]) hx hb dX8_layFences_81 hl (k := 4) rfl rfl (by decide) rfl (fun ls hl => ?_)
      refine lv_goto (tgt := 39) hx hb dX8_layFences_84 (by decide) ?_
      exact hJ _ _ _ _ _ _ h _ _ _ S (lv_sub hl [1, 2, 3, 4, 0] rfl)
    | 11, h, hl =>
      have hl : lv_has ls 5 [(0, .ref (ad 0)), (1, .int v1), (2, .int v2), (3, .int v3)] := hl
      have h : blk_X8_layFences_11 Q P v1 v2 v3 v4 M := h
      unfold blk_X8_layFences_11 at h
      refine W.eq (g2 := F0 m 111 ls []) rfl ?_
      refine lv_aload_n hx hb dX8_layFences_111 rfl (lv_at hl 0 rfl) ?_
      refine x_getR hx hb hts (hC8) hown hK S 15 (by decide) rf_0_15 (index := 38) (hts _ (List.mem_of_getElem? (i := 3) rfl)) dX8_layFences_112 ?_
      refine lv_bipush (v := 8) hx hb dX8_layFences_115 (by decide) ?_
      refine lv_iload_n hx hb dX8_layFences_117 rfl (lv_at hl 2 rfl) ?_
      refine lv_imul hx hb dX8_layFences_118 ?_
      refine lv_iload_n hx hb dX8_layFences_119 rfl (lv_at hl 1 rfl) ?_
      refine lv_iadd hx hb dX8_layFences_120 ?_
      refine lv_iload_n hx hb dX8_layFences_121 rfl (lv_at hl 3 rfl) ?_
      refine lv_if_eq (tgt := 132) hx hb dX8_layFences_122 (by decide) (fun c122 => ?_) (fun c122 => ?_)
      · replace h := h.1 c122
        refine lv_bipush (v := (-9)) hx hb dX8_layFences_132 (by decide) ?_
        refine x_iast hx hb hK S ra_10 h.1 dX8_layFences_134 (fun H locs S => ?_)
        replace h := h.2
        exact hJ _ _ _ _ _ _ h _ _ _ S (lv_sub hl [0, 1, 2, 3] rfl)
      · replace h := h.2 c122
        refine lv_aload_n hx hb dX8_layFences_125 rfl (lv_at hl 0 rfl) ?_
        refine x_getI hx hb hts (hC8) hown hK S 12 (by decide) rf_0_12 (index := 106) (hts _ (List.mem_of_getElem? (i := 1) rfl)) dX8_layFences_126 ?_
        refine lv_goto (tgt := 134) hx hb dX8_layFences_129 (by decide) ?_
        refine x_iast hx hb hK S ra_10 h.1 dX8_layFences_134 (fun H locs S => ?_)
        replace h := h.2
        exact hJ _ _ _ _ _ _ h _ _ _ S (lv_sub hl [0, 1, 2, 3] rfl)
    | 12, h, hl =>
      have hl : lv_has ls 5 [(0, .ref (ad 0)), (1, .int v1), (2, .int v2), (3, .int v3)] := hl
      have h : blk_X8_layFences_12 Q P v1 v2 v3 v4 M := h
      unfold blk_X8_layFences_12 at h
      refine W.eq (g2 := F0 m 135 ls []) rfl ?_
      refine lv_iload_n hx hb dX8_layFences_135 rfl (lv_at hl 3 rfl) ?_
      refine lv_if_eq (tgt := 179) hx hb dX8_layFences_136 (by decide) (fun c136 => ?_) (fun c136 => ?_)
      · replace h := h.1 c136
        exact hJ _ _ _ _ _ _ h _ _ _ S (lv_sub hl [0, 1, 2] rfl)
      · replace h := h.2 c136
        refine lv_aload_n hx hb dX8_layFences_139 rfl (lv_at hl 0 rfl) ?_
        refine x_getR hx hb hts (hC8) hown hK S 13 (by decide) rf_0_13 (index := 32) (hts _ (List.mem_of_getElem? (i := 4) rfl)) dX8_layFences_140 ?_
        refine lv_aload_n hx hb dX8_layFences_143 rfl (lv_at hl 0 rfl) ?_
        refine x_getI hx hb hts (hC8) hown hK S 12 (by decide) rf_0_12 (index := 106) (hts _ (List.mem_of_getElem? (i := 1) rfl)) dX8_layFences_144 ?_
        refine lv_iload_n hx hb dX8_layFences_147 rfl (lv_at hl 1 rfl) ?_
        refine x_iast hx hb hK S ra_8 h.1 dX8_layFences_148 (fun H locs S => ?_)
        replace h := h.2
        refine lv_aload_n hx hb dX8_layFences_149 rfl (lv_at hl 0 rfl) ?_
        refine x_getR hx hb hts (hC8) hown hK S 14 (by decide) rf_0_14 (index := 35) (hts _ (List.mem_of_getElem? (i := 5) rfl)) dX8_layFences_150 ?_
        refine lv_aload_n hx hb dX8_layFences_153 rfl (lv_at hl 0 rfl) ?_
        refine x_getI hx hb hts (hC8) hown hK S 12 (by decide) rf_0_12 (index := 106) (hts _ (List.mem_of_getElem? (i := 1) rfl)) dX8_layFences_154 ?_
        refine lv_iload_n hx hb dX8_layFences_157 rfl (lv_at hl 2 rfl) ?_
        refine x_iast hx hb hK S ra_9 h.1 dX8_layFences_158 (fun H locs S => ?_)
        replace h := h.2
        refine lv_aload_n hx hb dX8_layFences_159 rfl (lv_at hl 0 rfl) ?_
        refine x_getR hx hb hts (hC8) hown hK S 17 (by decide) rf_0_17 (index := 44) (hts _ (List.mem_of_getElem? (i := 6) rfl)) dX8_layFences_160 ?_
        refine lv_aload_n hx hb dX8_layFences_163 rfl (lv_at hl 0 rfl) ?_
        refine x_getI hx hb hts (hC8) hown hK S 12 (by decide) rf_0_12 (index := 106) (hts _ (List.mem_of_getElem? (i := 1) rfl)) dX8_layFences_164 ?_
        refine lv_iconst (v := 0) hx hb dX8_layFences_167 (by decide) ?_
        refine x_iast hx hb hK S ra_12 h.1 dX8_layFences_168 (fun H locs S => ?_)
        replace h := h.2
        refine lv_aload_n hx hb dX8_layFences_169 rfl (lv_at hl 0 rfl) ?_
        refine lv_dup hx hb dX8_layFences_170 rfl ?_
        refine x_getI hx hb hts (hC8) hown hK S 12 (by decide) rf_0_12 (index := 106) (hts _ (List.mem_of_getElem? (i := 1) rfl)) dX8_layFences_171 ?_
        refine lv_iconst (v := 1) hx hb dX8_layFences_174 (by decide) ?_
        refine lv_iadd hx hb dX8_layFences_175 ?_
        refine x_putI hx hb hts (hC8) tyX8 tyX8_ok nmX8 hown hK S 12 (by decide) rf_0_12 (index := 106) (hts _ (List.mem_of_getElem? (i := 1) rfl)) rfl rfl rfl dX8_layFences_176 (fun H locs S => ?_)
        exact hJ _ _ _ _ _ _ h _ _ _ S (lv_sub hl [0, 1, 2] rfl)
    | 13, h, hl =>
      have hl : lv_has ls 5 [(0, .ref (ad 0)), (1, .int v1), (2, .int v2)] := hl
      have h : blk_X8_layFences_13 Q P v1 v2 v3 v4 M := h
      unfold blk_X8_layFences_13 at h
      refine W.eq (g2 := F0 m 179 ls []) rfl ?_
      refine lv_iinc (v := (v2 + 1)) (lv' := [(2, .int (v2 + 1)), (0, .ref (ad 0)), (1, .int v1)]) hx hb dX8_layFences_179 hl (k := 2) rfl rfl (by decide) rfl (fun ls hl => ?_)
      refine lv_goto (tgt := 17) hx hb dX8_layFences_182 (by decide) ?_
      exact hJ _ _ _ _ _ _ h _ _ _ S (lv_sub hl [1, 2, 0] rfl)
    | _ + 14, h, hl => exact h.elim
  have hl := lv_entry ([.ref (ad 0)]) (n := 5) (Nat.le_of_ble_eq_true rfl)
  subst hargs
  rw [lg_entry_eq]
  generalize (lg_sl ([.ref (ad 0)]) ++ List.replicate (5 - (lg_sl ([.ref (ad 0)])).length) Slot.unset).toArray = ls at hl ⊢
  exact h _ (key _ (fun _ _ _ _ _ _ h => h)) s.heap [] ls ⟨hP, hD, va_S.rf⟩ hl
/-! X8_isGreatest -/
def blk_X8_isGreatest_0 (v1 : Int32) (Q : Int32 → Mem → Prop) (P : Nat → Int32 → Mem → Prop) (v2 : Int32) (M : Mem) : Prop :=
  P 1 0 M
theorem blk_X8_isGreatest_0_mono {v1 : Int32} {Q Q' : Int32 → Mem → Prop} {P P' : Nat → Int32 → Mem → Prop} (hQ : ∀ (r : Int32) (M : Mem), Q r M → Q' r M) (hP : ∀ (lab : Nat) (v2 : Int32) (M : Mem), P lab v2 M → P' lab v2 M) (v2 : Int32) (M : Mem) (h : blk_X8_isGreatest_0 v1 Q P v2 M) : blk_X8_isGreatest_0 v1 Q' P' v2 M := by
  unfold blk_X8_isGreatest_0 at h ⊢
  exact hP _ _ _ h
def blk_X8_isGreatest_1 (v1 : Int32) (Q : Int32 → Mem → Prop) (P : Nat → Int32 → Mem → Prop) (v2 : Int32) (M : Mem) : Prop :=
  (((M.1 0 12) ≤ v2 → Q 1 M) ∧ (¬ (M.1 0 12) ≤ v2 → ((¬ ((v1 >>> (v2 &&& 31)) &&& (1 : Int32)) = 0 → P 2 v2 M) ∧ (((v1 >>> (v2 &&& 31)) &&& (1 : Int32)) = 0 → (vp_in v2 28 ∧ ((¬ ((M.1 11 v2.toNatClampNeg) &&& v1) = 0 → P 2 v2 M) ∧ (((M.1 11 v2.toNatClampNeg) &&& v1) = 0 → Q 0 M)))))))
theorem blk_X8_isGreatest_1_mono {v1 : Int32} {Q Q' : Int32 → Mem → Prop} {P P' : Nat → Int32 → Mem → Prop} (hQ : ∀ (r : Int32) (M : Mem), Q r M → Q' r M) (hP : ∀ (lab : Nat) (v2 : Int32) (M : Mem), P lab v2 M → P' lab v2 M) (v2 : Int32) (M : Mem) (h : blk_X8_isGreatest_1 v1 Q P v2 M) : blk_X8_isGreatest_1 v1 Q' P' v2 M := by
  unfold blk_X8_isGreatest_1 at h ⊢
  exact ⟨fun c => let h := h.1 c; hQ _ _ h, fun c => let h := h.2 c; ⟨fun c => let h := h.1 c; hP _ _ _ h, fun c => let h := h.2 c; ⟨h.1, let h := h.2; ⟨fun c => let h := h.1 c; hP _ _ _ h, fun c => let h := h.2 c; hQ _ _ h⟩⟩⟩⟩
def blk_X8_isGreatest_2 (v1 : Int32) (Q : Int32 → Mem → Prop) (P : Nat → Int32 → Mem → Prop) (v2 : Int32) (M : Mem) : Prop :=
  P 1 (v2 + 1) M
theorem blk_X8_isGreatest_2_mono {v1 : Int32} {Q Q' : Int32 → Mem → Prop} {P P' : Nat → Int32 → Mem → Prop} (hQ : ∀ (r : Int32) (M : Mem), Q r M → Q' r M) (hP : ∀ (lab : Nat) (v2 : Int32) (M : Mem), P lab v2 M → P' lab v2 M) (v2 : Int32) (M : Mem) (h : blk_X8_isGreatest_2 v1 Q P v2 M) : blk_X8_isGreatest_2 v1 Q' P' v2 M := by
  unfold blk_X8_isGreatest_2 at h ⊢
  exact hP _ _ _ h
def blk_X8_isGreatest (v1 : Int32) (Q : Int32 → Mem → Prop) (P : Nat → Int32 → Mem → Prop) : Nat → Int32 → Mem → Prop := fun lab v2 M => match lab with
  | 0 => blk_X8_isGreatest_0 v1 Q P v2 M
  | 1 => blk_X8_isGreatest_1 v1 Q P v2 M
  | 2 => blk_X8_isGreatest_2 v1 Q P v2 M
  | _ => False
theorem blk_X8_isGreatest_mono {v1 : Int32} {Q Q' : Int32 → Mem → Prop} {P P' : Nat → Int32 → Mem → Prop} (hQ : ∀ (r : Int32) (M : Mem), Q r M → Q' r M) (hP : ∀ (lab : Nat) (v2 : Int32) (M : Mem), P lab v2 M → P' lab v2 M) : ∀ (lab : Nat) (v2 : Int32) (M : Mem), blk_X8_isGreatest v1 Q P lab v2 M → blk_X8_isGreatest v1 Q' P' lab v2 M := fun lab v2 M h => match lab, h with
  | 0, h => blk_X8_isGreatest_0_mono (v1 := v1) hQ hP v2 M h
  | 1, h => blk_X8_isGreatest_1_mono (v1 := v1) hQ hP v2 M h
  | 2, h => blk_X8_isGreatest_2_mono (v1 := v1) hQ hP v2 M h
  | _ + 3, h => False.elim h
def at_X8_isGreatest (v1 : Int32) (Q : Int32 → Mem → Prop) : Nat → Int32 → Mem → Prop := fun lab v2 M => ∀ P : Nat → Int32 → Mem → Prop, (∀ (lab : Nat) (v2 : Int32) (M : Mem), blk_X8_isGreatest v1 Q P lab v2 M → P lab v2 M) → P lab v2 M
theorem at_X8_isGreatest_fold {v1 : Int32} {Q : Int32 → Mem → Prop} {lab : Nat} {v2 : Int32} {M : Mem} (h : blk_X8_isGreatest v1 Q (at_X8_isGreatest v1 Q) lab v2 M) : at_X8_isGreatest v1 Q lab v2 M := fun P hP => hP _ _ _ (blk_X8_isGreatest_mono (fun _ _ h => h) (fun _ _ _ h => h P hP) _ _ _ h)
theorem at_X8_isGreatest_mono {v1 : Int32} {Q Q' : Int32 → Mem → Prop} (hQ : ∀ (r : Int32) (M : Mem), Q r M → Q' r M) {lab : Nat} {v2 : Int32} {M : Mem} (h : at_X8_isGreatest v1 Q lab v2 M) : at_X8_isGreatest v1 Q' lab v2 M := fun P hP => h P (fun lab v2 M hb => hP _ _ _ (blk_X8_isGreatest_mono hQ (fun _ _ _ h => h) _ _ _ hb))
def wp_X8_isGreatest (v1 : Int32) (M : Mem) (Q : Int32 → Mem → Prop) : Prop := at_X8_isGreatest v1 Q 0 0 M
theorem wp_X8_isGreatest_mono {v1 : Int32} {M : Mem} {Q Q' : Int32 → Mem → Prop} (hQ : ∀ (r : Int32) (M : Mem), Q r M → Q' r M) (h : wp_X8_isGreatest v1 M Q) : wp_X8_isGreatest v1 M Q' := at_X8_isGreatest_mono hQ h
def pcl_X8_isGreatest : Nat → Nat := fun lab => match lab with
  | 0 => 0
  | 1 => 2
  | 2 => 31
  | _ => 0
def lvl_X8_isGreatest (ad : Nat → Nat) (v1 : Int32) : Nat → Int32 → List (Nat × Value) := fun lab v2 => match lab with
  | 0 => [(0, .ref (ad 0)), (1, .int v1)]
  | 1 => [(0, .ref (ad 0)), (1, .int v1), (2, .int v2)]
  | 2 => [(0, .ref (ad 0)), (1, .int v1), (2, .int v2)]
  | _ => []
abbrev rm_X8_isGreatest : Jvm.Room := { frames := 1, cells := 0, slots := 0, locals := 14 }
set_option maxHeartbeats 4000000 in
set_option maxRecDepth 100000 in
theorem ct_X8_isGreatest (l : Launch) (D : va_G) (cy : Nat → ClassId) (ad : Nat → Nat) (B : Nat → Prop) (v1 : Int32) (M : Mem) (Q : Int32 → Mem → Prop) (h : wp_X8_isGreatest v1 M Q) : CTi l D cy (wR ad cy) B yX8_isGreatest wsX8_isGreatest rm_X8_isGreatest [.ref (ad 0), .int v1] M Q := by
  intro sz
  refine Met.ofW (cc := cX8_isGreatest) (maxL := 3) (ret := some .boolean) (by decide) rfl ?_
  intro p e s m args below meth c s₁ Bd hml hv
  obtain ⟨hargs, hsz, hP, hK, hD⟩ := hv
  subst hsz
  have hx := Bd.exec
  have hb := Bd.bytes
  have hr := Bd.returns
  have hts := atoms_spec (ws := wsX8_isGreatest) Bd.pre
  have hown : s.vm.findClass RX8 = some m.cls := findClass_of_methodNamed Bd.named
  have hlocks := Bd.notSynchronized
  have hC8 : xC wsX8_isGreatest 8 RX8 TX8 34 := ⟨by decide +kernel, rfl⟩
  have key : ∀ (P : Nat → Int32 → Mem → Prop), (∀ (lab : Nat) (v2 : Int32) (M : Mem), P lab v2 M → ∀ (H : Heap) (locs : List Loc) (ls : Array Slot), xS D (wR ad cy) B s.heap H locs M → lv_has ls 3 (lvl_X8_isGreatest ad v1 lab v2 ) → W p l e (headSpec wsX8_isGreatest rm_X8_isGreatest).room s m args below meth c H locs 0 0 (MQ below (va_Qi (S := Mem) Q (xB D (wR ad cy) B) (xA B s.heap.size)) args s 0 0 (xA B s.heap.size)) (F0 m (pcl_X8_isGreatest lab) ls [])) → ∀ (lab : Nat) (v2 : Int32) (M : Mem), blk_X8_isGreatest v1 Q P lab v2 M → ∀ (H : Heap) (locs : List Loc) (ls : Array Slot), xS D (wR ad cy) B s.heap H locs M → lv_has ls 3 (lvl_X8_isGreatest ad v1 lab v2 ) → W p l e (headSpec wsX8_isGreatest rm_X8_isGreatest).room s m args below meth c H locs 0 0 (MQ below (va_Qi (S := Mem) Q (xB D (wR ad cy) B) (xA B s.heap.size)) args s 0 0 (xA B s.heap.size)) (F0 m (pcl_X8_isGreatest lab) ls []) := by
    intro P hJ lab v2 M h H locs ls S hl
    match lab, h, hl with
    | 0, h, hl =>
      have hl : lv_has ls 3 [(0, .ref (ad 0)), (1, .int v1)] := hl
      have h : blk_X8_isGreatest_0 v1 Q P v2 M := h
      unfold blk_X8_isGreatest_0 at h
      refine W.eq (g2 := F0 m 0 ls []) rfl ?_
      refine lv_iconst (v := 0) hx hb dX8_isGreatest_0 (by decide) ?_
      refine lv_istore_n (lv' := [(2, .int 0), (0, .ref (ad 0)), (1, .int v1)]) hx hb dX8_isGreatest_1 rfl hl (by decide) rfl (fun ls hl => ?_)
      exact hJ _ _ _ h _ _ _ S (lv_sub hl [1, 2, 0] rfl)
    | 1, h, hl =>
      have hl : lv_has ls 3 [(0, .ref (ad 0)), (1, .int v1), (2, .int v2)] := hl
      have h : blk_X8_isGreatest_1 v1 Q P v2 M := h
      unfold blk_X8_isGreatest_1 at h
      refine W.eq (g2 := F0 m 2 ls []) rfl ?_
      refine lv_iload_n hx hb dX8_isGreatest_2 rfl (lv_at hl 2 rfl) ?_
      refine lv_aload_n hx hb dX8_isGreatest_3 rfl (lv_at hl 0 rfl) ?_
      refine x_getI hx hb hts (hC8) hown hK S 12 (by decide) rf_0_12 (index := 106) (hts _ (List.mem_of_getElem? (i := 1) rfl)) dX8_isGreatest_4 ?_
      refine lv_icmp_ge (tgt := 37) hx hb dX8_isGreatest_7 (by decide) (fun c7 => ?_) (fun c7 => ?_)
      · replace h := h.1 c7
        refine lv_iconst (v := 1) hx hb dX8_isGreatest_37 (by decide) ?_
        exact x_iret hx hb hr hlocks S rfl h dX8_isGreatest_38
      · replace h := h.2 c7
        refine lv_iload_n hx hb dX8_isGreatest_10 rfl (lv_at hl 1 rfl) ?_
        refine lv_iload_n hx hb dX8_isGreatest_11 rfl (lv_at hl 2 rfl) ?_
        refine lv_ishr hx hb dX8_isGreatest_12 ?_
        refine lv_iconst (v := 1) hx hb dX8_isGreatest_13 (by decide) ?_
        refine lv_iand hx hb dX8_isGreatest_14 ?_
        refine lv_if_ne (tgt := 31) hx hb dX8_isGreatest_15 (by decide) (fun c15 => ?_) (fun c15 => ?_)
        · replace h := h.1 c15
          exact hJ _ _ _ h _ _ _ S (lv_sub hl [0, 1, 2] rfl)
        · replace h := h.2 c15
          refine lv_aload_n hx hb dX8_isGreatest_18 rfl (lv_at hl 0 rfl) ?_
          refine x_getR hx hb hts (hC8) hown hK S 16 (by decide) rf_0_16 (index := 41) (hts _ (List.mem_of_getElem? (i := 2) rfl)) dX8_isGreatest_19 ?_
          refine lv_iload_n hx hb dX8_isGreatest_22 rfl (lv_at hl 2 rfl) ?_
          refine x_iald hx hb hK S ra_11 h.1 dX8_isGreatest_23 ?_
          replace h := h.2
          refine lv_iload_n hx hb dX8_isGreatest_24 rfl (lv_at hl 1 rfl) ?_
          refine lv_iand hx hb dX8_isGreatest_25 ?_
          refine lv_if_ne (tgt := 31) hx hb dX8_isGreatest_26 (by decide) (fun c26 => ?_) (fun c26 => ?_)
          · replace h := h.1 c26
            exact hJ _ _ _ h _ _ _ S (lv_sub hl [0, 1, 2] rfl)
          · replace h := h.2 c26
            refine lv_iconst (v := 0) hx hb dX8_isGreatest_29 (by decide) ?_
            exact x_iret hx hb hr hlocks S rfl h dX8_isGreatest_30
    | 2, h, hl =>
      have hl : lv_has ls 3 [(0, .ref (ad 0)), (1, .int v1), (2, .int v2)] := hl
      have h : blk_X8_isGreatest_2 v1 Q P v2 M := h
      unfold blk_X8_isGreatest_2 at h
      refine W.eq (g2 := F0 m 31 ls []) rfl ?_
      refine lv_iinc (v := (v2 + 1)) (lv' := [(2, .int (v2 + 1)), (0, .ref (ad 0)), (1, .int v1)]) hx hb dX8_isGreatest_31 hl (k := 2) rfl rfl (by decide) rfl (fun ls hl => ?_)
      refine lv_goto (tgt := 2) hx hb dX8_isGreatest_34 (by decide) ?_
      exact hJ _ _ _ h _ _ _ S (lv_sub hl [1, 2, 0] rfl)
    | _ + 3, h, hl => exact h.elim
  have hl := lv_entry ([.ref (ad 0), .int v1]) (n := 3) (Nat.le_of_ble_eq_true rfl)
  subst hargs
  rw [lg_entry_eq]
  generalize (lg_sl ([.ref (ad 0), .int v1]) ++ List.replicate (3 - (lg_sl ([.ref (ad 0), .int v1])).length) Slot.unset).toArray = ls at hl ⊢
  exact h _ (key _ (fun _ _ _ h => h)) s.heap [] ls ⟨hP, hD, va_S.rf⟩ hl
/-! X8_findCuttings -/
def blk_X8_findCuttings_0 (Q : Mem → Prop) (P : Nat → Int32 → Int32 → Int32 → Int32 → Mem → Prop) (v1 : Int32) (v2 : Int32) (v3 : Int32) (v4 : Int32) (M : Mem) : Prop :=
  (vp_in (((upI M 0 20 0).1 0 12) - 1) 29 ∧ P 1 (((upI M 0 20 0).1 0 12) - 1) 0 0 0 (upI (upI M 0 20 0) 21 (((upI M 0 20 0).1 0 12) - 1).toNatClampNeg 0))
theorem blk_X8_findCuttings_0_mono {Q Q' : Mem → Prop} {P P' : Nat → Int32 → Int32 → Int32 → Int32 → Mem → Prop} (hQ : ∀ M : Mem, Q M → Q' M) (hP : ∀ (lab : Nat) (v1 : Int32) (v2 : Int32) (v3 : Int32) (v4 : Int32) (M : Mem), P lab v1 v2 v3 v4 M → P' lab v1 v2 v3 v4 M) (v1 : Int32) (v2 : Int32) (v3 : Int32) (v4 : Int32) (M : Mem) (h : blk_X8_findCuttings_0 Q P v1 v2 v3 v4 M) : blk_X8_findCuttings_0 Q' P' v1 v2 v3 v4 M := by
  unfold blk_X8_findCuttings_0 at h ⊢
  exact ⟨h.1, let h := h.2; hP _ _ _ _ _ _ h⟩
def blk_X8_findCuttings_1 (Q : Mem → Prop) (P : Nat → Int32 → Int32 → Int32 → Int32 → Mem → Prop) (v1 : Int32) (v2 : Int32) (v3 : Int32) (v4 : Int32) (M : Mem) : Prop :=
  (((M.1 0 12) ≤ v1 → Q M) ∧ (¬ (M.1 0 12) ≤ v1 → (vp_in v1 29 ∧ ∀ x2_1 : Int32, x2_1 = (v2 &&& (((1 : Int32) <<< (v1 &&& 31)) ^^^ ((-1) : Int32))) → (((M.1 21 v1.toNatClampNeg) ≤ 1 → (vp_in v1 29 ∧ (vp_in v1 29 ∧ ((¬ (M.1 21 v1.toNatClampNeg) = 0 → (vp_in v1 28 ∧ ((¬ (((upI M 21 v1.toNatClampNeg ((M.1 21 v1.toNatClampNeg) + 1)).1 11 v1.toNatClampNeg) &&& x2_1) = 0 → P 2 v1 x2_1 0 0 (upI M 21 v1.toNatClampNeg ((M.1 21 v1.toNatClampNeg) + 1))) ∧ ((((upI M 21 v1.toNatClampNeg ((M.1 21 v1.toNatClampNeg) + 1)).1 11 v1.toNatClampNeg) &&& x2_1) = 0 → P 2 v1 x2_1 0 1 (upI M 21 v1.toNatClampNeg ((M.1 21 v1.toNatClampNeg) + 1)))))) ∧ ((M.1 21 v1.toNatClampNeg) = 0 → (vp_in v1 28 ∧ (((((upI M 21 v1.toNatClampNeg ((M.1 21 v1.toNatClampNeg) + 1)).1 11 v1.toNatClampNeg) &&& (x2_1 ||| (((1 : Int32) <<< (v1 &&& 31)) - 1))) = 0 → P 3 v1 x2_1 0 0 (upI M 21 v1.toNatClampNeg ((M.1 21 v1.toNatClampNeg) + 1))) ∧ (¬ (((upI M 21 v1.toNatClampNeg ((M.1 21 v1.toNatClampNeg) + 1)).1 11 v1.toNatClampNeg) &&& (x2_1 ||| (((1 : Int32) <<< (v1 &&& 31)) - 1))) = 0 → P 3 v1 x2_1 0 1 (upI M 21 v1.toNatClampNeg ((M.1 21 v1.toNatClampNeg) + 1)))))))))) ∧ (¬ (M.1 21 v1.toNatClampNeg) ≤ 1 → P 1 (v1 + 1) x2_1 0 0 M)))))
theorem blk_X8_findCuttings_1_mono {Q Q' : Mem → Prop} {P P' : Nat → Int32 → Int32 → Int32 → Int32 → Mem → Prop} (hQ : ∀ M : Mem, Q M → Q' M) (hP : ∀ (lab : Nat) (v1 : Int32) (v2 : Int32) (v3 : Int32) (v4 : Int32) (M : Mem), P lab v1 v2 v3 v4 M → P' lab v1 v2 v3 v4 M) (v1 : Int32) (v2 : Int32) (v3 : Int32) (v4 : Int32) (M : Mem) (h : blk_X8_findCuttings_1 Q P v1 v2 v3 v4 M) : blk_X8_findCuttings_1 Q' P' v1 v2 v3 v4 M := by
  unfold blk_X8_findCuttings_1 at h ⊢
  exact ⟨fun c => let h := h.1 c; hQ _ h, fun c => let h := h.2 c; ⟨h.1, let h := h.2; fun x2_1 ex2_1 => let h := h x2_1 ex2_1; ⟨fun c => let h := h.1 c; ⟨h.1, let h := h.2; ⟨h.1, let h := h.2; ⟨fun c => let h := h.1 c; ⟨h.1, let h := h.2; ⟨fun c => let h := h.1 c; hP _ _ _ _ _ _ h, fun c => let h := h.2 c; hP _ _ _ _ _ _ h⟩⟩, fun c => let h := h.2 c; ⟨h.1, let h := h.2; ⟨fun c => let h := h.1 c; hP _ _ _ _ _ _ h, fun c => let h := h.2 c; hP _ _ _ _ _ _ h⟩⟩⟩⟩⟩, fun c => let h := h.2 c; hP _ _ _ _ _ _ h⟩⟩⟩
def blk_X8_findCuttings_2 (Q : Mem → Prop) (P : Nat → Int32 → Int32 → Int32 → Int32 → Mem → Prop) (v1 : Int32) (v2 : Int32) (v3 : Int32) (v4 : Int32) (M : Mem) : Prop :=
  ((v4 = 0 → P 4 v1 (v2 ||| (0 : Int32)) 0 v4 M) ∧ (¬ v4 = 0 → P 4 v1 (v2 ||| ((1 : Int32) <<< (v1 &&& 31))) 0 v4 M))
theorem blk_X8_findCuttings_2_mono {Q Q' : Mem → Prop} {P P' : Nat → Int32 → Int32 → Int32 → Int32 → Mem → Prop} (hQ : ∀ M : Mem, Q M → Q' M) (hP : ∀ (lab : Nat) (v1 : Int32) (v2 : Int32) (v3 : Int32) (v4 : Int32) (M : Mem), P lab v1 v2 v3 v4 M → P' lab v1 v2 v3 v4 M) (v1 : Int32) (v2 : Int32) (v3 : Int32) (v4 : Int32) (M : Mem) (h : blk_X8_findCuttings_2 Q P v1 v2 v3 v4 M) : blk_X8_findCuttings_2 Q' P' v1 v2 v3 v4 M := by
  unfold blk_X8_findCuttings_2 at h ⊢
  exact ⟨fun c => let h := h.1 c; hP _ _ _ _ _ _ h, fun c => let h := h.2 c; hP _ _ _ _ _ _ h⟩
def blk_X8_findCuttings_3 (Q : Mem → Prop) (P : Nat → Int32 → Int32 → Int32 → Int32 → Mem → Prop) (v1 : Int32) (v2 : Int32) (v3 : Int32) (v4 : Int32) (M : Mem) : Prop :=
  P 4 v1 v2 0 v4 M
theorem blk_X8_findCuttings_3_mono {Q Q' : Mem → Prop} {P P' : Nat → Int32 → Int32 → Int32 → Int32 → Mem → Prop} (hQ : ∀ M : Mem, Q M → Q' M) (hP : ∀ (lab : Nat) (v1 : Int32) (v2 : Int32) (v3 : Int32) (v4 : Int32) (M : Mem), P lab v1 v2 v3 v4 M → P' lab v1 v2 v3 v4 M) (v1 : Int32) (v2 : Int32) (v3 : Int32) (v4 : Int32) (M : Mem) (h : blk_X8_findCuttings_3 Q P v1 v2 v3 v4 M) : blk_X8_findCuttings_3 Q' P' v1 v2 v3 v4 M := by
  unfold blk_X8_findCuttings_3 at h ⊢
  exact hP _ _ _ _ _ _ h
def blk_X8_findCuttings_4 (Q : Mem → Prop) (P : Nat → Int32 → Int32 → Int32 → Int32 → Mem → Prop) (v1 : Int32) (v2 : Int32) (v3 : Int32) (v4 : Int32) (M : Mem) : Prop :=
  ((v4 = 0 → P 5 v1 v2 0 v4 M) ∧ (¬ v4 = 0 → ((¬ v1 = 0 → P 5 v1 v2 0 v4 M) ∧ (v1 = 0 → wp_X8_isGreatest v2 M (fun r2 M2 => ((r2 = 0 → P 6 v1 v2 0 0 M2) ∧ (¬ r2 = 0 → (vp_in (M2.1 0 20) 2000 ∧ P 6 v1 v2 0 0 (upI (upI M2 13 (M2.1 0 20).toNatClampNeg v2) 0 20 (((upI M2 13 (M2.1 0 20).toNatClampNeg v2).1 0 20) + 1))))))))))
theorem blk_X8_findCuttings_4_mono {Q Q' : Mem → Prop} {P P' : Nat → Int32 → Int32 → Int32 → Int32 → Mem → Prop} (hQ : ∀ M : Mem, Q M → Q' M) (hP : ∀ (lab : Nat) (v1 : Int32) (v2 : Int32) (v3 : Int32) (v4 : Int32) (M : Mem), P lab v1 v2 v3 v4 M → P' lab v1 v2 v3 v4 M) (v1 : Int32) (v2 : Int32) (v3 : Int32) (v4 : Int32) (M : Mem) (h : blk_X8_findCuttings_4 Q P v1 v2 v3 v4 M) : blk_X8_findCuttings_4 Q' P' v1 v2 v3 v4 M := by
  unfold blk_X8_findCuttings_4 at h ⊢
  exact ⟨fun c => let h := h.1 c; hP _ _ _ _ _ _ h, fun c => let h := h.2 c; ⟨fun c => let h := h.1 c; hP _ _ _ _ _ _ h, fun c => let h := h.2 c; wp_X8_isGreatest_mono (fun r2 M2 h => ⟨fun c => let h := h.1 c; hP _ _ _ _ _ _ h, fun c => let h := h.2 c; ⟨h.1, let h := h.2; hP _ _ _ _ _ _ h⟩⟩) h⟩⟩
def blk_X8_findCuttings_5 (Q : Mem → Prop) (P : Nat → Int32 → Int32 → Int32 → Int32 → Mem → Prop) (v1 : Int32) (v2 : Int32) (v3 : Int32) (v4 : Int32) (M : Mem) : Prop :=
  ((v4 = 0 → P 6 v1 v2 0 0 M) ∧ (¬ v4 = 0 → (vp_in (v1 + (-1)) 29 ∧ P 6 (v1 + (-1)) v2 0 0 (upI M 21 (v1 + (-1)).toNatClampNeg 0))))
theorem blk_X8_findCuttings_5_mono {Q Q' : Mem → Prop} {P P' : Nat → Int32 → Int32 → Int32 → Int32 → Mem → Prop} (hQ : ∀ M : Mem, Q M → Q' M) (hP : ∀ (lab : Nat) (v1 : Int32) (v2 : Int32) (v3 : Int32) (v4 : Int32) (M : Mem), P lab v1 v2 v3 v4 M → P' lab v1 v2 v3 v4 M) (v1 : Int32) (v2 : Int32) (v3 : Int32) (v4 : Int32) (M : Mem) (h : blk_X8_findCuttings_5 Q P v1 v2 v3 v4 M) : blk_X8_findCuttings_5 Q' P' v1 v2 v3 v4 M := by
  unfold blk_X8_findCuttings_5 at h ⊢
  exact ⟨fun c => let h := h.1 c; hP _ _ _ _ _ _ h, fun c => let h := h.2 c; ⟨h.1, let h := h.2; hP _ _ _ _ _ _ h⟩⟩
def blk_X8_findCuttings_6 (Q : Mem → Prop) (P : Nat → Int32 → Int32 → Int32 → Int32 → Mem → Prop) (v1 : Int32) (v2 : Int32) (v3 : Int32) (v4 : Int32) (M : Mem) : Prop :=
  P 1 v1 v2 0 0 M
theorem blk_X8_findCuttings_6_mono {Q Q' : Mem → Prop} {P P' : Nat → Int32 → Int32 → Int32 → Int32 → Mem → Prop} (hQ : ∀ M : Mem, Q M → Q' M) (hP : ∀ (lab : Nat) (v1 : Int32) (v2 : Int32) (v3 : Int32) (v4 : Int32) (M : Mem), P lab v1 v2 v3 v4 M → P' lab v1 v2 v3 v4 M) (v1 : Int32) (v2 : Int32) (v3 : Int32) (v4 : Int32) (M : Mem) (h : blk_X8_findCuttings_6 Q P v1 v2 v3 v4 M) : blk_X8_findCuttings_6 Q' P' v1 v2 v3 v4 M := by
  unfold blk_X8_findCuttings_6 at h ⊢
  exact hP _ _ _ _ _ _ h
def blk_X8_findCuttings (Q : Mem → Prop) (P : Nat → Int32 → Int32 → Int32 → Int32 → Mem → Prop) : Nat → Int32 → Int32 → Int32 → Int32 → Mem → Prop := fun lab v1 v2 v3 v4 M => match lab with
  | 0 => blk_X8_findCuttings_0 Q P v1 v2 v3 v4 M
  | 1 => blk_X8_findCuttings_1 Q P v1 v2 v3 v4 M
  | 2 => blk_X8_findCuttings_2 Q P v1 v2 v3 v4 M
  | 3 => blk_X8_findCuttings_3 Q P v1 v2 v3 v4 M
  | 4 => blk_X8_findCuttings_4 Q P v1 v2 v3 v4 M
  | 5 => blk_X8_findCuttings_5 Q P v1 v2 v3 v4 M
  | 6 => blk_X8_findCuttings_6 Q P v1 v2 v3 v4 M
  | _ => False
theorem blk_X8_findCuttings_mono {Q Q' : Mem → Prop} {P P' : Nat → Int32 → Int32 → Int32 → Int32 → Mem → Prop} (hQ : ∀ M : Mem, Q M → Q' M) (hP : ∀ (lab : Nat) (v1 : Int32) (v2 : Int32) (v3 : Int32) (v4 : Int32) (M : Mem), P lab v1 v2 v3 v4 M → P' lab v1 v2 v3 v4 M) : ∀ (lab : Nat) (v1 : Int32) (v2 : Int32) (v3 : Int32) (v4 : Int32) (M : Mem), blk_X8_findCuttings Q P lab v1 v2 v3 v4 M → blk_X8_findCuttings Q' P' lab v1 v2 v3 v4 M := fun lab v1 v2 v3 v4 M h => match lab, h with
  | 0, h => blk_X8_findCuttings_0_mono hQ hP v1 v2 v3 v4 M h
  | 1, h => blk_X8_findCuttings_1_mono hQ hP v1 v2 v3 v4 M h
  | 2, h => blk_X8_findCuttings_2_mono hQ hP v1 v2 v3 v4 M h
  | 3, h => blk_X8_findCuttings_3_mono hQ hP v1 v2 v3 v4 M h
  | 4, h => blk_X8_findCuttings_4_mono hQ hP v1 v2 v3 v4 M h
  | 5, h => blk_X8_findCuttings_5_mono hQ hP v1 v2 v3 v4 M h
  | 6, h => blk_X8_findCuttings_6_mono hQ hP v1 v2 v3 v4 M h
  | _ + 7, h => False.elim h
def at_X8_findCuttings (Q : Mem → Prop) : Nat → Int32 → Int32 → Int32 → Int32 → Mem → Prop := fun lab v1 v2 v3 v4 M => ∀ P : Nat → Int32 → Int32 → Int32 → Int32 → Mem → Prop, (∀ (lab : Nat) (v1 : Int32) (v2 : Int32) (v3 : Int32) (v4 : Int32) (M : Mem), blk_X8_findCuttings Q P lab v1 v2 v3 v4 M → P lab v1 v2 v3 v4 M) → P lab v1 v2 v3 v4 M
theorem at_X8_findCuttings_fold {Q : Mem → Prop} {lab : Nat} {v1 : Int32} {v2 : Int32} {v3 : Int32} {v4 : Int32} {M : Mem} (h : blk_X8_findCuttings Q (at_X8_findCuttings Q) lab v1 v2 v3 v4 M) : at_X8_findCuttings Q lab v1 v2 v3 v4 M := fun P hP => hP _ _ _ _ _ _ (blk_X8_findCuttings_mono (fun _ h => h) (fun _ _ _ _ _ _ h => h P hP) _ _ _ _ _ _ h)
theorem at_X8_findCuttings_mono {Q Q' : Mem → Prop} (hQ : ∀ M : Mem, Q M → Q' M) {lab : Nat} {v1 : Int32} {v2 : Int32} {v3 : Int32} {v4 : Int32} {M : Mem} (h : at_X8_findCuttings Q lab v1 v2 v3 v4 M) : at_X8_findCuttings Q' lab v1 v2 v3 v4 M := fun P hP => h P (fun lab v1 v2 v3 v4 M hb => hP _ _ _ _ _ _ (blk_X8_findCuttings_mono hQ (fun _ _ _ _ _ _ h => h) _ _ _ _ _ _ hb))
def wp_X8_findCuttings (M : Mem) (Q : Mem → Prop) : Prop := at_X8_findCuttings Q 0 0 0 0 0 M
theorem wp_X8_findCuttings_mono {M : Mem} {Q Q' : Mem → Prop} (hQ : ∀ M : Mem, Q M → Q' M) (h : wp_X8_findCuttings M Q) : wp_X8_findCuttings M Q' := at_X8_findCuttings_mono hQ h
def pcl_X8_findCuttings : Nat → Nat := fun lab => match lab with
  | 0 => 0
  | 1 => 21
  | 2 => 114
  | 3 => 93
  | 4 => 129
  | 5 => 169
  | 6 => 184
  | _ => 0
def lvl_X8_findCuttings (ad : Nat → Nat) : Nat → Int32 → Int32 → Int32 → Int32 → List (Nat × Value) := fun lab v1 v2 v3 v4 => match lab with
  | 0 => [(0, .ref (ad 0))]
  | 1 => [(0, .ref (ad 0)), (1, .int v1), (2, .int v2)]
  | 2 => [(0, .ref (ad 0)), (1, .int v1), (2, .int v2), (4, .int v4)]
  | 3 => [(0, .ref (ad 0)), (1, .int v1), (2, .int v2), (4, .int v4)]
  | 4 => [(0, .ref (ad 0)), (1, .int v1), (2, .int v2), (4, .int v4)]
  | 5 => [(0, .ref (ad 0)), (1, .int v1), (2, .int v2), (4, .int v4)]
  | 6 => [(0, .ref (ad 0)), (1, .int v1), (2, .int v2)]
  | _ => []
abbrev rm_X8_findCuttings : Jvm.Room := { frames := 2, cells := 0, slots := 0, locals := 36 }
set_option maxHeartbeats 4000000 in
set_option maxRecDepth 100000 in
theorem ct_X8_findCuttings (l : Launch) (D : va_G) (cy : Nat → ClassId) (ad : Nat → Nat) (B : Nat → Prop) (M : Mem) (Q : Mem → Prop) (h : wp_X8_findCuttings M Q) : CTv l D cy (wR ad cy) B yX8_findCuttings wsX8_findCuttings rm_X8_findCuttings [.ref (ad 0)] M Q := by
  intro sz
  refine Met.ofW (cc := cX8_findCuttings) (maxL := 5) (ret := none) (by decide) rfl ?_
  intro p e s m args below meth c s₁ Bd hml hv
  obtain ⟨hargs, hsz, hP, hK, hD⟩ := hv
  subst hsz
  have hx := Bd.exec
  have hb := Bd.bytes
  have hr := Bd.returns
  have hts := atoms_spec (ws := wsX8_findCuttings) Bd.pre
  have hown : s.vm.findClass RX8 = some m.cls := findClass_of_methodNamed Bd.named
  have hlocks := Bd.notSynchronized
  have hC8 : xC wsX8_findCuttings 8 RX8 TX8 34 := ⟨by decide +kernel, rfl⟩
  have key : ∀ (P : Nat → Int32 → Int32 → Int32 → Int32 → Mem → Prop), (∀ (lab : Nat) (v1 : Int32) (v2 : Int32) (v3 : Int32) (v4 : Int32) (M : Mem), P lab v1 v2 v3 v4 M → ∀ (H : Heap) (locs : List Loc) (ls : Array Slot), xS D (wR ad cy) B s.heap H locs M → lv_has ls 5 (lvl_X8_findCuttings ad lab v1 v2 v3 v4 ) → W p l e (headSpec wsX8_findCuttings rm_X8_findCuttings).room s m args below meth c H locs 0 0 (MQ below (va_Qv (S := Mem) Q (xB D (wR ad cy) B) (xA B s.heap.size)) args s 0 0 (xA B s.heap.size)) (F0 m (pcl_X8_findCuttings lab) ls [])) → ∀ (lab : Nat) (v1 : Int32) (v2 : Int32) (v3 : Int32) (v4 : Int32) (M : Mem), blk_X8_findCuttings Q P lab v1 v2 v3 v4 M → ∀ (H : Heap) (locs : List Loc) (ls : Array Slot), xS D (wR ad cy) B s.heap H locs M → lv_has ls 5 (lvl_X8_findCuttings ad lab v1 v2 v3 v4 ) → W p l e (headSpec wsX8_findCuttings rm_X8_findCuttings).room s m args below meth c H locs 0 0 (MQ below (va_Qv (S := Mem) Q (xB D (wR ad cy) B) (xA B s.heap.size)) args s 0 0 (xA B s.heap.size)) (F0 m (pcl_X8_findCuttings lab) ls []) := by
    intro P hJ lab v1 v2 v3 v4 M h H locs ls S hl
    match lab, h, hl with
    | 0, h, hl =>
      have hl : lv_has ls 5 [(0, .ref (ad 0))] := hl
      have h : blk_X8_findCuttings_0 Q P v1 v2 v3 v4 M := h
      unfold blk_X8_findCuttings_0 at h
      refine W.eq (g2 := F0 m 0 ls []) rfl ?_
      refine lv_aload_n hx hb dX8_findCuttings_0 rfl (lv_at hl 0 rfl) ?_
      refine lv_iconst (v := 0) hx hb dX8_findCuttings_1 (by decide) ?_
      refine x_putI hx hb hts (hC8) tyX8 tyX8_ok nmX8 hown hK S 20 (by decide) rf_0_20 (index := 120) (hts _ (List.mem_of_getElem? (i := 1) rfl)) rfl rfl rfl dX8_findCuttings_2 (fun H locs S => ?_)
      refine lv_aload_n hx hb dX8_findCuttings_5 rfl (lv_at hl 0 rfl) ?_
      refine x_getI hx hb hts (hC8) hown hK S 12 (by decide) rf_0_12 (index := 106) (hts _ (List.mem_of_getElem? (i := 2) rfl)) dX8_findCuttings_6 ?_
      refine lv_iconst (v := 1) hx hb dX8_findCuttings_9 (by decide) ?_
      refine lv_isub hx hb dX8_findCuttings_10 ?_
      refine lv_istore_n (lv' := [(1, .int (((upI M 0 20 0).1 0 12) - 1)), (0, .ref (ad 0))]) hx hb dX8_findCuttings_11 rfl hl (by decide) rfl (fun ls hl => ?_)
      refine lv_iconst (v := 0) hx hb dX8_findCuttings_12 (by decide) ?_
      refine lv_istore_n (lv' := [(2, .int 0), (1, .int (((upI M 0 20 0).1 0 12) - 1)), (0, .ref (ad 0))]) hx hb dX8_findCuttings_13 rfl hl (by decide) rfl (fun ls hl => ?_)
      refine lv_aload_n hx hb dX8_findCuttings_14 rfl (lv_at hl 2 rfl) ?_
      refine x_getR hx hb hts (hC8) hown hK S 33 (by decide) rf_0_33 (index := 71) (hts _ (List.mem_of_getElem? (i := 3) rfl)) dX8_findCuttings_15 ?_
      refine lv_iload_n hx hb dX8_findCuttings_18 rfl (lv_at hl 1 rfl) ?_
      refine lv_iconst (v := 0) hx hb dX8_findCuttings_19 (by decide) ?_
      refine x_iast hx hb hK S ra_21 h.1 dX8_findCuttings_20 (fun H locs S => ?_)
      replace h := h.2
      exact hJ _ _ _ _ _ _ h _ _ _ S (lv_sub hl [2, 1, 0] rfl)
    | 1, h, hl =>
      have hl : lv_has ls 5 [(0, .ref (ad 0)), (1, .int v1), (2, .int v2)] := hl
      have h : blk_X8_findCuttings_1 Q P v1 v2 v3 v4 M := h
      unfold blk_X8_findCuttings_1 at h
      refine W.eq (g2 := F0 m 21 ls []) rfl ?_
      refine lv_iload_n hx hb dX8_findCuttings_21 rfl (lv_at hl 1 rfl) ?_
      refine lv_aload_n hx hb dX8_findCuttings_22 rfl (lv_at hl 0 rfl) ?_
      refine x_getI hx hb hts (hC8) hown hK S 12 (by decide) rf_0_12 (index := 106) (hts _ (List.mem_of_getElem? (i := 2) rfl)) dX8_findCuttings_23 ?_
      refine lv_icmp_ge (tgt := 187) hx hb dX8_findCuttings_26 (by decide) (fun c26 => ?_) (fun c26 => ?_)
      · replace h := h.1 c26
        exact x_vret hx hb hr hlocks S h dX8_findCuttings_187
      · replace h := h.2 c26
        refine lv_aload_n hx hb dX8_findCuttings_29 rfl (lv_at hl 0 rfl) ?_
        refine x_getR hx hb hts (hC8) hown hK S 33 (by decide) rf_0_33 (index := 71) (hts _ (List.mem_of_getElem? (i := 3) rfl)) dX8_findCuttings_30 ?_
        refine lv_iload_n hx hb dX8_findCuttings_33 rfl (lv_at hl 1 rfl) ?_
        refine x_iald hx hb hK S ra_21 h.1 dX8_findCuttings_34 ?_
        replace h := h.2
        refine lv_istore_n (lv' := [(3, .int (M.1 21 v1.toNatClampNeg)), (0, .ref (ad 0)), (1, .int v1), (2, .int v2)]) hx hb dX8_findCuttings_35 rfl hl (by decide) rfl (fun ls hl => ?_)
        refine lv_iload_n hx hb dX8_findCuttings_36 rfl (lv_at hl 3 rfl) ?_
        refine lv_iconst (v := 1) hx hb dX8_findCuttings_37 (by decide) ?_
        refine lv_iload_n hx hb dX8_findCuttings_38 rfl (lv_at hl 2 rfl) ?_
        refine lv_ishl hx hb dX8_findCuttings_39 ?_
        refine lv_iconst (v := (-1)) hx hb dX8_findCuttings_40 (by decide) ?_
        refine lv_ixor hx hb dX8_findCuttings_41 ?_
        refine lv_iand hx hb dX8_findCuttings_42 ?_
        refine lv_topi (fun x2_1 ex2_1 => ?_)
        replace h := h x2_1 ex2_1
        refine lv_istore_n (lv' := [(2, .int x2_1), (3, .int (M.1 21 v1.toNatClampNeg)), (0, .ref (ad 0)), (1, .int v1)]) hx hb dX8_findCuttings_43 rfl hl (by decide) rfl (fun ls hl => ?_)
        refine lv_iload_n hx hb dX8_findCuttings_44 rfl (lv_at hl 1 rfl) ?_
        refine lv_iconst (v := 1) hx hb dX8_findCuttings_45 (by decide) ?_
        refine lv_icmp_le (tgt := 55) hx hb dX8_findCuttings_46 (by decide) (fun c46 => ?_) (fun c46 => ?_)
        · replace h := h.1 c46
          refine lv_aload_n hx hb dX8_findCuttings_55 rfl (lv_at hl 2 rfl) ?_
          refine x_getR hx hb hts (hC8) hown hK S 33 (by decide) rf_0_33 (index := 71) (hts _ (List.mem_of_getElem? (i := 3) rfl)) dX8_findCuttings_56 ?_
          refine lv_iload_n hx hb dX8_findCuttings_59 rfl (lv_at hl 3 rfl) ?_
          refine lv_dup2_11 hx hb dX8_findCuttings_60 rfl rfl ?_
          refine x_iald hx hb hK S ra_21 h.1 dX8_findCuttings_61 ?_
          replace h := h.2
          refine lv_iconst (v := 1) hx hb dX8_findCuttings_62 (by decide) ?_
          refine lv_iadd hx hb dX8_findCuttings_63 ?_
          refine x_iast hx hb hK S ra_21 h.1 dX8_findCuttings_64 (fun H locs S => ?_)
          replace h := h.2
          refine lv_iload_n hx hb dX8_findCuttings_65 rfl (lv_at hl 1 rfl) ?_
          refine lv_if_ne (tgt := 96) hx hb dX8_findCuttings_66 (by decide) (fun c66 => ?_) (fun c66 => ?_)
          · replace h := h.1 c66
            refine lv_aload_n hx hb dX8_findCuttings_96 rfl (lv_at hl 2 rfl) ?_
            refine x_getR hx hb hts (hC8) hown hK S 16 (by decide) rf_0_16 (index := 41) (hts _ (List.mem_of_getElem? (i := 4) rfl)) dX8_findCuttings_97 ?_
            refine lv_iload_n hx hb dX8_findCuttings_100 rfl (lv_at hl 3 rfl) ?_
            refine x_iald hx hb hK S ra_11 h.1 dX8_findCuttings_101 ?_
            replace h := h.2
            refine lv_iload_n hx hb dX8_findCuttings_102 rfl (lv_at hl 0 rfl) ?_
            refine lv_iand hx hb dX8_findCuttings_103 ?_
            refine lv_if_ne (tgt := 111) hx hb dX8_findCuttings_104 (by decide) (fun c104 => ?_) (fun c104 => ?_)
            · replace h := h.1 c104
              refine lv_iconst (v := 0) hx hb dX8_findCuttings_111 (by decide) ?_
              refine lv_istore (lv' := [(4, .int 0), (2, .int x2_1), (3, .int (M.1 21 v1.toNatClampNeg)), (0, .ref (ad 0)), (1, .int v1)]) hx hb dX8_findCuttings_112 hl (by decide) rfl (fun ls hl => ?_)
              exact hJ _ _ _ _ _ _ h _ _ _ S (lv_sub hl [3, 4, 1, 0] rfl)
            · replace h := h.2 c104
              refine lv_iconst (v := 1) hx hb dX8_findCuttings_107 (by decide) ?_
              refine lv_goto (tgt := 112) hx hb dX8_findCuttings_108 (by decide) ?_
              refine lv_istore (lv' := [(4, .int 1), (2, .int x2_1), (3, .int (M.1 21 v1.toNatClampNeg)), (0, .ref (ad 0)), (1, .int v1)]) hx hb dX8_findCuttings_112 hl (by decide) rfl (fun ls hl => ?_)
              exact hJ _ _ _ _ _ _ h _ _ _ S (lv_sub hl [3, 4, 1, 0] rfl)
          · replace h := h.2 c66
            refine lv_aload_n hx hb dX8_findCuttings_69 rfl (lv_at hl 2 rfl) ?_
            refine x_getR hx hb hts (hC8) hown hK S 16 (by decide) rf_0_16 (index := 41) (hts _ (List.mem_of_getElem? (i := 4) rfl)) dX8_findCuttings_70 ?_
            refine lv_iload_n hx hb dX8_findCuttings_73 rfl (lv_at hl 3 rfl) ?_
            refine x_iald hx hb hK S ra_11 h.1 dX8_findCuttings_74 ?_
            replace h := h.2
            refine lv_iload_n hx hb dX8_findCuttings_75 rfl (lv_at hl 0 rfl) ?_
            refine lv_iconst (v := 1) hx hb dX8_findCuttings_76 (by decide) ?_
            refine lv_iload_n hx hb dX8_findCuttings_77 rfl (lv_at hl 3 rfl) ?_
            refine lv_ishl hx hb dX8_findCuttings_78 ?_
            refine lv_iconst (v := 1) hx hb dX8_findCuttings_79 (by decide) ?_
            refine lv_isub hx hb dX8_findCuttings_80 ?_
            refine lv_ior hx hb dX8_findCuttings_81 ?_
            refine lv_iand hx hb dX8_findCuttings_82 ?_
            refine lv_if_eq (tgt := 90) hx hb dX8_findCuttings_83 (by decide) (fun c83 => ?_) (fun c83 => ?_)
            · replace h := h.1 c83
              refine lv_iconst (v := 0) hx hb dX8_findCuttings_90 (by decide) ?_
              refine lv_istore (lv' := [(4, .int 0), (2, .int x2_1), (3, .int (M.1 21 v1.toNatClampNeg)), (0, .ref (ad 0)), (1, .int v1)]) hx hb dX8_findCuttings_91 hl (by decide) rfl (fun ls hl => ?_)
              exact hJ _ _ _ _ _ _ h _ _ _ S (lv_sub hl [3, 4, 1, 0] rfl)
            · replace h := h.2 c83
              refine lv_iconst (v := 1) hx hb dX8_findCuttings_86 (by decide) ?_
              refine lv_goto (tgt := 91) hx hb dX8_findCuttings_87 (by decide) ?_
              refine lv_istore (lv' := [(4, .int 1), (2, .int x2_1), (3, .int (M.1 21 v1.toNatClampNeg)), (0, .ref (ad 0)), (1, .int v1)]) hx hb dX8_findCuttings_91 hl (by decide) rfl (fun ls hl => ?_)
              exact hJ _ _ _ _ _ _ h _ _ _ S (lv_sub hl [3, 4, 1, 0] rfl)
        · replace h := h.2 c46
          refine lv_iinc (v := (v1 + 1)) (lv' := [(1, .int (v1 + 1)), (2, .int x2_1), (3, .int (M.1 21 v1.toNatClampNeg)), (0, .ref (ad 0))]) hx hb dX8_findCuttings_49 hl (k := 3) rfl rfl (by decide) rfl (fun ls hl => ?_)
          refine lv_goto (tgt := 21) hx hb dX8_findCuttings_52 (by decide) ?_
          exact hJ _ _ _ _ _ _ h _ _ _ S (lv_sub hl [3, 0, 1] rfl)
    | 2, h, hl =>
      have hl : lv_has ls 5 [(0, .ref (ad 0)), (1, .int v1), (2, .int v2), (4, .int v4)] := hl
      have h : blk_X8_findCuttings_2 Q P v1 v2 v3 v4 M := h
      unfold blk_X8_findCuttings_2 at h
      refine W.eq (g2 := F0 m 114 ls []) rfl ?_
      refine lv_iload_n hx hb dX8_findCuttings_114 rfl (lv_at hl 2 rfl) ?_
      refine lv_iload hx hb dX8_findCuttings_115 (lv_at hl 3 rfl) ?_
      refine lv_if_eq (tgt := 126) hx hb dX8_findCuttings_117 (by decide) (fun c117 => ?_) (fun c117 => ?_)
      · replace h := h.1 c117
        refine lv_iconst (v := 0) hx hb dX8_findCuttings_126 (by decide) ?_
        refine lv_ior hx hb dX8_findCuttings_127 ?_
        refine lv_istore_n (lv' := [(2, .int (v2 ||| (0 : Int32))), (0, .ref (ad 0)), (1, .int v1), (4, .int v4)]) hx hb dX8_findCuttings_128 rfl hl (by decide) rfl (fun ls hl => ?_)
        exact hJ _ _ _ _ _ _ h _ _ _ S (lv_sub hl [1, 2, 0, 3] rfl)
      · replace h := h.2 c117
        refine lv_iconst (v := 1) hx hb dX8_findCuttings_120 (by decide) ?_
        refine lv_iload_n hx hb dX8_findCuttings_121 rfl (lv_at hl 1 rfl) ?_
        refine lv_ishl hx hb dX8_findCuttings_122 ?_
        refine lv_goto (tgt := 127) hx hb dX8_findCuttings_123 (by decide) ?_
        refine lv_ior hx hb dX8_findCuttings_127 ?_
        refine lv_istore_n (lv' := [(2, .int (v2 ||| ((1 : Int32) <<< (v1 &&& 31)))), (0, .ref (ad 0)), (1, .int v1), (4, .int v4)]) hx hb dX8_findCuttings_128 rfl hl (by decide) rfl (fun ls hl => ?_)
        exact hJ _ _ _ _ _ _ h _ _ _ S (lv_sub hl [1, 2, 0, 3] rfl)
    | 3, h, hl =>
      have hl : lv_has ls 5 [(0, .ref (ad 0)), (1, .int v1), (2, .int v2), (4, .int v4)] := hl
      have h : blk_X8_findCuttings_3 Q P v1 v2 v3 v4 M := h
      unfold blk_X8_findCuttings_3 at h
      refine W.eq (g2 := F0 m 93 ls []) rfl ?_
      refine lv_goto (tgt := 129) hx hb dX8_findCuttings_93 (by decide) ?_
      exact hJ _ _ _ _ _ _ h _ _ _ S (lv_sub hl [0, 1, 2, 3] rfl)
    | 4, h, hl =>
      have hl : lv_has ls 5 [(0, .ref (ad 0)), (1, .int v1), (2, .int v2), (4, .int v4)] := hl
      have h : blk_X8_findCuttings_4 Q P v1 v2 v3 v4 M := h
      unfold blk_X8_findCuttings_4 at h
      refine W.eq (g2 := F0 m 129 ls []) rfl ?_
      refine lv_iload hx hb dX8_findCuttings_129 (lv_at hl 3 rfl) ?_
      refine lv_if_eq (tgt := 169) hx hb dX8_findCuttings_131 (by decide) (fun c131 => ?_) (fun c131 => ?_)
      · replace h := h.1 c131
        exact hJ _ _ _ _ _ _ h _ _ _ S (lv_sub hl [0, 1, 2, 3] rfl)
      · replace h := h.2 c131
        refine lv_iload_n hx hb dX8_findCuttings_134 rfl (lv_at hl 1 rfl) ?_
        refine lv_if_ne (tgt := 169) hx hb dX8_findCuttings_135 (by decide) (fun c135 => ?_) (fun c135 => ?_)
        · replace h := h.1 c135
          exact hJ _ _ _ _ _ _ h _ _ _ S (lv_sub hl [0, 1, 2, 3] rfl)
        · replace h := h.2 c135
          refine lv_aload_n hx hb dX8_findCuttings_138 rfl (lv_at hl 0 rfl) ?_
          refine lv_iload_n hx hb dX8_findCuttings_139 rfl (lv_at hl 2 rfl) ?_
          refine x_callVi (As := [.int v2]) ⟨hx, hb, hml, hown, hts⟩ hK S (ct_X8_isGreatest l D cy ad B _ _ _ h) ro_0 rfl (cwV 1 hts gX8_findCuttings_X8_isGreatest rfl rfl rfl (by decide +kernel) ⟨Nat.le_of_ble_eq_true rfl, Nat.le_of_ble_eq_true rfl⟩) rfl hl.1 rfl (Nat.le_of_ble_eq_true rfl) dX8_findCuttings_140 ⟨Nat.zero_le _, Nat.zero_le _⟩ (fun r2 M2 H locs h S => ?_)
          refine lv_if_eq (tgt := 184) hx hb dX8_findCuttings_143 (by decide) (fun c143 => ?_) (fun c143 => ?_)
          · replace h := h.1 c143
            exact hJ _ _ _ _ _ _ h _ _ _ S (lv_sub hl [0, 1, 2] rfl)
          · replace h := h.2 c143
            refine lv_aload_n hx hb dX8_findCuttings_146 rfl (lv_at hl 0 rfl) ?_
            refine x_getR hx hb hts (hC8) hown hK S 21 (by decide) rf_0_21 (index := 47) (hts _ (List.mem_of_getElem? (i := 5) rfl)) dX8_findCuttings_147 ?_
            refine lv_aload_n hx hb dX8_findCuttings_150 rfl (lv_at hl 0 rfl) ?_
            refine x_getI hx hb hts (hC8) hown hK S 20 (by decide) rf_0_20 (index := 120) (hts _ (List.mem_of_getElem? (i := 1) rfl)) dX8_findCuttings_151 ?_
            refine lv_iload_n hx hb dX8_findCuttings_154 rfl (lv_at hl 2 rfl) ?_
            refine x_iast hx hb hK S ra_13 h.1 dX8_findCuttings_155 (fun H locs S => ?_)
            replace h := h.2
            refine lv_aload_n hx hb dX8_findCuttings_156 rfl (lv_at hl 0 rfl) ?_
            refine lv_dup hx hb dX8_findCuttings_157 rfl ?_
            refine x_getI hx hb hts (hC8) hown hK S 20 (by decide) rf_0_20 (index := 120) (hts _ (List.mem_of_getElem? (i := 1) rfl)) dX8_findCuttings_158 ?_
            refine lv_iconst (v := 1) hx hb dX8_findCuttings_161 (by decide) ?_
            refine lv_iadd hx hb dX8_findCuttings_162 ?_
            refine x_putI hx hb hts (hC8) tyX8 tyX8_ok nmX8 hown hK S 20 (by decide) rf_0_20 (index := 120) (hts _ (List.mem_of_getElem? (i := 1) rfl)) rfl rfl rfl dX8_findCuttings_163 (fun H locs S => ?_)
            refine lv_goto (tgt := 184) hx hb dX8_findCuttings_166 (by decide) ?_
            exact hJ _ _ _ _ _ _ h _ _ _ S (lv_sub hl [0, 1, 2] rfl)
    | 5, h, hl =>
      have hl : lv_has ls 5 [(0, .ref (ad 0)), (1, .int v1), (2, .int v2), (4, .int v4)] := hl
      have h : blk_X8_findCuttings_5 Q P v1 v2 v3 v4 M := h
      unfold blk_X8_findCuttings_5 at h
      refine W.eq (g2 := F0 m 169 ls []) rfl ?_
      refine lv_iload hx hb dX8_findCuttings_169 (lv_at hl 3 rfl) ?_
      refine lv_if_eq (tgt := 184) hx hb dX8_findCuttings_171 (by decide) (fun c171 => ?_) (fun c171 => ?_)
      · replace h := h.1 c171
        exact hJ _ _ _ _ _ _ h _ _ _ S (lv_sub hl [0, 1, 2] rfl)
      · replace h := h.2 c171
        refine lv_iinc (v := (v1 + (-1))) (lv' := [(1, .int (v1 + (-1))), (0, .ref (ad 0)), (2, .int v2), (4, .int v4)]) hx hb dX8_findCuttings_174 hl (k := 1) rfl rfl (by decide) rfl (fun ls hl => ?_)
        refine lv_aload_n hx hb dX8_findCuttings_177 rfl (lv_at hl 1 rfl) ?_
        refine x_getR hx hb hts (hC8) hown hK S 33 (by decide) rf_0_33 (index := 71) (hts _ (List.mem_of_getElem? (i := 3) rfl)) dX8_findCuttings_178 ?_
        refine lv_iload_n hx hb dX8_findCuttings_181 rfl (lv_at hl 0 rfl) ?_
        refine lv_iconst (v := 0) hx hb dX8_findCuttings_182 (by decide) ?_
        refine x_iast hx hb hK S ra_21 h.1 dX8_findCuttings_183 (fun H locs S => ?_)
        replace h := h.2
        exact hJ _ _ _ _ _ _ h _ _ _ S (lv_sub hl [1, 0, 2] rfl)
    | 6, h, hl =>
      have hl : lv_has ls 5 [(0, .ref (ad 0)), (1, .int v1), (2, .int v2)] := hl
      have h : blk_X8_findCuttings_6 Q P v1 v2 v3 v4 M := h
      unfold blk_X8_findCuttings_6 at h
      refine W.eq (g2 := F0 m 184 ls []) rfl ?_
      refine lv_goto (tgt := 21) hx hb dX8_findCuttings_184 (by decide) ?_
      exact hJ _ _ _ _ _ _ h _ _ _ S (lv_sub hl [0, 1, 2] rfl)
    | _ + 7, h, hl => exact h.elim
  have hl := lv_entry ([.ref (ad 0)]) (n := 5) (Nat.le_of_ble_eq_true rfl)
  subst hargs
  rw [lg_entry_eq]
  generalize (lg_sl ([.ref (ad 0)]) ++ List.replicate (5 - (lg_sl ([.ref (ad 0)])).length) Slot.unset).toArray = ls at hl ⊢
  exact h _ (key _ (fun _ _ _ _ _ _ h => h)) s.heap [] ls ⟨hP, hD, va_S.rf⟩ hl
/-! X8_findAsked -/
def blk_X8_findAsked_0 (Q : Mem → Prop) (P : Nat → Int32 → Mem → Prop) (v1 : Int32) (M : Mem) : Prop :=
  P 1 0 (upI M 0 22 0)
theorem blk_X8_findAsked_0_mono {Q Q' : Mem → Prop} {P P' : Nat → Int32 → Mem → Prop} (hQ : ∀ M : Mem, Q M → Q' M) (hP : ∀ (lab : Nat) (v1 : Int32) (M : Mem), P lab v1 M → P' lab v1 M) (v1 : Int32) (M : Mem) (h : blk_X8_findAsked_0 Q P v1 M) : blk_X8_findAsked_0 Q' P' v1 M := by
  unfold blk_X8_findAsked_0 at h ⊢
  exact hP _ _ _ h
def blk_X8_findAsked_1 (Q : Mem → Prop) (P : Nat → Int32 → Mem → Prop) (v1 : Int32) (M : Mem) : Prop :=
  (((M.1 0 20) ≤ v1 → Q M) ∧ (¬ (M.1 0 20) ≤ v1 → (vp_in v1 2000 ∧ ((¬ ((M.1 13 v1.toNatClampNeg) &&& (M.1 0 18)) = (M.1 0 18) → P 2 v1 M) ∧ (((M.1 13 v1.toNatClampNeg) &&& (M.1 0 18)) = (M.1 0 18) → (vp_in v1 2000 ∧ ((¬ ((M.1 13 v1.toNatClampNeg) &&& (M.1 0 19)) = 0 → P 2 v1 M) ∧ (((M.1 13 v1.toNatClampNeg) &&& (M.1 0 19)) = 0 → (vp_in v1 2000 ∧ (vp_in (M.1 0 22) 2000 ∧ P 2 v1 (upI (upI M 14 (M.1 0 22).toNatClampNeg (M.1 13 v1.toNatClampNeg)) 0 22 (((upI M 14 (M.1 0 22).toNatClampNeg (M.1 13 v1.toNatClampNeg)).1 0 22) + 1))))))))))))
theorem blk_X8_findAsked_1_mono {Q Q' : Mem → Prop} {P P' : Nat → Int32 → Mem → Prop} (hQ : ∀ M : Mem, Q M → Q' M) (hP : ∀ (lab : Nat) (v1 : Int32) (M : Mem), P lab v1 M → P' lab v1 M) (v1 : Int32) (M : Mem) (h : blk_X8_findAsked_1 Q P v1 M) : blk_X8_findAsked_1 Q' P' v1 M := by
  unfold blk_X8_findAsked_1 at h ⊢
  exact ⟨fun c => let h := h.1 c; hQ _ h, fun c => let h := h.2 c; ⟨h.1, let h := h.2; ⟨fun c => let h := h.1 c; hP _ _ _ h, fun c => let h := h.2 c; ⟨h.1, let h := h.2; ⟨fun c => let h := h.1 c; hP _ _ _ h, fun c => let h := h.2 c; ⟨h.1, let h := h.2; ⟨h.1, let h := h.2; hP _ _ _ h⟩⟩⟩⟩⟩⟩⟩
def blk_X8_findAsked_2 (Q : Mem → Prop) (P : Nat → Int32 → Mem → Prop) (v1 : Int32) (M : Mem) : Prop :=
  P 1 (v1 + 1) M
theorem blk_X8_findAsked_2_mono {Q Q' : Mem → Prop} {P P' : Nat → Int32 → Mem → Prop} (hQ : ∀ M : Mem, Q M → Q' M) (hP : ∀ (lab : Nat) (v1 : Int32) (M : Mem), P lab v1 M → P' lab v1 M) (v1 : Int32) (M : Mem) (h : blk_X8_findAsked_2 Q P v1 M) : blk_X8_findAsked_2 Q' P' v1 M := by
  unfold blk_X8_findAsked_2 at h ⊢
  exact hP _ _ _ h
def blk_X8_findAsked (Q : Mem → Prop) (P : Nat → Int32 → Mem → Prop) : Nat → Int32 → Mem → Prop := fun lab v1 M => match lab with
  | 0 => blk_X8_findAsked_0 Q P v1 M
  | 1 => blk_X8_findAsked_1 Q P v1 M
  | 2 => blk_X8_findAsked_2 Q P v1 M
  | _ => False
theorem blk_X8_findAsked_mono {Q Q' : Mem → Prop} {P P' : Nat → Int32 → Mem → Prop} (hQ : ∀ M : Mem, Q M → Q' M) (hP : ∀ (lab : Nat) (v1 : Int32) (M : Mem), P lab v1 M → P' lab v1 M) : ∀ (lab : Nat) (v1 : Int32) (M : Mem), blk_X8_findAsked Q P lab v1 M → blk_X8_findAsked Q' P' lab v1 M := fun lab v1 M h => match lab, h with
  | 0, h => blk_X8_findAsked_0_mono hQ hP v1 M h
  | 1, h => blk_X8_findAsked_1_mono hQ hP v1 M h
  | 2, h => blk_X8_findAsked_2_mono hQ hP v1 M h
  | _ + 3, h => False.elim h
def at_X8_findAsked (Q : Mem → Prop) : Nat → Int32 → Mem → Prop := fun lab v1 M => ∀ P : Nat → Int32 → Mem → Prop, (∀ (lab : Nat) (v1 : Int32) (M : Mem), blk_X8_findAsked Q P lab v1 M → P lab v1 M) → P lab v1 M
theorem at_X8_findAsked_fold {Q : Mem → Prop} {lab : Nat} {v1 : Int32} {M : Mem} (h : blk_X8_findAsked Q (at_X8_findAsked Q) lab v1 M) : at_X8_findAsked Q lab v1 M := fun P hP => hP _ _ _ (blk_X8_findAsked_mono (fun _ h => h) (fun _ _ _ h => h P hP) _ _ _ h)
theorem at_X8_findAsked_mono {Q Q' : Mem → Prop} (hQ : ∀ M : Mem, Q M → Q' M) {lab : Nat} {v1 : Int32} {M : Mem} (h : at_X8_findAsked Q lab v1 M) : at_X8_findAsked Q' lab v1 M := fun P hP => h P (fun lab v1 M hb => hP _ _ _ (blk_X8_findAsked_mono hQ (fun _ _ _ h => h) _ _ _ hb))
def wp_X8_findAsked (M : Mem) (Q : Mem → Prop) : Prop := at_X8_findAsked Q 0 0 M
theorem wp_X8_findAsked_mono {M : Mem} {Q Q' : Mem → Prop} (hQ : ∀ M : Mem, Q M → Q' M) (h : wp_X8_findAsked M Q) : wp_X8_findAsked M Q' := at_X8_findAsked_mono hQ h
def pcl_X8_findAsked : Nat → Nat := fun lab => match lab with
  | 0 => 0
  | 1 => 7
  | 2 => 72
  | _ => 0
def lvl_X8_findAsked (ad : Nat → Nat) : Nat → Int32 → List (Nat × Value) := fun lab v1 => match lab with
  | 0 => [(0, .ref (ad 0))]
  | 1 => [(0, .ref (ad 0)), (1, .int v1)]
  | 2 => [(0, .ref (ad 0)), (1, .int v1)]
  | _ => []
abbrev rm_X8_findAsked : Jvm.Room := { frames := 1, cells := 0, slots := 0, locals := 13 }
set_option maxHeartbeats 4000000 in
set_option maxRecDepth 100000 in
theorem ct_X8_findAsked (l : Launch) (D : va_G) (cy : Nat → ClassId) (ad : Nat → Nat) (B : Nat → Prop) (M : Mem) (Q : Mem → Prop) (h : wp_X8_findAsked M Q) : CTv l D cy (wR ad cy) B yX8_findAsked wsX8_findAsked rm_X8_findAsked [.ref (ad 0)] M Q := by
  intro sz
  refine Met.ofW (cc := cX8_findAsked) (maxL := 2) (ret := none) (by decide) rfl ?_
  intro p e s m args below meth c s₁ Bd hml hv
  obtain ⟨hargs, hsz, hP, hK, hD⟩ := hv
  subst hsz
  have hx := Bd.exec
  have hb := Bd.bytes
  have hr := Bd.returns
  have hts := atoms_spec (ws := wsX8_findAsked) Bd.pre
  have hown : s.vm.findClass RX8 = some m.cls := findClass_of_methodNamed Bd.named
  have hlocks := Bd.notSynchronized
  have hC8 : xC wsX8_findAsked 8 RX8 TX8 34 := ⟨by decide +kernel, rfl⟩
  have key : ∀ (P : Nat → Int32 → Mem → Prop), (∀ (lab : Nat) (v1 : Int32) (M : Mem), P lab v1 M → ∀ (H : Heap) (locs : List Loc) (ls : Array Slot), xS D (wR ad cy) B s.heap H locs M → lv_has ls 2 (lvl_X8_findAsked ad lab v1 ) → W p l e (headSpec wsX8_findAsked rm_X8_findAsked).room s m args below meth c H locs 0 0 (MQ below (va_Qv (S := Mem) Q (xB D (wR ad cy) B) (xA B s.heap.size)) args s 0 0 (xA B s.heap.size)) (F0 m (pcl_X8_findAsked lab) ls [])) → ∀ (lab : Nat) (v1 : Int32) (M : Mem), blk_X8_findAsked Q P lab v1 M → ∀ (H : Heap) (locs : List Loc) (ls : Array Slot), xS D (wR ad cy) B s.heap H locs M → lv_has ls 2 (lvl_X8_findAsked ad lab v1 ) → W p l e (headSpec wsX8_findAsked rm_X8_findAsked).room s m args below meth c H locs 0 0 (MQ below (va_Qv (S := Mem) Q (xB D (wR ad cy) B) (xA B s.heap.size)) args s 0 0 (xA B s.heap.size)) (F0 m (pcl_X8_findAsked lab) ls []) := by
    intro P hJ lab v1 M h H locs ls S hl
    match lab, h, hl with
    | 0, h, hl =>
      have hl : lv_has ls 2 [(0, .ref (ad 0))] := hl
      have h : blk_X8_findAsked_0 Q P v1 M := h
      unfold blk_X8_findAsked_0 at h
      refine W.eq (g2 := F0 m 0 ls []) rfl ?_
      refine lv_aload_n hx hb dX8_findAsked_0 rfl (lv_at hl 0 rfl) ?_
      refine lv_iconst (v := 0) hx hb dX8_findAsked_1 (by decide) ?_
      refine x_putI hx hb hts (hC8) tyX8 tyX8_ok nmX8 hown hK S 22 (by decide) rf_0_22 (index := 127) (hts _ (List.mem_of_getElem? (i := 1) rfl)) rfl rfl rfl dX8_findAsked_2 (fun H locs S => ?_)
      refine lv_iconst (v := 0) hx hb dX8_findAsked_5 (by decide) ?_
      refine lv_istore_n (lv' := [(1, .int 0), (0, .ref (ad 0))]) hx hb dX8_findAsked_6 rfl hl (by decide) rfl (fun ls hl => ?_)
      exact hJ _ _ _ h _ _ _ S (lv_sub hl [1, 0] rfl)
    | 1, h, hl =>
      have hl : lv_has ls 2 [(0, .ref (ad 0)), (1, .int v1)] := hl
      have h : blk_X8_findAsked_1 Q P v1 M := h
      unfold blk_X8_findAsked_1 at h
      refine W.eq (g2 := F0 m 7 ls []) rfl ?_
      refine lv_iload_n hx hb dX8_findAsked_7 rfl (lv_at hl 1 rfl) ?_
      refine lv_aload_n hx hb dX8_findAsked_8 rfl (lv_at hl 0 rfl) ?_
      refine x_getI hx hb hts (hC8) hown hK S 20 (by decide) rf_0_20 (index := 120) (hts _ (List.mem_of_getElem? (i := 2) rfl)) dX8_findAsked_9 ?_
      refine lv_icmp_ge (tgt := 78) hx hb dX8_findAsked_12 (by decide) (fun c12 => ?_) (fun c12 => ?_)
      · replace h := h.1 c12
        exact x_vret hx hb hr hlocks S h dX8_findAsked_78
      · replace h := h.2 c12
        refine lv_aload_n hx hb dX8_findAsked_15 rfl (lv_at hl 0 rfl) ?_
        refine x_getR hx hb hts (hC8) hown hK S 21 (by decide) rf_0_21 (index := 47) (hts _ (List.mem_of_getElem? (i := 3) rfl)) dX8_findAsked_16 ?_
        refine lv_iload_n hx hb dX8_findAsked_19 rfl (lv_at hl 1 rfl) ?_
        refine x_iald hx hb hK S ra_13 h.1 dX8_findAsked_20 ?_
        replace h := h.2
        refine lv_aload_n hx hb dX8_findAsked_21 rfl (lv_at hl 0 rfl) ?_
        refine x_getI hx hb hts (hC8) hown hK S 18 (by decide) rf_0_18 (index := 130) (hts _ (List.mem_of_getElem? (i := 4) rfl)) dX8_findAsked_22 ?_
        refine lv_iand hx hb dX8_findAsked_25 ?_
        refine lv_aload_n hx hb dX8_findAsked_26 rfl (lv_at hl 0 rfl) ?_
        refine x_getI hx hb hts (hC8) hown hK S 18 (by decide) rf_0_18 (index := 130) (hts _ (List.mem_of_getElem? (i := 4) rfl)) dX8_findAsked_27 ?_
        refine lv_icmp_ne (tgt := 72) hx hb dX8_findAsked_30 (by decide) (fun c30 => ?_) (fun c30 => ?_)
        · replace h := h.1 c30
          exact hJ _ _ _ h _ _ _ S (lv_sub hl [0, 1] rfl)
        · replace h := h.2 c30
          refine lv_aload_n hx hb dX8_findAsked_33 rfl (lv_at hl 0 rfl) ?_
          refine x_getR hx hb hts (hC8) hown hK S 21 (by decide) rf_0_21 (index := 47) (hts _ (List.mem_of_getElem? (i := 3) rfl)) dX8_findAsked_34 ?_
          refine lv_iload_n hx hb dX8_findAsked_37 rfl (lv_at hl 1 rfl) ?_
          refine x_iald hx hb hK S ra_13 h.1 dX8_findAsked_38 ?_
          replace h := h.2
          refine lv_aload_n hx hb dX8_findAsked_39 rfl (lv_at hl 0 rfl) ?_
          refine x_getI hx hb hts (hC8) hown hK S 19 (by decide) rf_0_19 (index := 133) (hts _ (List.mem_of_getElem? (i := 5) rfl)) dX8_findAsked_40 ?_
          refine lv_iand hx hb dX8_findAsked_43 ?_
          refine lv_if_ne (tgt := 72) hx hb dX8_findAsked_44 (by decide) (fun c44 => ?_) (fun c44 => ?_)
          · replace h := h.1 c44
            exact hJ _ _ _ h _ _ _ S (lv_sub hl [0, 1] rfl)
          · replace h := h.2 c44
            refine lv_aload_n hx hb dX8_findAsked_47 rfl (lv_at hl 0 rfl) ?_
            refine x_getR hx hb hts (hC8) hown hK S 23 (by decide) rf_0_23 (index := 50) (hts _ (List.mem_of_getElem? (i := 6) rfl)) dX8_findAsked_48 ?_
            refine lv_aload_n hx hb dX8_findAsked_51 rfl (lv_at hl 0 rfl) ?_
            refine x_getI hx hb hts (hC8) hown hK S 22 (by decide) rf_0_22 (index := 127) (hts _ (List.mem_of_getElem? (i := 1) rfl)) dX8_findAsked_52 ?_
            refine lv_aload_n hx hb dX8_findAsked_55 rfl (lv_at hl 0 rfl) ?_
            refine x_getR hx hb hts (hC8) hown hK S 21 (by decide) rf_0_21 (index := 47) (hts _ (List.mem_of_getElem? (i := 3) rfl)) dX8_findAsked_56 ?_
            refine lv_iload_n hx hb dX8_findAsked_59 rfl (lv_at hl 1 rfl) ?_
            refine x_iald hx hb hK S ra_13 h.1 dX8_findAsked_60 ?_
            replace h := h.2
            refine x_iast hx hb hK S ra_14 h.1 dX8_findAsked_61 (fun H locs S => ?_)
            replace h := h.2
            refine lv_aload_n hx hb dX8_findAsked_62 rfl (lv_at hl 0 rfl) ?_
            refine lv_dup hx hb dX8_findAsked_63 rfl ?_
            refine x_getI hx hb hts (hC8) hown hK S 22 (by decide) rf_0_22 (index := 127) (hts _ (List.mem_of_getElem? (i := 1) rfl)) dX8_findAsked_64 ?_
            refine lv_iconst (v := 1) hx hb dX8_findAsked_67 (by decide) ?_
            refine lv_iadd hx hb dX8_findAsked_68 ?_
            refine x_putI hx hb hts (hC8) tyX8 tyX8_ok nmX8 hown hK S 22 (by decide) rf_0_22 (index := 127) (hts _ (List.mem_of_getElem? (i := 1) rfl)) rfl rfl rfl dX8_findAsked_69 (fun H locs S => ?_)
            exact hJ _ _ _ h _ _ _ S (lv_sub hl [0, 1] rfl)
    | 2, h, hl =>
      have hl : lv_has ls 2 [(0, .ref (ad 0)), (1, .int v1)] := hl
      have h : blk_X8_findAsked_2 Q P v1 M := h
      unfold blk_X8_findAsked_2 at h
      refine W.eq (g2 := F0 m 72 ls []) rfl ?_
      refine lv_iinc (v := (v1 + 1)) (lv' := [(1, .int (v1 + 1)), (0, .ref (ad 0))]) hx hb dX8_findAsked_72 hl (k := 1) rfl rfl (by decide) rfl (fun ls hl => ?_)
      refine lv_goto (tgt := 7) hx hb dX8_findAsked_75 (by decide) ?_
      exact hJ _ _ _ h _ _ _ S (lv_sub hl [1, 0] rfl)
    | _ + 3, h, hl => exact h.elim
  have hl := lv_entry ([.ref (ad 0)]) (n := 2) (Nat.le_of_ble_eq_true rfl)
  subst hargs
  rw [lg_entry_eq]
  generalize (lg_sl ([.ref (ad 0)]) ++ List.replicate (2 - (lg_sl ([.ref (ad 0)])).length) Slot.unset).toArray = ls at hl ⊢
  exact h _ (key _ (fun _ _ _ h => h)) s.heap [] ls ⟨hP, hD, va_S.rf⟩ hl
/-! X8_lay -/
def blk_X8_lay_0 (Q : Int32 → Mem → Prop) (P : Nat → Int32 → Mem → Prop) (v1 : Int32) (M : Mem) : Prop :=
  ((3 ≤ ((upI M 0 0 0).1 0 5) → P 1 0 (upI (upI M 0 0 0) 0 9 ((upI M 0 0 0).1 0 5))) ∧ (¬ 3 ≤ ((upI M 0 0 0).1 0 5) → Q (-3) (upI M 0 0 0)))
theorem blk_X8_lay_0_mono {Q Q' : Int32 → Mem → Prop} {P P' : Nat → Int32 → Mem → Prop} (hQ : ∀ (r : Int32) (M : Mem), Q r M → Q' r M) (hP : ∀ (lab : Nat) (v1 : Int32) (M : Mem), P lab v1 M → P' lab v1 M) (v1 : Int32) (M : Mem) (h : blk_X8_lay_0 Q P v1 M) : blk_X8_lay_0 Q' P' v1 M := by
  unfold blk_X8_lay_0 at h ⊢
  exact ⟨fun c => let h := h.1 c; hP _ _ _ h, fun c => let h := h.2 c; hQ _ _ h⟩
def blk_X8_lay_1 (Q : Int32 → Mem → Prop) (P : Nat → Int32 → Mem → Prop) (v1 : Int32) (M : Mem) : Prop :=
  (((M.1 0 9) ≤ v1 → wp_X8_layFences M (fun M1 => wp_X8_findCuttings M1 (fun M2 => wp_X8_findAsked (upI (upI M2 0 18 0) 0 19 0) (fun M3 => (vp_in (0 : Int32) 2000 ∧ Q ((upI (upI (upI M3 0 24 (M3.1 14 (0 : Int32).toNatClampNeg)) 0 25 0) 0 8 1).1 0 12) (upI (upI (upI M3 0 24 (M3.1 14 (0 : Int32).toNatClampNeg)) 0 25 0) 0 8 1)))))) ∧ (¬ (M.1 0 9) ≤ v1 → (vp_in v1 8 ∧ (vp_in v1 8 ∧ (vp_in v1 8 ∧ (vp_in v1 8 ∧ P 1 (v1 + 1) (upI (upI M 6 v1.toNatClampNeg (M.1 4 v1.toNatClampNeg)) 7 v1.toNatClampNeg ((upI M 6 v1.toNatClampNeg (M.1 4 v1.toNatClampNeg)).1 5 v1.toNatClampNeg))))))))
theorem blk_X8_lay_1_mono {Q Q' : Int32 → Mem → Prop} {P P' : Nat → Int32 → Mem → Prop} (hQ : ∀ (r : Int32) (M : Mem), Q r M → Q' r M) (hP : ∀ (lab : Nat) (v1 : Int32) (M : Mem), P lab v1 M → P' lab v1 M) (v1 : Int32) (M : Mem) (h : blk_X8_lay_1 Q P v1 M) : blk_X8_lay_1 Q' P' v1 M := by
  unfold blk_X8_lay_1 at h ⊢
  exact ⟨fun c => let h := h.1 c; wp_X8_layFences_mono (fun M1 h => wp_X8_findCuttings_mono (fun M2 h => wp_X8_findAsked_mono (fun M3 h => ⟨h.1, let h := h.2; hQ _ _ h⟩) h) h) h, fun c => let h := h.2 c; ⟨h.1, let h := h.2; ⟨h.1, let h := h.2; ⟨h.1, let h := h.2; ⟨h.1, let h := h.2; hP _ _ _ h⟩⟩⟩⟩⟩
def blk_X8_lay (Q : Int32 → Mem → Prop) (P : Nat → Int32 → Mem → Prop) : Nat → Int32 → Mem → Prop := fun lab v1 M => match lab with
  | 0 => blk_X8_lay_0 Q P v1 M
  | 1 => blk_X8_lay_1 Q P v1 M
  | _ => False
theorem blk_X8_lay_mono {Q Q' : Int32 → Mem → Prop} {P P' : Nat → Int32 → Mem → Prop} (hQ : ∀ (r : Int32) (M : Mem), Q r M → Q' r M) (hP : ∀ (lab : Nat) (v1 : Int32) (M : Mem), P lab v1 M → P' lab v1 M) : ∀ (lab : Nat) (v1 : Int32) (M : Mem), blk_X8_lay Q P lab v1 M → blk_X8_lay Q' P' lab v1 M := fun lab v1 M h => match lab, h with
  | 0, h => blk_X8_lay_0_mono hQ hP v1 M h
  | 1, h => blk_X8_lay_1_mono hQ hP v1 M h
  | _ + 2, h => False.elim h
def at_X8_lay (Q : Int32 → Mem → Prop) : Nat → Int32 → Mem → Prop := fun lab v1 M => ∀ P : Nat → Int32 → Mem → Prop, (∀ (lab : Nat) (v1 : Int32) (M : Mem), blk_X8_lay Q P lab v1 M → P lab v1 M) → P lab v1 M
theorem at_X8_lay_fold {Q : Int32 → Mem → Prop} {lab : Nat} {v1 : Int32} {M : Mem} (h : blk_X8_lay Q (at_X8_lay Q) lab v1 M) : at_X8_lay Q lab v1 M := fun P hP => hP _ _ _ (blk_X8_lay_mono (fun _ _ h => h) (fun _ _ _ h => h P hP) _ _ _ h)
theorem at_X8_lay_mono {Q Q' : Int32 → Mem → Prop} (hQ : ∀ (r : Int32) (M : Mem), Q r M → Q' r M) {lab : Nat} {v1 : Int32} {M : Mem} (h : at_X8_lay Q lab v1 M) : at_X8_lay Q' lab v1 M := fun P hP => h P (fun lab v1 M hb => hP _ _ _ (blk_X8_lay_mono hQ (fun _ _ _ h => h) _ _ _ hb))
def wp_X8_lay (M : Mem) (Q : Int32 → Mem → Prop) : Prop := at_X8_lay Q 0 0 M
theorem wp_X8_lay_mono {M : Mem} {Q Q' : Int32 → Mem → Prop} (hQ : ∀ (r : Int32) (M : Mem), Q r M → Q' r M) (h : wp_X8_lay M Q) : wp_X8_lay M Q' := at_X8_lay_mono hQ h
def pcl_X8_lay : Nat → Nat := fun lab => match lab with
  | 0 => 0
  | 1 => 26
  | _ => 0
def lvl_X8_lay (ad : Nat → Nat) : Nat → Int32 → List (Nat × Value) := fun lab v1 => match lab with
  | 0 => [(0, .ref (ad 0))]
  | 1 => [(0, .ref (ad 0)), (1, .int v1)]
  | _ => []
abbrev rm_X8_lay : Jvm.Room := { frames := 4, cells := 0, slots := 0, locals := 90 }
set_option maxHeartbeats 4000000 in
set_option maxRecDepth 100000 in
theorem ct_X8_lay (l : Launch) (D : va_G) (cy : Nat → ClassId) (ad : Nat → Nat) (B : Nat → Prop) (M : Mem) (Q : Int32 → Mem → Prop) (h : wp_X8_lay M Q) : CTi l D cy (wR ad cy) B yX8_lay wsX8_lay rm_X8_lay [.ref (ad 0)] M Q := by
  intro sz
  refine Met.ofW (cc := cX8_lay) (maxL := 2) (ret := some .int) (by decide) rfl ?_
  intro p e s m args below meth c s₁ Bd hml hv
  obtain ⟨hargs, hsz, hP, hK, hD⟩ := hv
  subst hsz
  have hx := Bd.exec
  have hb := Bd.bytes
  have hr := Bd.returns
  have hts := atoms_spec (ws := wsX8_lay) Bd.pre
  have hown : s.vm.findClass RX8 = some m.cls := findClass_of_methodNamed Bd.named
  have hlocks := Bd.notSynchronized
  have hC8 : xC wsX8_lay 8 RX8 TX8 34 := ⟨by decide +kernel, rfl⟩
  have key : ∀ (P : Nat → Int32 → Mem → Prop), (∀ (lab : Nat) (v1 : Int32) (M : Mem), P lab v1 M → ∀ (H : Heap) (locs : List Loc) (ls : Array Slot), xS D (wR ad cy) B s.heap H locs M → lv_has ls 2 (lvl_X8_lay ad lab v1 ) → W p l e (headSpec wsX8_lay rm_X8_lay).room s m args below meth c H locs 0 0 (MQ below (va_Qi (S := Mem) Q (xB D (wR ad cy) B) (xA B s.heap.size)) args s 0 0 (xA B s.heap.size)) (F0 m (pcl_X8_lay lab) ls [])) → ∀ (lab : Nat) (v1 : Int32) (M : Mem), blk_X8_lay Q P lab v1 M → ∀ (H : Heap) (locs : List Loc) (ls : Array Slot), xS D (wR ad cy) B s.heap H locs M → lv_has ls 2 (lvl_X8_lay ad lab v1 ) → W p l e (headSpec wsX8_lay rm_X8_lay).room s m args below meth c H locs 0 0 (MQ below (va_Qi (S := Mem) Q (xB D (wR ad cy) B) (xA B s.heap.size)) args s 0 0 (xA B s.heap.size)) (F0 m (pcl_X8_lay lab) ls []) := by
    intro P hJ lab v1 M h H locs ls S hl
    match lab, h, hl with
    | 0, h, hl =>
      have hl : lv_has ls 2 [(0, .ref (ad 0))] := hl
      have h : blk_X8_lay_0 Q P v1 M := h
      unfold blk_X8_lay_0 at h
      refine W.eq (g2 := F0 m 0 ls []) rfl ?_
      refine lv_aload_n hx hb dX8_lay_0 rfl (lv_at hl 0 rfl) ?_
      refine lv_iconst (v := 0) hx hb dX8_lay_1 (by decide) ?_
      refine x_putI hx hb hts (hC8) tyX8 tyX8_ok nmX8 hown hK S 0 (by decide) rf_0_0 (index := 74) (hts _ (List.mem_of_getElem? (i := 1) rfl)) rfl rfl rfl dX8_lay_2 (fun H locs S => ?_)
      refine lv_aload_n hx hb dX8_lay_5 rfl (lv_at hl 0 rfl) ?_
      refine x_getI hx hb hts (hC8) hown hK S 5 (by decide) rf_0_5 (index := 95) (hts _ (List.mem_of_getElem? (i := 2) rfl)) dX8_lay_6 ?_
      refine lv_iconst (v := 3) hx hb dX8_lay_9 (by decide) ?_
      refine lv_icmp_ge (tgt := 16) hx hb dX8_lay_10 (by decide) (fun c10 => ?_) (fun c10 => ?_)
      · replace h := h.1 c10
        refine lv_aload_n hx hb dX8_lay_16 rfl (lv_at hl 0 rfl) ?_
        refine lv_aload_n hx hb dX8_lay_17 rfl (lv_at hl 0 rfl) ?_
        refine x_getI hx hb hts (hC8) hown hK S 5 (by decide) rf_0_5 (index := 95) (hts _ (List.mem_of_getElem? (i := 2) rfl)) dX8_lay_18 ?_
        refine x_putI hx hb hts (hC8) tyX8 tyX8_ok nmX8 hown hK S 9 (by decide) rf_0_9 (index := 109) (hts _ (List.mem_of_getElem? (i := 3) rfl)) rfl rfl rfl dX8_lay_21 (fun H locs S => ?_)
        refine lv_iconst (v := 0) hx hb dX8_lay_24 (by decide) ?_
        refine lv_istore_n (lv' := [(1, .int 0), (0, .ref (ad 0))]) hx hb dX8_lay_25 rfl hl (by decide) rfl (fun ls hl => ?_)
        exact hJ _ _ _ h _ _ _ S (lv_sub hl [1, 0] rfl)
      · replace h := h.2 c10
        refine lv_bipush (v := (-3)) hx hb dX8_lay_13 (by decide) ?_
        exact x_iret hx hb hr hlocks S rfl h dX8_lay_15
    | 1, h, hl =>
      have hl : lv_has ls 2 [(0, .ref (ad 0)), (1, .int v1)] := hl
      have h : blk_X8_lay_1 Q P v1 M := h
      unfold blk_X8_lay_1 at h
      refine W.eq (g2 := F0 m 26 ls []) rfl ?_
      refine lv_iload_n hx hb dX8_lay_26 rfl (lv_at hl 1 rfl) ?_
      refine lv_aload_n hx hb dX8_lay_27 rfl (lv_at hl 0 rfl) ?_
      refine x_getI hx hb hts (hC8) hown hK S 9 (by decide) rf_0_9 (index := 109) (hts _ (List.mem_of_getElem? (i := 3) rfl)) dX8_lay_28 ?_
      refine lv_icmp_ge (tgt := 64) hx hb dX8_lay_31 (by decide) (fun c31 => ?_) (fun c31 => ?_)
      · replace h := h.1 c31
        refine lv_aload_n hx hb dX8_lay_64 rfl (lv_at hl 0 rfl) ?_
        refine x_callVv (As := []) ⟨hx, hb, hml, hown, hts⟩ hK S (ct_X8_layFences l D cy ad B _ _ h) ro_0 rfl (cwV 0 hts gX8_lay_X8_layFences rfl rfl rfl (by decide +kernel) ⟨Nat.le_of_ble_eq_true rfl, Nat.le_of_ble_eq_true rfl⟩) rfl hl.1 rfl (Nat.le_of_ble_eq_true rfl) dX8_lay_65 ⟨Nat.zero_le _, Nat.zero_le _⟩ (fun M1 H locs h S => ?_)
        refine lv_aload_n hx hb dX8_lay_68 rfl (lv_at hl 0 rfl) ?_
        refine x_callVv (As := []) ⟨hx, hb, hml, hown, hts⟩ hK S (ct_X8_findCuttings l D cy ad B _ _ h) ro_0 rfl (cwV 0 hts gX8_lay_X8_findCuttings rfl rfl rfl (by decide +kernel) ⟨Nat.le_of_ble_eq_true rfl, Nat.le_of_ble_eq_true rfl⟩) rfl hl.1 rfl (Nat.le_of_ble_eq_true rfl) dX8_lay_69 ⟨Nat.zero_le _, Nat.zero_le _⟩ (fun M2 H locs h S => ?_)
        refine lv_aload_n hx hb dX8_lay_72 rfl (lv_at hl 0 rfl) ?_
        refine lv_iconst (v := 0) hx hb dX8_lay_73 (by decide) ?_
        refine x_putI hx hb hts (hC8) tyX8 tyX8_ok nmX8 hown hK S 18 (by decide) rf_0_18 (index := 130) (hts _ (List.mem_of_getElem? (i := 8) rfl)) rfl rfl rfl dX8_lay_74 (fun H locs S => ?_)
        refine lv_aload_n hx hb dX8_lay_77 rfl (lv_at hl 0 rfl) ?_
        refine lv_iconst (v := 0) hx hb dX8_lay_78 (by decide) ?_
        refine x_putI hx hb hts (hC8) tyX8 tyX8_ok nmX8 hown hK S 19 (by decide) rf_0_19 (index := 133) (hts _ (List.mem_of_getElem? (i := 9) rfl)) rfl rfl rfl dX8_lay_79 (fun H locs S => ?_)
        refine lv_aload_n hx hb dX8_lay_82 rfl (lv_at hl 0 rfl) ?_
        refine x_callVv (As := []) ⟨hx, hb, hml, hown, hts⟩ hK S (ct_X8_findAsked l D cy ad B _ _ h) ro_0 rfl (cwV 0 hts gX8_lay_X8_findAsked rfl rfl rfl (by decide +kernel) ⟨Nat.le_of_ble_eq_true rfl, Nat.le_of_ble_eq_true rfl⟩) rfl hl.1 rfl (Nat.le_of_ble_eq_true rfl) dX8_lay_83 ⟨Nat.zero_le _, Nat.zero_le _⟩ (fun M3 H locs h S => ?_)
        refine lv_aload_n hx hb dX8_lay_86 rfl (lv_at hl 0 rfl) ?_
        refine lv_aload_n hx hb dX8_lay_87 rfl (lv_at hl 0 rfl) ?_
        refine x_getR hx hb hts (hC8) hown hK S 23 (by decide) rf_0_23 (index := 50) (hts _ (List.mem_of_getElem? (i := 10) rfl)) dX8_lay_88 ?_
        refine lv_iconst (v := 0) hx hb dX8_lay_91 (by decide) ?_
        refine x_iald hx hb hK S ra_14 h.1 dX8_lay_92 ?_
        replace h := h.2
        refine x_putI hx hb hts (hC8) tyX8 tyX8_ok nmX8 hown hK S 24 (by decide) rf_0_24 (index := 145) (hts _ (List.mem_of_getElem? (i := 11) rfl)) rfl rfl rfl dX8_lay_93 (fun H locs S => ?_)
        refine lv_aload_n hx hb dX8_lay_96 rfl (lv_at hl 0 rfl) ?_
        refine lv_iconst (v := 0) hx hb dX8_lay_97 (by decide) ?_
        refine x_putI hx hb hts (hC8) tyX8 tyX8_ok nmX8 hown hK S 25 (by decide) rf_0_25 (index := 148) (hts _ (List.mem_of_getElem? (i := 12) rfl)) rfl rfl rfl dX8_lay_98 (fun H locs S => ?_)
        refine lv_aload_n hx hb dX8_lay_101 rfl (lv_at hl 0 rfl) ?_
        refine lv_iconst (v := 1) hx hb dX8_lay_102 (by decide) ?_
        refine x_putI hx hb hts (hC8) tyX8 tyX8_ok nmX8 hown hK S 8 (by decide) rf_0_8 (index := 151) (hts _ (List.mem_of_getElem? (i := 13) rfl)) rfl rfl rfl dX8_lay_103 (fun H locs S => ?_)
        refine lv_aload_n hx hb dX8_lay_106 rfl (lv_at hl 0 rfl) ?_
        refine x_getI hx hb hts (hC8) hown hK S 12 (by decide) rf_0_12 (index := 106) (hts _ (List.mem_of_getElem? (i := 14) rfl)) dX8_lay_107 ?_
        exact x_iret hx hb hr hlocks S rfl h dX8_lay_110
      · replace h := h.2 c31
        refine lv_aload_n hx hb dX8_lay_34 rfl (lv_at hl 0 rfl) ?_
        refine x_getR hx hb hts (hC8) hown hK S 10 (by decide) rf_0_10 (index := 26) (hts _ (List.mem_of_getElem? (i := 4) rfl)) dX8_lay_35 ?_
        refine lv_iload_n hx hb dX8_lay_38 rfl (lv_at hl 1 rfl) ?_
        refine lv_aload_n hx hb dX8_lay_39 rfl (lv_at hl 0 rfl) ?_
        refine x_getR hx hb hts (hC8) hown hK S 6 (by decide) rf_0_6 (index := 20) (hts _ (List.mem_of_getElem? (i := 5) rfl)) dX8_lay_40 ?_
        refine lv_iload_n hx hb dX8_lay_43 rfl (lv_at hl 1 rfl) ?_
        refine x_iald hx hb hK S ra_4 h.1 dX8_lay_44 ?_
        replace h := h.2
        refine x_iast hx hb hK S ra_6 h.1 dX8_lay_45 (fun H locs S => ?_)
        replace h := h.2
        refine lv_aload_n hx hb dX8_lay_46 rfl (lv_at hl 0 rfl) ?_
        refine x_getR hx hb hts (hC8) hown hK S 11 (by decide) rf_0_11 (index := 29) (hts _ (List.mem_of_getElem? (i := 6) rfl)) dX8_lay_47 ?_
        refine lv_iload_n hx hb dX8_lay_50 rfl (lv_at hl 1 rfl) ?_
        refine lv_aload_n hx hb dX8_lay_51 rfl (lv_at hl 0 rfl) ?_
        refine x_getR hx hb hts (hC8) hown hK S 7 (by decide) rf_0_7 (index := 23) (hts _ (List.mem_of_getElem? (i := 7) rfl)) dX8_lay_52 ?_
        refine lv_iload_n hx hb dX8_lay_55 rfl (lv_at hl 1 rfl) ?_
        refine x_iald hx hb hK S ra_5 h.1 dX8_lay_56 ?_
        replace h := h.2
        refine x_iast hx hb hK S ra_7 h.1 dX8_lay_57 (fun H locs S => ?_)
        replace h := h.2
        refine lv_iinc (v := (v1 + 1)) (lv' := [(1, .int (v1 + 1)), (0, .ref (ad 0))]) hx hb dX8_lay_58 hl (k := 1) rfl rfl (by decide) rfl (fun ls hl => ?_)
        refine lv_goto (tgt := 26) hx hb dX8_lay_61 (by decide) ?_
        exact hJ _ _ _ h _ _ _ S (lv_sub hl [1, 0] rfl)
    | _ + 2, h, hl => exact h.elim
  have hl := lv_entry ([.ref (ad 0)]) (n := 2) (Nat.le_of_ble_eq_true rfl)
  subst hargs
  rw [lg_entry_eq]
  generalize (lg_sl ([.ref (ad 0)]) ++ List.replicate (2 - (lg_sl ([.ref (ad 0)])).length) Slot.unset).toArray = ls at hl ⊢
  exact h _ (key _ (fun _ _ _ h => h)) s.heap [] ls ⟨hP, hD, va_S.rf⟩ hl
/-! X8_noFence -/
def wp_X8_noFence (v1 : Int32) (M : Mem) (Q : Int32 → Mem → Prop) : Prop :=
  wp_X8_in v1.toInt64 (0 : Int64) (((M.1 0 12) - 1).toInt64) M (fun r1 M1 => ((¬ r1 = 0 → Q 0 M1) ∧ (r1 = 0 → Q 1 M1)))
theorem wp_X8_noFence_mono {v1 : Int32} {M : Mem} {Q Q' : Int32 → Mem → Prop} (hQ : ∀ (r : Int32) (M : Mem), Q r M → Q' r M) (h : wp_X8_noFence v1 M Q) : wp_X8_noFence v1 M Q' := by
  unfold wp_X8_noFence at h ⊢
  exact wp_X8_in_mono (fun r1 M1 h => ⟨fun c => let h := h.1 c; hQ _ _ h, fun c => let h := h.2 c; hQ _ _ h⟩) h
abbrev rm_X8_noFence : Jvm.Room := { frames := 2, cells := 0, slots := 0, locals := 42 }
set_option maxHeartbeats 4000000 in
set_option maxRecDepth 100000 in
theorem ct_X8_noFence (l : Launch) (D : va_G) (cy : Nat → ClassId) (ad : Nat → Nat) (B : Nat → Prop) (v1 : Int32) (M : Mem) (Q : Int32 → Mem → Prop) (h : wp_X8_noFence v1 M Q) : CTi l D cy (wR ad cy) B yX8_noFence wsX8_noFence rm_X8_noFence [.ref (ad 0), .int v1] M Q := by
  intro sz
  refine Met.ofW (cc := cX8_noFence) (maxL := 2) (ret := some .boolean) (by decide) rfl ?_
  intro p e s m args below meth c s₁ Bd hml hv
  obtain ⟨hargs, hsz, hP, hK, hD⟩ := hv
  subst hsz
  have hx := Bd.exec
  have hb := Bd.bytes
  have hr := Bd.returns
  have hts := atoms_spec (ws := wsX8_noFence) Bd.pre
  have hown : s.vm.findClass RX8 = some m.cls := findClass_of_methodNamed Bd.named
  have hlocks := Bd.notSynchronized
  have hC8 : xC wsX8_noFence 8 RX8 TX8 34 := ⟨by decide +kernel, rfl⟩
  have hl := lv_entry ([.ref (ad 0), .int v1]) (n := 2) (Nat.le_of_ble_eq_true rfl)
  subst hargs
  rw [lg_entry_eq]
  generalize (lg_sl ([.ref (ad 0), .int v1]) ++ List.replicate (2 - (lg_sl ([.ref (ad 0), .int v1])).length) Slot.unset).toArray = ls at hl ⊢
  have hl : lv_has ls 2 [(0, .ref (ad 0)), (1, .int v1)] := hl
  have S : xS D (wR ad cy) B s.heap s.heap [] M := ⟨hP, hD, va_S.rf⟩
  unfold wp_X8_noFence at h
  refine lv_iload_n hx hb dX8_noFence_0 rfl (lv_at hl 1 rfl) ?_
  refine lv_i2l (v := v1.toInt64) hx hb dX8_noFence_1 rfl ?_
  refine lv_lconst (v := 0) hx hb dX8_noFence_2 rfl ?_
  refine lv_aload_n hx hb dX8_noFence_3 rfl (lv_at hl 0 rfl) ?_
  refine x_getI hx hb hts (hC8) hown hK S 12 (by decide) rf_0_12 (index := 106) (hts _ (List.mem_of_getElem? (i := 1) rfl)) dX8_noFence_4 ?_
  refine lv_iconst (v := 1) hx hb dX8_noFence_7 (by decide) ?_
  refine lv_isub hx hb dX8_noFence_8 ?_
  refine lv_i2l (v := ((M.1 0 12) - 1).toInt64) hx hb dX8_noFence_9 rfl ?_
  refine x_callSi (As := [.long v1.toInt64, .long (0 : Int64), .long (((M.1 0 12) - 1).toInt64)]) ⟨hx, hb, hml, hown, hts⟩ hK S (ct_X8_in l D cy ad B _ _ _ _ _ h) (va_cwS 3 hts gX8_noFence_X8_in rfl rfl rfl (by decide +kernel) ⟨Nat.le_of_ble_eq_true rfl, Nat.le_of_ble_eq_true rfl⟩) rfl hl.1 rfl (Nat.le_of_ble_eq_true rfl) dX8_noFence_10 ⟨Nat.zero_le _, Nat.zero_le _⟩ (fun r1 M1 H locs h S => ?_)
  refine lv_if_ne (tgt := 20) hx hb dX8_noFence_13 (by decide) (fun c13 => ?_) (fun c13 => ?_)
  · replace h := h.1 c13
    refine lv_iconst (v := 0) hx hb dX8_noFence_20 (by decide) ?_
    exact x_iret hx hb hr hlocks S rfl h dX8_noFence_21
  · replace h := h.2 c13
    refine lv_iconst (v := 1) hx hb dX8_noFence_16 (by decide) ?_
    refine lv_goto (tgt := 21) hx hb dX8_noFence_17 (by decide) ?_
    exact x_iret hx hb hr hlocks S rfl h dX8_noFence_21
