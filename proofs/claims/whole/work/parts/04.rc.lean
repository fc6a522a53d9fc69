/-! X8_fence -/
def wp_X8_fence (v1 : Int32) (v2 : Int32) (M : Mem) (Q : Int32 → Mem → Prop) : Prop :=
  ((¬ ((upI M 0 0 0).1 0 8) = 0 → wp_X8_in v1.toInt64 (0 : Int64) ((((upI M 0 0 0).1 0 9) - 1).toInt64) (upI M 0 0 0) (fun r1 M1 => ((r1 = 0 → Q (-1) M1) ∧ (¬ r1 = 0 → wp_X8_in v2.toInt64 (0 : Int64) (((M1.1 0 9) - 1).toInt64) M1 (fun r2 M2 => ((r2 = 0 → Q (-1) M2) ∧ (¬ r2 = 0 → (vp_in ((8 * v1) + v2) 64 ∧ Q (M2.1 10 ((8 * v1) + v2).toNatClampNeg) M2)))))))) ∧ (((upI M 0 0 0).1 0 8) = 0 → Q (-3) (upI M 0 0 0)))
theorem wp_X8_fence_mono {v1 : Int32} {v2 : Int32} {M : Mem} {Q Q' : Int32 → Mem → Prop} (hQ : ∀ (r : Int32) (M : Mem), Q r M → Q' r M) (h : wp_X8_fence v1 v2 M Q) : wp_X8_fence v1 v2 M Q' := by
  unfold wp_X8_fence at h ⊢
  exact ⟨fun c => let h := h.1 c; wp_X8_in_mono (fun r1 M1 h => ⟨fun c => let h := h.1 c; hQ _ _ h, fun c => let h := h.2 c; wp_X8_in_mono (fun r2 M2 h => ⟨fun c => let h := h.1 c; hQ _ _ h, fun c => let h := h.2 c; ⟨h.1, let h := h.2; hQ _ _ h⟩⟩) h⟩) h, fun c => let h := h.2 c; hQ _ _ h⟩
abbrev rm_X8_fence : Jvm.Room := { frames := 2, cells := 0, slots := 0, locals := 42 }
set_option maxHeartbeats 4000000 in
set_option maxRecDepth 100000 in
theorem ct_X8_fence (l : Launch) (D : va_G) (cy : Nat → ClassId) (ad : Nat → Nat) (B : Nat → Prop) (v1 : Int32) (v2 : Int32) (M : Mem) (Q : Int32 → Mem → Prop) (h : wp_X8_fence v1 v2 M Q) : CTi l D cy (wR ad cy) B yX8_fence wsX8_fence rm_X8_fence [.ref (ad 0), .int v1, .int v2] M Q := by
  intro sz
  refine Met.ofW (cc := cX8_fence) (maxL := 3) (ret := some .int) (by decide) rfl ?_
  intro p e s m args below meth c s₁ Bd hml hv
  obtain ⟨hargs, hsz, hP, hK, hD⟩ := hv
  subst hsz
  have hx := Bd.exec
  have hb := Bd.bytes
  have hr := Bd.returns
  have hts := atoms_spec (ws := wsX8_fence) Bd.pre
  have hown : s.vm.findClass RX8 = some m.cls := findClass_of_methodNamed Bd.named
  have hlocks := Bd.notSynchronized
  have hC8 : xC wsX8_fence 8 RX8 TX8 34 := ⟨by decide +kernel, rfl⟩
  have hl := lv_entry ([.ref (ad 0), .int v1, .int v2]) (n := 3) (Nat.le_of_ble_eq_true rfl)
  subst hargs
  rw [lg_entry_eq]
  generalize (lg_sl ([.ref (ad 0), .int v1, .int v2]) ++ List.replicate (3 - (lg_sl ([.ref (ad 0), .int v1, .int v2])).length) Slot.unset).toArray = ls at hl ⊢
  have hl : lv_has ls 3 [(0, .ref (ad 0)), (1, .int v1), (2, .int v2)] := hl
  have S : xS D (wR ad cy) B s.heap s.heap [] M := ⟨hP, hD, va_S.rf⟩
  unfold wp_X8_fence at h
  refine lv_aload_n hx hb dX8_fence_0 rfl (lv_at hl 0 rfl) ?_
  refine lv_iconst (v := 0) hx hb dX8_fence_1 (by decide) ?_
  refine x_putI hx hb hts (hC8) tyX8 tyX8_ok nmX8 hown hK S 0 (by decide) rf_0_0 (index := 74) (hts _ (List.mem_of_getElem? (i := 1) rfl)) rfl rfl rfl dX8_fence_2 (fun H locs S => ?_)
  refine lv_aload_n hx hb dX8_fence_5 rfl (lv_at hl 0 rfl) ?_
  refine x_getI hx hb hts (hC8) hown hK S 8 (by decide) rf_0_8 (index := 151) (hts _ (List.mem_of_getElem? (i := 2) rfl)) dX8_fence_6 ?_
  refine lv_if_ne (tgt := 15) hx hb dX8_fence_9 (by decide) (fun c9 => ?_) (fun c9 => ?_)
  · replace h := h.1 c9
    refine lv_iload_n hx hb dX8_fence_15 rfl (lv_at hl 1 rfl) ?_
    refine lv_i2l (v := v1.toInt64) hx hb dX8_fence_16 rfl ?_
    refine lv_lconst (v := 0) hx hb dX8_fence_17 rfl ?_
    refine lv_aload_n hx hb dX8_fence_18 rfl (lv_at hl 0 rfl) ?_
    refine x_getI hx hb hts (hC8) hown hK S 9 (by decide) rf_0_9 (index := 109) (hts _ (List.mem_of_getElem? (i := 3) rfl)) dX8_fence_19 ?_
    refine lv_iconst (v := 1) hx hb dX8_fence_22 (by decide) ?_
    refine lv_isub hx hb dX8_fence_23 ?_
    refine lv_i2l (v := (((upI M 0 0 0).1 0 9) - 1).toInt64) hx hb dX8_fence_24 rfl ?_
    refine x_callSi (As := [.long v1.toInt64, .long (0 : Int64), .long ((((upI M 0 0 0).1 0 9) - 1).toInt64)]) ⟨hx, hb, hml, hown, hts⟩ hK S (ct_X8_in l D cy ad B _ _ _ _ _ h) (va_cwS 3 hts gX8_fence_X8_in rfl rfl rfl (by decide +kernel) ⟨Nat.le_of_ble_eq_true rfl, Nat.le_of_ble_eq_true rfl⟩) rfl hl.1 rfl (Nat.le_of_ble_eq_true rfl) dX8_fence_25 ⟨Nat.zero_le _, Nat.zero_le _⟩ (fun r1 M1 H locs h S => ?_)
    refine lv_if_eq (tgt := 61) hx hb dX8_fence_28 (by decide) (fun c28 => ?_) (fun c28 => ?_)
    · replace h := h.1 c28
      refine lv_iconst (v := (-1)) hx hb dX8_fence_61 (by decide) ?_
      exact x_iret hx hb hr hlocks S rfl h dX8_fence_62
    · replace h := h.2 c28
      refine lv_iload_n hx hb dX8_fence_31 rfl (lv_at hl 2 rfl) ?_
      refine lv_i2l (v := v2.toInt64) hx hb dX8_fence_32 rfl ?_
      refine lv_lconst (v := 0) hx hb dX8_fence_33 rfl ?_
      refine lv_aload_n hx hb dX8_fence_34 rfl (lv_at hl 0 rfl) ?_
      refine x_getI hx hb hts (hC8) hown hK S 9 (by decide) rf_0_9 (index := 109) (hts _ (List.mem_of_getElem? (i := 3) rfl)) dX8_fence_35 ?_
      refine lv_iconst (v := 1) hx hb dX8_fence_38 (by decide) ?_
      refine lv_isub hx hb dX8_fence_39 ?_
      refine lv_i2l (v := ((M1.1 0 9) - 1).toInt64) hx hb dX8_fence_40 rfl ?_
      refine x_callSi (As := [.long v2.toInt64, .long (0 : Int64), .long (((M1.1 0 9) - 1).toInt64)]) ⟨hx, hb, hml, hown, hts⟩ hK S (ct_X8_in l D cy ad B _ _ _ _ _ h) (va_cwS 3 hts gX8_fence_X8_in rfl rfl rfl (by decide +kernel) ⟨Nat.le_of_ble_eq_true rfl, Nat.le_of_ble_eq_true rfl⟩) rfl hl.1 rfl (Nat.le_of_ble_eq_true rfl) dX8_fence_41 ⟨Nat.zero_le _, Nat.zero_le _⟩ (fun r2 M2 H locs h S => ?_)
      refine lv_if_eq (tgt := 61) hx hb dX8_fence_44 (by decide) (fun c44 => ?_) (fun c44 => ?_)
      · replace h := h.1 c44
        refine lv_iconst (v := (-1)) hx hb dX8_fence_61 (by decide) ?_
        exact x_iret hx hb hr hlocks S rfl h dX8_fence_62
      · replace h := h.2 c44
        refine lv_aload_n hx hb dX8_fence_47 rfl (lv_at hl 0 rfl) ?_
        refine x_getR hx hb hts (hC8) hown hK S 15 (by decide) rf_0_15 (index := 38) (hts _ (List.mem_of_getElem? (i := 4) rfl)) dX8_fence_48 ?_
        refine lv_bipush (v := 8) hx hb dX8_fence_51 (by decide) ?_
        refine lv_iload_n hx hb dX8_fence_53 rfl (lv_at hl 1 rfl) ?_
        refine lv_imul hx hb dX8_fence_54 ?_
        refine lv_iload_n hx hb dX8_fence_55 rfl (lv_at hl 2 rfl) ?_
        refine lv_iadd hx hb dX8_fence_56 ?_
        refine x_iald hx hb hK S ra_10 h.1 dX8_fence_57 ?_
        replace h := h.2
        refine lv_goto (tgt := 62) hx hb dX8_fence_58 (by decide) ?_
        exact x_iret hx hb hr hlocks S rfl h dX8_fence_62
  · replace h := h.2 c9
    refine lv_bipush (v := (-3)) hx hb dX8_fence_12 (by decide) ?_
    exact x_iret hx hb hr hlocks S rfl h dX8_fence_14
/-! X8_end -/
def wp_X8_end (v1 : Int32) (v2 : Int32) (M : Mem) (Q : Int32 → Mem → Prop) : Prop :=
  wp_X8_in v2.toInt64 (0 : Int64) (1 : Int64) (upI M 0 0 0) (fun r1 M1 => ((¬ r1 = 0 → ((¬ (M1.1 0 8) = 0 → wp_X8_noFence v1 M1 (fun r2 M2 => ((r2 = 0 → ((¬ v2 = 0 → (vp_in v1 28 ∧ Q (M2.1 9 v1.toNatClampNeg) M2)) ∧ (v2 = 0 → (vp_in v1 28 ∧ Q (M2.1 8 v1.toNatClampNeg) M2)))) ∧ (¬ r2 = 0 → Q (-1) M2)))) ∧ ((M1.1 0 8) = 0 → Q (-3) M1))) ∧ (r1 = 0 → Q (-2) M1)))
theorem wp_X8_end_mono {v1 : Int32} {v2 : Int32} {M : Mem} {Q Q' : Int32 → Mem → Prop} (hQ : ∀ (r : Int32) (M : Mem), Q r M → Q' r M) (h : wp_X8_end v1 v2 M Q) : wp_X8_end v1 v2 M Q' := by
  unfold wp_X8_end at h ⊢
  exact wp_X8_in_mono (fun r1 M1 h => ⟨fun c => let h := h.1 c; ⟨fun c => let h := h.1 c; wp_X8_noFence_mono (fun r2 M2 h => ⟨fun c => let h := h.1 c; ⟨fun c => let h := h.1 c; ⟨h.1, let h := h.2; hQ _ _ h⟩, fun c => let h := h.2 c; ⟨h.1, let h := h.2; hQ _ _ h⟩⟩, fun c => let h := h.2 c; hQ _ _ h⟩) h, fun c => let h := h.2 c; hQ _ _ h⟩, fun c => let h := h.2 c; hQ _ _ h⟩) h
abbrev rm_X8_end : Jvm.Room := { frames := 3, cells := 0, slots := 0, locals := 63 }
set_option maxHeartbeats 4000000 in
set_option maxRecDepth 100000 in
theorem ct_X8_end (l : Launch) (D : va_G) (cy : Nat → ClassId) (ad : Nat → Nat) (B : Nat → Prop) (v1 : Int32) (v2 : Int32) (M : Mem) (Q : Int32 → Mem → Prop) (h : wp_X8_end v1 v2 M Q) : CTi l D cy (wR ad cy) B yX8_end wsX8_end rm_X8_end [.ref (ad 0), .int v1, .int v2] M Q := by
  intro sz
  refine Met.ofW (cc := cX8_end) (maxL := 3) (ret := some .int) (by decide) rfl ?_
  intro p e s m args below meth c s₁ Bd hml hv
  obtain ⟨hargs, hsz, hP, hK, hD⟩ := hv
  subst hsz
  have hx := Bd.exec
  have hb := Bd.bytes
  have hr := Bd.returns
  have hts := atoms_spec (ws := wsX8_end) Bd.pre
  have hown : s.vm.findClass RX8 = some m.cls := findClass_of_methodNamed Bd.named
  have hlocks := Bd.notSynchronized
  have hC8 : xC wsX8_end 8 RX8 TX8 34 := ⟨by decide +kernel, rfl⟩
  have hl := lv_entry ([.ref (ad 0), .int v1, .int v2]) (n := 3) (Nat.le_of_ble_eq_true rfl)
  subst hargs
  rw [lg_entry_eq]
  generalize (lg_sl ([.ref (ad 0), .int v1, .int v2]) ++ List.replicate (3 - (lg_sl ([.ref (ad 0), .int v1, .int v2])).length) Slot.unset).toArray = ls at hl ⊢
  have hl : lv_has ls 3 [(0, .ref (ad 0)), (1, .int v1), (2, .int v2)] := hl
  have S : xS D (wR ad cy) B s.heap s.heap [] M := ⟨hP, hD, va_S.rf⟩
  unfold wp_X8_end at h
  refine lv_aload_n hx hb dX8_end_0 rfl (lv_at hl 0 rfl) ?_
  refine lv_iconst (v := 0) hx hb dX8_end_1 (by decide) ?_
  refine x_putI hx hb hts (hC8) tyX8 tyX8_ok nmX8 hown hK S 0 (by decide) rf_0_0 (index := 74) (hts _ (List.mem_of_getElem? (i := 1) rfl)) rfl rfl rfl dX8_end_2 (fun H locs S => ?_)
  refine lv_iload_n hx hb dX8_end_5 rfl (lv_at hl 2 rfl) ?_
  refine lv_i2l (v := v2.toInt64) hx hb dX8_end_6 rfl ?_
  refine lv_lconst (v := 0) hx hb dX8_end_7 rfl ?_
  refine lv_lconst (v := 1) hx hb dX8_end_8 rfl ?_
  refine x_callSi (As := [.long v2.toInt64, .long (0 : Int64), .long (1 : Int64)]) ⟨hx, hb, hml, hown, hts⟩ hK S (ct_X8_in l D cy ad B _ _ _ _ _ h) (va_cwS 3 hts gX8_end_X8_in rfl rfl rfl (by decide +kernel) ⟨Nat.le_of_ble_eq_true rfl, Nat.le_of_ble_eq_true rfl⟩) rfl hl.1 rfl (Nat.le_of_ble_eq_true rfl) dX8_end_9 ⟨Nat.zero_le _, Nat.zero_le _⟩ (fun r1 M1 H locs h S => ?_)
  refine lv_if_ne (tgt := 18) hx hb dX8_end_12 (by decide) (fun c12 => ?_) (fun c12 => ?_)
  · replace h := h.1 c12
    refine lv_aload_n hx hb dX8_end_18 rfl (lv_at hl 0 rfl) ?_
    refine x_getI hx hb hts (hC8) hown hK S 8 (by decide) rf_0_8 (index := 151) (hts _ (List.mem_of_getElem? (i := 2) rfl)) dX8_end_19 ?_
    refine lv_if_ne (tgt := 30) hx hb dX8_end_22 (by decide) (fun c22 => ?_) (fun c22 => ?_)
    · replace h := h.1 c22
      refine lv_aload_n hx hb dX8_end_30 rfl (lv_at hl 0 rfl) ?_
      refine lv_iload_n hx hb dX8_end_31 rfl (lv_at hl 1 rfl) ?_
      refine x_callVi (As := [.int v1]) ⟨hx, hb, hml, hown, hts⟩ hK S (ct_X8_noFence l D cy ad B _ _ _ h) ro_0 rfl (cwV 1 hts gX8_end_X8_noFence rfl rfl rfl (by decide +kernel) ⟨Nat.le_of_ble_eq_true rfl, Nat.le_of_ble_eq_true rfl⟩) rfl hl.1 rfl (Nat.le_of_ble_eq_true rfl) dX8_end_32 ⟨Nat.zero_le _, Nat.zero_le _⟩ (fun r2 M2 H locs h S => ?_)
      refine lv_if_eq (tgt := 42) hx hb dX8_end_35 (by decide) (fun c35 => ?_) (fun c35 => ?_)
      · replace h := h.1 c35
        refine lv_iload_n hx hb dX8_end_42 rfl (lv_at hl 2 rfl) ?_
        refine lv_if_ne (tgt := 55) hx hb dX8_end_43 (by decide) (fun c43 => ?_) (fun c43 => ?_)
        · replace h := h.1 c43
          refine lv_aload_n hx hb dX8_end_55 rfl (lv_at hl 0 rfl) ?_
          refine x_getR hx hb hts (hC8) hown hK S 14 (by decide) rf_0_14 (index := 35) (hts _ (List.mem_of_getElem? (i := 4) rfl)) dX8_end_56 ?_
          refine lv_iload_n hx hb dX8_end_59 rfl (lv_at hl 1 rfl) ?_
          refine x_iald hx hb hK S ra_9 h.1 dX8_end_60 ?_
          replace h := h.2
          exact x_iret hx hb hr hlocks S rfl h dX8_end_61
        · replace h := h.2 c43
          refine lv_aload_n hx hb dX8_end_46 rfl (lv_at hl 0 rfl) ?_
          refine x_getR hx hb hts (hC8) hown hK S 13 (by decide) rf_0_13 (index := 32) (hts _ (List.mem_of_getElem? (i := 3) rfl)) dX8_end_47 ?_
          refine lv_iload_n hx hb dX8_end_50 rfl (lv_at hl 1 rfl) ?_
          refine x_iald hx hb hK S ra_8 h.1 dX8_end_51 ?_
          replace h := h.2
          refine lv_goto (tgt := 61) hx hb dX8_end_52 (by decide) ?_
          exact x_iret hx hb hr hlocks S rfl h dX8_end_61
      · replace h := h.2 c35
        refine lv_iconst (v := (-1)) hx hb dX8_end_38 (by decide) ?_
        refine lv_goto (tgt := 61) hx hb dX8_end_39 (by decide) ?_
        exact x_iret hx hb hr hlocks S rfl h dX8_end_61
    · replace h := h.2 c22
      refine lv_bipush (v := (-3)) hx hb dX8_end_25 (by decide) ?_
      refine lv_goto (tgt := 61) hx hb dX8_end_27 (by decide) ?_
      exact x_iret hx hb hr hlocks S rfl h dX8_end_61
  · replace h := h.2 c12
    refine lv_bipush (v := (-2)) hx hb dX8_end_15 (by decide) ?_
    exact x_iret hx hb hr hlocks S rfl h dX8_end_17
/-! X8_isHem -/
def blk_X8_isHem_0 (v1 : Int32) (Q : Int32 → Mem → Prop) (P : Nat → Int32 → Int32 → Int32 → Mem → Prop) (v2 : Int32) (v3 : Int32) (v4 : Int32) (M : Mem) : Prop :=
  P 1 0 0 0 M
theorem blk_X8_isHem_0_mono {v1 : Int32} {Q Q' : Int32 → Mem → Prop} {P P' : Nat → Int32 → Int32 → Int32 → Mem → Prop} (hQ : ∀ (r : Int32) (M : Mem), Q r M → Q' r M) (hP : ∀ (lab : Nat) (v2 : Int32) (v3 : Int32) (v4 : Int32) (M : Mem), P lab v2 v3 v4 M → P' lab v2 v3 v4 M) (v2 : Int32) (v3 : Int32) (v4 : Int32) (M : Mem) (h : blk_X8_isHem_0 v1 Q P v2 v3 v4 M) : blk_X8_isHem_0 v1 Q' P' v2 v3 v4 M := by
  unfold blk_X8_isHem_0 at h ⊢
  exact hP _ _ _ _ _ h
def blk_X8_isHem_1 (v1 : Int32) (Q : Int32 → Mem → Prop) (P : Nat → Int32 → Int32 → Int32 → Mem → Prop) (v2 : Int32) (v3 : Int32) (v4 : Int32) (M : Mem) : Prop :=
  (((M.1 0 9) ≤ v4 → ((v2 = 0 → P 2 0 0 0 M) ∧ (¬ v2 = 0 → ((¬ v3 = 0 → Q 0 M) ∧ (v3 = 0 → P 2 0 0 0 M))))) ∧ (¬ (M.1 0 9) ≤ v4 → ((¬ v2 = 0 → P 3 0 v3 v4 M) ∧ (v2 = 0 → (vp_in v1 28 ∧ (vp_in v1 28 ∧ wp_X8_side (M.1 8 v1.toNatClampNeg) (M.1 9 v1.toNatClampNeg) v4 M (fun r1 M1 => ((r1 ≤ 0 → P 4 0 v3 v4 M1) ∧ (¬ r1 ≤ 0 → P 3 0 v3 v4 M1)))))))))
theorem blk_X8_isHem_1_mono {v1 : Int32} {Q Q' : Int32 → Mem → Prop} {P P' : Nat → Int32 → Int32 → Int32 → Mem → Prop} (hQ : ∀ (r : Int32) (M : Mem), Q r M → Q' r M) (hP : ∀ (lab : Nat) (v2 : Int32) (v3 : Int32) (v4 : Int32) (M : Mem), P lab v2 v3 v4 M → P' lab v2 v3 v4 M) (v2 : Int32) (v3 : Int32) (v4 : Int32) (M : Mem) (h : blk_X8_isHem_1 v1 Q P v2 v3 v4 M) : blk_X8_isHem_1 v1 Q' P' v2 v3 v4 M := by
  unfold blk_X8_isHem_1 at h ⊢
  exact ⟨fun c => let h := h.1 c; ⟨fun c => let h := h.1 c; hP _ _ _ _ _ h, fun c => let h := h.2 c; ⟨fun c => let h := h.1 c; hQ _ _ h, fun c => let h := h.2 c; hP _ _ _ _ _ h⟩⟩, fun c => let h := h.2 c; ⟨fun c => let h := h.1 c; hP _ _ _ _ _ h, fun c => let h := h.2 c; ⟨h.1, let h := h.2; ⟨h.1, let h := h.2; wp_X8_side_mono (fun r1 M1 h => ⟨fun c => let h := h.1 c; hP _ _ _ _ _ h, fun c => let h := h.2 c; hP _ _ _ _ _ h⟩) h⟩⟩⟩⟩
def blk_X8_isHem_2 (v1 : Int32) (Q : Int32 → Mem → Prop) (P : Nat → Int32 → Int32 → Int32 → Mem → Prop) (v2 : Int32) (v3 : Int32) (v4 : Int32) (M : Mem) : Prop :=
  Q 1 M
theorem blk_X8_isHem_2_mono {v1 : Int32} {Q Q' : Int32 → Mem → Prop} {P P' : Nat → Int32 → Int32 → Int32 → Mem → Prop} (hQ : ∀ (r : Int32) (M : Mem), Q r M → Q' r M) (hP : ∀ (lab : Nat) (v2 : Int32) (v3 : Int32) (v4 : Int32) (M : Mem), P lab v2 v3 v4 M → P' lab v2 v3 v4 M) (v2 : Int32) (v3 : Int32) (v4 : Int32) (M : Mem) (h : blk_X8_isHem_2 v1 Q P v2 v3 v4 M) : blk_X8_isHem_2 v1 Q' P' v2 v3 v4 M := by
  unfold blk_X8_isHem_2 at h ⊢
  exact hQ _ _ h
def blk_X8_isHem_3 (v1 : Int32) (Q : Int32 → Mem → Prop) (P : Nat → Int32 → Int32 → Int32 → Mem → Prop) (v2 : Int32) (v3 : Int32) (v4 : Int32) (M : Mem) : Prop :=
  P 4 1 v3 v4 M
theorem blk_X8_isHem_3_mono {v1 : Int32} {Q Q' : Int32 → Mem → Prop} {P P' : Nat → Int32 → Int32 → Int32 → Mem → Prop} (hQ : ∀ (r : Int32) (M : Mem), Q r M → Q' r M) (hP : ∀ (lab : Nat) (v2 : Int32) (v3 : Int32) (v4 : Int32) (M : Mem), P lab v2 v3 v4 M → P' lab v2 v3 v4 M) (v2 : Int32) (v3 : Int32) (v4 : Int32) (M : Mem) (h : blk_X8_isHem_3 v1 Q P v2 v3 v4 M) : blk_X8_isHem_3 v1 Q' P' v2 v3 v4 M := by
  unfold blk_X8_isHem_3 at h ⊢
  exact hP _ _ _ _ _ h
def blk_X8_isHem_4 (v1 : Int32) (Q : Int32 → Mem → Prop) (P : Nat → Int32 → Int32 → Int32 → Mem → Prop) (v2 : Int32) (v3 : Int32) (v4 : Int32) (M : Mem) : Prop :=
  ((¬ v3 = 0 → P 5 v2 0 v4 M) ∧ (v3 = 0 → (vp_in v1 28 ∧ (vp_in v1 28 ∧ wp_X8_side (M.1 8 v1.toNatClampNeg) (M.1 9 v1.toNatClampNeg) v4 M (fun r2 M2 => ((0 ≤ r2 → P 6 v2 0 v4 M2) ∧ (¬ 0 ≤ r2 → P 5 v2 0 v4 M2)))))))
theorem blk_X8_isHem_4_mono {v1 : Int32} {Q Q' : Int32 → Mem → Prop} {P P' : Nat → Int32 → Int32 → Int32 → Mem → Prop} (hQ : ∀ (r : Int32) (M : Mem), Q r M → Q' r M) (hP : ∀ (lab : Nat) (v2 : Int32) (v3 : Int32) (v4 : Int32) (M : Mem), P lab v2 v3 v4 M → P' lab v2 v3 v4 M) (v2 : Int32) (v3 : Int32) (v4 : Int32) (M : Mem) (h : blk_X8_isHem_4 v1 Q P v2 v3 v4 M) : blk_X8_isHem_4 v1 Q' P' v2 v3 v4 M := by
  unfold blk_X8_isHem_4 at h ⊢
  exact ⟨fun c => let h := h.1 c; hP _ _ _ _ _ h, fun c => let h := h.2 c; ⟨h.1, let h := h.2; ⟨h.1, let h := h.2; wp_X8_side_mono (fun r2 M2 h => ⟨fun c => let h := h.1 c; hP _ _ _ _ _ h, fun c => let h := h.2 c; hP _ _ _ _ _ h⟩) h⟩⟩⟩
def blk_X8_isHem_5 (v1 : Int32) (Q : Int32 → Mem → Prop) (P : Nat → Int32 → Int32 → Int32 → Mem → Prop) (v2 : Int32) (v3 : Int32) (v4 : Int32) (M : Mem) : Prop :=
  P 6 v2 1 v4 M
theorem blk_X8_isHem_5_mono {v1 : Int32} {Q Q' : Int32 → Mem → Prop} {P P' : Nat → Int32 → Int32 → Int32 → Mem → Prop} (hQ : ∀ (r : Int32) (M : Mem), Q r M → Q' r M) (hP : ∀ (lab : Nat) (v2 : Int32) (v3 : Int32) (v4 : Int32) (M : Mem), P lab v2 v3 v4 M → P' lab v2 v3 v4 M) (v2 : Int32) (v3 : Int32) (v4 : Int32) (M : Mem) (h : blk_X8_isHem_5 v1 Q P v2 v3 v4 M) : blk_X8_isHem_5 v1 Q' P' v2 v3 v4 M := by
  unfold blk_X8_isHem_5 at h ⊢
  exact hP _ _ _ _ _ h
def blk_X8_isHem_6 (v1 : Int32) (Q : Int32 → Mem → Prop) (P : Nat → Int32 → Int32 → Int32 → Mem → Prop) (v2 : Int32) (v3 : Int32) (v4 : Int32) (M : Mem) : Prop :=
  P 1 v2 v3 (v4 + 1) M
theorem blk_X8_isHem_6_mono {v1 : Int32} {Q Q' : Int32 → Mem → Prop} {P P' : Nat → Int32 → Int32 → Int32 → Mem → Prop} (hQ : ∀ (r : Int32) (M : Mem), Q r M → Q' r M) (hP : ∀ (lab : Nat) (v2 : Int32) (v3 : Int32) (v4 : Int32) (M : Mem), P lab v2 v3 v4 M → P' lab v2 v3 v4 M) (v2 : Int32) (v3 : Int32) (v4 : Int32) (M : Mem) (h : blk_X8_isHem_6 v1 Q P v2 v3 v4 M) : blk_X8_isHem_6 v1 Q' P' v2 v3 v4 M := by
  unfold blk_X8_isHem_6 at h ⊢
  exact hP _ _ _ _ _ h
def blk_X8_isHem (v1 : Int32) (Q : Int32 → Mem → Prop) (P : Nat → Int32 → Int32 → Int32 → Mem → Prop) : Nat → Int32 → Int32 → Int32 → Mem → Prop := fun lab v2 v3 v4 M => match lab with
  | 0 => blk_X8_isHem_0 v1 Q P v2 v3 v4 M
  | 1 => blk_X8_isHem_1 v1 Q P v2 v3 v4 M
  | 2 => blk_X8_isHem_2 v1 Q P v2 v3 v4 M
  | 3 => blk_X8_isHem_3 v1 Q P v2 v3 v4 M
  | 4 => blk_X8_isHem_4 v1 Q P v2 v3 v4 M
  | 5 => blk_X8_isHem_5 v1 Q P v2 v3 v4 M
  | 6 => blk_X8_isHem_6 v1 Q P v2 v3 v4 M
  | _ => False
theorem blk_X8_isHem_mono {v1 : Int32} {Q Q' : Int32 → Mem → Prop} {P P' : Nat → Int32 → Int32 → Int32 → Mem → Prop} (hQ : ∀ (r : Int32) (M : Mem), Q r M → Q' r M) (hP : ∀ (lab : Nat) (v2 : Int32) (v3 : Int32) (v4 : Int32) (M : Mem), P lab v2 v3 v4 M → P' lab v2 v3 v4 M) : ∀ (lab : Nat) (v2 : Int32) (v3 : Int32) (v4 : Int32) (M : Mem), blk_X8_isHem v1 Q P lab v2 v3 v4 M → blk_X8_isHem v1 Q' P' lab v2 v3 v4 M := fun lab v2 v3 v4 M h => match lab, h with
  | 0, h => blk_X8_isHem_0_mono (v1 := v1) hQ hP v2 v3 v4 M h
  | 1, h => blk_X8_isHem_1_mono (v1 := v1) hQ hP v2 v3 v4 M h
  | 2, h => blk_X8_isHem_2_mono (v1 := v1) hQ hP v2 v3 v4 M h
  | 3, h => blk_X8_isHem_3_mono (v1 := v1) hQ hP v2 v3 v4 M h
  | 4, h => blk_X8_isHem_4_mono (v1 := v1) hQ hP v2 v3 v4 M h
  | 5, h => blk_X8_isHem_5_mono (v1 := v1) hQ hP v2 v3 v4 M h
  | 6, h => blk_X8_isHem_6_mono (v1 := v1) hQ hP v2 v3 v4 M h
  | _ + 7, h => False.elim h
def at_X8_isHem (v1 : Int32) (Q : Int32 → Mem → Prop) : Nat → Int32 → Int32 → Int32 → Mem → Prop := fun lab v2 v3 v4 M => ∀ P : Nat → Int32 → Int32 → Int32 → Mem → Prop, (∀ (lab : Nat) (v2 : Int32) (v3 : Int32) (v4 : Int32) (M : Mem), blk_X8_isHem v1 Q P lab v2 v3 v4 M → P lab v2 v3 v4 M) → P lab v2 v3 v4 M
theorem at_X8_isHem_fold {v1 : Int32} {Q : Int32 → Mem → Prop} {lab : Nat} {v2 : Int32} {v3 : Int32} {v4 : Int32} {M : Mem} (h : blk_X8_isHem v1 Q (at_X8_isHem v1 Q) lab v2 v3 v4 M) : at_X8_isHem v1 Q lab v2 v3 v4 M := fun P hP => hP _ _ _ _ _ (blk_X8_isHem_mono (fun _ _ h => h) (fun _ _ _ _ _ h => h P hP) _ _ _ _ _ h)
theorem at_X8_isHem_mono {v1 : Int32} {Q Q' : Int32 → Mem → Prop} (hQ : ∀ (r : Int32) (M : Mem), Q r M → Q' r M) {lab : Nat} {v2 : Int32} {v3 : Int32} {v4 : Int32} {M : Mem} (h : at_X8_isHem v1 Q lab v2 v3 v4 M) : at_X8_isHem v1 Q' lab v2 v3 v4 M := fun P hP => h P (fun lab v2 v3 v4 M hb => hP _ _ _ _ _ (blk_X8_isHem_mono hQ (fun _ _ _ _ _ h => h) _ _ _ _ _ hb))
def wp_X8_isHem (v1 : Int32) (M : Mem) (Q : Int32 → Mem → Prop) : Prop := at_X8_isHem v1 Q 0 0 0 0 M
theorem wp_X8_isHem_mono {v1 : Int32} {M : Mem} {Q Q' : Int32 → Mem → Prop} (hQ : ∀ (r : Int32) (M : Mem), Q r M → Q' r M) (h : wp_X8_isHem v1 M Q) : wp_X8_isHem v1 M Q' := at_X8_isHem_mono hQ h
def pcl_X8_isHem : Nat → Nat := fun lab => match lab with
  | 0 => 0
  | 1 => 7
  | 2 => 92
  | 3 => 41
  | 4 => 47
  | 5 => 72
  | 6 => 78
  | _ => 0
def lvl_X8_isHem (ad : Nat → Nat) (v1 : Int32) : Nat → Int32 → Int32 → Int32 → List (Nat × Value) := fun lab v2 v3 v4 => match lab with
  | 0 => [(0, .ref (ad 0)), (1, .int v1)]
  | 1 => [(0, .ref (ad 0)), (1, .int v1), (2, .int v2), (3, .int v3), (4, .int v4)]
  | 2 => []
  | 3 => [(0, .ref (ad 0)), (1, .int v1), (3, .int v3), (4, .int v4)]
  | 4 => [(0, .ref (ad 0)), (1, .int v1), (2, .int v2), (3, .int v3), (4, .int v4)]
  | 5 => [(0, .ref (ad 0)), (1, .int v1), (2, .int v2), (4, .int v4)]
  | 6 => [(0, .ref (ad 0)), (1, .int v1), (2, .int v2), (3, .int v3), (4, .int v4)]
  | _ => []
abbrev rm_X8_isHem : Jvm.Room := { frames := 2, cells := 0, slots := 0, locals := 40 }
set_option maxHeartbeats 4000000 in
set_option maxRecDepth 100000 in
theorem ct_X8_isHem (l : Launch) (D : va_G) (cy : Nat → ClassId) (ad : Nat → Nat) (B : Nat → Prop) (v1 : Int32) (M : Mem) (Q : Int32 → Mem → Prop) (h : wp_X8_isHem v1 M Q) : CTi l D cy (wR ad cy) B yX8_isHem wsX8_isHem rm_X8_isHem [.ref (ad 0), .int v1] M Q := by
  intro sz
  refine Met.ofW (cc := cX8_isHem) (maxL := 5) (ret := some .boolean) (by decide) rfl ?_
  intro p e s m args below meth c s₁ Bd hml hv
  obtain ⟨hargs, hsz, hP, hK, hD⟩ := hv
  subst hsz
  have hx := Bd.exec
  have hb := Bd.bytes
  have hr := Bd.returns
  have hts := atoms_spec (ws := wsX8_isHem) Bd.pre
  have hown : s.vm.findClass RX8 = some m.cls := findClass_of_methodNamed Bd.named
  have hlocks := Bd.notSynchronized
  have hC8 : xC wsX8_isHem 8 RX8 TX8 34 := ⟨by decide +kernel, rfl⟩
  have key : ∀ (P : Nat → Int32 → Int32 → Int32 → Mem → Prop), (∀ (lab : Nat) (v2 : Int32) (v3 : Int32) (v4 : Int32) (M : Mem), P lab v2 v3 v4 M → ∀ (H : Heap) (locs : List Loc) (ls : Array Slot), xS D (wR ad cy) B s.heap H locs M → lv_has ls 5 (lvl_X8_isHem ad v1 lab v2 v3 v4 ) → W p l e (headSpec wsX8_isHem rm_X8_isHem).room s m args below meth c H locs 0 0 (MQ below (va_Qi (S := Mem) Q (xB D (wR ad cy) B) (xA B s.heap.size)) args s 0 0 (xA B s.heap.size)) (F0 m (pcl_X8_isHem lab) ls [])) → ∀ (lab : Nat) (v2 : Int32) (v3 : Int32) (v4 : Int32) (M : Mem), blk_X8_isHem v1 Q P lab v2 v3 v4 M → ∀ (H : Heap) (locs : List Loc) (ls : Array Slot), xS D (wR ad cy) B s.heap H locs M → lv_has ls 5 (lvl_X8_isHem ad v1 lab v2 v3 v4 ) → W p l e (headSpec wsX8_isHem rm_X8_isHem).room s m args below meth c H locs 0 0 (MQ below (va_Qi (S := Mem) Q (xB D (wR ad cy) B) (xA B s.heap.size)) args s 0 0 (xA B s.heap.size)) (F0 m (pcl_X8_isHem lab) ls []) := by
    intro P hJ lab v2 v3 v4 M h H locs ls S hl
    match lab, h, hl with
    | 0, h, hl =>
      have hl : lv_has ls 5 [(0, .ref (ad 0)), (1, .int v1)] := hl
      have h : blk_X8_isHem_0 v1 Q P v2 v3 v4 M := h
      unfold blk_X8_isHem_0 at h
      refine W.eq (g2 := F0 m 0 ls []) rfl ?_
      refine lv_iconst (v := 0) hx hb dX8_isHem_0 (by decide) ?_
      refine lv_istore_n (lv' := [(2, .int 0), (0, .ref (ad 0)), (1, .int v1)]) hx hb dX8_isHem_1 rfl hl (by decide) rfl (fun ls hl => ?_)
      refine lv_iconst (v := 0) hx hb dX8_isHem_2 (by decide) ?_
      refine lv_istore_n (lv' := [(3, .int 0), (2, .int 0), (0, .ref (ad 0)), (1, .int v1)]) hx hb dX8_isHem_3 rfl hl (by decide) rfl (fun ls hl => ?_)
      refine lv_iconst (v := 0) hx hb dX8_isHem_4 (by decide) ?_
      refine lv_istore (lv' := [(4, .int 0), (3, .int 0), (2, .int 0), (0, .ref (ad 0)), (1, .int v1)]) hx hb dX8_isHem_5 hl (by decide) rfl (fun ls hl => ?_)
      exact hJ _ _ _ _ _ h _ _ _ S (lv_sub hl [3, 4, 2, 1, 0] rfl)
    | 1, h, hl =>
      have hl : lv_has ls 5 [(0, .ref (ad 0)), (1, .int v1), (2, .int v2), (3, .int v3), (4, .int v4)] := hl
      have h : blk_X8_isHem_1 v1 Q P v2 v3 v4 M := h
      unfold blk_X8_isHem_1 at h
      refine W.eq (g2 := F0 m 7 ls []) rfl ?_
      refine lv_iload hx hb dX8_isHem_7 (lv_at hl 4 rfl) ?_
      refine lv_aload_n hx hb dX8_isHem_9 rfl (lv_at hl 0 rfl) ?_
      refine x_getI hx hb hts (hC8) hown hK S 9 (by decide) rf_0_9 (index := 109) (hts _ (List.mem_of_getElem? (i := 1) rfl)) dX8_isHem_10 ?_
      refine lv_icmp_ge (tgt := 84) hx hb dX8_isHem_13 (by decide) (fun c13 => ?_) (fun c13 => ?_)
      · replace h := h.1 c13
        refine lv_iload_n hx hb dX8_isHem_84 rfl (lv_at hl 2 rfl) ?_
        refine lv_if_eq (tgt := 92) hx hb dX8_isHem_85 (by decide) (fun c85 => ?_) (fun c85 => ?_)
        · replace h := h.1 c85
          exact hJ _ _ _ _ _ h _ _ _ S (lv_sub hl [] rfl)
        · replace h := h.2 c85
          refine lv_iload_n hx hb dX8_isHem_88 rfl (lv_at hl 3 rfl) ?_
          refine lv_if_ne (tgt := 96) hx hb dX8_isHem_89 (by decide) (fun c89 => ?_) (fun c89 => ?_)
          · replace h := h.1 c89
            refine lv_iconst (v := 0) hx hb dX8_isHem_96 (by decide) ?_
            exact x_iret hx hb hr hlocks S rfl h dX8_isHem_97
          · replace h := h.2 c89
            exact hJ _ _ _ _ _ h _ _ _ S (lv_sub hl [] rfl)
      · replace h := h.2 c13
        refine lv_iload_n hx hb dX8_isHem_16 rfl (lv_at hl 2 rfl) ?_
        refine lv_if_ne (tgt := 41) hx hb dX8_isHem_17 (by decide) (fun c17 => ?_) (fun c17 => ?_)
        · replace h := h.1 c17
          exact hJ _ _ _ _ _ h _ _ _ S (lv_sub hl [0, 1, 3, 4] rfl)
        · replace h := h.2 c17
          refine lv_aload_n hx hb dX8_isHem_20 rfl (lv_at hl 0 rfl) ?_
          refine lv_aload_n hx hb dX8_isHem_21 rfl (lv_at hl 0 rfl) ?_
          refine x_getR hx hb hts (hC8) hown hK S 13 (by decide) rf_0_13 (index := 32) (hts _ (List.mem_of_getElem? (i := 2) rfl)) dX8_isHem_22 ?_
          refine lv_iload_n hx hb dX8_isHem_25 rfl (lv_at hl 1 rfl) ?_
          refine x_iald hx hb hK S ra_8 h.1 dX8_isHem_26 ?_
          replace h := h.2
          refine lv_aload_n hx hb dX8_isHem_27 rfl (lv_at hl 0 rfl) ?_
          refine x_getR hx hb hts (hC8) hown hK S 14 (by decide) rf_0_14 (index := 35) (hts _ (List.mem_of_getElem? (i := 3) rfl)) dX8_isHem_28 ?_
          refine lv_iload_n hx hb dX8_isHem_31 rfl (lv_at hl 1 rfl) ?_
          refine x_iald hx hb hK S ra_9 h.1 dX8_isHem_32 ?_
          replace h := h.2
          refine lv_iload hx hb dX8_isHem_33 (lv_at hl 4 rfl) ?_
          refine x_callVi (As := [.int (M.1 8 v1.toNatClampNeg), .int (M.1 9 v1.toNatClampNeg), .int v4]) ⟨hx, hb, hml, hown, hts⟩ hK S (ct_X8_side l D cy ad B _ _ _ _ _ h) ro_0 rfl (cwV 3 hts gX8_isHem_X8_side rfl rfl rfl (by decide +kernel) ⟨Nat.le_of_ble_eq_true rfl, Nat.le_of_ble_eq_true rfl⟩) rfl hl.1 rfl (Nat.le_of_ble_eq_true rfl) dX8_isHem_35 ⟨Nat.zero_le _, Nat.zero_le _⟩ (fun r1 M1 H locs h S => ?_)
          refine lv_if_le (tgt := 45) hx hb dX8_isHem_38 (by decide) (fun c38 => ?_) (fun c38 => ?_)
          · replace h := h.1 c38
            refine lv_iconst (v := 0) hx hb dX8_isHem_45 (by decide) ?_
            refine lv_istore_n (lv' := [(2, .int 0), (0, .ref (ad 0)), (1, .int v1), (3, .int v3), (4, .int v4)]) hx hb dX8_isHem_46 rfl hl (by decide) rfl (fun ls hl => ?_)
            exact hJ _ _ _ _ _ h _ _ _ S (lv_sub hl [1, 2, 0, 3, 4] rfl)
          · replace h := h.2 c38
            exact hJ _ _ _ _ _ h _ _ _ S (lv_sub hl [0, 1, 3, 4] rfl)
    | 2, h, hl =>
      have hl : lv_has ls 5 [] := hl
      have h : blk_X8_isHem_2 v1 Q P v2 v3 v4 M := h
      unfold blk_X8_isHem_2 at h
      refine W.eq (g2 := F0 m 92 ls []) rfl ?_
      refine lv_iconst (v := 1) hx hb dX8_isHem_92 (by decide) ?_
      refine lv_goto (tgt := 97) hx hb dX8_isHem_93 (by decide) ?_
      exact x_iret hx hb hr hlocks S rfl h dX8_isHem_97
    | 3, h, hl =>
      have hl : lv_has ls 5 [(0, .ref (ad 0)), (1, .int v1), (3, .int v3), (4, .int v4)] := hl
      have h : blk_X8_isHem_3 v1 Q P v2 v3 v4 M := h
      unfold blk_X8_isHem_3 at h
      refine W.eq (g2 := F0 m 41 ls []) rfl ?_
      refine lv_iconst (v := 1) hx hb dX8_isHem_41 (by decide) ?_
      refine lv_goto (tgt := 46) hx hb dX8_isHem_42 (by decide) ?_
      refine lv_istore_n (lv' := [(2, .int 1), (0, .ref (ad 0)), (1, .int v1), (3, .int v3), (4, .int v4)]) hx hb dX8_isHem_46 rfl hl (by decide) rfl (fun ls hl => ?_)
      exact hJ _ _ _ _ _ h _ _ _ S (lv_sub hl [1, 2, 0, 3, 4] rfl)
    | 4, h, hl =>
      have hl : lv_has ls 5 [(0, .ref (ad 0)), (1, .int v1), (2, .int v2), (3, .int v3), (4, .int v4)] := hl
      have h : blk_X8_isHem_4 v1 Q P v2 v3 v4 M := h
      unfold blk_X8_isHem_4 at h
      refine W.eq (g2 := F0 m 47 ls []) rfl ?_
      refine lv_iload_n hx hb dX8_isHem_47 rfl (lv_at hl 3 rfl) ?_
      refine lv_if_ne (tgt := 72) hx hb dX8_isHem_48 (by decide) (fun c48 => ?_) (fun c48 => ?_)
      · replace h := h.1 c48
        exact hJ _ _ _ _ _ h _ _ _ S (lv_sub hl [0, 1, 2, 4] rfl)
      · replace h := h.2 c48
        refine lv_aload_n hx hb dX8_isHem_51 rfl (lv_at hl 0 rfl) ?_
        refine lv_aload_n hx hb dX8_isHem_52 rfl (lv_at hl 0 rfl) ?_
        refine x_getR hx hb hts (hC8) hown hK S 13 (by decide) rf_0_13 (index := 32) (hts _ (List.mem_of_getElem? (i := 2) rfl)) dX8_isHem_53 ?_
        refine lv_iload_n hx hb dX8_isHem_56 rfl (lv_at hl 1 rfl) ?_
        refine x_iald hx hb hK S ra_8 h.1 dX8_isHem_57 ?_
        replace h := h.2
        refine lv_aload_n hx hb dX8_isHem_58 rfl (lv_at hl 0 rfl) ?_
        refine x_getR hx hb hts (hC8) hown hK S 14 (by decide) rf_0_14 (index := 35) (hts _ (List.mem_of_getElem? (i := 3) rfl)) dX8_isHem_59 ?_
        refine lv_iload_n hx hb dX8_isHem_62 rfl (lv_at hl 1 rfl) ?_
        refine x_iald hx hb hK S ra_9 h.1 dX8_isHem_63 ?_
        replace h := h.2
        refine lv_iload hx hb dX8_isHem_64 (lv_at hl 4 rfl) ?_
        refine x_callVi (As := [.int (M.1 8 v1.toNatClampNeg), .int (M.1 9 v1.toNatClampNeg), .int v4]) ⟨hx, hb, hml, hown, hts⟩ hK S (ct_X8_side l D cy ad B _ _ _ _ _ h) ro_0 rfl (cwV 3 hts gX8_isHem_X8_side rfl rfl rfl (by decide +kernel) ⟨Nat.le_of_ble_eq_true rfl, Nat.le_of_ble_eq_true rfl⟩) rfl hl.1 rfl (Nat.le_of_ble_eq_true rfl) dX8_isHem_66 ⟨Nat.zero_le _, Nat.zero_le _⟩ (fun r2 M2 H locs h S => ?_)
        refine lv_if_ge (tgt := 76) hx hb dX8_isHem_69 (by decide) (fun c69 => ?_) (fun c69 => ?_)
        · replace h := h.1 c69
          refine lv_iconst (v := 0) hx hb dX8_isHem_76 (by decide) ?_
          refine lv_istore_n (lv' := [(3, .int 0), (0, .ref (ad 0)), (1, .int v1), (2, .int v2), (4, .int v4)]) hx hb dX8_isHem_77 rfl hl (by decide) rfl (fun ls hl => ?_)
          exact hJ _ _ _ _ _ h _ _ _ S (lv_sub hl [1, 2, 3, 0, 4] rfl)
        · replace h := h.2 c69
          exact hJ _ _ _ _ _ h _ _ _ S (lv_sub hl [0, 1, 2, 4] rfl)
    | 5, h, hl =>
      have hl : lv_has ls 5 [(0, .ref (ad 0)), (1, .int v1), (2, .int v2), (4, .int v4)] := hl
      have h : blk_X8_isHem_5 v1 Q P v2 v3 v4 M := h
      unfold blk_X8_isHem_5 at h
      refine W.eq (g2 := F0 m 72 ls []) rfl ?_
      refine lv_iconst (v := 1) hx hb dX8_isHem_72 (by decide) ?_
      refine lv_goto (tgt := 77) hx hb dX8_isHem_73 (by decide) ?_
      refine lv_istore_n (lv' := [(3, .int 1), (0, .ref (ad 0)), (1, .int v1), (2, .int v2), (4, .int v4)]) hx hb dX8_isHem_77 rfl hl (by decide) rfl (fun ls hl => ?_)
      exact hJ _ _ _ _ _ h _ _ _ S (lv_sub hl [1, 2, 3, 0, 4] rfl)
    | 6, h, hl =>
      have hl : lv_has ls 5 [(0, .ref (ad 0)), (1, .int v1), (2, .int v2), (3, .int v3), (4, .int v4)] := hl
      have h : blk_X8_isHem_6 v1 Q P v2 v3 v4 M := h
      unfold blk_X8_isHem_6 at h
      refine W.eq (g2 := F0 m 78 ls []) rfl ?_
      refine lv_iinc (v := (v4 + 1)) (lv' := [(4, .int (v4 + 1)), (0, .ref (ad 0)), (1, .int v1), (2, .int v2), (3, .int v3)]) hx hb dX8_isHem_78 hl (k := 4) rfl rfl (by decide) rfl (fun ls hl => ?_)
      refine lv_goto (tgt := 7) hx hb dX8_isHem_81 (by decide) ?_
      exact hJ _ _ _ _ _ h _ _ _ S (lv_sub hl [1, 2, 3, 4, 0] rfl)
    | _ + 7, h, hl => exact h.elim
  have hl := lv_entry ([.ref (ad 0), .int v1]) (n := 5) (Nat.le_of_ble_eq_true rfl)
  subst hargs
  rw [lg_entry_eq]
  generalize (lg_sl ([.ref (ad 0), .int v1]) ++ List.replicate (5 - (lg_sl ([.ref (ad 0), .int v1])).length) Slot.unset).toArray = ls at hl ⊢
  exact h _ (key _ (fun _ _ _ _ _ h => h)) s.heap [] ls ⟨hP, hD, va_S.rf⟩ hl
/-! X8_hasFence -/
def wp_X8_hasFence (v1 : Int32) (v2 : Int32) (v3 : Int32) (M : Mem) (Q : Int32 → Mem → Prop) : Prop :=
  (vp_in ((8 * v2) + v3) 64 ∧ (((M.1 10 ((8 * v2) + v3).toNatClampNeg) = (-9) → Q 0 M) ∧ (¬ (M.1 10 ((8 * v2) + v3).toNatClampNeg) = (-9) → ((¬ ((v1 >>> ((M.1 10 ((8 * v2) + v3).toNatClampNeg) &&& 31)) &&& (1 : Int32)) = 1 → Q 0 M) ∧ (((v1 >>> ((M.1 10 ((8 * v2) + v3).toNatClampNeg) &&& 31)) &&& (1 : Int32)) = 1 → Q 1 M)))))
theorem wp_X8_hasFence_mono {v1 : Int32} {v2 : Int32} {v3 : Int32} {M : Mem} {Q Q' : Int32 → Mem → Prop} (hQ : ∀ (r : Int32) (M : Mem), Q r M → Q' r M) (h : wp_X8_hasFence v1 v2 v3 M Q) : wp_X8_hasFence v1 v2 v3 M Q' := by
  unfold wp_X8_hasFence at h ⊢
  exact ⟨h.1, let h := h.2; ⟨fun c => let h := h.1 c; hQ _ _ h, fun c => let h := h.2 c; ⟨fun c => let h := h.1 c; hQ _ _ h, fun c => let h := h.2 c; hQ _ _ h⟩⟩⟩
abbrev rm_X8_hasFence : Jvm.Room := { frames := 1, cells := 0, slots := 0, locals := 16 }
set_option maxHeartbeats 4000000 in
set_option maxRecDepth 100000 in
theorem ct_X8_hasFence (l : Launch) (D : va_G) (cy : Nat → ClassId) (ad : Nat → Nat) (B : Nat → Prop) (v1 : Int32) (v2 : Int32) (v3 : Int32) (M : Mem) (Q : Int32 → Mem → Prop) (h : wp_X8_hasFence v1 v2 v3 M Q) : CTi l D cy (wR ad cy) B yX8_hasFence wsX8_hasFence rm_X8_hasFence [.ref (ad 0), .int v1, .int v2, .int v3] M Q := by
  intro sz
  refine Met.ofW (cc := cX8_hasFence) (maxL := 5) (ret := some .boolean) (by decide) rfl ?_
  intro p e s m args below meth c s₁ Bd hml hv
  obtain ⟨hargs, hsz, hP, hK, hD⟩ := hv
  subst hsz
  have hx := Bd.exec
  have hb := Bd.bytes
  have hr := Bd.returns
  have hts := atoms_spec (ws := wsX8_hasFence) Bd.pre
  have hown : s.vm.findClass RX8 = some m.cls := findClass_of_methodNamed Bd.named
  have hlocks := Bd.notSynchronized
  have hC8 : xC wsX8_hasFence 8 RX8 TX8 34 := ⟨by decide +kernel, rfl⟩
  have hl := lv_entry ([.ref (ad 0), .int v1, .int v2, .int v3]) (n := 5) (Nat.le_of_ble_eq_true rfl)
  subst hargs
  rw [lg_entry_eq]
  generalize (lg_sl ([.ref (ad 0), .int v1, .int v2, .int v3]) ++ List.replicate (5 - (lg_sl ([.ref (ad 0), .int v1, .int v2, .int v3])).length) Slot.unset).toArray = ls at hl ⊢
  have hl : lv_has ls 5 [(0, .ref (ad 0)), (1, .int v1), (2, .int v2), (3, .int v3)] := hl
  have S : xS D (wR ad cy) B s.heap s.heap [] M := ⟨hP, hD, va_S.rf⟩
  unfold wp_X8_hasFence at h
  refine lv_aload_n hx hb dX8_hasFence_0 rfl (lv_at hl 0 rfl) ?_
  refine x_getR hx hb hts (hC8) hown hK S 15 (by decide) rf_0_15 (index := 38) (hts _ (List.mem_of_getElem? (i := 1) rfl)) dX8_hasFence_1 ?_
  refine lv_bipush (v := 8) hx hb dX8_hasFence_4 (by decide) ?_
  refine lv_iload_n hx hb dX8_hasFence_6 rfl (lv_at hl 2 rfl) ?_
  refine lv_imul hx hb dX8_hasFence_7 ?_
  refine lv_iload_n hx hb dX8_hasFence_8 rfl (lv_at hl 3 rfl) ?_
  refine lv_iadd hx hb dX8_hasFence_9 ?_
  refine x_iald hx hb hK S ra_10 h.1 dX8_hasFence_10 ?_
  replace h := h.2
  refine lv_istore (lv' := [(4, .int (M.1 10 ((8 * v2) + v3).toNatClampNeg)), (0, .ref (ad 0)), (1, .int v1), (2, .int v2), (3, .int v3)]) hx hb dX8_hasFence_11 hl (by decide) rfl (fun ls hl => ?_)
  refine lv_iload hx hb dX8_hasFence_13 (lv_at hl 0 rfl) ?_
  refine lv_bipush (v := (-9)) hx hb dX8_hasFence_15 (by decide) ?_
  refine lv_icmp_eq (tgt := 34) hx hb dX8_hasFence_17 (by decide) (fun c17 => ?_) (fun c17 => ?_)
  · replace h := h.1 c17
    refine lv_iconst (v := 0) hx hb dX8_hasFence_34 (by decide) ?_
    exact x_iret hx hb hr hlocks S rfl h dX8_hasFence_35
  · replace h := h.2 c17
    refine lv_iload_n hx hb dX8_hasFence_20 rfl (lv_at hl 2 rfl) ?_
    refine lv_iload hx hb dX8_hasFence_21 (lv_at hl 0 rfl) ?_
    refine lv_ishr hx hb dX8_hasFence_23 ?_
    refine lv_iconst (v := 1) hx hb dX8_hasFence_24 (by decide) ?_
    refine lv_iand hx hb dX8_hasFence_25 ?_
    refine lv_iconst (v := 1) hx hb dX8_hasFence_26 (by decide) ?_
    refine lv_icmp_ne (tgt := 34) hx hb dX8_hasFence_27 (by decide) (fun c27 => ?_) (fun c27 => ?_)
    · replace h := h.1 c27
      refine lv_iconst (v := 0) hx hb dX8_hasFence_34 (by decide) ?_
      exact x_iret hx hb hr hlocks S rfl h dX8_hasFence_35
    · replace h := h.2 c27
      refine lv_iconst (v := 1) hx hb dX8_hasFence_30 (by decide) ?_
      refine lv_goto (tgt := 35) hx hb dX8_hasFence_31 (by decide) ?_
      exact x_iret hx hb hr hlocks S rfl h dX8_hasFence_35
/-! X8_isWithin -/
def wp_X8_isWithin (v1 : Int32) (v2 : Int32) (v3 : Int32) (v4 : Int32) (M : Mem) (Q : Int32 → Mem → Prop) : Prop :=
  wp_X8_side v1 v2 v4 M (fun r1 M1 => ((r1 = 0 → Q 0 M1) ∧ (¬ r1 = 0 → wp_X8_side v2 v3 v4 M1 (fun r2 M2 => ((¬ r1 = r2 → Q 0 M2) ∧ (r1 = r2 → wp_X8_side v3 v1 v4 M2 (fun r3 M3 => ((¬ r1 = r3 → Q 0 M3) ∧ (r1 = r3 → Q 1 M3)))))))))
theorem wp_X8_isWithin_mono {v1 : Int32} {v2 : Int32} {v3 : Int32} {v4 : Int32} {M : Mem} {Q Q' : Int32 → Mem → Prop} (hQ : ∀ (r : Int32) (M : Mem), Q r M → Q' r M) (h : wp_X8_isWithin v1 v2 v3 v4 M Q) : wp_X8_isWithin v1 v2 v3 v4 M Q' := by
  unfold wp_X8_isWithin at h ⊢
  exact wp_X8_side_mono (fun r1 M1 h => ⟨fun c => let h := h.1 c; hQ _ _ h, fun c => let h := h.2 c; wp_X8_side_mono (fun r2 M2 h => ⟨fun c => let h := h.1 c; hQ _ _ h, fun c => let h := h.2 c; wp_X8_side_mono (fun r3 M3 h => ⟨fun c => let h := h.1 c; hQ _ _ h, fun c => let h := h.2 c; hQ _ _ h⟩) h⟩) h⟩) h
abbrev rm_X8_isWithin : Jvm.Room := { frames := 2, cells := 0, slots := 0, locals := 40 }
set_option maxHeartbeats 4000000 in
set_option maxRecDepth 100000 in
theorem ct_X8_isWithin (l : Launch) (D : va_G) (cy : Nat → ClassId) (ad : Nat → Nat) (B : Nat → Prop) (v1 : Int32) (v2 : Int32) (v3 : Int32) (v4 : Int32) (M : Mem) (Q : Int32 → Mem → Prop) (h : wp_X8_isWithin v1 v2 v3 v4 M Q) : CTi l D cy (wR ad cy) B yX8_isWithin wsX8_isWithin rm_X8_isWithin [.ref (ad 0), .int v1, .int v2, .int v3, .int v4] M Q := by
  intro sz
  refine Met.ofW (cc := cX8_isWithin) (maxL := 6) (ret := some .boolean) (by decide) rfl ?_
  intro p e s m args below meth c s₁ Bd hml hv
  obtain ⟨hargs, hsz, hP, hK, hD⟩ := hv
  subst hsz
  have hx := Bd.exec
  have hb := Bd.bytes
  have hr := Bd.returns
  have hts := atoms_spec (ws := wsX8_isWithin) Bd.pre
  have hown : s.vm.findClass RX8 = some m.cls := findClass_of_methodNamed Bd.named
  have hlocks := Bd.notSynchronized
  have hl := lv_entry ([.ref (ad 0), .int v1, .int v2, .int v3, .int v4]) (n := 6) (Nat.le_of_ble_eq_true rfl)
  subst hargs
  rw [lg_entry_eq]
  generalize (lg_sl ([.ref (ad 0), .int v1, .int v2, .int v3, .int v4]) ++ List.replicate (6 - (lg_sl ([.ref (ad 0), .int v1, .int v2, .int v3, .int v4])).length) Slot.unset).toArray = ls at hl ⊢
  have hl : lv_has ls 6 [(0, .ref (ad 0)), (1, .int v1), (2, .int v2), (3, .int v3), (4, .int v4)] := hl
  have S : xS D (wR ad cy) B s.heap s.heap [] M := ⟨hP, hD, va_S.rf⟩
  unfold wp_X8_isWithin at h
  refine lv_aload_n hx hb dX8_isWithin_0 rfl (lv_at hl 0 rfl) ?_
  refine lv_iload_n hx hb dX8_isWithin_1 rfl (lv_at hl 1 rfl) ?_
  refine lv_iload_n hx hb dX8_isWithin_2 rfl (lv_at hl 2 rfl) ?_
  refine lv_iload hx hb dX8_isWithin_3 (lv_at hl 4 rfl) ?_
  refine x_callVi (As := [.int v1, .int v2, .int v4]) ⟨hx, hb, hml, hown, hts⟩ hK S (ct_X8_side l D cy ad B _ _ _ _ _ h) ro_0 rfl (cwV 3 hts gX8_isWithin_X8_side rfl rfl rfl (by decide +kernel) ⟨Nat.le_of_ble_eq_true rfl, Nat.le_of_ble_eq_true rfl⟩) rfl hl.1 rfl (Nat.le_of_ble_eq_true rfl) dX8_isWithin_5 ⟨Nat.zero_le _, Nat.zero_le _⟩ (fun r1 M1 H locs h S => ?_)
  refine lv_istore (lv' := [(5, .int r1), (0, .ref (ad 0)), (1, .int v1), (2, .int v2), (3, .int v3), (4, .int v4)]) hx hb dX8_isWithin_8 hl (by decide) rfl (fun ls hl => ?_)
  refine lv_iload hx hb dX8_isWithin_10 (lv_at hl 0 rfl) ?_
  refine lv_if_eq (tgt := 45) hx hb dX8_isWithin_12 (by decide) (fun c12 => ?_) (fun c12 => ?_)
  · replace h := h.1 c12
    refine lv_iconst (v := 0) hx hb dX8_isWithin_45 (by decide) ?_
    exact x_iret hx hb hr hlocks S rfl h dX8_isWithin_46
  · replace h := h.2 c12
    refine lv_iload hx hb dX8_isWithin_15 (lv_at hl 0 rfl) ?_
    refine lv_aload_n hx hb dX8_isWithin_17 rfl (lv_at hl 1 rfl) ?_
    refine lv_iload_n hx hb dX8_isWithin_18 rfl (lv_at hl 3 rfl) ?_
    refine lv_iload_n hx hb dX8_isWithin_19 rfl (lv_at hl 4 rfl) ?_
    refine lv_iload hx hb dX8_isWithin_20 (lv_at hl 5 rfl) ?_
    refine x_callVi (As := [.int v2, .int v3, .int v4]) ⟨hx, hb, hml, hown, hts⟩ hK S (ct_X8_side l D cy ad B _ _ _ _ _ h) ro_0 rfl (cwV 3 hts gX8_isWithin_X8_side rfl rfl rfl (by decide +kernel) ⟨Nat.le_of_ble_eq_true rfl, Nat.le_of_ble_eq_true rfl⟩) rfl hl.1 rfl (Nat.le_of_ble_eq_true rfl) dX8_isWithin_22 ⟨Nat.zero_le _, Nat.zero_le _⟩ (fun r2 M2 H locs h S => ?_)
    refine lv_icmp_ne (tgt := 45) hx hb dX8_isWithin_25 (by decide) (fun c25 => ?_) (fun c25 => ?_)
    · replace h := h.1 c25
      refine lv_iconst (v := 0) hx hb dX8_isWithin_45 (by decide) ?_
      exact x_iret hx hb hr hlocks S rfl h dX8_isWithin_46
    · replace h := h.2 c25
      refine lv_iload hx hb dX8_isWithin_28 (lv_at hl 0 rfl) ?_
      refine lv_aload_n hx hb dX8_isWithin_30 rfl (lv_at hl 1 rfl) ?_
      refine lv_iload_n hx hb dX8_isWithin_31 rfl (lv_at hl 4 rfl) ?_
      refine lv_iload_n hx hb dX8_isWithin_32 rfl (lv_at hl 2 rfl) ?_
      refine lv_iload hx hb dX8_isWithin_33 (lv_at hl 5 rfl) ?_
      refine x_callVi (As := [.int v3, .int v1, .int v4]) ⟨hx, hb, hml, hown, hts⟩ hK S (ct_X8_side l D cy ad B _ _ _ _ _ h) ro_0 rfl (cwV 3 hts gX8_isWithin_X8_side rfl rfl rfl (by decide +kernel) ⟨Nat.le_of_ble_eq_true rfl, Nat.le_of_ble_eq_true rfl⟩) rfl hl.1 rfl (Nat.le_of_ble_eq_true rfl) dX8_isWithin_35 ⟨Nat.zero_le _, Nat.zero_le _⟩ (fun r3 M3 H locs h S => ?_)
      refine lv_icmp_ne (tgt := 45) hx hb dX8_isWithin_38 (by decide) (fun c38 => ?_) (fun c38 => ?_)
      · replace h := h.1 c38
        refine lv_iconst (v := 0) hx hb dX8_isWithin_45 (by decide) ?_
        exact x_iret hx hb hr hlocks S rfl h dX8_isWithin_46
      · replace h := h.2 c38
        refine lv_iconst (v := 1) hx hb dX8_isWithin_41 (by decide) ?_
        refine lv_goto (tgt := 46) hx hb dX8_isWithin_42 (by decide) ?_
        exact x_iret hx hb hr hlocks S rfl h dX8_isWithin_46
/-! X8_isThird -/
def blk_X8_isThird_0 (v1 : Int32) (v2 : Int32) (v3 : Int32) (v4 : Int32) (Q : Int32 → Mem → Prop) (P : Nat → Int32 → Int32 → Mem → Prop) (v5 : Int32) (v6 : Int32) (M : Mem) : Prop :=
  wp_X8_side v2 v3 v4 M (fun r1 M1 => ((r1 = 0 → P 1 0 0 M1) ∧ (¬ r1 = 0 → wp_X8_hasFence v1 v2 v3 M1 (fun r2 M2 => ((r2 = 0 → P 1 0 0 M2) ∧ (¬ r2 = 0 → wp_X8_hasFence v1 v2 v4 M2 (fun r3 M3 => ((r3 = 0 → P 1 0 0 M3) ∧ (¬ r3 = 0 → wp_X8_hasFence v1 v3 v4 M3 (fun r4 M4 => ((r4 = 0 → P 1 0 0 M4) ∧ (¬ r4 = 0 → P 2 1 0 M4))))))))))))
theorem blk_X8_isThird_0_mono {v1 : Int32} {v2 : Int32} {v3 : Int32} {v4 : Int32} {Q Q' : Int32 → Mem → Prop} {P P' : Nat → Int32 → Int32 → Mem → Prop} (hQ : ∀ (r : Int32) (M : Mem), Q r M → Q' r M) (hP : ∀ (lab : Nat) (v5 : Int32) (v6 : Int32) (M : Mem), P lab v5 v6 M → P' lab v5 v6 M) (v5 : Int32) (v6 : Int32) (M : Mem) (h : blk_X8_isThird_0 v1 v2 v3 v4 Q P v5 v6 M) : blk_X8_isThird_0 v1 v2 v3 v4 Q' P' v5 v6 M := by
  unfold blk_X8_isThird_0 at h ⊢
  exact wp_X8_side_mono (fun r1 M1 h => ⟨fun c => let h := h.1 c; hP _ _ _ _ h, fun c => let h := h.2 c; wp_X8_hasFence_mono (fun r2 M2 h => ⟨fun c => let h := h.1 c; hP _ _ _ _ h, fun c => let h := h.2 c; wp_X8_hasFence_mono (fun r3 M3 h => ⟨fun c => let h := h.1 c; hP _ _ _ _ h, fun c => let h := h.2 c; wp_X8_hasFence_mono (fun r4 M4 h => ⟨fun c => let h := h.1 c; hP _ _ _ _ h, fun c => let h := h.2 c; hP _ _ _ _ h⟩) h⟩) h⟩) h⟩) h
def blk_X8_isThird_1 (v1 : Int32) (v2 : Int32) (v3 : Int32) (v4 : Int32) (Q : Int32 → Mem → Prop) (P : Nat → Int32 → Int32 → Mem → Prop) (v5 : Int32) (v6 : Int32) (M : Mem) : Prop :=
  P 2 0 0 M
theorem blk_X8_isThird_1_mono {v1 : Int32} {v2 : Int32} {v3 : Int32} {v4 : Int32} {Q Q' : Int32 → Mem → Prop} {P P' : Nat → Int32 → Int32 → Mem → Prop} (hQ : ∀ (r : Int32) (M : Mem), Q r M → Q' r M) (hP : ∀ (lab : Nat) (v5 : Int32) (v6 : Int32) (M : Mem), P lab v5 v6 M → P' lab v5 v6 M) (v5 : Int32) (v6 : Int32) (M : Mem) (h : blk_X8_isThird_1 v1 v2 v3 v4 Q P v5 v6 M) : blk_X8_isThird_1 v1 v2 v3 v4 Q' P' v5 v6 M := by
  unfold blk_X8_isThird_1 at h ⊢
  exact hP _ _ _ _ h
def blk_X8_isThird_2 (v1 : Int32) (v2 : Int32) (v3 : Int32) (v4 : Int32) (Q : Int32 → Mem → Prop) (P : Nat → Int32 → Int32 → Mem → Prop) (v5 : Int32) (v6 : Int32) (M : Mem) : Prop :=
  P 3 v5 0 M
theorem blk_X8_isThird_2_mono {v1 : Int32} {v2 : Int32} {v3 : Int32} {v4 : Int32} {Q Q' : Int32 → Mem → Prop} {P P' : Nat → Int32 → Int32 → Mem → Prop} (hQ : ∀ (r : Int32) (M : Mem), Q r M → Q' r M) (hP : ∀ (lab : Nat) (v5 : Int32) (v6 : Int32) (M : Mem), P lab v5 v6 M → P' lab v5 v6 M) (v5 : Int32) (v6 : Int32) (M : Mem) (h : blk_X8_isThird_2 v1 v2 v3 v4 Q P v5 v6 M) : blk_X8_isThird_2 v1 v2 v3 v4 Q' P' v5 v6 M := by
  unfold blk_X8_isThird_2 at h ⊢
  exact hP _ _ _ _ h
def blk_X8_isThird_3 (v1 : Int32) (v2 : Int32) (v3 : Int32) (v4 : Int32) (Q : Int32 → Mem → Prop) (P : Nat → Int32 → Int32 → Mem → Prop) (v5 : Int32) (v6 : Int32) (M : Mem) : Prop :=
  (((M.1 0 9) ≤ v6 → ((v5 = 0 ∨ v5 = 1) ∧ Q v5 M)) ∧ (¬ (M.1 0 9) ≤ v6 → ((v5 = 0 → ((v5 = 0 ∨ v5 = 1) ∧ Q v5 M)) ∧ (¬ v5 = 0 → wp_X8_isWithin v2 v3 v4 v6 M (fun r5 M5 => ((¬ r5 = 0 → P 4 0 v6 M5) ∧ (r5 = 0 → P 4 1 v6 M5)))))))
theorem blk_X8_isThird_3_mono {v1 : Int32} {v2 : Int32} {v3 : Int32} {v4 : Int32} {Q Q' : Int32 → Mem → Prop} {P P' : Nat → Int32 → Int32 → Mem → Prop} (hQ : ∀ (r : Int32) (M : Mem), Q r M → Q' r M) (hP : ∀ (lab : Nat) (v5 : Int32) (v6 : Int32) (M : Mem), P lab v5 v6 M → P' lab v5 v6 M) (v5 : Int32) (v6 : Int32) (M : Mem) (h : blk_X8_isThird_3 v1 v2 v3 v4 Q P v5 v6 M) : blk_X8_isThird_3 v1 v2 v3 v4 Q' P' v5 v6 M := by
  unfold blk_X8_isThird_3 at h ⊢
  exact ⟨fun c => let h := h.1 c; ⟨h.1, hQ _ _ h.2⟩, fun c => let h := h.2 c; ⟨fun c => let h := h.1 c; ⟨h.1, hQ _ _ h.2⟩, fun c => let h := h.2 c; wp_X8_isWithin_mono (fun r5 M5 h => ⟨fun c => let h := h.1 c; hP _ _ _ _ h, fun c => let h := h.2 c; hP _ _ _ _ h⟩) h⟩⟩
def blk_X8_isThird_4 (v1 : Int32) (v2 : Int32) (v3 : Int32) (v4 : Int32) (Q : Int32 → Mem → Prop) (P : Nat → Int32 → Int32 → Mem → Prop) (v5 : Int32) (v6 : Int32) (M : Mem) : Prop :=
  P 3 v5 (v6 + 1) M
theorem blk_X8_isThird_4_mono {v1 : Int32} {v2 : Int32} {v3 : Int32} {v4 : Int32} {Q Q' : Int32 → Mem → Prop} {P P' : Nat → Int32 → Int32 → Mem → Prop} (hQ : ∀ (r : Int32) (M : Mem), Q r M → Q' r M) (hP : ∀ (lab : Nat) (v5 : Int32) (v6 : Int32) (M : Mem), P lab v5 v6 M → P' lab v5 v6 M) (v5 : Int32) (v6 : Int32) (M : Mem) (h : blk_X8_isThird_4 v1 v2 v3 v4 Q P v5 v6 M) : blk_X8_isThird_4 v1 v2 v3 v4 Q' P' v5 v6 M := by
  unfold blk_X8_isThird_4 at h ⊢
  exact hP _ _ _ _ h
def blk_X8_isThird (v1 : Int32) (v2 : Int32) (v3 : Int32) (v4 : Int32) (Q : Int32 → Mem → Prop) (P : Nat → Int32 → Int32 → Mem → Prop) : Nat → Int32 → Int32 → Mem → Prop := fun lab v5 v6 M => match lab with
  | 0 => blk_X8_isThird_0 v1 v2 v3 v4 Q P v5 v6 M
  | 1 => blk_X8_isThird_1 v1 v2 v3 v4 Q P v5 v6 M
  | 2 => blk_X8_isThird_2 v1 v2 v3 v4 Q P v5 v6 M
  | 3 => blk_X8_isThird_3 v1 v2 v3 v4 Q P v5 v6 M
  | 4 => blk_X8_isThird_4 v1 v2 v3 v4 Q P v5 v6 M
  | _ => False
theorem blk_X8_isThird_mono {v1 : Int32} {v2 : Int32} {v3 : Int32} {v4 : Int32} {Q Q' : Int32 → Mem → Prop} {P P' : Nat → Int32 → Int32 → Mem → Prop} (hQ : ∀ (r : Int32) (M : Mem), Q r M → Q' r M) (hP : ∀ (lab : Nat) (v5 : Int32) (v6 : Int32) (M : Mem), P lab v5 v6 M → P' lab v5 v6 M) : ∀ (lab : Nat) (v5 : Int32) (v6 : Int32) (M : Mem), blk_X8_isThird v1 v2 v3 v4 Q P lab v5 v6 M → blk_X8_isThird v1 v2 v3 v4 Q' P' lab v5 v6 M := fun lab v5 v6 M h => match lab, h with
  | 0, h => blk_X8_isThird_0_mono (v1 := v1) (v2 := v2) (v3 := v3) (v4 := v4) hQ hP v5 v6 M h
  | 1, h => blk_X8_isThird_1_mono (v1 := v1) (v2 := v2) (v3 := v3) (v4 := v4) hQ hP v5 v6 M h
  | 2, h => blk_X8_isThird_2_mono (v1 := v1) (v2 := v2) (v3 := v3) (v4 := v4) hQ hP v5 v6 M h
  | 3, h => blk_X8_isThird_3_mono (v1 := v1) (v2 := v2) (v3 := v3) (v4 := v4) hQ hP v5 v6 M h
  | 4, h => blk_X8_isThird_4_mono (v1 := v1) (v2 := v2) (v3 := v3) (v4 := v4) hQ hP v5 v6 M h
  | _ + 5, h => False.elim h
def at_X8_isThird (v1 : Int32) (v2 : Int32) (v3 : Int32) (v4 : Int32) (Q : Int32 → Mem → Prop) : Nat → Int32 → Int32 → Mem → Prop := fun lab v5 v6 M => ∀ P : Nat → Int32 → Int32 → Mem → Prop, (∀ (lab : Nat) (v5 : Int32) (v6 : Int32) (M : Mem), blk_X8_isThird v1 v2 v3 v4 Q P lab v5 v6 M → P lab v5 v6 M) → P lab v5 v6 M
theorem at_X8_isThird_fold {v1 : Int32} {v2 : Int32} {v3 : Int32} {v4 : Int32} {Q : Int32 → Mem → Prop} {lab : Nat} {v5 : Int32} {v6 : Int32} {M : Mem} (h : blk_X8_isThird v1 v2 v3 v4 Q (at_X8_isThird v1 v2 v3 v4 Q) lab v5 v6 M) : at_X8_isThird v1 v2 v3 v4 Q lab v5 v6 M := fun P hP => hP _ _ _ _ (blk_X8_isThird_mono (fun _ _ h => h) (fun _ _ _ _ h => h P hP) _ _ _ _ h)
theorem at_X8_isThird_mono {v1 : Int32} {v2 : Int32} {v3 : Int32} {v4 : Int32} {Q Q' : Int32 → Mem → Prop} (hQ : ∀ (r : Int32) (M : Mem), Q r M → Q' r M) {lab : Nat} {v5 : Int32} {v6 : Int32} {M : Mem} (h : at_X8_isThird v1 v2 v3 v4 Q lab v5 v6 M) : at_X8_isThird v1 v2 v3 v4 Q' lab v5 v6 M := fun P hP => h P (fun lab v5 v6 M hb => hP _ _ _ _ (blk_X8_isThird_mono hQ (fun _ _ _ _ h => h) _ _ _ _ hb))
def wp_X8_isThird (v1 : Int32) (v2 : Int32) (v3 : Int32) (v4 : Int32) (M : Mem) (Q : Int32 → Mem → Prop) : Prop := at_X8_isThird v1 v2 v3 v4 Q 0 0 0 M
theorem wp_X8_isThird_mono {v1 : Int32} {v2 : Int32} {v3 : Int32} {v4 : Int32} {M : Mem} {Q Q' : Int32 → Mem → Prop} (hQ : ∀ (r : Int32) (M : Mem), Q r M → Q' r M) (h : wp_X8_isThird v1 v2 v3 v4 M Q) : wp_X8_isThird v1 v2 v3 v4 M Q' := at_X8_isThird_mono hQ h
def pcl_X8_isThird : Nat → Nat := fun lab => match lab with
  | 0 => 0
  | 1 => 47
  | 2 => 50
  | 3 => 53
  | 4 => 87
  | _ => 0
def lvl_X8_isThird (ad : Nat → Nat) (v1 : Int32) (v2 : Int32) (v3 : Int32) (v4 : Int32) : Nat → Int32 → Int32 → List (Nat × Value) := fun lab v5 v6 => match lab with
  | 0 => [(0, .ref (ad 0)), (1, .int v1), (2, .int v2), (3, .int v3), (4, .int v4)]
  | 1 => [(0, .ref (ad 0)), (2, .int v2), (3, .int v3), (4, .int v4)]
  | 2 => [(0, .ref (ad 0)), (2, .int v2), (3, .int v3), (4, .int v4), (5, .int v5)]
  | 3 => [(0, .ref (ad 0)), (2, .int v2), (3, .int v3), (4, .int v4), (5, .int v5), (6, .int v6)]
  | 4 => [(0, .ref (ad 0)), (2, .int v2), (3, .int v3), (4, .int v4), (5, .int v5), (6, .int v6)]
  | _ => []
abbrev rm_X8_isThird : Jvm.Room := { frames := 3, cells := 0, slots := 0, locals := 65 }
set_option maxHeartbeats 4000000 in
set_option maxRecDepth 100000 in
theorem ct_X8_isThird (l : Launch) (D : va_G) (cy : Nat → ClassId) (ad : Nat → Nat) (B : Nat → Prop) (v1 : Int32) (v2 : Int32) (v3 : Int32) (v4 : Int32) (M : Mem) (Q : Int32 → Mem → Prop) (h : wp_X8_isThird v1 v2 v3 v4 M Q) : CTi l D cy (wR ad cy) B yX8_isThird wsX8_isThird rm_X8_isThird [.ref (ad 0), .int v1, .int v2, .int v3, .int v4] M Q := by
  intro sz
  refine Met.ofW (cc := cX8_isThird) (maxL := 7) (ret := some .boolean) (by decide) rfl ?_
  intro p e s m args below meth c s₁ Bd hml hv
  obtain ⟨hargs, hsz, hP, hK, hD⟩ := hv
  subst hsz
  have hx := Bd.exec
  have hb := Bd.bytes
  have hr := Bd.returns
  have hts := atoms_spec (ws := wsX8_isThird) Bd.pre
  have hown : s.vm.findClass RX8 = some m.cls := findClass_of_methodNamed Bd.named
  have hlocks := Bd.notSynchronized
  have hC8 : xC wsX8_isThird 8 RX8 TX8 34 := ⟨by decide +kernel, rfl⟩
  have key : ∀ (P : Nat → Int32 → Int32 → Mem → Prop), (∀ (lab : Nat) (v5 : Int32) (v6 : Int32) (M : Mem), P lab v5 v6 M → ∀ (H : Heap) (locs : List Loc) (ls : Array Slot), xS D (wR ad cy) B s.heap H locs M → lv_has ls 7 (lvl_X8_isThird ad v1 v2 v3 v4 lab v5 v6 ) → W p l e (headSpec wsX8_isThird rm_X8_isThird).room s m args below meth c H locs 0 0 (MQ below (va_Qi (S := Mem) Q (xB D (wR ad cy) B) (xA B s.heap.size)) args s 0 0 (xA B s.heap.size)) (F0 m (pcl_X8_isThird lab) ls [])) → ∀ (lab : Nat) (v5 : Int32) (v6 : Int32) (M : Mem), blk_X8_isThird v1 v2 v3 v4 Q P lab v5 v6 M → ∀ (H : Heap) (locs : List Loc) (ls : Array Slot), xS D (wR ad cy) B s.heap H locs M → lv_has ls 7 (lvl_X8_isThird ad v1 v2 v3 v4 lab v5 v6 ) → W p l e (headSpec wsX8_isThird rm_X8_isThird).room s m args below meth c H locs 0 0 (MQ below (va_Qi (S := Mem) Q (xB D (wR ad cy) B) (xA B s.heap.size)) args s 0 0 (xA B s.heap.size)) (F0 m (pcl_X8_isThird lab) ls []) := by
    intro P hJ lab v5 v6 M h H locs ls S hl
    match lab, h, hl with
    | 0, h, hl =>
      have hl : lv_has ls 7 [(0, .ref (ad 0)), (1, .int v1), (2, .int v2), (3, .int v3), (4, .int v4)] := hl
      have h : blk_X8_isThird_0 v1 v2 v3 v4 Q P v5 v6 M := h
      unfold blk_X8_isThird_0 at h
      refine W.eq (g2 := F0 m 0 ls []) rfl ?_
      refine lv_aload_n hx hb dX8_isThird_0 rfl (lv_at hl 0 rfl) ?_
      refine lv_iload_n hx hb dX8_isThird_1 rfl (lv_at hl 2 rfl) ?_
      refine lv_iload_n hx hb dX8_isThird_2 rfl (lv_at hl 3 rfl) ?_
      refine lv_iload hx hb dX8_isThird_3 (lv_at hl 4 rfl) ?_
      refine x_callVi (As := [.int v2, .int v3, .int v4]) ⟨hx, hb, hml, hown, hts⟩ hK S (ct_X8_side l D cy ad B _ _ _ _ _ h) ro_0 rfl (cwV 3 hts gX8_isThird_X8_side rfl rfl rfl (by decide +kernel) ⟨Nat.le_of_ble_eq_true rfl, Nat.le_of_ble_eq_true rfl⟩) rfl hl.1 rfl (Nat.le_of_ble_eq_true rfl) dX8_isThird_5 ⟨Nat.zero_le _, Nat.zero_le _⟩ (fun r1 M1 H locs h S => ?_)
      refine lv_if_eq (tgt := 47) hx hb dX8_isThird_8 (by decide) (fun c8 => ?_) (fun c8 => ?_)
      · replace h := h.1 c8
        exact hJ _ _ _ _ h _ _ _ S (lv_sub hl [0, 2, 3, 4] rfl)
      · replace h := h.2 c8
        refine lv_aload_n hx hb dX8_isThird_11 rfl (lv_at hl 0 rfl) ?_
        refine lv_iload_n hx hb dX8_isThird_12 rfl (lv_at hl 1 rfl) ?_
        refine lv_iload_n hx hb dX8_isThird_13 rfl (lv_at hl 2 rfl) ?_
        refine lv_iload_n hx hb dX8_isThird_14 rfl (lv_at hl 3 rfl) ?_
        refine x_callVi (As := [.int v1, .int v2, .int v3]) ⟨hx, hb, hml, hown, hts⟩ hK S (ct_X8_hasFence l D cy ad B _ _ _ _ _ h) ro_0 rfl (cwV 3 hts gX8_isThird_X8_hasFence rfl rfl rfl (by decide +kernel) ⟨Nat.le_of_ble_eq_true rfl, Nat.le_of_ble_eq_true rfl⟩) rfl hl.1 rfl (Nat.le_of_ble_eq_true rfl) dX8_isThird_15 ⟨Nat.zero_le _, Nat.zero_le _⟩ (fun r2 M2 H locs h S => ?_)
        refine lv_if_eq (tgt := 47) hx hb dX8_isThird_18 (by decide) (fun c18 => ?_) (fun c18 => ?_)
        · replace h := h.1 c18
          exact hJ _ _ _ _ h _ _ _ S (lv_sub hl [0, 2, 3, 4] rfl)
        · replace h := h.2 c18
          refine lv_aload_n hx hb dX8_isThird_21 rfl (lv_at hl 0 rfl) ?_
          refine lv_iload_n hx hb dX8_isThird_22 rfl (lv_at hl 1 rfl) ?_
          refine lv_iload_n hx hb dX8_isThird_23 rfl (lv_at hl 2 rfl) ?_
          refine lv_iload hx hb dX8_isThird_24 (lv_at hl 4 rfl) ?_
          refine x_callVi (As := [.int v1, .int v2, .int v4]) ⟨hx, hb, hml, hown, hts⟩ hK S (ct_X8_hasFence l D cy ad B _ _ _ _ _ h) ro_0 rfl (cwV 3 hts gX8_isThird_X8_hasFence rfl rfl rfl (by decide +kernel) ⟨Nat.le_of_ble_eq_true rfl, Nat.le_of_ble_eq_true rfl⟩) rfl hl.1 rfl (Nat.le_of_ble_eq_true rfl) dX8_isThird_26 ⟨Nat.zero_le _, Nat.zero_le _⟩ (fun r3 M3 H locs h S => ?_)
          refine lv_if_eq (tgt := 47) hx hb dX8_isThird_29 (by decide) (fun c29 => ?_) (fun c29 => ?_)
          · replace h := h.1 c29
            exact hJ _ _ _ _ h _ _ _ S (lv_sub hl [0, 2, 3, 4] rfl)
          · replace h := h.2 c29
            refine lv_aload_n hx hb dX8_isThird_32 rfl (lv_at hl 0 rfl) ?_
            refine lv_iload_n hx hb dX8_isThird_33 rfl (lv_at hl 1 rfl) ?_
            refine lv_iload_n hx hb dX8_isThird_34 rfl (lv_at hl 3 rfl) ?_
            refine lv_iload hx hb dX8_isThird_35 (lv_at hl 4 rfl) ?_
            refine x_callVi (As := [.int v1, .int v3, .int v4]) ⟨hx, hb, hml, hown, hts⟩ hK S (ct_X8_hasFence l D cy ad B _ _ _ _ _ h) ro_0 rfl (cwV 3 hts gX8_isThird_X8_hasFence rfl rfl rfl (by decide +kernel) ⟨Nat.le_of_ble_eq_true rfl, Nat.le_of_ble_eq_true rfl⟩) rfl hl.1 rfl (Nat.le_of_ble_eq_true rfl) dX8_isThird_37 ⟨Nat.zero_le _, Nat.zero_le _⟩ (fun r4 M4 H locs h S => ?_)
            refine lv_if_eq (tgt := 47) hx hb dX8_isThird_40 (by decide) (fun c40 => ?_) (fun c40 => ?_)
            · replace h := h.1 c40
              exact hJ _ _ _ _ h _ _ _ S (lv_sub hl [0, 2, 3, 4] rfl)
            · replace h := h.2 c40
              refine lv_iconst (v := 1) hx hb dX8_isThird_43 (by decide) ?_
              refine lv_goto (tgt := 48) hx hb dX8_isThird_44 (by decide) ?_
              refine lv_istore (lv' := [(5, .int 1), (0, .ref (ad 0)), (1, .int v1), (2, .int v2), (3, .int v3), (4, .int v4)]) hx hb dX8_isThird_48 hl (by decide) rfl (fun ls hl => ?_)
              exact hJ _ _ _ _ h _ _ _ S (lv_sub hl [1, 3, 4, 5, 0] rfl)
    | 1, h, hl =>
      have hl : lv_has ls 7 [(0, .ref (ad 0)), (2, .int v2), (3, .int v3), (4, .int v4)] := hl
      have h : blk_X8_isThird_1 v1 v2 v3 v4 Q P v5 v6 M := h
      unfold blk_X8_isThird_1 at h
      refine W.eq (g2 := F0 m 47 ls []) rfl ?_
      refine lv_iconst (v := 0) hx hb dX8_isThird_47 (by decide) ?_
      refine lv_istore (lv' := [(5, .int 0), (0, .ref (ad 0)), (2, .int v2), (3, .int v3), (4, .int v4)]) hx hb dX8_isThird_48 hl (by decide) rfl (fun ls hl => ?_)
      exact hJ _ _ _ _ h _ _ _ S (lv_sub hl [1, 2, 3, 4, 0] rfl)
    | 2, h, hl =>
      have hl : lv_has ls 7 [(0, .ref (ad 0)), (2, .int v2), (3, .int v3), (4, .int v4), (5, .int v5)] := hl
      have h : blk_X8_isThird_2 v1 v2 v3 v4 Q P v5 v6 M := h
      unfold blk_X8_isThird_2 at h
      refine W.eq (g2 := F0 m 50 ls []) rfl ?_
      refine lv_iconst (v := 0) hx hb dX8_isThird_50 (by decide) ?_
      refine lv_istore (lv' := [(6, .int 0), (0, .ref (ad 0)), (2, .int v2), (3, .int v3), (4, .int v4), (5, .int v5)]) hx hb dX8_isThird_51 hl (by decide) rfl (fun ls hl => ?_)
      exact hJ _ _ _ _ h _ _ _ S (lv_sub hl [1, 2, 3, 4, 5, 0] rfl)
    | 3, h, hl =>
      have hl : lv_has ls 7 [(0, .ref (ad 0)), (2, .int v2), (3, .int v3), (4, .int v4), (5, .int v5), (6, .int v6)] := hl
      have h : blk_X8_isThird_3 v1 v2 v3 v4 Q P v5 v6 M := h
      unfold blk_X8_isThird_3 at h
      refine W.eq (g2 := F0 m 53 ls []) rfl ?_
      refine lv_iload hx hb dX8_isThird_53 (lv_at hl 5 rfl) ?_
      refine lv_aload_n hx hb dX8_isThird_55 rfl (lv_at hl 0 rfl) ?_
      refine x_getI hx hb hts (hC8) hown hK S 9 (by decide) rf_0_9 (index := 109) (hts _ (List.mem_of_getElem? (i := 1) rfl)) dX8_isThird_56 ?_
      refine lv_icmp_ge (tgt := 93) hx hb dX8_isThird_59 (by decide) (fun c59 => ?_) (fun c59 => ?_)
      · replace h := h.1 c59
        refine lv_iload hx hb dX8_isThird_93 (lv_at hl 4 rfl) ?_
        exact x_iret hx hb hr hlocks S (x_nb h.1) h.2 dX8_isThird_95
      · replace h := h.2 c59
        refine lv_iload hx hb dX8_isThird_62 (lv_at hl 4 rfl) ?_
        refine lv_if_eq (tgt := 93) hx hb dX8_isThird_64 (by decide) (fun c64 => ?_) (fun c64 => ?_)
        · replace h := h.1 c64
          refine lv_iload hx hb dX8_isThird_93 (lv_at hl 4 rfl) ?_
          exact x_iret hx hb hr hlocks S (x_nb h.1) h.2 dX8_isThird_95
        · replace h := h.2 c64
          refine lv_aload_n hx hb dX8_isThird_67 rfl (lv_at hl 0 rfl) ?_
          refine lv_iload_n hx hb dX8_isThird_68 rfl (lv_at hl 1 rfl) ?_
          refine lv_iload_n hx hb dX8_isThird_69 rfl (lv_at hl 2 rfl) ?_
          refine lv_iload hx hb dX8_isThird_70 (lv_at hl 3 rfl) ?_
          refine lv_iload hx hb dX8_isThird_72 (lv_at hl 5 rfl) ?_
          refine x_callVi (As := [.int v2, .int v3, .int v4, .int v6]) ⟨hx, hb, hml, hown, hts⟩ hK S (ct_X8_isWithin l D cy ad B _ _ _ _ _ _ h) ro_0 rfl (cwV 4 hts gX8_isThird_X8_isWithin rfl rfl rfl (by decide +kernel) ⟨Nat.le_of_ble_eq_true rfl, Nat.le_of_ble_eq_true rfl⟩) rfl hl.1 rfl (Nat.le_of_ble_eq_true rfl) dX8_isThird_74 ⟨Nat.zero_le _, Nat.zero_le _⟩ (fun r5 M5 H locs h S => ?_)
          refine lv_if_ne (tgt := 84) hx hb dX8_isThird_77 (by decide) (fun c77 => ?_) (fun c77 => ?_)
          · replace h := h.1 c77
            refine lv_iconst (v := 0) hx hb dX8_isThird_84 (by decide) ?_
            refine lv_istore (lv' := [(5, .int 0), (0, .ref (ad 0)), (2, .int v2), (3, .int v3), (4, .int v4), (6, .int v6)]) hx hb dX8_isThird_85 hl (by decide) rfl (fun ls hl => ?_)
            exact hJ _ _ _ _ h _ _ _ S (lv_sub hl [1, 2, 3, 4, 0, 5] rfl)
          · replace h := h.2 c77
            refine lv_iconst (v := 1) hx hb dX8_isThird_80 (by decide) ?_
            refine lv_goto (tgt := 85) hx hb dX8_isThird_81 (by decide) ?_
            refine lv_istore (lv' := [(5, .int 1), (0, .ref (ad 0)), (2, .int v2), (3, .int v3), (4, .int v4), (6, .int v6)]) hx hb dX8_isThird_85 hl (by decide) rfl (fun ls hl => ?_)
            exact hJ _ _ _ _ h _ _ _ S (lv_sub hl [1, 2, 3, 4, 0, 5] rfl)
    | 4, h, hl =>
      have hl : lv_has ls 7 [(0, .ref (ad 0)), (2, .int v2), (3, .int v3), (4, .int v4), (5, .int v5), (6, .int v6)] := hl
      have h : blk_X8_isThird_4 v1 v2 v3 v4 Q P v5 v6 M := h
      unfold blk_X8_isThird_4 at h
      refine W.eq (g2 := F0 m 87 ls []) rfl ?_
      refine lv_iinc (v := (v6 + 1)) (lv' := [(6, .int (v6 + 1)), (0, .ref (ad 0)), (2, .int v2), (3, .int v3), (4, .int v4), (5, .int v5)]) hx hb dX8_isThird_87 hl (k := 5) rfl rfl (by decide) rfl (fun ls hl => ?_)
      refine lv_goto (tgt := 53) hx hb dX8_isThird_90 (by decide) ?_
      exact hJ _ _ _ _ h _ _ _ S (lv_sub hl [1, 2, 3, 4, 5, 0] rfl)
    | _ + 5, h, hl => exact h.elim
  have hl := lv_entry ([.ref (ad 0), .int v1, .int v2, .int v3, .int v4]) (n := 7) (Nat.le_of_ble_eq_true rfl)
  subst hargs
  rw [lg_entry_eq]
  generalize (lg_sl ([.ref (ad 0), .int v1, .int v2, .int v3, .int v4]) ++ List.replicate (7 - (lg_sl ([.ref (ad 0), .int v1, .int v2, .int v3, .int v4])).length) Slot.unset).toArray = ls at hl ⊢
  exact h _ (key _ (fun _ _ _ _ h => h)) s.heap [] ls ⟨hP, hD, va_S.rf⟩ hl
/-! X8_findThirds -/
def blk_X8_findThirds_0 (v1 : Int32) (Q : Mem → Prop) (P : Nat → Int32 → Int32 → Int32 → Mem → Prop) (v2 : Int32) (v3 : Int32) (v4 : Int32) (M : Mem) : Prop :=
  P 1 0 0 0 (upI M 0 27 0)
theorem blk_X8_findThirds_0_mono {v1 : Int32} {Q Q' : Mem → Prop} {P P' : Nat → Int32 → Int32 → Int32 → Mem → Prop} (hQ : ∀ M : Mem, Q M → Q' M) (hP : ∀ (lab : Nat) (v2 : Int32) (v3 : Int32) (v4 : Int32) (M : Mem), P lab v2 v3 v4 M → P' lab v2 v3 v4 M) (v2 : Int32) (v3 : Int32) (v4 : Int32) (M : Mem) (h : blk_X8_findThirds_0 v1 Q P v2 v3 v4 M) : blk_X8_findThirds_0 v1 Q' P' v2 v3 v4 M := by
  unfold blk_X8_findThirds_0 at h ⊢
  exact hP _ _ _ _ _ h
def blk_X8_findThirds_1 (v1 : Int32) (Q : Mem → Prop) (P : Nat → Int32 → Int32 → Int32 → Mem → Prop) (v2 : Int32) (v3 : Int32) (v4 : Int32) (M : Mem) : Prop :=
  (((M.1 0 9) ≤ v2 → Q M) ∧ (¬ (M.1 0 9) ≤ v2 → P 2 v2 (v2 + 1) 0 M))
theorem blk_X8_findThirds_1_mono {v1 : Int32} {Q Q' : Mem → Prop} {P P' : Nat → Int32 → Int32 → Int32 → Mem → Prop} (hQ : ∀ M : Mem, Q M → Q' M) (hP : ∀ (lab : Nat) (v2 : Int32) (v3 : Int32) (v4 : Int32) (M : Mem), P lab v2 v3 v4 M → P' lab v2 v3 v4 M) (v2 : Int32) (v3 : Int32) (v4 : Int32) (M : Mem) (h : blk_X8_findThirds_1 v1 Q P v2 v3 v4 M) : blk_X8_findThirds_1 v1 Q' P' v2 v3 v4 M := by
  unfold blk_X8_findThirds_1 at h ⊢
  exact ⟨fun c => let h := h.1 c; hQ _ h, fun c => let h := h.2 c; hP _ _ _ _ _ h⟩
def blk_X8_findThirds_2 (v1 : Int32) (Q : Mem → Prop) (P : Nat → Int32 → Int32 → Int32 → Mem → Prop) (v2 : Int32) (v3 : Int32) (v4 : Int32) (M : Mem) : Prop :=
  (((M.1 0 9) ≤ v3 → P 1 (v2 + 1) 0 0 M) ∧ (¬ (M.1 0 9) ≤ v3 → P 3 v2 v3 (v3 + 1) M))
theorem blk_X8_findThirds_2_mono {v1 : Int32} {Q Q' : Mem → Prop} {P P' : Nat → Int32 → Int32 → Int32 → Mem → Prop} (hQ : ∀ M : Mem, Q M → Q' M) (hP : ∀ (lab : Nat) (v2 : Int32) (v3 : Int32) (v4 : Int32) (M : Mem), P lab v2 v3 v4 M → P' lab v2 v3 v4 M) (v2 : Int32) (v3 : Int32) (v4 : Int32) (M : Mem) (h : blk_X8_findThirds_2 v1 Q P v2 v3 v4 M) : blk_X8_findThirds_2 v1 Q' P' v2 v3 v4 M := by
  unfold blk_X8_findThirds_2 at h ⊢
  exact ⟨fun c => let h := h.1 c; hP _ _ _ _ _ h, fun c => let h := h.2 c; hP _ _ _ _ _ h⟩
def blk_X8_findThirds_3 (v1 : Int32) (Q : Mem → Prop) (P : Nat → Int32 → Int32 → Int32 → Mem → Prop) (v2 : Int32) (v3 : Int32) (v4 : Int32) (M : Mem) : Prop :=
  (((M.1 0 9) ≤ v4 → P 2 v2 (v3 + 1) 0 M) ∧ (¬ (M.1 0 9) ≤ v4 → wp_X8_isThird v1 v2 v3 v4 M (fun r1 M1 => ((r1 = 0 → P 4 v2 v3 v4 M1) ∧ (¬ r1 = 0 → (vp_in (M1.1 0 27) 60 ∧ (vp_in ((upI M1 16 (M1.1 0 27).toNatClampNeg v2).1 0 27) 60 ∧ (vp_in ((upI (upI M1 16 (M1.1 0 27).toNatClampNeg v2) 17 ((upI M1 16 (M1.1 0 27).toNatClampNeg v2).1 0 27).toNatClampNeg v3).1 0 27) 60 ∧ P 4 v2 v3 v4 (upI (upI (upI (upI M1 16 (M1.1 0 27).toNatClampNeg v2) 17 ((upI M1 16 (M1.1 0 27).toNatClampNeg v2).1 0 27).toNatClampNeg v3) 18 ((upI (upI M1 16 (M1.1 0 27).toNatClampNeg v2) 17 ((upI M1 16 (M1.1 0 27).toNatClampNeg v2).1 0 27).toNatClampNeg v3).1 0 27).toNatClampNeg v4) 0 27 (((upI (upI (upI M1 16 (M1.1 0 27).toNatClampNeg v2) 17 ((upI M1 16 (M1.1 0 27).toNatClampNeg v2).1 0 27).toNatClampNeg v3) 18 ((upI (upI M1 16 (M1.1 0 27).toNatClampNeg v2) 17 ((upI M1 16 (M1.1 0 27).toNatClampNeg v2).1 0 27).toNatClampNeg v3).1 0 27).toNatClampNeg v4).1 0 27) + 1))))))))))
theorem blk_X8_findThirds_3_mono {v1 : Int32} {Q Q' : Mem → Prop} {P P' : Nat → Int32 → Int32 → Int32 → Mem → Prop} (hQ : ∀ M : Mem, Q M → Q' M) (hP : ∀ (lab : Nat) (v2 : Int32) (v3 : Int32) (v4 : Int32) (M : Mem), P lab v2 v3 v4 M → P' lab v2 v3 v4 M) (v2 : Int32) (v3 : Int32) (v4 : Int32) (M : Mem) (h : blk_X8_findThirds_3 v1 Q P v2 v3 v4 M) : blk_X8_findThirds_3 v1 Q' P' v2 v3 v4 M := by
  unfold blk_X8_findThirds_3 at h ⊢
  exact ⟨fun c => let h := h.1 c; hP _ _ _ _ _ h, fun c => let h := h.2 c; wp_X8_isThird_mono (fun r1 M1 h => ⟨fun c => let h := h.1 c; hP _ _ _ _ _ h, fun c => let h := h.2 c; ⟨h.1, let h := h.2; ⟨h.1, let h := h.2; ⟨h.1, let h := h.2; hP _ _ _ _ _ h⟩⟩⟩⟩) h⟩
def blk_X8_findThirds_4 (v1 : Int32) (Q : Mem → Prop) (P : Nat → Int32 → Int32 → Int32 → Mem → Prop) (v2 : Int32) (v3 : Int32) (v4 : Int32) (M : Mem) : Prop :=
  P 3 v2 v3 (v4 + 1) M
theorem blk_X8_findThirds_4_mono {v1 : Int32} {Q Q' : Mem → Prop} {P P' : Nat → Int32 → Int32 → Int32 → Mem → Prop} (hQ : ∀ M : Mem, Q M → Q' M) (hP : ∀ (lab : Nat) (v2 : Int32) (v3 : Int32) (v4 : Int32) (M : Mem), P lab v2 v3 v4 M → P' lab v2 v3 v4 M) (v2 : Int32) (v3 : Int32) (v4 : Int32) (M : Mem) (h : blk_X8_findThirds_4 v1 Q P v2 v3 v4 M) : blk_X8_findThirds_4 v1 Q' P' v2 v3 v4 M := by
  unfold blk_X8_findThirds_4 at h ⊢
  exact hP _ _ _ _ _ h
def blk_X8_findThirds (v1 : Int32) (Q : Mem → Prop) (P : Nat → Int32 → Int32 → Int32 → Mem → Prop) : Nat → Int32 → Int32 → Int32 → Mem → Prop := fun lab v2 v3 v4 M => match lab with
  | 0 => blk_X8_findThirds_0 v1 Q P v2 v3 v4 M
  | 1 => blk_X8_findThirds_1 v1 Q P v2 v3 v4 M
  | 2 => blk_X8_findThirds_2 v1 Q P v2 v3 v4 M
  | 3 => blk_X8_findThirds_3 v1 Q P v2 v3 v4 M
  | 4 => blk_X8_findThirds_4 v1 Q P v2 v3 v4 M
  | _ => False
theorem blk_X8_findThirds_mono {v1 : Int32} {Q Q' : Mem → Prop} {P P' : Nat → Int32 → Int32 → Int32 → Mem → Prop} (hQ : ∀ M : Mem, Q M → Q' M) (hP : ∀ (lab : Nat) (v2 : Int32) (v3 : Int32) (v4 : Int32) (M : Mem), P lab v2 v3 v4 M → P' lab v2 v3 v4 M) : ∀ (lab : Nat) (v2 : Int32) (v3 : Int32) (v4 : Int32) (M : Mem), blk_X8_findThirds v1 Q P lab v2 v3 v4 M → blk_X8_findThirds v1 Q' P' lab v2 v3 v4 M := fun lab v2 v3 v4 M h => match lab, h with
  | 0, h => blk_X8_findThirds_0_mono (v1 := v1) hQ hP v2 v3 v4 M h
  | 1, h => blk_X8_findThirds_1_mono (v1 := v1) hQ hP v2 v3 v4 M h
  | 2, h => blk_X8_findThirds_2_mono (v1 := v1) hQ hP v2 v3 v4 M h
  | 3, h => blk_X8_findThirds_3_mono (v1 := v1) hQ hP v2 v3 v4 M h
  | 4, h => blk_X8_findThirds_4_mono (v1 := v1) hQ hP v2 v3 v4 M h
  | _ + 5, h => False.elim h
def at_X8_findThirds (v1 : Int32) (Q : Mem → Prop) : Nat → Int32 → Int32 → Int32 → Mem → Prop := fun lab v2 v3 v4 M => ∀ P : Nat → Int32 → Int32 → Int32 → Mem → Prop, (∀ (lab : Nat) (v2 : Int32) (v3 : Int32) (v4 : Int32) (M : Mem), blk_X8_findThirds v1 Q P lab v2 v3 v4 M → P lab v2 v3 v4 M) → P lab v2 v3 v4 M
theorem at_X8_findThirds_fold {v1 : Int32} {Q : Mem → Prop} {lab : Nat} {v2 : Int32} {v3 : Int32} {v4 : Int32} {M : Mem} (h : blk_X8_findThirds v1 Q (at_X8_findThirds v1 Q) lab v2 v3 v4 M) : at_X8_findThirds v1 Q lab v2 v3 v4 M := fun P hP => hP _ _ _ _ _ (blk_X8_findThirds_mono (fun _ h => h) (fun _ _ _ _ _ h => h P hP) _ _ _ _ _ h)
theorem at_X8_findThirds_mono {v1 : Int32} {Q Q' : Mem → Prop} (hQ : ∀ M : Mem, Q M → Q' M) {lab : Nat} {v2 : Int32} {v3 : Int32} {v4 : Int32} {M : Mem} (h : at_X8_findThirds v1 Q lab v2 v3 v4 M) : at_X8_findThirds v1 Q' lab v2 v3 v4 M := fun P hP => h P (fun lab v2 v3 v4 M hb => hP _ _ _ _ _ (blk_X8_findThirds_mono hQ (fun _ _ _ _ _ h => h) _ _ _ _ _ hb))
def wp_X8_findThirds (v1 : Int32) (M : Mem) (Q : Mem → Prop) : Prop := at_X8_findThirds v1 Q 0 0 0 0 M
theorem wp_X8_findThirds_mono {v1 : Int32} {M : Mem} {Q Q' : Mem → Prop} (hQ : ∀ M : Mem, Q M → Q' M) (h : wp_X8_findThirds v1 M Q) : wp_X8_findThirds v1 M Q' := at_X8_findThirds_mono hQ h
def pcl_X8_findThirds : Nat → Nat := fun lab => match lab with
  | 0 => 0
  | 1 => 7
  | 2 => 19
  | 3 => 32
  | 4 => 94
  | _ => 0
def lvl_X8_findThirds (ad : Nat → Nat) (v1 : Int32) : Nat → Int32 → Int32 → Int32 → List (Nat × Value) := fun lab v2 v3 v4 => match lab with
  | 0 => [(0, .ref (ad 0)), (1, .int v1)]
  | 1 => [(0, .ref (ad 0)), (1, .int v1), (2, .int v2)]
  | 2 => [(0, .ref (ad 0)), (1, .int v1), (2, .int v2), (3, .int v3)]
  | 3 => [(0, .ref (ad 0)), (1, .int v1), (2, .int v2), (3, .int v3), (4, .int v4)]
  | 4 => [(0, .ref (ad 0)), (1, .int v1), (2, .int v2), (3, .int v3), (4, .int v4)]
  | _ => []
abbrev rm_X8_findThirds : Jvm.Room := { frames := 4, cells := 0, slots := 0, locals := 91 }
set_option maxHeartbeats 4000000 in
set_option maxRecDepth 100000 in
theorem ct_X8_findThirds (l : Launch) (D : va_G) (cy : Nat → ClassId) (ad : Nat → Nat) (B : Nat → Prop) (v1 : Int32) (M : Mem) (Q : Mem → Prop) (h : wp_X8_findThirds v1 M Q) : CTv l D cy (wR ad cy) B yX8_findThirds wsX8_findThirds rm_X8_findThirds [.ref (ad 0), .int v1] M Q := by
  intro sz
  refine Met.ofW (cc := cX8_findThirds) (maxL := 5) (ret := none) (by decide) rfl ?_
  intro p e s m args below meth c s₁ Bd hml hv
  obtain ⟨hargs, hsz, hP, hK, hD⟩ := hv
  subst hsz
  have hx := Bd.exec
  have hb := Bd.bytes
  have hr := Bd.returns
  have hts := atoms_spec (ws := wsX8_findThirds) Bd.pre
  have hown : s.vm.findClass RX8 = some m.cls := findClass_of_methodNamed Bd.named
  have hlocks := Bd.notSynchronized
  have hC8 : xC wsX8_findThirds 8 RX8 TX8 34 := ⟨by decide +kernel, rfl⟩
  have key : ∀ (P : Nat → Int32 → Int32 → Int32 → Mem → Prop), (∀ (lab : Nat) (v2 : Int32) (v3 : Int32) (v4 : Int32) (M : Mem), P lab v2 v3 v4 M → ∀ (H : Heap) (locs : List Loc) (ls : Array Slot), xS D (wR ad cy) B s.heap H locs M → lv_has ls 5 (lvl_X8_findThirds ad v1 lab v2 v3 v4 ) → W p l e (headSpec wsX8_findThirds rm_X8_findThirds).room s m args below meth c H locs 0 0 (MQ below (va_Qv (S := Mem) Q (xB D (wR ad cy) B) (xA B s.heap.size)) args s 0 0 (xA B s.heap.size)) (F0 m (pcl_X8_findThirds lab) ls [])) → ∀ (lab : Nat) (v2 : Int32) (v3 : Int32) (v4 : Int32) (M : Mem), blk_X8_findThirds v1 Q P lab v2 v3 v4 M → ∀ (H : Heap) (locs : List Loc) (ls : Array Slot), xS D (wR ad cy) B s.heap H locs M → lv_has ls 5 (lvl_X8_findThirds ad v1 lab v2 v3 v4 ) → W p l e (headSpec wsX8_findThirds rm_X8_findThirds).room s m args below meth c H locs 0 0 (MQ below (va_Qv (S := Mem) Q (xB D (wR ad cy) B) (xA B s.heap.size)) args s 0 0 (xA B s.heap.size)) (F0 m (pcl_X8_findThirds lab) ls []) := by
    intro P hJ lab v2 v3 v4 M h H locs ls S hl
    match lab, h, hl with
    | 0, h, hl =>
      have hl : lv_has ls 5 [(0, .ref (ad 0)), (1, .int v1)] := hl
      have h : blk_X8_findThirds_0 v1 Q P v2 v3 v4 M := h
      unfold blk_X8_findThirds_0 at h
      refine W.eq (g2 := F0 m 0 ls []) rfl ?_
      refine lv_aload_n hx hb dX8_findThirds_0 rfl (lv_at hl 0 rfl) ?_
      refine lv_iconst (v := 0) hx hb dX8_findThirds_1 (by decide) ?_
      refine x_putI hx hb hts (hC8) tyX8 tyX8_ok nmX8 hown hK S 27 (by decide) rf_0_27 (index := 165) (hts _ (List.mem_of_getElem? (i := 1) rfl)) rfl rfl rfl dX8_findThirds_2 (fun H locs S => ?_)
      refine lv_iconst (v := 0) hx hb dX8_findThirds_5 (by decide) ?_
      refine lv_istore_n (lv' := [(2, .int 0), (0, .ref (ad 0)), (1, .int v1)]) hx hb dX8_findThirds_6 rfl hl (by decide) rfl (fun ls hl => ?_)
      exact hJ _ _ _ _ _ h _ _ _ S (lv_sub hl [1, 2, 0] rfl)
    | 1, h, hl =>
      have hl : lv_has ls 5 [(0, .ref (ad 0)), (1, .int v1), (2, .int v2)] := hl
      have h : blk_X8_findThirds_1 v1 Q P v2 v3 v4 M := h
      unfold blk_X8_findThirds_1 at h
      refine W.eq (g2 := F0 m 7 ls []) rfl ?_
      refine lv_iload_n hx hb dX8_findThirds_7 rfl (lv_at hl 2 rfl) ?_
      refine lv_aload_n hx hb dX8_findThirds_8 rfl (lv_at hl 0 rfl) ?_
      refine x_getI hx hb hts (hC8) hown hK S 9 (by decide) rf_0_9 (index := 109) (hts _ (List.mem_of_getElem? (i := 2) rfl)) dX8_findThirds_9 ?_
      refine lv_icmp_ge (tgt := 112) hx hb dX8_findThirds_12 (by decide) (fun c12 => ?_) (fun c12 => ?_)
      · replace h := h.1 c12
        exact x_vret hx hb hr hlocks S h dX8_findThirds_112
      · replace h := h.2 c12
        refine lv_iload_n hx hb dX8_findThirds_15 rfl (lv_at hl 2 rfl) ?_
        refine lv_iconst (v := 1) hx hb dX8_findThirds_16 (by decide) ?_
        refine lv_iadd hx hb dX8_findThirds_17 ?_
        refine lv_istore_n (lv' := [(3, .int (v2 + 1)), (0, .ref (ad 0)), (1, .int v1), (2, .int v2)]) hx hb dX8_findThirds_18 rfl hl (by decide) rfl (fun ls hl => ?_)
        exact hJ _ _ _ _ _ h _ _ _ S (lv_sub hl [1, 2, 3, 0] rfl)
    | 2, h, hl =>
      have hl : lv_has ls 5 [(0, .ref (ad 0)), (1, .int v1), (2, .int v2), (3, .int v3)] := hl
      have h : blk_X8_findThirds_2 v1 Q P v2 v3 v4 M := h
      unfold blk_X8_findThirds_2 at h
      refine W.eq (g2 := F0 m 19 ls []) rfl ?_
      refine lv_iload_n hx hb dX8_findThirds_19 rfl (lv_at hl 3 rfl) ?_
      refine lv_aload_n hx hb dX8_findThirds_20 rfl (lv_at hl 0 rfl) ?_
      refine x_getI hx hb hts (hC8) hown hK S 9 (by decide) rf_0_9 (index := 109) (hts _ (List.mem_of_getElem? (i := 2) rfl)) dX8_findThirds_21 ?_
      refine lv_icmp_ge (tgt := 106) hx hb dX8_findThirds_24 (by decide) (fun c24 => ?_) (fun c24 => ?_)
      · replace h := h.1 c24
        refine lv_iinc (v := (v2 + 1)) (lv' := [(2, .int (v2 + 1)), (0, .ref (ad 0)), (1, .int v1), (3, .int v3)]) hx hb dX8_findThirds_106 hl (k := 2) rfl rfl (by decide) rfl (fun ls hl => ?_)
        refine lv_goto (tgt := 7) hx hb dX8_findThirds_109 (by decide) ?_
        exact hJ _ _ _ _ _ h _ _ _ S (lv_sub hl [1, 2, 0] rfl)
      · replace h := h.2 c24
        refine lv_iload_n hx hb dX8_findThirds_27 rfl (lv_at hl 3 rfl) ?_
        refine lv_iconst (v := 1) hx hb dX8_findThirds_28 (by decide) ?_
        refine lv_iadd hx hb dX8_findThirds_29 ?_
        refine lv_istore (lv' := [(4, .int (v3 + 1)), (0, .ref (ad 0)), (1, .int v1), (2, .int v2), (3, .int v3)]) hx hb dX8_findThirds_30 hl (by decide) rfl (fun ls hl => ?_)
        exact hJ _ _ _ _ _ h _ _ _ S (lv_sub hl [1, 2, 3, 4, 0] rfl)
    | 3, h, hl =>
      have hl : lv_has ls 5 [(0, .ref (ad 0)), (1, .int v1), (2, .int v2), (3, .int v3), (4, .int v4)] := hl
      have h : blk_X8_findThirds_3 v1 Q P v2 v3 v4 M := h
      unfold blk_X8_findThirds_3 at h
      refine W.eq (g2 := F0 m 32 ls []) rfl ?_
      refine lv_iload hx hb dX8_findThirds_32 (lv_at hl 4 rfl) ?_
      refine lv_aload_n hx hb dX8_findThirds_34 rfl (lv_at hl 0 rfl) ?_
      refine x_getI hx hb hts (hC8) hown hK S 9 (by decide) rf_0_9 (index := 109) (hts _ (List.mem_of_getElem? (i := 2) rfl)) dX8_findThirds_35 ?_
      refine lv_icmp_ge (tgt := 100) hx hb dX8_findThirds_38 (by decide) (fun c38 => ?_) (fun c38 => ?_)
      · replace h := h.1 c38
        refine lv_iinc (v := (v3 + 1)) (lv' := [(3, .int (v3 + 1)), (0, .ref (ad 0)), (1, .int v1), (2, .int v2), (4, .int v4)]) hx hb dX8_findThirds_100 hl (k := 3) rfl rfl (by decide) rfl (fun ls hl => ?_)
        refine lv_goto (tgt := 19) hx hb dX8_findThirds_103 (by decide) ?_
        exact hJ _ _ _ _ _ h _ _ _ S (lv_sub hl [1, 2, 3, 0] rfl)
      · replace h := h.2 c38
        refine lv_aload_n hx hb dX8_findThirds_41 rfl (lv_at hl 0 rfl) ?_
        refine lv_iload_n hx hb dX8_findThirds_42 rfl (lv_at hl 1 rfl) ?_
        refine lv_iload_n hx hb dX8_findThirds_43 rfl (lv_at hl 2 rfl) ?_
        refine lv_iload_n hx hb dX8_findThirds_44 rfl (lv_at hl 3 rfl) ?_
        refine lv_iload hx hb dX8_findThirds_45 (lv_at hl 4 rfl) ?_
        refine x_callVi (As := [.int v1, .int v2, .int v3, .int v4]) ⟨hx, hb, hml, hown, hts⟩ hK S (ct_X8_isThird l D cy ad B _ _ _ _ _ _ h) ro_0 rfl (cwV 4 hts gX8_findThirds_X8_isThird rfl rfl rfl (by decide +kernel) ⟨Nat.le_of_ble_eq_true rfl, Nat.le_of_ble_eq_true rfl⟩) rfl hl.1 rfl (Nat.le_of_ble_eq_true rfl) dX8_findThirds_47 ⟨Nat.zero_le _, Nat.zero_le _⟩ (fun r1 M1 H locs h S => ?_)
        refine lv_if_eq (tgt := 94) hx hb dX8_findThirds_50 (by decide) (fun c50 => ?_) (fun c50 => ?_)
        · replace h := h.1 c50
          exact hJ _ _ _ _ _ h _ _ _ S (lv_sub hl [0, 1, 2, 3, 4] rfl)
        · replace h := h.2 c50
          refine lv_aload_n hx hb dX8_findThirds_53 rfl (lv_at hl 0 rfl) ?_
          refine x_getR hx hb hts (hC8) hown hK S 28 (by decide) rf_0_28 (index := 56) (hts _ (List.mem_of_getElem? (i := 3) rfl)) dX8_findThirds_54 ?_
          refine lv_aload_n hx hb dX8_findThirds_57 rfl (lv_at hl 0 rfl) ?_
          refine x_getI hx hb hts (hC8) hown hK S 27 (by decide) rf_0_27 (index := 165) (hts _ (List.mem_of_getElem? (i := 1) rfl)) dX8_findThirds_58 ?_
          refine lv_iload_n hx hb dX8_findThirds_61 rfl (lv_at hl 2 rfl) ?_
          refine x_iast hx hb hK S ra_16 h.1 dX8_findThirds_62 (fun H locs S => ?_)
          replace h := h.2
          refine lv_aload_n hx hb dX8_findThirds_63 rfl (lv_at hl 0 rfl) ?_
          refine x_getR hx hb hts (hC8) hown hK S 29 (by decide) rf_0_29 (index := 59) (hts _ (List.mem_of_getElem? (i := 4) rfl)) dX8_findThirds_64 ?_
          refine lv_aload_n hx hb dX8_findThirds_67 rfl (lv_at hl 0 rfl) ?_
          refine x_getI hx hb hts (hC8) hown hK S 27 (by decide) rf_0_27 (index := 165) (hts _ (List.mem_of_getElem? (i := 1) rfl)) dX8_findThirds_68 ?_
          refine lv_iload_n hx hb dX8_findThirds_71 rfl (lv_at hl 3 rfl) ?_
          refine x_iast hx hb hK S ra_17 h.1 dX8_findThirds_72 (fun H locs S => ?_)
          replace h := h.2
          refine lv_aload_n hx hb dX8_findThirds_73 rfl (lv_at hl 0 rfl) ?_
          refine x_getR hx hb hts (hC8) hown hK S 30 (by decide) rf_0_30 (index := 62) (hts _ (List.mem_of_getElem? (i := 5) rfl)) dX8_findThirds_74 ?_
          refine lv_aload_n hx hb dX8_findThirds_77 rfl (lv_at hl 0 rfl) ?_
          refine x_getI hx hb hts (hC8) hown hK S 27 (by decide) rf_0_27 (index := 165) (hts _ (List.mem_of_getElem? (i := 1) rfl)) dX8_findThirds_78 ?_
          refine lv_iload hx hb dX8_findThirds_81 (lv_at hl 4 rfl) ?_
          refine x_iast hx hb hK S ra_18 h.1 dX8_findThirds_83 (fun H locs S => ?_)
          replace h := h.2
          refine lv_aload_n hx hb dX8_findThirds_84 rfl (lv_at hl 0 rfl) ?_
          refine lv_dup hx hb dX8_findThirds_85 rfl ?_
          refine x_getI hx hb hts (hC8) hown hK S 27 (by decide) rf_0_27 (index := 165) (hts _ (List.mem_of_getElem? (i := 1) rfl)) dX8_findThirds_86 ?_
          refine lv_iconst (v := 1) hx hb dX8_findThirds_89 (by decide) ?_
          refine lv_iadd hx hb dX8_findThirds_90 ?_
          refine x_putI hx hb hts (hC8) tyX8 tyX8_ok nmX8 hown hK S 27 (by decide) rf_0_27 (index := 165) (hts _ (List.mem_of_getElem? (i := 1) rfl)) rfl rfl rfl dX8_findThirds_91 (fun H locs S => ?_)
          exact hJ _ _ _ _ _ h _ _ _ S (lv_sub hl [0, 1, 2, 3, 4] rfl)
    | 4, h, hl =>
      have hl : lv_has ls 5 [(0, .ref (ad 0)), (1, .int v1), (2, .int v2), (3, .int v3), (4, .int v4)] := hl
      have h : blk_X8_findThirds_4 v1 Q P v2 v3 v4 M := h
      unfold blk_X8_findThirds_4 at h
      refine W.eq (g2 := F0 m 94 ls []) rfl ?_
      refine lv_iinc (v := (v4 + 1)) (lv' := [(4, .int (v4 + 1)), (0, .ref (ad 0)), (1, .int v1), (2, .int v2), (3, .int v3)]) hx hb dX8_findThirds_94 hl (k := 4) rfl rfl (by decide) rfl (fun ls hl => ?_)
      refine lv_goto (tgt := 32) hx hb dX8_findThirds_97 (by decide) ?_
      exact hJ _ _ _ _ _ h _ _ _ S (lv_sub hl [1, 2, 3, 4, 0] rfl)
    | _ + 5, h, hl => exact h.elim
  have hl := lv_entry ([.ref (ad 0), .int v1]) (n := 5) (Nat.le_of_ble_eq_true rfl)
  subst hargs
  rw [lg_entry_eq]
  generalize (lg_sl ([.ref (ad 0), .int v1]) ++ List.replicate (5 - (lg_sl ([.ref (ad 0), .int v1])).length) Slot.unset).toArray = ls at hl ⊢
  exact h _ (key _ (fun _ _ _ _ _ h => h)) s.heap [] ls ⟨hP, hD, va_S.rf⟩ hl
/-! X8_isBare -/
def blk_X8_isBare_0 (v1 : Int32) (Q : Int32 → Mem → Prop) (P : Nat → Int32 → Int32 → Int32 → Int32 → Int32 → Int32 → Mem → Prop) (v2 : Int32) (v3 : Int32) (v4 : Int32) (v5 : Int32) (v6 : Int32) (v7 : Int32) (M : Mem) : Prop :=
  wp_X8_isHem v1 M (fun r1 M1 => ((r1 = 0 → Q 0 M1) ∧ (¬ r1 = 0 → ((¬ (((M1.1 0 24) >>> (v1 &&& 31)) &&& (1 : Int32)) = 0 → wp_X8_findThirds (M1.1 0 24) M1 (fun M2 => P 1 0 0 0 0 0 0 M2)) ∧ ((((M1.1 0 24) >>> (v1 &&& 31)) &&& (1 : Int32)) = 0 → Q 0 M1)))))
theorem blk_X8_isBare_0_mono {v1 : Int32} {Q Q' : Int32 → Mem → Prop} {P P' : Nat → Int32 → Int32 → Int32 → Int32 → Int32 → Int32 → Mem → Prop} (hQ : ∀ (r : Int32) (M : Mem), Q r M → Q' r M) (hP : ∀ (lab : Nat) (v2 : Int32) (v3 : Int32) (v4 : Int32) (v5 : Int32) (v6 : Int32) (v7 : Int32) (M : Mem), P lab v2 v3 v4 v5 v6 v7 M → P' lab v2 v3 v4 v5 v6 v7 M) (v2 : Int32) (v3 : Int32) (v4 : Int32) (v5 : Int32) (v6 : Int32) (v7 : Int32) (M : Mem) (h : blk_X8_isBare_0 v1 Q P v2 v3 v4 v5 v6 v7 M) : blk_X8_isBare_0 v1 Q' P' v2 v3 v4 v5 v6 v7 M := by
  unfold blk_X8_isBare_0 at h ⊢
  exact wp_X8_isHem_mono (fun r1 M1 h => ⟨fun c => let h := h.1 c; hQ _ _ h, fun c => let h := h.2 c; ⟨fun c => let h := h.1 c; wp_X8_findThirds_mono (fun M2 h => hP _ _ _ _ _ _ _ _ h) h, fun c => let h := h.2 c; hQ _ _ h⟩⟩) h
def blk_X8_isBare_1 (v1 : Int32) (Q : Int32 → Mem → Prop) (P : Nat → Int32 → Int32 → Int32 → Int32 → Int32 → Int32 → Mem → Prop) (v2 : Int32) (v3 : Int32) (v4 : Int32) (v5 : Int32) (v6 : Int32) (v7 : Int32) (M : Mem) : Prop :=
  (((M.1 0 27) ≤ v3 → ((v2 = 0 ∨ v2 = 1) ∧ Q v2 M)) ∧ (¬ (M.1 0 27) ≤ v3 → (vp_in v3 60 ∧ (vp_in v3 60 ∧ (vp_in ((8 * (M.1 16 v3.toNatClampNeg)) + (M.1 17 v3.toNatClampNeg)) 64 ∧ ∀ x4_3 : Int32, x4_3 = (M.1 10 ((8 * (M.1 16 v3.toNatClampNeg)) + (M.1 17 v3.toNatClampNeg)).toNatClampNeg) → (vp_in v3 60 ∧ (vp_in v3 60 ∧ (vp_in ((8 * (M.1 16 v3.toNatClampNeg)) + (M.1 18 v3.toNatClampNeg)) 64 ∧ ∀ x5_4 : Int32, x5_4 = (M.1 10 ((8 * (M.1 16 v3.toNatClampNeg)) + (M.1 18 v3.toNatClampNeg)).toNatClampNeg) → (vp_in v3 60 ∧ (vp_in v3 60 ∧ (vp_in ((8 * (M.1 17 v3.toNatClampNeg)) + (M.1 18 v3.toNatClampNeg)) 64 ∧ ∀ x6_5 : Int32, x6_5 = (M.1 10 ((8 * (M.1 17 v3.toNatClampNeg)) + (M.1 18 v3.toNatClampNeg)).toNatClampNeg) → wp_X8_isHem x4_3 M (fun r6 M6 => ((r6 = 0 → wp_X8_isHem x5_4 M6 (fun r7 M7 => ((r7 = 0 → wp_X8_isHem x6_5 M7 (fun r8 M8 => ((r8 = 0 → P 2 v2 v3 x4_3 x5_4 x6_5 ((0 + 0) + 0) M8) ∧ (¬ r8 = 0 → P 2 v2 v3 x4_3 x5_4 x6_5 ((0 + 0) + 1) M8)))) ∧ (¬ r7 = 0 → wp_X8_isHem x6_5 M7 (fun r9 M9 => ((r9 = 0 → P 2 v2 v3 x4_3 x5_4 x6_5 ((0 + 1) + 0) M9) ∧ (¬ r9 = 0 → P 2 v2 v3 x4_3 x5_4 x6_5 ((0 + 1) + 1) M9))))))) ∧ (¬ r6 = 0 → wp_X8_isHem x5_4 M6 (fun r10 M10 => ((r10 = 0 → wp_X8_isHem x6_5 M10 (fun r11 M11 => ((r11 = 0 → P 2 v2 v3 x4_3 x5_4 x6_5 ((1 + 0) + 0) M11) ∧ (¬ r11 = 0 → P 2 v2 v3 x4_3 x5_4 x6_5 ((1 + 0) + 1) M11)))) ∧ (¬ r10 = 0 → wp_X8_isHem x6_5 M10 (fun r12 M12 => ((r12 = 0 → P 2 v2 v3 x4_3 x5_4 x6_5 ((1 + 1) + 0) M12) ∧ (¬ r12 = 0 → P 2 v2 v3 x4_3 x5_4 x6_5 ((1 + 1) + 1) M12))))))))))))))))))))
theorem blk_X8_isBare_1_mono {v1 : Int32} {Q Q' : Int32 → Mem → Prop} {P P' : Nat → Int32 → Int32 → Int32 → Int32 → Int32 → Int32 → Mem → Prop} (hQ : ∀ (r : Int32) (M : Mem), Q r M → Q' r M) (hP : ∀ (lab : Nat) (v2 : Int32) (v3 : Int32) (v4 : Int32) (v5 : Int32) (v6 : Int32) (v7 : Int32) (M : Mem), P lab v2 v3 v4 v5 v6 v7 M → P' lab v2 v3 v4 v5 v6 v7 M) (v2 : Int32) (v3 : Int32) (v4 : Int32) (v5 : Int32) (v6 : Int32) (v7 : Int32) (M : Mem) (h : blk_X8_isBare_1 v1 Q P v2 v3 v4 v5 v6 v7 M) : blk_X8_isBare_1 v1 Q' P' v2 v3 v4 v5 v6 v7 M := by
  unfold blk_X8_isBare_1 at h ⊢
  exact ⟨fun c => let h := h.1 c; ⟨h.1, hQ _ _ h.2⟩, fun c => let h := h.2 c; ⟨h.1, let h := h.2; ⟨h.1, let h := h.2; ⟨h.1, let h := h.2; fun x4_3 ex4_3 => let h := h x4_3 ex4_3; ⟨h.1, let h := h.2; ⟨h.1, let h := h.2; ⟨h.1, let h := h.2; fun x5_4 ex5_4 => let h := h x5_4 ex5_4; ⟨h.1, let h := h.2; ⟨h.1, let h := h.2; ⟨h.1, let h := h.2; fun x6_5 ex6_5 => let h := h x6_5 ex6_5; wp_X8_isHem_mono (fun r6 M6 h => ⟨fun c => let h := h.1 c; wp_X8_isHem_mono (fun r7 M7 h => ⟨fun c => let h := h.1 c; wp_X8_isHem_mono (fun r8 M8 h => ⟨fun c => let h := h.1 c; hP _ _ _ _ _ _ _ _ h, fun c => let h := h.2 c; hP _ _ _ _ _ _ _ _ h⟩) h, fun c => let h := h.2 c; wp_X8_isHem_mono (fun r9 M9 h => ⟨fun c => let h := h.1 c; hP _ _ _ _ _ _ _ _ h, fun c => let h := h.2 c; hP _ _ _ _ _ _ _ _ h⟩) h⟩) h, fun c => let h := h.2 c; wp_X8_isHem_mono (fun r10 M10 h => ⟨fun c => let h := h.1 c; wp_X8_isHem_mono (fun r11 M11 h => ⟨fun c => let h := h.1 c; hP _ _ _ _ _ _ _ _ h, fun c => let h := h.2 c; hP _ _ _ _ _ _ _ _ h⟩) h, fun c => let h := h.2 c; wp_X8_isHem_mono (fun r12 M12 h => ⟨fun c => let h := h.1 c; hP _ _ _ _ _ _ _ _ h, fun c => let h := h.2 c; hP _ _ _ _ _ _ _ _ h⟩) h⟩) h⟩) h⟩⟩⟩⟩⟩⟩⟩⟩⟩⟩
def blk_X8_isBare_2 (v1 : Int32) (Q : Int32 → Mem → Prop) (P : Nat → Int32 → Int32 → Int32 → Int32 → Int32 → Int32 → Mem → Prop) (v2 : Int32) (v3 : Int32) (v4 : Int32) (v5 : Int32) (v6 : Int32) (v7 : Int32) (M : Mem) : Prop :=
  ((¬ v2 = 0 → P 3 0 v3 0 0 0 0 M) ∧ (v2 = 0 → ((v4 = v1 → P 4 0 v3 0 0 0 v7 M) ∧ (¬ v4 = v1 → ((v5 = v1 → P 4 0 v3 0 0 0 v7 M) ∧ (¬ v5 = v1 → ((¬ v6 = v1 → P 5 0 v3 0 0 0 0 M) ∧ (v6 = v1 → P 4 0 v3 0 0 0 v7 M))))))))
theorem blk_X8_isBare_2_mono {v1 : Int32} {Q Q' : Int32 → Mem → Prop} {P P' : Nat → Int32 → Int32 → Int32 → Int32 → Int32 → Int32 → Mem → Prop} (hQ : ∀ (r : Int32) (M : Mem), Q r M → Q' r M) (hP : ∀ (lab : Nat) (v2 : Int32) (v3 : Int32) (v4 : Int32) (v5 : Int32) (v6 : Int32) (v7 : Int32) (M : Mem), P lab v2 v3 v4 v5 v6 v7 M → P' lab v2 v3 v4 v5 v6 v7 M) (v2 : Int32) (v3 : Int32) (v4 : Int32) (v5 : Int32) (v6 : Int32) (v7 : Int32) (M : Mem) (h : blk_X8_isBare_2 v1 Q P v2 v3 v4 v5 v6 v7 M) : blk_X8_isBare_2 v1 Q' P' v2 v3 v4 v5 v6 v7 M := by
  unfold blk_X8_isBare_2 at h ⊢
  exact ⟨fun c => let h := h.1 c; hP _ _ _ _ _ _ _ _ h, fun c => let h := h.2 c; ⟨fun c => let h := h.1 c; hP _ _ _ _ _ _ _ _ h, fun c => let h := h.2 c; ⟨fun c => let h := h.1 c; hP _ _ _ _ _ _ _ _ h, fun c => let h := h.2 c; ⟨fun c => let h := h.1 c; hP _ _ _ _ _ _ _ _ h, fun c => let h := h.2 c; hP _ _ _ _ _ _ _ _ h⟩⟩⟩⟩
def blk_X8_isBare_3 (v1 : Int32) (Q : Int32 → Mem → Prop) (P : Nat → Int32 → Int32 → Int32 → Int32 → Int32 → Int32 → Mem → Prop) (v2 : Int32) (v3 : Int32) (v4 : Int32) (v5 : Int32) (v6 : Int32) (v7 : Int32) (M : Mem) : Prop :=
  P 6 1 v3 0 0 0 0 M
theorem blk_X8_isBare_3_mono {v1 : Int32} {Q Q' : Int32 → Mem → Prop} {P P' : Nat → Int32 → Int32 → Int32 → Int32 → Int32 → Int32 → Mem → Prop} (hQ : ∀ (r : Int32) (M : Mem), Q r M → Q' r M) (hP : ∀ (lab : Nat) (v2 : Int32) (v3 : Int32) (v4 : Int32) (v5 : Int32) (v6 : Int32) (v7 : Int32) (M : Mem), P lab v2 v3 v4 v5 v6 v7 M → P' lab v2 v3 v4 v5 v6 v7 M) (v2 : Int32) (v3 : Int32) (v4 : Int32) (v5 : Int32) (v6 : Int32) (v7 : Int32) (M : Mem) (h : blk_X8_isBare_3 v1 Q P v2 v3 v4 v5 v6 v7 M) : blk_X8_isBare_3 v1 Q' P' v2 v3 v4 v5 v6 v7 M := by
  unfold blk_X8_isBare_3 at h ⊢
  exact hP _ _ _ _ _ _ _ _ h
def blk_X8_isBare_4 (v1 : Int32) (Q : Int32 → Mem → Prop) (P : Nat → Int32 → Int32 → Int32 → Int32 → Int32 → Int32 → Mem → Prop) (v2 : Int32) (v3 : Int32) (v4 : Int32) (v5 : Int32) (v6 : Int32) (v7 : Int32) (M : Mem) : Prop :=
  ((v7 ≤ 1 → P 5 0 v3 0 0 0 0 M) ∧ (¬ v7 ≤ 1 → P 3 0 v3 0 0 0 0 M))
theorem blk_X8_isBare_4_mono {v1 : Int32} {Q Q' : Int32 → Mem → Prop} {P P' : Nat → Int32 → Int32 → Int32 → Int32 → Int32 → Int32 → Mem → Prop} (hQ : ∀ (r : Int32) (M : Mem), Q r M → Q' r M) (hP : ∀ (lab : Nat) (v2 : Int32) (v3 : Int32) (v4 : Int32) (v5 : Int32) (v6 : Int32) (v7 : Int32) (M : Mem), P lab v2 v3 v4 v5 v6 v7 M → P' lab v2 v3 v4 v5 v6 v7 M) (v2 : Int32) (v3 : Int32) (v4 : Int32) (v5 : Int32) (v6 : Int32) (v7 : Int32) (M : Mem) (h : blk_X8_isBare_4 v1 Q P v2 v3 v4 v5 v6 v7 M) : blk_X8_isBare_4 v1 Q' P' v2 v3 v4 v5 v6 v7 M := by
  unfold blk_X8_isBare_4 at h ⊢
  exact ⟨fun c => let h := h.1 c; hP _ _ _ _ _ _ _ _ h, fun c => let h := h.2 c; hP _ _ _ _ _ _ _ _ h⟩
def blk_X8_isBare_5 (v1 : Int32) (Q : Int32 → Mem → Prop) (P : Nat → Int32 → Int32 → Int32 → Int32 → Int32 → Int32 → Mem → Prop) (v2 : Int32) (v3 : Int32) (v4 : Int32) (v5 : Int32) (v6 : Int32) (v7 : Int32) (M : Mem) : Prop :=
  P 6 0 v3 0 0 0 0 M
theorem blk_X8_isBare_5_mono {v1 : Int32} {Q Q' : Int32 → Mem → Prop} {P P' : Nat → Int32 → Int32 → Int32 → Int32 → Int32 → Int32 → Mem → Prop} (hQ : ∀ (r : Int32) (M : Mem), Q r M → Q' r M) (hP : ∀ (lab : Nat) (v2 : Int32) (v3 : Int32) (v4 : Int32) (v5 : Int32) (v6 : Int32) (v7 : Int32) (M : Mem), P lab v2 v3 v4 v5 v6 v7 M → P' lab v2 v3 v4 v5 v6 v7 M) (v2 : Int32) (v3 : Int32) (v4 : Int32) (v5 : Int32) (v6 : Int32) (v7 : Int32) (M : Mem) (h : blk_X8_isBare_5 v1 Q P v2 v3 v4 v5 v6 v7 M) : blk_X8_isBare_5 v1 Q' P' v2 v3 v4 v5 v6 v7 M := by
  unfold blk_X8_isBare_5 at h ⊢
  exact hP _ _ _ _ _ _ _ _ h
def blk_X8_isBare_6 (v1 : Int32) (Q : Int32 → Mem → Prop) (P : Nat → Int32 → Int32 → Int32 → Int32 → Int32 → Int32 → Mem → Prop) (v2 : Int32) (v3 : Int32) (v4 : Int32) (v5 : Int32) (v6 : Int32) (v7 : Int32) (M : Mem) : Prop :=
  P 1 v2 (v3 + 1) 0 0 0 0 M
theorem blk_X8_isBare_6_mono {v1 : Int32} {Q Q' : Int32 → Mem → Prop} {P P' : Nat → Int32 → Int32 → Int32 → Int32 → Int32 → Int32 → Mem → Prop} (hQ : ∀ (r : Int32) (M : Mem), Q r M → Q' r M) (hP : ∀ (lab : Nat) (v2 : Int32) (v3 : Int32) (v4 : Int32) (v5 : Int32) (v6 : Int32) (v7 : Int32) (M : Mem), P lab v2 v3 v4 v5 v6 v7 M → P' lab v2 v3 v4 v5 v6 v7 M) (v2 : Int32) (v3 : Int32) (v4 : Int32) (v5 : Int32) (v6 : Int32) (v7 : Int32) (M : Mem) (h : blk_X8_isBare_6 v1 Q P v2 v3 v4 v5 v6 v7 M) : blk_X8_isBare_6 v1 Q' P' v2 v3 v4 v5 v6 v7 M := by
  unfold blk_X8_isBare_6 at h ⊢
  exact hP _ _ _ _ _ _ _ _ h
def blk_X8_isBare (v1 : Int32) (Q : Int32 → Mem → Prop) (P : Nat → Int32 → Int32 → Int32 → Int32 → Int32 → Int32 → Mem → Prop) : Nat → Int32 → Int32 → Int32 → Int32 → Int32 → Int32 → Mem → Prop := fun lab v2 v3 v4 v5 v6 v7 M => match lab with
  | 0 => blk_X8_isBare_0 v1 Q P v2 v3 v4 v5 v6 v7 M
  | 1 => blk_X8_isBare_1 v1 Q P v2 v3 v4 v5 v6 v7 M
  | 2 => blk_X8_isBare_2 v1 Q P v2 v3 v4 v5 v6 v7 M
  | 3 => blk_X8_isBare_3 v1 Q P v2 v3 v4 v5 v6 v7 M
  | 4 => blk_X8_isBare_4 v1 Q P v2 v3 v4 v5 v6 v7 M
  | 5 => blk_X8_isBare_5 v1 Q P v2 v3 v4 v5 v6 v7 M
  | 6 => blk_X8_isBare_6 v1 Q P v2 v3 v4 v5 v6 v7 M
  | _ => False
theorem blk_X8_isBare_mono {v1 : Int32} {Q Q' : Int32 → Mem → Prop} {P P' : Nat → Int32 → Int32 → Int32 → Int32 → Int32 → Int32 → Mem → Prop} (hQ : ∀ (r : Int32) (M : Mem), Q r M → Q' r M) (hP : ∀ (lab : Nat) (v2 : Int32) (v3 : Int32) (v4 : Int32) (v5 : Int32) (v6 : Int32) (v7 : Int32) (M : Mem), P lab v2 v3 v4 v5 v6 v7 M → P' lab v2 v3 v4 v5 v6 v7 M) : ∀ (lab : Nat) (v2 : Int32) (v3 : Int32) (v4 : Int32) (v5 : Int32) (v6 : Int32) (v7 : Int32) (M : Mem), blk_X8_isBare v1 Q P lab v2 v3 v4 v5 v6 v7 M → blk_X8_isBare v1 Q' P' lab v2 v3 v4 v5 v6 v7 M := fun lab v2 v3 v4 v5 v6 v7 M h => match lab, h with
  | 0, h => blk_X8_isBare_0_mono (v1 := v1) hQ hP v2 v3 v4 v5 v6 v7 M h
  | 1, h => blk_X8_isBare_1_mono (v1 := v1) hQ hP v2 v3 v4 v5 v6 v7 M h
  | 2, h => blk_X8_isBare_2_mono (v1 := v1) hQ hP v2 v3 v4 v5 v6 v7 M h
  | 3, h => blk_X8_isBare_3_mono (v1 := v1) hQ hP v2 v3 v4 v5 v6 v7 M h
  | 4, h => blk_X8_isBare_4_mono (v1 := v1) hQ hP v2 v3 v4 v5 v6 v7 M h
  | 5, h => blk_X8_isBare_5_mono (v1 := v1) hQ hP v2 v3 v4 v5 v6 v7 M h
  | 6, h => blk_X8_isBare_6_mono (v1 := v1) hQ hP v2 v3 v4 v5 v6 v7 M h
  | _ + 7, h => False.elim h
def at_X8_isBare (v1 : Int32) (Q : Int32 → Mem → Prop) : Nat → Int32 → Int32 → Int32 → Int32 → Int32 → Int32 → Mem → Prop := fun lab v2 v3 v4 v5 v6 v7 M => ∀ P : Nat → Int32 → Int32 → Int32 → Int32 → Int32 → Int32 → Mem → Prop, (∀ (lab : Nat) (v2 : Int32) (v3 : Int32) (v4 : Int32) (v5 : Int32) (v6 : Int32) (v7 : Int32) (M : Mem), blk_X8_isBare v1 Q P lab v2 v3 v4 v5 v6 v7 M → P lab v2 v3 v4 v5 v6 v7 M) → P lab v2 v3 v4 v5 v6 v7 M
theorem at_X8_isBare_fold {v1 : Int32} {Q : Int32 → Mem → Prop} {lab : Nat} {v2 : Int32} {v3 : Int32} {v4 : Int32} {v5 : Int32} {v6 : Int32} {v7 : Int32} {M : Mem} (h : blk_X8_isBare v1 Q (at_X8_isBare v1 Q) lab v2 v3 v4 v5 v6 v7 M) : at_X8_isBare v1 Q lab v2 v3 v4 v5 v6 v7 M := fun P hP => hP _ _ _ _ _ _ _ _ (blk_X8_isBare_mono (fun _ _ h => h) (fun _ _ _ _ _ _ _ _ h => h P hP) _ _ _ _ _ _ _ _ h)
theorem at_X8_isBare_mono {v1 : Int32} {Q Q' : Int32 → Mem → Prop} (hQ : ∀ (r : Int32) (M : Mem), Q r M → Q' r M) {lab : Nat} {v2 : Int32} {v3 : Int32} {v4 : Int32} {v5 : Int32} {v6 : Int32} {v7 : Int32} {M : Mem} (h : at_X8_isBare v1 Q lab v2 v3 v4 v5 v6 v7 M) : at_X8_isBare v1 Q' lab v2 v3 v4 v5 v6 v7 M := fun P hP => h P (fun lab v2 v3 v4 v5 v6 v7 M hb => hP _ _ _ _ _ _ _ _ (blk_X8_isBare_mono hQ (fun _ _ _ _ _ _ _ _ h => h) _ _ _ _ _ _ _ _ hb))
def wp_X8_isBare (v1 : Int32) (M : Mem) (Q : Int32 → Mem → Prop) : Prop := at_X8_isBare v1 Q 0 0 0 0 0 0 0 M
theorem wp_X8_isBare_mono {v1 : Int32} {M : Mem} {Q Q' : Int32 → Mem → Prop} (hQ : ∀ (r : Int32) (M : Mem), Q r M → Q' r M) (h : wp_X8_isBare v1 M Q) : wp_X8_isBare v1 M Q' := at_X8_isBare_mono hQ h
def pcl_X8_isBare : Nat → Nat := fun lab => match lab with
  | 0 => 0
  | 1 => 33
  | 2 => 156
  | 3 => 184
  | 4 => 178
  | 5 => 188
  | 6 => 190
  | _ => 0
def lvl_X8_isBare (ad : Nat → Nat) (v1 : Int32) : Nat → Int32 → Int32 → Int32 → Int32 → Int32 → Int32 → List (Nat × Value) := fun lab v2 v3 v4 v5 v6 v7 => match lab with
  | 0 => [(0, .ref (ad 0)), (1, .int v1)]
  | 1 => [(0, .ref (ad 0)), (1, .int v1), (2, .int v2), (3, .int v3)]
  | 2 => [(0, .ref (ad 0)), (1, .int v1), (2, .int v2), (3, .int v3), (4, .int v4), (5, .int v5), (6, .int v6), (7, .int v7)]
  | 3 => [(0, .ref (ad 0)), (1, .int v1), (3, .int v3)]
  | 4 => [(0, .ref (ad 0)), (1, .int v1), (3, .int v3), (7, .int v7)]
  | 5 => [(0, .ref (ad 0)), (1, .int v1), (3, .int v3)]
  | 6 => [(0, .ref (ad 0)), (1, .int v1), (2, .int v2), (3, .int v3)]
  | _ => []
abbrev rm_X8_isBare : Jvm.Room := { frames := 5, cells := 0, slots := 0, locals := 115 }
set_option maxHeartbeats 4000000 in
set_option maxRecDepth 100000 in
theorem ct_X8_isBare (l : Launch) (D : va_G) (cy : Nat → ClassId) (ad : Nat → Nat) (B : Nat → Prop) (v1 : Int32) (M : Mem) (Q : Int32 → Mem → Prop) (h : wp_X8_isBare v1 M Q) : CTi l D cy (wR ad cy) B yX8_isBare wsX8_isBare rm_X8_isBare [.ref (ad 0), .int v1] M Q := by
  intro sz
  refine Met.ofW (cc := cX8_isBare) (maxL := 8) (ret := some .boolean) (by decide) rfl ?_
  intro p e s m args below meth c s₁ Bd hml hv
  obtain ⟨hargs, hsz, hP, hK, hD⟩ := hv
  subst hsz
  have hx := Bd.exec
  have hb := Bd.bytes
  have hr := Bd.returns
  have hts := atoms_spec (ws := wsX8_isBare) Bd.pre
  have hown : s.vm.findClass RX8 = some m.cls := findClass_of_methodNamed Bd.named
  have hlocks := Bd.notSynchronized
  have hC8 : xC wsX8_isBare 8 RX8 TX8 34 := ⟨by decide +kernel, rfl⟩
  have key : ∀ (P : Nat → Int32 → Int32 → Int32 → Int32 → Int32 → Int32 → Mem → Prop), (∀ (lab : Nat) (v2 : Int32) (v3 : Int32) (v4 : Int32) (v5 : Int32) (v6 : Int32) (v7 : Int32) (M : Mem), P lab v2 v3 v4 v5 v6 v7 M → ∀ (H : Heap) (locs : List Loc) (ls : Array Slot), xS D (wR ad cy) B s.heap H locs M → lv_has ls 8 (lvl_X8_isBare ad v1 lab v2 v3 v4 v5 v6 v7 ) → W p l e (headSpec wsX8_isBare rm_X8_isBare).room s m args below meth c H locs 0 0 (MQ below (va_Qi (S := Mem) Q (xB D (wR ad cy) B) (xA B s.heap.size)) args s 0 0 (xA B s.heap.size)) (F0 m (pcl_X8_isBare lab) ls [])) → ∀ (lab : Nat) (v2 : Int32) (v3 : Int32) (v4 : Int32) (v5 : Int32) (v6 : Int32) (v7 : Int32) (M : Mem), blk_X8_isBare v1 Q P lab v2 v3 v4 v5 v6 v7 M → ∀ (H : Heap) (locs : List Loc) (ls : Array Slot), xS D (wR ad cy) B s.heap H locs M → lv_has ls 8 (lvl_X8_isBare ad v1 lab v2 v3 v4 v5 v6 v7 ) → W p l e (headSpec wsX8_isBare rm_X8_isBare).room s m args below meth c H locs 0 0 (MQ below (va_Qi (S := Mem) Q (xB D (wR ad cy) B) (xA B s.heap.size)) args s 0 0 (xA B s.heap.size)) (F0 m (pcl_X8_isBare lab) ls []) := by
    intro P hJ lab v2 v3 v4 v5 v6 v7 M h H locs ls S hl
    match lab, h, hl with
    | 0, h, hl =>
      have hl : lv_has ls 8 [(0, .ref (ad 0)), (1, .int v1)] := hl
      have h : blk_X8_isBare_0 v1 Q P v2 v3 v4 v5 v6 v7 M := h
      unfold blk_X8_isBare_0 at h
      refine W.eq (g2 := F0 m 0 ls []) rfl ?_
      refine lv_aload_n hx hb dX8_isBare_0 rfl (lv_at hl 0 rfl) ?_
      refine lv_iload_n hx hb dX8_isBare_1 rfl (lv_at hl 1 rfl) ?_
      refine x_callVi (As := [.int v1]) ⟨hx, hb, hml, hown, hts⟩ hK S (ct_X8_isHem l D cy ad B _ _ _ h) ro_0 rfl (cwV 1 hts gX8_isBare_X8_isHem rfl rfl rfl (by decide +kernel) ⟨Nat.le_of_ble_eq_true rfl, Nat.le_of_ble_eq_true rfl⟩) rfl hl.1 rfl (Nat.le_of_ble_eq_true rfl) dX8_isBare_2 ⟨Nat.zero_le _, Nat.zero_le _⟩ (fun r1 M1 H locs h S => ?_)
      refine lv_if_eq (tgt := 19) hx hb dX8_isBare_5 (by decide) (fun c5 => ?_) (fun c5 => ?_)
      · replace h := h.1 c5
        refine lv_iconst (v := 0) hx hb dX8_isBare_19 (by decide) ?_
        exact x_iret hx hb hr hlocks S rfl h dX8_isBare_20
      · replace h := h.2 c5
        refine lv_aload_n hx hb dX8_isBare_8 rfl (lv_at hl 0 rfl) ?_
        refine x_getI hx hb hts (hC8) hown hK S 24 (by decide) rf_0_24 (index := 145) (hts _ (List.mem_of_getElem? (i := 1) rfl)) dX8_isBare_9 ?_
        refine lv_iload_n hx hb dX8_isBare_12 rfl (lv_at hl 1 rfl) ?_
        refine lv_ishr hx hb dX8_isBare_13 ?_
        refine lv_iconst (v := 1) hx hb dX8_isBare_14 (by decide) ?_
        refine lv_iand hx hb dX8_isBare_15 ?_
        refine lv_if_ne (tgt := 21) hx hb dX8_isBare_16 (by decide) (fun c16 => ?_) (fun c16 => ?_)
        · replace h := h.1 c16
          refine lv_aload_n hx hb dX8_isBare_21 rfl (lv_at hl 0 rfl) ?_
          refine lv_aload_n hx hb dX8_isBare_22 rfl (lv_at hl 0 rfl) ?_
          refine x_getI hx hb hts (hC8) hown hK S 24 (by decide) rf_0_24 (index := 145) (hts _ (List.mem_of_getElem? (i := 1) rfl)) dX8_isBare_23 ?_
          refine x_callVv (As := [.int (M1.1 0 24)]) ⟨hx, hb, hml, hown, hts⟩ hK S (ct_X8_findThirds l D cy ad B _ _ _ h) ro_0 rfl (cwV 1 hts gX8_isBare_X8_findThirds rfl rfl rfl (by decide +kernel) ⟨Nat.le_of_ble_eq_true rfl, Nat.le_of_ble_eq_true rfl⟩) rfl hl.1 rfl (Nat.le_of_ble_eq_true rfl) dX8_isBare_26 ⟨Nat.zero_le _, Nat.zero_le _⟩ (fun M2 H locs h S => ?_)
          refine lv_iconst (v := 0) hx hb dX8_isBare_29 (by decide) ?_
          refine lv_istore_n (lv' := [(2, .int 0), (0, .ref (ad 0)), (1, .int v1)]) hx hb dX8_isBare_30 rfl hl (by decide) rfl (fun ls hl => ?_)
          refine lv_iconst (v := 0) hx hb dX8_isBare_31 (by decide) ?_
          refine lv_istore_n (lv' := [(3, .int 0), (2, .int 0), (0, .ref (ad 0)), (1, .int v1)]) hx hb dX8_isBare_32 rfl hl (by decide) rfl (fun ls hl => ?_)
          exact hJ _ _ _ _ _ _ _ _ h _ _ _ S (lv_sub hl [2, 3, 1, 0] rfl)
        · replace h := h.2 c16
          refine lv_iconst (v := 0) hx hb dX8_isBare_19 (by decide) ?_
          exact x_iret hx hb hr hlocks S rfl h dX8_isBare_20
    | 1, h, hl =>
      have hl : lv_has ls 8 [(0, .ref (ad 0)), (1, .int v1), (2, .int v2), (3, .int v3)] := hl
      have h : blk_X8_isBare_1 v1 Q P v2 v3 v4 v5 v6 v7 M := h
      unfold blk_X8_isBare_1 at h
      refine W.eq (g2 := F0 m 33 ls []) rfl ?_
      refine lv_iload_n hx hb dX8_isBare_33 rfl (lv_at hl 3 rfl) ?_
      refine lv_aload_n hx hb dX8_isBare_34 rfl (lv_at hl 0 rfl) ?_
      refine x_getI hx hb hts (hC8) hown hK S 27 (by decide) rf_0_27 (index := 165) (hts _ (List.mem_of_getElem? (i := 2) rfl)) dX8_isBare_35 ?_
      refine lv_icmp_ge (tgt := 196) hx hb dX8_isBare_38 (by decide) (fun c38 => ?_) (fun c38 => ?_)
      · replace h := h.1 c38
        refine lv_iload_n hx hb dX8_isBare_196 rfl (lv_at hl 2 rfl) ?_
        exact x_iret hx hb hr hlocks S (x_nb h.1) h.2 dX8_isBare_197
      · replace h := h.2 c38
        refine lv_aload_n hx hb dX8_isBare_41 rfl (lv_at hl 0 rfl) ?_
        refine x_getR hx hb hts (hC8) hown hK S 15 (by decide) rf_0_15 (index := 38) (hts _ (List.mem_of_getElem? (i := 3) rfl)) dX8_isBare_42 ?_
        refine lv_bipush (v := 8) hx hb dX8_isBare_45 (by decide) ?_
        refine lv_aload_n hx hb dX8_isBare_47 rfl (lv_at hl 0 rfl) ?_
        refine x_getR hx hb hts (hC8) hown hK S 28 (by decide) rf_0_28 (index := 56) (hts _ (List.mem_of_getElem? (i := 4) rfl)) dX8_isBare_48 ?_
        refine lv_iload_n hx hb dX8_isBare_51 rfl (lv_at hl 3 rfl) ?_
        refine x_iald hx hb hK S ra_16 h.1 dX8_isBare_52 ?_
        replace h := h.2
        refine lv_imul hx hb dX8_isBare_53 ?_
        refine lv_aload_n hx hb dX8_isBare_54 rfl (lv_at hl 0 rfl) ?_
        refine x_getR hx hb hts (hC8) hown hK S 29 (by decide) rf_0_29 (index := 59) (hts _ (List.mem_of_getElem? (i := 5) rfl)) dX8_isBare_55 ?_
        refine lv_iload_n hx hb dX8_isBare_58 rfl (lv_at hl 3 rfl) ?_
        refine x_iald hx hb hK S ra_17 h.1 dX8_isBare_59 ?_
        replace h := h.2
        refine lv_iadd hx hb dX8_isBare_60 ?_
        refine x_iald hx hb hK S ra_10 h.1 dX8_isBare_61 ?_
        replace h := h.2
        refine lv_topi (fun x4_3 ex4_3 => ?_)
        replace h := h x4_3 ex4_3
        refine lv_istore (lv' := [(4, .int x4_3), (0, .ref (ad 0)), (1, .int v1), (2, .int v2), (3, .int v3)]) hx hb dX8_isBare_62 hl (by decide) rfl (fun ls hl => ?_)
        refine lv_aload_n hx hb dX8_isBare_64 rfl (lv_at hl 1 rfl) ?_
        refine x_getR hx hb hts (hC8) hown hK S 15 (by decide) rf_0_15 (index := 38) (hts _ (List.mem_of_getElem? (i := 3) rfl)) dX8_isBare_65 ?_
        refine lv_bipush (v := 8) hx hb dX8_isBare_68 (by decide) ?_
        refine lv_aload_n hx hb dX8_isBare_70 rfl (lv_at hl 1 rfl) ?_
        refine x_getR hx hb hts (hC8) hown hK S 28 (by decide) rf_0_28 (index := 56) (hts _ (List.mem_of_getElem? (i := 4) rfl)) dX8_isBare_71 ?_
        refine lv_iload_n hx hb dX8_isBare_74 rfl (lv_at hl 4 rfl) ?_
        refine x_iald hx hb hK S ra_16 h.1 dX8_isBare_75 ?_
        replace h := h.2
        refine lv_imul hx hb dX8_isBare_76 ?_
        refine lv_aload_n hx hb dX8_isBare_77 rfl (lv_at hl 1 rfl) ?_
        refine x_getR hx hb hts (hC8) hown hK S 30 (by decide) rf_0_30 (index := 62) (hts _ (List.mem_of_getElem? (i := 6) rfl)) dX8_isBare_78 ?_
        refine lv_iload_n hx hb dX8_isBare_81 rfl (lv_at hl 4 rfl) ?_
        refine x_iald hx hb hK S ra_18 h.1 dX8_isBare_82 ?_
        replace h := h.2
        refine lv_iadd hx hb dX8_isBare_83 ?_
        refine x_iald hx hb hK S ra_10 h.1 dX8_isBare_84 ?_
        replace h := h.2
        refine lv_topi (fun x5_4 ex5_4 => ?_)
        replace h := h x5_4 ex5_4
        refine lv_istore (lv' := [(5, .int x5_4), (4, .int x4_3), (0, .ref (ad 0)), (1, .int v1), (2, .int v2), (3, .int v3)]) hx hb dX8_isBare_85 hl (by decide) rfl (fun ls hl => ?_)
        refine lv_aload_n hx hb dX8_isBare_87 rfl (lv_at hl 2 rfl) ?_
        refine x_getR hx hb hts (hC8) hown hK S 15 (by decide) rf_0_15 (index := 38) (hts _ (List.mem_of_getElem? (i := 3) rfl)) dX8_isBare_88 ?_
        refine lv_bipush (v := 8) hx hb dX8_isBare_91 (by decide) ?_
        refine lv_aload_n hx hb dX8_isBare_93 rfl (lv_at hl 2 rfl) ?_
        refine x_getR hx hb hts (hC8) hown hK S 29 (by decide) rf_0_29 (index := 59) (hts _ (List.mem_of_getElem? (i := 5) rfl)) dX8_isBare_94 ?_
        refine lv_iload_n hx hb dX8_isBare_97 rfl (lv_at hl 5 rfl) ?_
        refine x_iald hx hb hK S ra_17 h.1 dX8_isBare_98 ?_
        replace h := h.2
        refine lv_imul hx hb dX8_isBare_99 ?_
        refine lv_aload_n hx hb dX8_isBare_100 rfl (lv_at hl 2 rfl) ?_
        refine x_getR hx hb hts (hC8) hown hK S 30 (by decide) rf_0_30 (index := 62) (hts _ (List.mem_of_getElem? (i := 6) rfl)) dX8_isBare_101 ?_
        refine lv_iload_n hx hb dX8_isBare_104 rfl (lv_at hl 5 rfl) ?_
        refine x_iald hx hb hK S ra_18 h.1 dX8_isBare_105 ?_
        replace h := h.2
        refine lv_iadd hx hb dX8_isBare_106 ?_
        refine x_iald hx hb hK S ra_10 h.1 dX8_isBare_107 ?_
        replace h := h.2
        refine lv_topi (fun x6_5 ex6_5 => ?_)
        replace h := h x6_5 ex6_5
        refine lv_istore (lv' := [(6, .int x6_5), (5, .int x5_4), (4, .int x4_3), (0, .ref (ad 0)), (1, .int v1), (2, .int v2), (3, .int v3)]) hx hb dX8_isBare_108 hl (by decide) rfl (fun ls hl => ?_)
        refine lv_aload_n hx hb dX8_isBare_110 rfl (lv_at hl 3 rfl) ?_
        refine lv_iload hx hb dX8_isBare_111 (lv_at hl 2 rfl) ?_
        refine x_callVi (As := [.int x4_3]) ⟨hx, hb, hml, hown, hts⟩ hK S (ct_X8_isHem l D cy ad B _ _ _ h) ro_0 rfl (cwV 1 hts gX8_isBare_X8_isHem rfl rfl rfl (by decide +kernel) ⟨Nat.le_of_ble_eq_true rfl, Nat.le_of_ble_eq_true rfl⟩) rfl hl.1 rfl (Nat.le_of_ble_eq_true rfl) dX8_isBare_113 ⟨Nat.zero_le _, Nat.zero_le _⟩ (fun r6 M6 H locs h S => ?_)
        refine lv_if_eq (tgt := 123) hx hb dX8_isBare_116 (by decide) (fun c116 => ?_) (fun c116 => ?_)
        · replace h := h.1 c116
          refine lv_iconst (v := 0) hx hb dX8_isBare_123 (by decide) ?_
          refine lv_aload_n hx hb dX8_isBare_124 rfl (lv_at hl 3 rfl) ?_
          refine lv_iload hx hb dX8_isBare_125 (lv_at hl 1 rfl) ?_
          refine x_callVi (As := [.int x5_4]) ⟨hx, hb, hml, hown, hts⟩ hK S (ct_X8_isHem l D cy ad B _ _ _ h) ro_0 rfl (cwV 1 hts gX8_isBare_X8_isHem rfl rfl rfl (by decide +kernel) ⟨Nat.le_of_ble_eq_true rfl, Nat.le_of_ble_eq_true rfl⟩) rfl hl.1 rfl (Nat.le_of_ble_eq_true rfl) dX8_isBare_127 ⟨Nat.zero_le _, Nat.zero_le _⟩ (fun r7 M7 H locs h S => ?_)
          refine lv_if_eq (tgt := 137) hx hb dX8_isBare_130 (by decide) (fun c130 => ?_) (fun c130 => ?_)
          · replace h := h.1 c130
            refine lv_iconst (v := 0) hx hb dX8_isBare_137 (by decide) ?_
            refine lv_iadd hx hb dX8_isBare_138 ?_
            refine lv_aload_n hx hb dX8_isBare_139 rfl (lv_at hl 3 rfl) ?_
            refine lv_iload hx hb dX8_isBare_140 (lv_at hl 0 rfl) ?_
            refine x_callVi (As := [.int x6_5]) ⟨hx, hb, hml, hown, hts⟩ hK S (ct_X8_isHem l D cy ad B _ _ _ h) ro_0 rfl (cwV 1 hts gX8_isBare_X8_isHem rfl rfl rfl (by decide +kernel) ⟨Nat.le_of_ble_eq_true rfl, Nat.le_of_ble_eq_true rfl⟩) rfl hl.1 rfl (Nat.le_of_ble_eq_true rfl) dX8_isBare_142 ⟨Nat.zero_le _, Nat.zero_le _⟩ (fun r8 M8 H locs h S => ?_)
            refine lv_if_eq (tgt := 152) hx hb dX8_isBare_145 (by decide) (fun c145 => ?_) (fun c145 => ?_)
            · replace h := h.1 c145
              refine lv_iconst (v := 0) hx hb dX8_isBare_152 (by decide) ?_
              refine lv_iadd hx hb dX8_isBare_153 ?_
              refine lv_istore (lv' := [(7, .int ((0 + 0) + 0)), (6, .int x6_5), (5, .int x5_4), (4, .int x4_3), (0, .ref (ad 0)), (1, .int v1), (2, .int v2), (3, .int v3)]) hx hb dX8_isBare_154 hl (by decide) rfl (fun ls hl => ?_)
              exact hJ _ _ _ _ _ _ _ _ h _ _ _ S (lv_sub hl [4, 5, 6, 7, 3, 2, 1, 0] rfl)
            · replace h := h.2 c145
              refine lv_iconst (v := 1) hx hb dX8_isBare_148 (by decide) ?_
              refine lv_goto (tgt := 153) hx hb dX8_isBare_149 (by decide) ?_
              refine lv_iadd hx hb dX8_isBare_153 ?_
              refine lv_istore (lv' := [(7, .int ((0 + 0) + 1)), (6, .int x6_5), (5, .int x5_4), (4, .int x4_3), (0, .ref (ad 0)), (1, .int v1), (2, .int v2), (3, .int v3)]) hx hb dX8_isBare_154 hl (by decide) rfl (fun ls hl => ?_)
              exact hJ _ _ _ _ _ _ _ _ h _ _ _ S (lv_sub hl [4, 5, 6, 7, 3, 2, 1, 0] rfl)
          · replace h := h.2 c130
            refine lv_iconst (v := 1) hx hb dX8_isBare_133 (by decide) ?_
            refine lv_goto (tgt := 138) hx hb dX8_isBare_134 (by decide) ?_
            refine lv_iadd hx hb dX8_isBare_138 ?_
            refine lv_aload_n hx hb dX8_isBare_139 rfl (lv_at hl 3 rfl) ?_
            refine lv_iload hx hb dX8_isBare_140 (lv_at hl 0 rfl) ?_
            refine x_callVi (As := [.int x6_5]) ⟨hx, hb, hml, hown, hts⟩ hK S (ct_X8_isHem l D cy ad B _ _ _ h) ro_0 rfl (cwV 1 hts gX8_isBare_X8_isHem rfl rfl rfl (by decide +kernel) ⟨Nat.le_of_ble_eq_true rfl, Nat.le_of_ble_eq_true rfl⟩) rfl hl.1 rfl (Nat.le_of_ble_eq_true rfl) dX8_isBare_142 ⟨Nat.zero_le _, Nat.zero_le _⟩ (fun r9 M9 H locs h S => ?_)
            refine lv_if_eq (tgt := 152) hx hb dX8_isBare_145 (by decide) (fun c145 => ?_) (fun c145 => ?_)
            · replace h := h.1 c145
              refine lv_iconst (v := 0) hx hb dX8_isBare_152 (by decide) ?_
              refine lv_iadd hx hb dX8_isBare_153 ?_
              refine lv_istore (lv' := [(7, .int ((0 + 1) + 0)), (6, .int x6_5), (5, .int x5_4), (4, .int x4_3), (0, .ref (ad 0)), (1, .int v1), (2, .int v2), (3, .int v3)]) hx hb dX8_isBare_154 hl (by decide) rfl (fun ls hl => ?_)
              exact hJ _ _ _ _ _ _ _ _ h _ _ _ S (lv_sub hl [4, 5, 6, 7, 3, 2, 1, 0] rfl)
            · replace h := h.2 c145
              refine lv_iconst (v := 1) hx hb dX8_isBare_148 (by decide) ?_
              refine lv_goto (tgt := 153) hx hb dX8_isBare_149 (by decide) ?_
              refine lv_iadd hx hb dX8_isBare_153 ?_
              refine lv_istore (lv' := [(7, .int ((0 + 1) + 1)), (6, .int x6_5), (5, .int x5_4), (4, .int x4_3), (0, .ref (ad 0)), (1, .int v1), (2, .int v2), (3, .int v3)]) hx hb dX8_isBare_154 hl (by decide) rfl (fun ls hl => ?_)
              exact hJ _ _ _ _ _ _ _ _ h _ _ _ S (lv_sub hl [4, 5, 6, 7, 3, 2, 1, 0] rfl)
        · replace h := h.2 c116
          refine lv_iconst (v := 1) hx hb dX8_isBare_119 (by decide) ?_
          refine lv_goto (tgt := 124) hx hb dX8_isBare_120 (by decide) ?_
          refine lv_aload_n hx hb dX8_isBare_124 rfl (lv_at hl 3 rfl) ?_
          refine lv_iload hx hb dX8_isBare_125 (lv_at hl 1 rfl) ?_
          refine x_callVi (As := [.int x5_4]) ⟨hx, hb, hml, hown, hts⟩ hK S (ct_X8_isHem l D cy ad B _ _ _ h) ro_0 rfl (cwV 1 hts gX8_isBare_X8_isHem rfl rfl rfl (by decide +kernel) ⟨Nat.le_of_ble_eq_true rfl, Nat.le_of_ble_eq_true rfl⟩) rfl hl.1 rfl (Nat.le_of_ble_eq_true rfl) dX8_isBare_127 ⟨Nat.zero_le _, Nat.zero_le _⟩ (fun r10 M10 H locs h S => ?_)
          refine lv_if_eq (tgt := 137) hx hb dX8_isBare_130 (by decide) (fun c130 => ?_) (fun c130 => ?_)
          · replace h := h.1 c130
            refine lv_iconst (v := 0) hx hb dX8_isBare_137 (by decide) ?_
            refine lv_iadd hx hb dX8_isBare_138 ?_
            refine lv_aload_n hx hb dX8_isBare_139 rfl (lv_at hl 3 rfl) ?_
            refine lv_iload hx hb dX8_isBare_140 (lv_at hl 0 rfl) ?_
            refine x_callVi (As := [.int x6_5]) ⟨hx, hb, hml, hown, hts⟩ hK S (ct_X8_isHem l D cy ad B _ _ _ h) ro_0 rfl (cwV 1 hts gX8_isBare_X8_isHem rfl rfl rfl (by decide +kernel) ⟨Nat.le_of_ble_eq_true rfl, Nat.le_of_ble_eq_true rfl⟩) rfl hl.1 rfl (Nat.le_of_ble_eq_true rfl) dX8_isBare_142 ⟨Nat.zero_le _, Nat.zero_le _⟩ (fun r11 M11 H locs h S => ?_)
            refine lv_if_eq (tgt := 152) hx hb dX8_isBare_145 (by decide) (fun c145 => ?_) (fun c145 => ?_)
            · replace h := h.1 c145
              refine lv_iconst (v := 0) hx hb dX8_isBare_152 (by decide) ?_
              refine lv_iadd hx hb dX8_isBare_153 ?_
              refine lv_istore (lv' := [(7, .int ((1 + 0) + 0)), (6, .int x6_5), (5, .int x5_4), (4, .int x4_3), (0, .ref (ad 0)), (1, .int v1), (2, .int v2), (3, .int v3)]) hx hb dX8_isBare_154 hl (by decide) rfl (fun ls hl => ?_)
              exact hJ _ _ _ _ _ _ _ _ h _ _ _ S (lv_sub hl [4, 5, 6, 7, 3, 2, 1, 0] rfl)
            · replace h := h.2 c145
              refine lv_iconst (v := 1) hx hb dX8_isBare_148 (by decide) ?_
              refine lv_goto (tgt := 153) hx hb dX8_isBare_149 (by decide) ?_
              refine lv_iadd hx hb dX8_isBare_153 ?_
              refine lv_istore (lv' := [(7, .int ((1 + 0) + 1)), (6, .int x6_5), (5, .int x5_4), (4, .int x4_3), (0, .ref (ad 0)), (1, .int v1), (2, .int v2), (3, .int v3)]) hx hb dX8_isBare_154 hl (by decide) rfl (fun ls hl => ?_)
              exact hJ _ _ _ _ _ _ _ _ h _ _ _ S (lv_sub hl [4, 5, 6, 7, 3, 2, 1, 0] rfl)
          · replace h := h.2 c130
            refine lv_iconst (v := 1) hx hb dX8_isBare_133 (by decide) ?_
            refine lv_goto (tgt := 138) hx hb dX8_isBare_134 (by decide) ?_
            refine lv_iadd hx hb dX8_isBare_138 ?_
            refine lv_aload_n hx hb dX8_isBare_139 rfl (lv_at hl 3 rfl) ?_
            refine lv_iload hx hb dX8_isBare_140 (lv_at hl 0 rfl) ?_
            refine x_callVi (As := [.int x6_5]) ⟨hx, hb, hml, hown, hts⟩ hK S (ct_X8_isHem l D cy ad B _ _ _ h) ro_0 rfl (cwV 1 hts gX8_isBare_X8_isHem rfl rfl rfl (by decide +kernel) ⟨Nat.le_of_ble_eq_true rfl, Nat.le_of_ble_eq_true rfl⟩) rfl hl.1 rfl (Nat.le_of_ble_eq_true rfl) dX8_isBare_142 ⟨Nat.zero_le _, Nat.zero_le _⟩ (fun r12 M12 H locs h S => ?_)
            refine lv_if_eq (tgt := 152) hx hb dX8_isBare_145 (by decide) (fun c145 => ?_) (fun c145 => ?_)
            · replace h := h.1 c145
              refine lv_iconst (v := 0) hx hb dX8_isBare_152 (by decide) ?_
              refine lv_iadd hx hb dX8_isBare_153 ?_
              refine lv_istore (lv' := [(7, .int ((1 + 1) + 0)), (6, .int x6_5), (5, .int x5_4), (4, .int x4_3), (0, .ref (ad 0)), (1, .int v1), (2, .int v2), (3, .int v3)]) hx hb dX8_isBare_154 hl (by decide) rfl (fun ls hl => ?_)
              exact hJ _ _ _ _ _ _ _ _ h _ _ _ S (lv_sub hl [4, 5, 6, 7, 3, 2, 1, 0] rfl)
            · replace h := h.2 c145
              refine lv_iconst (v := 1) hx hb dX8_isBare_148 (by decide) ?_
              refine lv_goto (tgt := 153) hx hb dX8_isBare_149 (by decide) ?_
              refine lv_iadd hx hb dX8_isBare_153 ?_
              refine lv_istore (lv' := [(7, .int ((1 + 1) + 1)), (6, .int x6_5), (5, .int x5_4), (4, .int x4_3), (0, .ref (ad 0)), (1, .int v1), (2, .int v2), (3, .int v3)]) hx hb dX8_isBare_154 hl (by decide) rfl (fun ls hl => ?_)
              exact hJ _ _ _ _ _ _ _ _ h _ _ _ S (lv_sub hl [4, 5, 6, 7, 3, 2, 1, 0] rfl)
    | 2, h, hl =>
      have hl : lv_has ls 8 [(0, .ref (ad 0)), (1, .int v1), (2, .int v2), (3, .int v3), (4, .int v4), (5, .int v5), (6, .int v6), (7, .int v7)] := hl
      have h : blk_X8_isBare_2 v1 Q P v2 v3 v4 v5 v6 v7 M := h
      unfold blk_X8_isBare_2 at h
      refine W.eq (g2 := F0 m 156 ls []) rfl ?_
      refine lv_iload_n hx hb dX8_isBare_156 rfl (lv_at hl 2 rfl) ?_
      refine lv_if_ne (tgt := 184) hx hb dX8_isBare_157 (by decide) (fun c157 => ?_) (fun c157 => ?_)
      · replace h := h.1 c157
        exact hJ _ _ _ _ _ _ _ _ h _ _ _ S (lv_sub hl [0, 1, 3] rfl)
      · replace h := h.2 c157
        refine lv_iload hx hb dX8_isBare_160 (lv_at hl 4 rfl) ?_
        refine lv_iload_n hx hb dX8_isBare_162 rfl (lv_at hl 1 rfl) ?_
        refine lv_icmp_eq (tgt := 178) hx hb dX8_isBare_163 (by decide) (fun c163 => ?_) (fun c163 => ?_)
        · replace h := h.1 c163
          exact hJ _ _ _ _ _ _ _ _ h _ _ _ S (lv_sub hl [0, 1, 3, 7] rfl)
        · replace h := h.2 c163
          refine lv_iload hx hb dX8_isBare_166 (lv_at hl 5 rfl) ?_
          refine lv_iload_n hx hb dX8_isBare_168 rfl (lv_at hl 1 rfl) ?_
          refine lv_icmp_eq (tgt := 178) hx hb dX8_isBare_169 (by decide) (fun c169 => ?_) (fun c169 => ?_)
          · replace h := h.1 c169
            exact hJ _ _ _ _ _ _ _ _ h _ _ _ S (lv_sub hl [0, 1, 3, 7] rfl)
          · replace h := h.2 c169
            refine lv_iload hx hb dX8_isBare_172 (lv_at hl 6 rfl) ?_
            refine lv_iload_n hx hb dX8_isBare_174 rfl (lv_at hl 1 rfl) ?_
            refine lv_icmp_ne (tgt := 188) hx hb dX8_isBare_175 (by decide) (fun c175 => ?_) (fun c175 => ?_)
            · replace h := h.1 c175
              exact hJ _ _ _ _ _ _ _ _ h _ _ _ S (lv_sub hl [0, 1, 3] rfl)
            · replace h := h.2 c175
              exact hJ _ _ _ _ _ _ _ _ h _ _ _ S (lv_sub hl [0, 1, 3, 7] rfl)
    | 3, h, hl =>
      have hl : lv_has ls 8 [(0, .ref (ad 0)), (1, .int v1), (3, .int v3)] := hl
      have h : blk_X8_isBare_3 v1 Q P v2 v3 v4 v5 v6 v7 M := h
      unfold blk_X8_isBare_3 at h
      refine W.eq (g2 := F0 m 184 ls []) rfl ?_
      refine lv_iconst (v := 1) hx hb dX8_isBare_184 (by decide) ?_
      refine lv_goto (tgt := 189) hx hb dX8_isBare_185 (by decide) ?_
      refine lv_istore_n (lv' := [(2, .int 1), (0, .ref (ad 0)), (1, .int v1), (3, .int v3)]) hx hb dX8_isBare_189 rfl hl (by decide) rfl (fun ls hl => ?_)
      exact hJ _ _ _ _ _ _ _ _ h _ _ _ S (lv_sub hl [1, 2, 0, 3] rfl)
    | 4, h, hl =>
      have hl : lv_has ls 8 [(0, .ref (ad 0)), (1, .int v1), (3, .int v3), (7, .int v7)] := hl
      have h : blk_X8_isBare_4 v1 Q P v2 v3 v4 v5 v6 v7 M := h
      unfold blk_X8_isBare_4 at h
      refine W.eq (g2 := F0 m 178 ls []) rfl ?_
      refine lv_iload hx hb dX8_isBare_178 (lv_at hl 3 rfl) ?_
      refine lv_iconst (v := 1) hx hb dX8_isBare_180 (by decide) ?_
      refine lv_icmp_le (tgt := 188) hx hb dX8_isBare_181 (by decide) (fun c181 => ?_) (fun c181 => ?_)
      · replace h := h.1 c181
        exact hJ _ _ _ _ _ _ _ _ h _ _ _ S (lv_sub hl [0, 1, 2] rfl)
      · replace h := h.2 c181
        exact hJ _ _ _ _ _ _ _ _ h _ _ _ S (lv_sub hl [0, 1, 2] rfl)
    | 5, h, hl =>
      have hl : lv_has ls 8 [(0, .ref (ad 0)), (1, .int v1), (3, .int v3)] := hl
      have h : blk_X8_isBare_5 v1 Q P v2 v3 v4 v5 v6 v7 M := h
      unfold blk_X8_isBare_5 at h
      refine W.eq (g2 := F0 m 188 ls []) rfl ?_
      refine lv_iconst (v := 0) hx hb dX8_isBare_188 (by decide) ?_
      refine lv_istore_n (lv' := [(2, .int 0), (0, .ref (ad 0)), (1, .int v1), (3, .int v3)]) hx hb dX8_isBare_189 rfl hl (by decide) rfl (fun ls hl => ?_)
      exact hJ _ _ _ _ _ _ _ _ h _ _ _ S (lv_sub hl [1, 2, 0, 3] rfl)
    | 6, h, hl =>
      have hl : lv_has ls 8 [(0, .ref (ad 0)), (1, .int v1), (2, .int v2), (3, .int v3)] := hl
      have h : blk_X8_isBare_6 v1 Q P v2 v3 v4 v5 v6 v7 M := h
      unfold blk_X8_isBare_6 at h
      refine W.eq (g2 := F0 m 190 ls []) rfl ?_
      refine lv_iinc (v := (v3 + 1)) (lv' := [(3, .int (v3 + 1)), (0, .ref (ad 0)), (1, .int v1), (2, .int v2)]) hx hb dX8_isBare_190 hl (k := 3) rfl rfl (by decide) rfl (fun ls hl => ?_)
      refine lv_goto (tgt := 33) hx hb dX8_isBare_193 (by decide) ?_
      exact hJ _ _ _ _ _ _ _ _ h _ _ _ S (lv_sub hl [1, 2, 3, 0] rfl)
    | _ + 7, h, hl => exact h.elim
  have hl := lv_entry ([.ref (ad 0), .int v1]) (n := 8) (Nat.le_of_ble_eq_true rfl)
  subst hargs
  rw [lg_entry_eq]
  generalize (lg_sl ([.ref (ad 0), .int v1]) ++ List.replicate (8 - (lg_sl ([.ref (ad 0), .int v1])).length) Slot.unset).toArray = ls at hl ⊢
  exact h _ (key _ (fun _ _ _ _ _ _ _ _ h => h)) s.heap [] ls ⟨hP, hD, va_S.rf⟩ hl
