/-! X8_kindOf -/
def wp_X8_kindOf (v1 : Int32) (M : Mem) (Q : Int32 → Mem → Prop) : Prop :=
  ((¬ (((M.1 0 18) >>> (v1 &&& 31)) &&& (1 : Int32)) = 1 → ((¬ (((M.1 0 19) >>> (v1 &&& 31)) &&& (1 : Int32)) = 1 → wp_X8_isBare v1 M (fun r1 M1 => ((r1 = 0 → wp_X8_isHem v1 M1 (fun r2 M2 => ((r2 = 0 → Q 0 M2) ∧ (¬ r2 = 0 → Q 1 M2)))) ∧ (¬ r1 = 0 → Q 2 M1)))) ∧ ((((M.1 0 19) >>> (v1 &&& 31)) &&& (1 : Int32)) = 1 → Q 3 M))) ∧ ((((M.1 0 18) >>> (v1 &&& 31)) &&& (1 : Int32)) = 1 → Q 4 M))
theorem wp_X8_kindOf_mono {v1 : Int32} {M : Mem} {Q Q' : Int32 → Mem → Prop} (hQ : ∀ (r : Int32) (M : Mem), Q r M → Q' r M) (h : wp_X8_kindOf v1 M Q) : wp_X8_kindOf v1 M Q' := by
  unfold wp_X8_kindOf at h ⊢
  exact ⟨fun c => let h := h.1 c; ⟨fun c => let h := h.1 c; wp_X8_isBare_mono (fun r1 M1 h => ⟨fun c => let h := h.1 c; wp_X8_isHem_mono (fun r2 M2 h => ⟨fun c => let h := h.1 c; hQ _ _ h, fun c => let h := h.2 c; hQ _ _ h⟩) h, fun c => let h := h.2 c; hQ _ _ h⟩) h, fun c => let h := h.2 c; hQ _ _ h⟩, fun c => let h := h.2 c; hQ _ _ h⟩
abbrev rm_X8_kindOf : Jvm.Room := { frames := 6, cells := 0, slots := 0, locals := 142 }
set_option maxHeartbeats 4000000 in
set_option maxRecDepth 100000 in
theorem ct_X8_kindOf (l : Launch) (D : va_G) (cy : Nat → ClassId) (ad : Nat → Nat) (B : Nat → Prop) (v1 : Int32) (M : Mem) (Q : Int32 → Mem → Prop) (h : wp_X8_kindOf v1 M Q) : CTi l D cy (wR ad cy) B yX8_kindOf wsX8_kindOf rm_X8_kindOf [.ref (ad 0), .int v1] M Q := by
  intro sz
  refine Met.ofW (cc := cX8_kindOf) (maxL := 2) (ret := some .int) (by decide) rfl ?_
  intro p e s m args below meth c s₁ Bd hml hv
  obtain ⟨hargs, hsz, hP, hK, hD⟩ := hv
  subst hsz
  have hx := Bd.exec
  have hb := Bd.bytes
  have hr := Bd.returns
  have hts := atoms_spec (ws := wsX8_kindOf) Bd.pre
  have hown : s.vm.findClass RX8 = some m.cls := findClass_of_methodNamed Bd.named
  have hlocks := Bd.notSynchronized
  have hC8 : xC wsX8_kindOf 8 RX8 TX8 34 := ⟨by decide +kernel, rfl⟩
  have hl := lv_entry ([.ref (ad 0), .int v1]) (n := 2) (Nat.le_of_ble_eq_true rfl)
  subst hargs
  rw [lg_entry_eq]
  generalize (lg_sl ([.ref (ad 0), .int v1]) ++ List.replicate (2 - (lg_sl ([.ref (ad 0), .int v1])).length) Slot.unset).toArray = ls at hl ⊢
  have hl : lv_has ls 2 [(0, .ref (ad 0)), (1, .int v1)] := hl
  have S : xS D (wR ad cy) B s.heap s.heap [] M := ⟨hP, hD, va_S.rf⟩
  unfold wp_X8_kindOf at h
  refine lv_aload_n hx hb dX8_kindOf_0 rfl (lv_at hl 0 rfl) ?_
  refine x_getI hx hb hts (hC8) hown hK S 18 (by decide) rf_0_18 (index := 130) (hts _ (List.mem_of_getElem? (i := 1) rfl)) dX8_kindOf_1 ?_
  refine lv_iload_n hx hb dX8_kindOf_4 rfl (lv_at hl 1 rfl) ?_
  refine lv_ishr hx hb dX8_kindOf_5 ?_
  refine lv_iconst (v := 1) hx hb dX8_kindOf_6 (by decide) ?_
  refine lv_iand hx hb dX8_kindOf_7 ?_
  refine lv_iconst (v := 1) hx hb dX8_kindOf_8 (by decide) ?_
  refine lv_icmp_ne (tgt := 16) hx hb dX8_kindOf_9 (by decide) (fun c9 => ?_) (fun c9 => ?_)
  · replace h := h.1 c9
    refine lv_aload_n hx hb dX8_kindOf_16 rfl (lv_at hl 0 rfl) ?_
    refine x_getI hx hb hts (hC8) hown hK S 19 (by decide) rf_0_19 (index := 133) (hts _ (List.mem_of_getElem? (i := 2) rfl)) dX8_kindOf_17 ?_
    refine lv_iload_n hx hb dX8_kindOf_20 rfl (lv_at hl 1 rfl) ?_
    refine lv_ishr hx hb dX8_kindOf_21 ?_
    refine lv_iconst (v := 1) hx hb dX8_kindOf_22 (by decide) ?_
    refine lv_iand hx hb dX8_kindOf_23 ?_
    refine lv_iconst (v := 1) hx hb dX8_kindOf_24 (by decide) ?_
    refine lv_icmp_ne (tgt := 32) hx hb dX8_kindOf_25 (by decide) (fun c25 => ?_) (fun c25 => ?_)
    · replace h := h.1 c25
      refine lv_aload_n hx hb dX8_kindOf_32 rfl (lv_at hl 0 rfl) ?_
      refine lv_iload_n hx hb dX8_kindOf_33 rfl (lv_at hl 1 rfl) ?_
      refine x_callVi (As := [.int v1]) ⟨hx, hb, hml, hown, hts⟩ hK S (ct_X8_isBare l D cy ad B _ _ _ h) ro_0 rfl (cwV 1 hts gX8_kindOf_X8_isBare rfl rfl rfl (by decide +kernel) ⟨Nat.le_of_ble_eq_true rfl, Nat.le_of_ble_eq_true rfl⟩) rfl hl.1 rfl (Nat.le_of_ble_eq_true rfl) dX8_kindOf_34 ⟨Nat.zero_le _, Nat.zero_le _⟩ (fun r1 M1 H locs h S => ?_)
      refine lv_if_eq (tgt := 44) hx hb dX8_kindOf_37 (by decide) (fun c37 => ?_) (fun c37 => ?_)
      · replace h := h.1 c37
        refine lv_aload_n hx hb dX8_kindOf_44 rfl (lv_at hl 0 rfl) ?_
        refine lv_iload_n hx hb dX8_kindOf_45 rfl (lv_at hl 1 rfl) ?_
        refine x_callVi (As := [.int v1]) ⟨hx, hb, hml, hown, hts⟩ hK S (ct_X8_isHem l D cy ad B _ _ _ h) ro_0 rfl (cwV 1 hts gX8_kindOf_X8_isHem rfl rfl rfl (by decide +kernel) ⟨Nat.le_of_ble_eq_true rfl, Nat.le_of_ble_eq_true rfl⟩) rfl hl.1 rfl (Nat.le_of_ble_eq_true rfl) dX8_kindOf_46 ⟨Nat.zero_le _, Nat.zero_le _⟩ (fun r2 M2 H locs h S => ?_)
        refine lv_if_eq (tgt := 56) hx hb dX8_kindOf_49 (by decide) (fun c49 => ?_) (fun c49 => ?_)
        · replace h := h.1 c49
          refine lv_iconst (v := 0) hx hb dX8_kindOf_56 (by decide) ?_
          exact x_iret hx hb hr hlocks S rfl h dX8_kindOf_57
        · replace h := h.2 c49
          refine lv_iconst (v := 1) hx hb dX8_kindOf_52 (by decide) ?_
          refine lv_goto (tgt := 57) hx hb dX8_kindOf_53 (by decide) ?_
          exact x_iret hx hb hr hlocks S rfl h dX8_kindOf_57
      · replace h := h.2 c37
        refine lv_iconst (v := 2) hx hb dX8_kindOf_40 (by decide) ?_
        refine lv_goto (tgt := 57) hx hb dX8_kindOf_41 (by decide) ?_
        exact x_iret hx hb hr hlocks S rfl h dX8_kindOf_57
    · replace h := h.2 c25
      refine lv_iconst (v := 3) hx hb dX8_kindOf_28 (by decide) ?_
      refine lv_goto (tgt := 57) hx hb dX8_kindOf_29 (by decide) ?_
      exact x_iret hx hb hr hlocks S rfl h dX8_kindOf_57
  · replace h := h.2 c9
    refine lv_iconst (v := 4) hx hb dX8_kindOf_12 (by decide) ?_
    refine lv_goto (tgt := 57) hx hb dX8_kindOf_13 (by decide) ?_
    exact x_iret hx hb hr hlocks S rfl h dX8_kindOf_57
/-! X8_kind -/
def wp_X8_kind (v1 : Int32) (M : Mem) (Q : Int32 → Mem → Prop) : Prop :=
  ((¬ ((upI M 0 0 0).1 0 8) = 0 → wp_X8_noFence v1 (upI M 0 0 0) (fun r1 M1 => ((r1 = 0 → wp_X8_kindOf v1 M1 (fun r2 M2 => Q r2 M2)) ∧ (¬ r1 = 0 → Q (-1) M1)))) ∧ (((upI M 0 0 0).1 0 8) = 0 → Q (-3) (upI M 0 0 0)))
theorem wp_X8_kind_mono {v1 : Int32} {M : Mem} {Q Q' : Int32 → Mem → Prop} (hQ : ∀ (r : Int32) (M : Mem), Q r M → Q' r M) (h : wp_X8_kind v1 M Q) : wp_X8_kind v1 M Q' := by
  unfold wp_X8_kind at h ⊢
  exact ⟨fun c => let h := h.1 c; wp_X8_noFence_mono (fun r1 M1 h => ⟨fun c => let h := h.1 c; wp_X8_kindOf_mono (fun r2 M2 h => hQ _ _ h) h, fun c => let h := h.2 c; hQ _ _ h⟩) h, fun c => let h := h.2 c; hQ _ _ h⟩
abbrev rm_X8_kind : Jvm.Room := { frames := 7, cells := 0, slots := 0, locals := 163 }
set_option maxHeartbeats 4000000 in
set_option maxRecDepth 100000 in
theorem ct_X8_kind (l : Launch) (D : va_G) (cy : Nat → ClassId) (ad : Nat → Nat) (B : Nat → Prop) (v1 : Int32) (M : Mem) (Q : Int32 → Mem → Prop) (h : wp_X8_kind v1 M Q) : CTi l D cy (wR ad cy) B yX8_kind wsX8_kind rm_X8_kind [.ref (ad 0), .int v1] M Q := by
  intro sz
  refine Met.ofW (cc := cX8_kind) (maxL := 2) (ret := some .int) (by decide) rfl ?_
  intro p e s m args below meth c s₁ Bd hml hv
  obtain ⟨hargs, hsz, hP, hK, hD⟩ := hv
  subst hsz
  have hx := Bd.exec
  have hb := Bd.bytes
  have hr := Bd.returns
  have hts := atoms_spec (ws := wsX8_kind) Bd.pre
  have hown : s.vm.findClass RX8 = some m.cls := findClass_of_methodNamed Bd.named
  have hlocks := Bd.notSynchronized
  have hC8 : xC wsX8_kind 8 RX8 TX8 34 := ⟨by decide +kernel, rfl⟩
  have hl := lv_entry ([.ref (ad 0), .int v1]) (n := 2) (Nat.le_of_ble_eq_true rfl)
  subst hargs
  rw [lg_entry_eq]
  generalize (lg_sl ([.ref (ad 0), .int v1]) ++ List.replicate (2 - (lg_sl ([.ref (ad 0), .int v1])).length) Slot.unset).toArray = ls at hl ⊢
  have hl : lv_has ls 2 [(0, .ref (ad 0)), (1, .int v1)] := hl
  have S : xS D (wR ad cy) B s.heap s.heap [] M := ⟨hP, hD, va_S.rf⟩
  unfold wp_X8_kind at h
  refine lv_aload_n hx hb dX8_kind_0 rfl (lv_at hl 0 rfl) ?_
  refine lv_iconst (v := 0) hx hb dX8_kind_1 (by decide) ?_
  refine x_putI hx hb hts (hC8) tyX8 tyX8_ok nmX8 hown hK S 0 (by decide) rf_0_0 (index := 74) (hts _ (List.mem_of_getElem? (i := 1) rfl)) rfl rfl rfl dX8_kind_2 (fun H locs S => ?_)
  refine lv_aload_n hx hb dX8_kind_5 rfl (lv_at hl 0 rfl) ?_
  refine x_getI hx hb hts (hC8) hown hK S 8 (by decide) rf_0_8 (index := 151) (hts _ (List.mem_of_getElem? (i := 2) rfl)) dX8_kind_6 ?_
  refine lv_if_ne (tgt := 17) hx hb dX8_kind_9 (by decide) (fun c9 => ?_) (fun c9 => ?_)
  · replace h := h.1 c9
    refine lv_aload_n hx hb dX8_kind_17 rfl (lv_at hl 0 rfl) ?_
    refine lv_iload_n hx hb dX8_kind_18 rfl (lv_at hl 1 rfl) ?_
    refine x_callVi (As := [.int v1]) ⟨hx, hb, hml, hown, hts⟩ hK S (ct_X8_noFence l D cy ad B _ _ _ h) ro_0 rfl (cwV 1 hts gX8_kind_X8_noFence rfl rfl rfl (by decide +kernel) ⟨Nat.le_of_ble_eq_true rfl, Nat.le_of_ble_eq_true rfl⟩) rfl hl.1 rfl (Nat.le_of_ble_eq_true rfl) dX8_kind_19 ⟨Nat.zero_le _, Nat.zero_le _⟩ (fun r1 M1 H locs h S => ?_)
    refine lv_if_eq (tgt := 29) hx hb dX8_kind_22 (by decide) (fun c22 => ?_) (fun c22 => ?_)
    · replace h := h.1 c22
      refine lv_aload_n hx hb dX8_kind_29 rfl (lv_at hl 0 rfl) ?_
      refine lv_iload_n hx hb dX8_kind_30 rfl (lv_at hl 1 rfl) ?_
      refine x_callVi (As := [.int v1]) ⟨hx, hb, hml, hown, hts⟩ hK S (ct_X8_kindOf l D cy ad B _ _ _ h) ro_0 rfl (cwV 1 hts gX8_kind_X8_kindOf rfl rfl rfl (by decide +kernel) ⟨Nat.le_of_ble_eq_true rfl, Nat.le_of_ble_eq_true rfl⟩) rfl hl.1 rfl (Nat.le_of_ble_eq_true rfl) dX8_kind_31 ⟨Nat.zero_le _, Nat.zero_le _⟩ (fun r2 M2 H locs h S => ?_)
      exact x_iret hx hb hr hlocks S rfl h dX8_kind_34
    · replace h := h.2 c22
      refine lv_iconst (v := (-1)) hx hb dX8_kind_25 (by decide) ?_
      refine lv_goto (tgt := 34) hx hb dX8_kind_26 (by decide) ?_
      exact x_iret hx hb hr hlocks S rfl h dX8_kind_34
  · replace h := h.2 c9
    refine lv_bipush (v := (-3)) hx hb dX8_kind_12 (by decide) ?_
    refine lv_goto (tgt := 34) hx hb dX8_kind_14 (by decide) ?_
    exact x_iret hx hb hr hlocks S rfl h dX8_kind_34
/-! X8_weightAs -/
def blk_X8_weightAs_0 (v1 : Int32) (v2 : Int32) (Q : Int32 → Mem → Prop) (P : Nat → Int32 → Mem → Prop) (v3 : Int32) (M : Mem) : Prop :=
  wp_X8_in v2.toInt64 (0 : Int64) (4 : Int64) (upI M 0 0 0) (fun r1 M1 => ((¬ r1 = 0 → ((¬ (M1.1 0 8) = 0 → wp_X8_noFence v1 M1 (fun r2 M2 => ((r2 = 0 → wp_X8_kindOf v1 M2 (fun r3 M3 => ((v2 = 0 → P 1 0 M3) ∧ (¬ v2 = 0 → ((v2 = r3 → P 1 0 M3) ∧ (¬ v2 = r3 → ((¬ v2 = 1 → P 2 0 M3) ∧ (v2 = 1 → ((¬ r3 = 2 → P 2 0 M3) ∧ (r3 = 2 → P 1 0 M3)))))))))) ∧ (¬ r2 = 0 → Q (-1) M2)))) ∧ ((M1.1 0 8) = 0 → Q (-3) M1))) ∧ (r1 = 0 → Q (-2) M1)))
theorem blk_X8_weightAs_0_mono {v1 : Int32} {v2 : Int32} {Q Q' : Int32 → Mem → Prop} {P P' : Nat → Int32 → Mem → Prop} (hQ : ∀ (r : Int32) (M : Mem), Q r M → Q' r M) (hP : ∀ (lab : Nat) (v3 : Int32) (M : Mem), P lab v3 M → P' lab v3 M) (v3 : Int32) (M : Mem) (h : blk_X8_weightAs_0 v1 v2 Q P v3 M) : blk_X8_weightAs_0 v1 v2 Q' P' v3 M := by
  unfold blk_X8_weightAs_0 at h ⊢
  exact wp_X8_in_mono (fun r1 M1 h => ⟨fun c => let h := h.1 c; ⟨fun c => let h := h.1 c; wp_X8_noFence_mono (fun r2 M2 h => ⟨fun c => let h := h.1 c; wp_X8_kindOf_mono (fun r3 M3 h => ⟨fun c => let h := h.1 c; hP _ _ _ h, fun c => let h := h.2 c; ⟨fun c => let h := h.1 c; hP _ _ _ h, fun c => let h := h.2 c; ⟨fun c => let h := h.1 c; hP _ _ _ h, fun c => let h := h.2 c; ⟨fun c => let h := h.1 c; hP _ _ _ h, fun c => let h := h.2 c; hP _ _ _ h⟩⟩⟩⟩) h, fun c => let h := h.2 c; hQ _ _ h⟩) h, fun c => let h := h.2 c; hQ _ _ h⟩, fun c => let h := h.2 c; hQ _ _ h⟩) h
def blk_X8_weightAs_1 (v1 : Int32) (v2 : Int32) (Q : Int32 → Mem → Prop) (P : Nat → Int32 → Mem → Prop) (v3 : Int32) (M : Mem) : Prop :=
  (vp_in v1 28 ∧ Q (M.1 12 v1.toNatClampNeg) M)
theorem blk_X8_weightAs_1_mono {v1 : Int32} {v2 : Int32} {Q Q' : Int32 → Mem → Prop} {P P' : Nat → Int32 → Mem → Prop} (hQ : ∀ (r : Int32) (M : Mem), Q r M → Q' r M) (hP : ∀ (lab : Nat) (v3 : Int32) (M : Mem), P lab v3 M → P' lab v3 M) (v3 : Int32) (M : Mem) (h : blk_X8_weightAs_1 v1 v2 Q P v3 M) : blk_X8_weightAs_1 v1 v2 Q' P' v3 M := by
  unfold blk_X8_weightAs_1 at h ⊢
  exact ⟨h.1, let h := h.2; hQ _ _ h⟩
def blk_X8_weightAs_2 (v1 : Int32) (v2 : Int32) (Q : Int32 → Mem → Prop) (P : Nat → Int32 → Mem → Prop) (v3 : Int32) (M : Mem) : Prop :=
  wp_X8_finds (-13) M (fun r4 M4 => Q r4 M4)
theorem blk_X8_weightAs_2_mono {v1 : Int32} {v2 : Int32} {Q Q' : Int32 → Mem → Prop} {P P' : Nat → Int32 → Mem → Prop} (hQ : ∀ (r : Int32) (M : Mem), Q r M → Q' r M) (hP : ∀ (lab : Nat) (v3 : Int32) (M : Mem), P lab v3 M → P' lab v3 M) (v3 : Int32) (M : Mem) (h : blk_X8_weightAs_2 v1 v2 Q P v3 M) : blk_X8_weightAs_2 v1 v2 Q' P' v3 M := by
  unfold blk_X8_weightAs_2 at h ⊢
  exact wp_X8_finds_mono (fun r4 M4 h => hQ _ _ h) h
def blk_X8_weightAs (v1 : Int32) (v2 : Int32) (Q : Int32 → Mem → Prop) (P : Nat → Int32 → Mem → Prop) : Nat → Int32 → Mem → Prop := fun lab v3 M => match lab with
  | 0 => blk_X8_weightAs_0 v1 v2 Q P v3 M
  | 1 => blk_X8_weightAs_1 v1 v2 Q P v3 M
  | 2 => blk_X8_weightAs_2 v1 v2 Q P v3 M
  | _ => False
theorem blk_X8_weightAs_mono {v1 : Int32} {v2 : Int32} {Q Q' : Int32 → Mem → Prop} {P P' : Nat → Int32 → Mem → Prop} (hQ : ∀ (r : Int32) (M : Mem), Q r M → Q' r M) (hP : ∀ (lab : Nat) (v3 : Int32) (M : Mem), P lab v3 M → P' lab v3 M) : ∀ (lab : Nat) (v3 : Int32) (M : Mem), blk_X8_weightAs v1 v2 Q P lab v3 M → blk_X8_weightAs v1 v2 Q' P' lab v3 M := fun lab v3 M h => match lab, h with
  | 0, h => blk_X8_weightAs_0_mono (v1 := v1) (v2 := v2) hQ hP v3 M h
  | 1, h => blk_X8_weightAs_1_mono (v1 := v1) (v2 := v2) hQ hP v3 M h
  | 2, h => blk_X8_weightAs_2_mono (v1 := v1) (v2 := v2) hQ hP v3 M h
  | _ + 3, h => False.elim h
def at_X8_weightAs (v1 : Int32) (v2 : Int32) (Q : Int32 → Mem → Prop) : Nat → Int32 → Mem → Prop := fun lab v3 M => ∀ P : Nat → Int32 → Mem → Prop, (∀ (lab : Nat) (v3 : Int32) (M : Mem), blk_X8_weightAs v1 v2 Q P lab v3 M → P lab v3 M) → P lab v3 M
theorem at_X8_weightAs_fold {v1 : Int32} {v2 : Int32} {Q : Int32 → Mem → Prop} {lab : Nat} {v3 : Int32} {M : Mem} (h : blk_X8_weightAs v1 v2 Q (at_X8_weightAs v1 v2 Q) lab v3 M) : at_X8_weightAs v1 v2 Q lab v3 M := fun P hP => hP _ _ _ (blk_X8_weightAs_mono (fun _ _ h => h) (fun _ _ _ h => h P hP) _ _ _ h)
theorem at_X8_weightAs_mono {v1 : Int32} {v2 : Int32} {Q Q' : Int32 → Mem → Prop} (hQ : ∀ (r : Int32) (M : Mem), Q r M → Q' r M) {lab : Nat} {v3 : Int32} {M : Mem} (h : at_X8_weightAs v1 v2 Q lab v3 M) : at_X8_weightAs v1 v2 Q' lab v3 M := fun P hP => h P (fun lab v3 M hb => hP _ _ _ (blk_X8_weightAs_mono hQ (fun _ _ _ h => h) _ _ _ hb))
def wp_X8_weightAs (v1 : Int32) (v2 : Int32) (M : Mem) (Q : Int32 → Mem → Prop) : Prop := at_X8_weightAs v1 v2 Q 0 0 M
theorem wp_X8_weightAs_mono {v1 : Int32} {v2 : Int32} {M : Mem} {Q Q' : Int32 → Mem → Prop} (hQ : ∀ (r : Int32) (M : Mem), Q r M → Q' r M) (h : wp_X8_weightAs v1 v2 M Q) : wp_X8_weightAs v1 v2 M Q' := at_X8_weightAs_mono hQ h
def pcl_X8_weightAs : Nat → Nat := fun lab => match lab with
  | 0 => 0
  | 1 => 65
  | 2 => 74
  | _ => 0
def lvl_X8_weightAs (ad : Nat → Nat) (v1 : Int32) (v2 : Int32) : Nat → Int32 → List (Nat × Value) := fun lab v3 => match lab with
  | 0 => [(0, .ref (ad 0)), (1, .int v1), (2, .int v2)]
  | 1 => [(0, .ref (ad 0)), (1, .int v1)]
  | 2 => [(0, .ref (ad 0))]
  | _ => []
abbrev rm_X8_weightAs : Jvm.Room := { frames := 7, cells := 0, slots := 0, locals := 163 }
set_option maxHeartbeats 4000000 in
set_option maxRecDepth 100000 in
theorem ct_X8_weightAs (l : Launch) (D : va_G) (cy : Nat → ClassId) (ad : Nat → Nat) (B : Nat → Prop) (v1 : Int32) (v2 : Int32) (M : Mem) (Q : Int32 → Mem → Prop) (h : wp_X8_weightAs v1 v2 M Q) : CTi l D cy (wR ad cy) B yX8_weightAs wsX8_weightAs rm_X8_weightAs [.ref (ad 0), .int v1, .int v2] M Q := by
  intro sz
  refine Met.ofW (cc := cX8_weightAs) (maxL := 4) (ret := some .int) (by decide) rfl ?_
  intro p e s m args below meth c s₁ Bd hml hv
  obtain ⟨hargs, hsz, hP, hK, hD⟩ := hv
  subst hsz
  have hx := Bd.exec
  have hb := Bd.bytes
  have hr := Bd.returns
  have hts := atoms_spec (ws := wsX8_weightAs) Bd.pre
  have hown : s.vm.findClass RX8 = some m.cls := findClass_of_methodNamed Bd.named
  have hlocks := Bd.notSynchronized
  have hC8 : xC wsX8_weightAs 8 RX8 TX8 34 := ⟨by decide +kernel, rfl⟩
  have key : ∀ (P : Nat → Int32 → Mem → Prop), (∀ (lab : Nat) (v3 : Int32) (M : Mem), P lab v3 M → ∀ (H : Heap) (locs : List Loc) (ls : Array Slot), xS D (wR ad cy) B s.heap H locs M → lv_has ls 4 (lvl_X8_weightAs ad v1 v2 lab v3 ) → W p l e (headSpec wsX8_weightAs rm_X8_weightAs).room s m args below meth c H locs 0 0 (MQ below (va_Qi (S := Mem) Q (xB D (wR ad cy) B) (xA B s.heap.size)) args s 0 0 (xA B s.heap.size)) (F0 m (pcl_X8_weightAs lab) ls [])) → ∀ (lab : Nat) (v3 : Int32) (M : Mem), blk_X8_weightAs v1 v2 Q P lab v3 M → ∀ (H : Heap) (locs : List Loc) (ls : Array Slot), xS D (wR ad cy) B s.heap H locs M → lv_has ls 4 (lvl_X8_weightAs ad v1 v2 lab v3 ) → W p l e (headSpec wsX8_weightAs rm_X8_weightAs).room s m args below meth c H locs 0 0 (MQ below (va_Qi (S := Mem) Q (xB D (wR ad cy) B) (xA B s.heap.size)) args s 0 0 (xA B s.heap.size)) (F0 m (pcl_X8_weightAs lab) ls []) := by
    intro P hJ lab v3 M h H locs ls S hl
    match lab, h, hl with
    | 0, h, hl =>
      have hl : lv_has ls 4 [(0, .ref (ad 0)), (1, .int v1), (2, .int v2)] := hl
      have h : blk_X8_weightAs_0 v1 v2 Q P v3 M := h
      unfold blk_X8_weightAs_0 at h
      refine W.eq (g2 := F0 m 0 ls []) rfl ?_
      refine lv_aload_n hx hb dX8_weightAs_0 rfl (lv_at hl 0 rfl) ?_
      refine lv_iconst (v := 0) hx hb dX8_weightAs_1 (by decide) ?_
      refine x_putI hx hb hts (hC8) tyX8 tyX8_ok nmX8 hown hK S 0 (by decide) rf_0_0 (index := 74) (hts _ (List.mem_of_getElem? (i := 1) rfl)) rfl rfl rfl dX8_weightAs_2 (fun H locs S => ?_)
      refine lv_iload_n hx hb dX8_weightAs_5 rfl (lv_at hl 2 rfl) ?_
      refine lv_i2l (v := v2.toInt64) hx hb dX8_weightAs_6 rfl ?_
      refine lv_lconst (v := 0) hx hb dX8_weightAs_7 rfl ?_
      refine lv_ldc2 (v := 4) hx hb hown (hts _ (List.mem_of_getElem? (i := 2) rfl)) dX8_weightAs_8 ?_
      refine x_callSi (As := [.long v2.toInt64, .long (0 : Int64), .long (4 : Int64)]) ⟨hx, hb, hml, hown, hts⟩ hK S (ct_X8_in l D cy ad B _ _ _ _ _ h) (va_cwS 3 hts gX8_weightAs_X8_in rfl rfl rfl (by decide +kernel) ⟨Nat.le_of_ble_eq_true rfl, Nat.le_of_ble_eq_true rfl⟩) rfl hl.1 rfl (Nat.le_of_ble_eq_true rfl) dX8_weightAs_11 ⟨Nat.zero_le _, Nat.zero_le _⟩ (fun r1 M1 H locs h S => ?_)
      refine lv_if_ne (tgt := 20) hx hb dX8_weightAs_14 (by decide) (fun c14 => ?_) (fun c14 => ?_)
      · replace h := h.1 c14
        refine lv_aload_n hx hb dX8_weightAs_20 rfl (lv_at hl 0 rfl) ?_
        refine x_getI hx hb hts (hC8) hown hK S 8 (by decide) rf_0_8 (index := 151) (hts _ (List.mem_of_getElem? (i := 3) rfl)) dX8_weightAs_21 ?_
        refine lv_if_ne (tgt := 30) hx hb dX8_weightAs_24 (by decide) (fun c24 => ?_) (fun c24 => ?_)
        · replace h := h.1 c24
          refine lv_aload_n hx hb dX8_weightAs_30 rfl (lv_at hl 0 rfl) ?_
          refine lv_iload_n hx hb dX8_weightAs_31 rfl (lv_at hl 1 rfl) ?_
          refine x_callVi (As := [.int v1]) ⟨hx, hb, hml, hown, hts⟩ hK S (ct_X8_noFence l D cy ad B _ _ _ h) ro_0 rfl (cwV 1 hts gX8_weightAs_X8_noFence rfl rfl rfl (by decide +kernel) ⟨Nat.le_of_ble_eq_true rfl, Nat.le_of_ble_eq_true rfl⟩) rfl hl.1 rfl (Nat.le_of_ble_eq_true rfl) dX8_weightAs_32 ⟨Nat.zero_le _, Nat.zero_le _⟩ (fun r2 M2 H locs h S => ?_)
          refine lv_if_eq (tgt := 40) hx hb dX8_weightAs_35 (by decide) (fun c35 => ?_) (fun c35 => ?_)
          · replace h := h.1 c35
            refine lv_aload_n hx hb dX8_weightAs_40 rfl (lv_at hl 0 rfl) ?_
            refine lv_iload_n hx hb dX8_weightAs_41 rfl (lv_at hl 1 rfl) ?_
            refine x_callVi (As := [.int v1]) ⟨hx, hb, hml, hown, hts⟩ hK S (ct_X8_kindOf l D cy ad B _ _ _ h) ro_0 rfl (cwV 1 hts gX8_weightAs_X8_kindOf rfl rfl rfl (by decide +kernel) ⟨Nat.le_of_ble_eq_true rfl, Nat.le_of_ble_eq_true rfl⟩) rfl hl.1 rfl (Nat.le_of_ble_eq_true rfl) dX8_weightAs_42 ⟨Nat.zero_le _, Nat.zero_le _⟩ (fun r3 M3 H locs h S => ?_)
            refine lv_istore_n (lv' := [(3, .int r3), (0, .ref (ad 0)), (1, .int v1), (2, .int v2)]) hx hb dX8_weightAs_45 rfl hl (by decide) rfl (fun ls hl => ?_)
            refine lv_iload_n hx hb dX8_weightAs_46 rfl (lv_at hl 3 rfl) ?_
            refine lv_if_eq (tgt := 65) hx hb dX8_weightAs_47 (by decide) (fun c47 => ?_) (fun c47 => ?_)
            · replace h := h.1 c47
              exact hJ _ _ _ h _ _ _ S (lv_sub hl [1, 2] rfl)
            · replace h := h.2 c47
              refine lv_iload_n hx hb dX8_weightAs_50 rfl (lv_at hl 3 rfl) ?_
              refine lv_iload_n hx hb dX8_weightAs_51 rfl (lv_at hl 0 rfl) ?_
              refine lv_icmp_eq (tgt := 65) hx hb dX8_weightAs_52 (by decide) (fun c52 => ?_) (fun c52 => ?_)
              · replace h := h.1 c52
                exact hJ _ _ _ h _ _ _ S (lv_sub hl [1, 2] rfl)
              · replace h := h.2 c52
                refine lv_iload_n hx hb dX8_weightAs_55 rfl (lv_at hl 3 rfl) ?_
                refine lv_iconst (v := 1) hx hb dX8_weightAs_56 (by decide) ?_
                refine lv_icmp_ne (tgt := 74) hx hb dX8_weightAs_57 (by decide) (fun c57 => ?_) (fun c57 => ?_)
                · replace h := h.1 c57
                  exact hJ _ _ _ h _ _ _ S (lv_sub hl [1] rfl)
                · replace h := h.2 c57
                  refine lv_iload_n hx hb dX8_weightAs_60 rfl (lv_at hl 0 rfl) ?_
                  refine lv_iconst (v := 2) hx hb dX8_weightAs_61 (by decide) ?_
                  refine lv_icmp_ne (tgt := 74) hx hb dX8_weightAs_62 (by decide) (fun c62 => ?_) (fun c62 => ?_)
                  · replace h := h.1 c62
                    exact hJ _ _ _ h _ _ _ S (lv_sub hl [1] rfl)
                  · replace h := h.2 c62
                    exact hJ _ _ _ h _ _ _ S (lv_sub hl [1, 2] rfl)
          · replace h := h.2 c35
            refine lv_iconst (v := (-1)) hx hb dX8_weightAs_38 (by decide) ?_
            exact x_iret hx hb hr hlocks S rfl h dX8_weightAs_39
        · replace h := h.2 c24
          refine lv_bipush (v := (-3)) hx hb dX8_weightAs_27 (by decide) ?_
          exact x_iret hx hb hr hlocks S rfl h dX8_weightAs_29
      · replace h := h.2 c14
        refine lv_bipush (v := (-2)) hx hb dX8_weightAs_17 (by decide) ?_
        exact x_iret hx hb hr hlocks S rfl h dX8_weightAs_19
    | 1, h, hl =>
      have hl : lv_has ls 4 [(0, .ref (ad 0)), (1, .int v1)] := hl
      have h : blk_X8_weightAs_1 v1 v2 Q P v3 M := h
      unfold blk_X8_weightAs_1 at h
      refine W.eq (g2 := F0 m 65 ls []) rfl ?_
      refine lv_aload_n hx hb dX8_weightAs_65 rfl (lv_at hl 0 rfl) ?_
      refine x_getR hx hb hts (hC8) hown hK S 17 (by decide) rf_0_17 (index := 44) (hts _ (List.mem_of_getElem? (i := 4) rfl)) dX8_weightAs_66 ?_
      refine lv_iload_n hx hb dX8_weightAs_69 rfl (lv_at hl 1 rfl) ?_
      refine x_iald hx hb hK S ra_12 h.1 dX8_weightAs_70 ?_
      replace h := h.2
      refine lv_goto (tgt := 80) hx hb dX8_weightAs_71 (by decide) ?_
      exact x_iret hx hb hr hlocks S rfl h dX8_weightAs_80
    | 2, h, hl =>
      have hl : lv_has ls 4 [(0, .ref (ad 0))] := hl
      have h : blk_X8_weightAs_2 v1 v2 Q P v3 M := h
      unfold blk_X8_weightAs_2 at h
      refine W.eq (g2 := F0 m 74 ls []) rfl ?_
      refine lv_aload_n hx hb dX8_weightAs_74 rfl (lv_at hl 0 rfl) ?_
      refine lv_bipush (v := (-13)) hx hb dX8_weightAs_75 (by decide) ?_
      refine x_callVi (As := [.int (-13)]) ⟨hx, hb, hml, hown, hts⟩ hK S (ct_X8_finds l D cy ad B _ _ _ h) ro_0 rfl (cwV 1 hts gX8_weightAs_X8_finds rfl rfl rfl (by decide +kernel) ⟨Nat.le_of_ble_eq_true rfl, Nat.le_of_ble_eq_true rfl⟩) rfl hl.1 rfl (Nat.le_of_ble_eq_true rfl) dX8_weightAs_77 ⟨Nat.zero_le _, Nat.zero_le _⟩ (fun r4 M4 H locs h S => ?_)
      exact x_iret hx hb hr hlocks S rfl h dX8_weightAs_80
    | _ + 3, h, hl => exact h.elim
  have hl := lv_entry ([.ref (ad 0), .int v1, .int v2]) (n := 4) (Nat.le_of_ble_eq_true rfl)
  subst hargs
  rw [lg_entry_eq]
  generalize (lg_sl ([.ref (ad 0), .int v1, .int v2]) ++ List.replicate (4 - (lg_sl ([.ref (ad 0), .int v1, .int v2])).length) Slot.unset).toArray = ls at hl ⊢
  exact h _ (key _ (fun _ _ _ h => h)) s.heap [] ls ⟨hP, hD, va_S.rf⟩ hl
/-! X8_crosses -/
def blk_X8_crosses_0 (v1 : Int32) (v2 : Int32) (Q : Int32 → Mem → Prop) (P : Nat → Mem → Prop) (M : Mem) : Prop :=
  ((¬ ((upI M 0 0 0).1 0 8) = 0 → wp_X8_noFence v1 (upI M 0 0 0) (fun r1 M1 => ((¬ r1 = 0 → P 1 M1) ∧ (r1 = 0 → wp_X8_noFence v2 M1 (fun r2 M2 => ((r2 = 0 → (vp_in v1 28 ∧ Q (((M2.1 11 v1.toNatClampNeg) >>> (v2 &&& 31)) &&& (1 : Int32)) M2)) ∧ (¬ r2 = 0 → P 1 M2))))))) ∧ (((upI M 0 0 0).1 0 8) = 0 → Q (-3) (upI M 0 0 0)))
theorem blk_X8_crosses_0_mono {v1 : Int32} {v2 : Int32} {Q Q' : Int32 → Mem → Prop} {P P' : Nat → Mem → Prop} (hQ : ∀ (r : Int32) (M : Mem), Q r M → Q' r M) (hP : ∀ (lab : Nat) (M : Mem), P lab M → P' lab M) (M : Mem) (h : blk_X8_crosses_0 v1 v2 Q P M) : blk_X8_crosses_0 v1 v2 Q' P' M := by
  unfold blk_X8_crosses_0 at h ⊢
  exact ⟨fun c => let h := h.1 c; wp_X8_noFence_mono (fun r1 M1 h => ⟨fun c => let h := h.1 c; hP _ _ h, fun c => let h := h.2 c; wp_X8_noFence_mono (fun r2 M2 h => ⟨fun c => let h := h.1 c; ⟨h.1, let h := h.2; hQ _ _ h⟩, fun c => let h := h.2 c; hP _ _ h⟩) h⟩) h, fun c => let h := h.2 c; hQ _ _ h⟩
def blk_X8_crosses_1 (v1 : Int32) (v2 : Int32) (Q : Int32 → Mem → Prop) (P : Nat → Mem → Prop) (M : Mem) : Prop :=
  Q (-1) M
theorem blk_X8_crosses_1_mono {v1 : Int32} {v2 : Int32} {Q Q' : Int32 → Mem → Prop} {P P' : Nat → Mem → Prop} (hQ : ∀ (r : Int32) (M : Mem), Q r M → Q' r M) (hP : ∀ (lab : Nat) (M : Mem), P lab M → P' lab M) (M : Mem) (h : blk_X8_crosses_1 v1 v2 Q P M) : blk_X8_crosses_1 v1 v2 Q' P' M := by
  unfold blk_X8_crosses_1 at h ⊢
  exact hQ _ _ h
def blk_X8_crosses (v1 : Int32) (v2 : Int32) (Q : Int32 → Mem → Prop) (P : Nat → Mem → Prop) : Nat → Mem → Prop := fun lab M => match lab with
  | 0 => blk_X8_crosses_0 v1 v2 Q P M
  | 1 => blk_X8_crosses_1 v1 v2 Q P M
  | _ => False
theorem blk_X8_crosses_mono {v1 : Int32} {v2 : Int32} {Q Q' : Int32 → Mem → Prop} {P P' : Nat → Mem → Prop} (hQ : ∀ (r : Int32) (M : Mem), Q r M → Q' r M) (hP : ∀ (lab : Nat) (M : Mem), P lab M → P' lab M) : ∀ (lab : Nat) (M : Mem), blk_X8_crosses v1 v2 Q P lab M → blk_X8_crosses v1 v2 Q' P' lab M := fun lab M h => match lab, h with
  | 0, h => blk_X8_crosses_0_mono (v1 := v1) (v2 := v2) hQ hP M h
  | 1, h => blk_X8_crosses_1_mono (v1 := v1) (v2 := v2) hQ hP M h
  | _ + 2, h => False.elim h
def at_X8_crosses (v1 : Int32) (v2 : Int32) (Q : Int32 → Mem → Prop) : Nat → Mem → Prop := fun lab M => ∀ P : Nat → Mem → Prop, (∀ (lab : Nat) (M : Mem), blk_X8_crosses v1 v2 Q P lab M → P lab M) → P lab M
theorem at_X8_crosses_fold {v1 : Int32} {v2 : Int32} {Q : Int32 → Mem → Prop} {lab : Nat} {M : Mem} (h : blk_X8_crosses v1 v2 Q (at_X8_crosses v1 v2 Q) lab M) : at_X8_crosses v1 v2 Q lab M := fun P hP => hP _ _ (blk_X8_crosses_mono (fun _ _ h => h) (fun _ _ h => h P hP) _ _ h)
theorem at_X8_crosses_mono {v1 : Int32} {v2 : Int32} {Q Q' : Int32 → Mem → Prop} (hQ : ∀ (r : Int32) (M : Mem), Q r M → Q' r M) {lab : Nat} {M : Mem} (h : at_X8_crosses v1 v2 Q lab M) : at_X8_crosses v1 v2 Q' lab M := fun P hP => h P (fun lab M hb => hP _ _ (blk_X8_crosses_mono hQ (fun _ _ h => h) _ _ hb))
def wp_X8_crosses (v1 : Int32) (v2 : Int32) (M : Mem) (Q : Int32 → Mem → Prop) : Prop := at_X8_crosses v1 v2 Q 0 M
theorem wp_X8_crosses_mono {v1 : Int32} {v2 : Int32} {M : Mem} {Q Q' : Int32 → Mem → Prop} (hQ : ∀ (r : Int32) (M : Mem), Q r M → Q' r M) (h : wp_X8_crosses v1 v2 M Q) : wp_X8_crosses v1 v2 M Q' := at_X8_crosses_mono hQ h
def pcl_X8_crosses : Nat → Nat := fun lab => match lab with
  | 0 => 0
  | 1 => 33
  | _ => 0
def lvl_X8_crosses (ad : Nat → Nat) (v1 : Int32) (v2 : Int32) : Nat → List (Nat × Value) := fun lab => match lab with
  | 0 => [(0, .ref (ad 0)), (1, .int v1), (2, .int v2)]
  | 1 => []
  | _ => []
abbrev rm_X8_crosses : Jvm.Room := { frames := 3, cells := 0, slots := 0, locals := 63 }
set_option maxHeartbeats 4000000 in
set_option maxRecDepth 100000 in
theorem ct_X8_crosses (l : Launch) (D : va_G) (cy : Nat → ClassId) (ad : Nat → Nat) (B : Nat → Prop) (v1 : Int32) (v2 : Int32) (M : Mem) (Q : Int32 → Mem → Prop) (h : wp_X8_crosses v1 v2 M Q) : CTi l D cy (wR ad cy) B yX8_crosses wsX8_crosses rm_X8_crosses [.ref (ad 0), .int v1, .int v2] M Q := by
  intro sz
  refine Met.ofW (cc := cX8_crosses) (maxL := 3) (ret := some .int) (by decide) rfl ?_
  intro p e s m args below meth c s₁ Bd hml hv
  obtain ⟨hargs, hsz, hP, hK, hD⟩ := hv
  subst hsz
  have hx := Bd.exec
  have hb := Bd.bytes
  have hr := Bd.returns
  have hts := atoms_spec (ws := wsX8_crosses) Bd.pre
  have hown : s.vm.findClass RX8 = some m.cls := findClass_of_methodNamed Bd.named
  have hlocks := Bd.notSynchronized
  have hC8 : xC wsX8_crosses 8 RX8 TX8 34 := ⟨by decide +kernel, rfl⟩
  have key : ∀ (P : Nat → Mem → Prop), (∀ (lab : Nat) (M : Mem), P lab M → ∀ (H : Heap) (locs : List Loc) (ls : Array Slot), xS D (wR ad cy) B s.heap H locs M → lv_has ls 3 (lvl_X8_crosses ad v1 v2 lab ) → W p l e (headSpec wsX8_crosses rm_X8_crosses).room s m args below meth c H locs 0 0 (MQ below (va_Qi (S := Mem) Q (xB D (wR ad cy) B) (xA B s.heap.size)) args s 0 0 (xA B s.heap.size)) (F0 m (pcl_X8_crosses lab) ls [])) → ∀ (lab : Nat) (M : Mem), blk_X8_crosses v1 v2 Q P lab M → ∀ (H : Heap) (locs : List Loc) (ls : Array Slot), xS D (wR ad cy) B s.heap H locs M → lv_has ls 3 (lvl_X8_crosses ad v1 v2 lab ) → W p l e (headSpec wsX8_crosses rm_X8_crosses).room s m args below meth c H locs 0 0 (MQ below (va_Qi (S := Mem) Q (xB D (wR ad cy) B) (xA B s.heap.size)) args s 0 0 (xA B s.heap.size)) (F0 m (pcl_X8_crosses lab) ls []) := by
    intro P hJ lab M h H locs ls S hl
    match lab, h, hl with
    | 0, h, hl =>
      have hl : lv_has ls 3 [(0, .ref (ad 0)), (1, .int v1), (2, .int v2)] := hl
      have h : blk_X8_crosses_0 v1 v2 Q P M := h
      unfold blk_X8_crosses_0 at h
      refine W.eq (g2 := F0 m 0 ls []) rfl ?_
      refine lv_aload_n hx hb dX8_crosses_0 rfl (lv_at hl 0 rfl) ?_
      refine lv_iconst (v := 0) hx hb dX8_crosses_1 (by decide) ?_
      refine x_putI hx hb hts (hC8) tyX8 tyX8_ok nmX8 hown hK S 0 (by decide) rf_0_0 (index := 74) (hts _ (List.mem_of_getElem? (i := 1) rfl)) rfl rfl rfl dX8_crosses_2 (fun H locs S => ?_)
      refine lv_aload_n hx hb dX8_crosses_5 rfl (lv_at hl 0 rfl) ?_
      refine x_getI hx hb hts (hC8) hown hK S 8 (by decide) rf_0_8 (index := 151) (hts _ (List.mem_of_getElem? (i := 2) rfl)) dX8_crosses_6 ?_
      refine lv_if_ne (tgt := 17) hx hb dX8_crosses_9 (by decide) (fun c9 => ?_) (fun c9 => ?_)
      · replace h := h.1 c9
        refine lv_aload_n hx hb dX8_crosses_17 rfl (lv_at hl 0 rfl) ?_
        refine lv_iload_n hx hb dX8_crosses_18 rfl (lv_at hl 1 rfl) ?_
        refine x_callVi (As := [.int v1]) ⟨hx, hb, hml, hown, hts⟩ hK S (ct_X8_noFence l D cy ad B _ _ _ h) ro_0 rfl (cwV 1 hts gX8_crosses_X8_noFence rfl rfl rfl (by decide +kernel) ⟨Nat.le_of_ble_eq_true rfl, Nat.le_of_ble_eq_true rfl⟩) rfl hl.1 rfl (Nat.le_of_ble_eq_true rfl) dX8_crosses_19 ⟨Nat.zero_le _, Nat.zero_le _⟩ (fun r1 M1 H locs h S => ?_)
        refine lv_if_ne (tgt := 33) hx hb dX8_crosses_22 (by decide) (fun c22 => ?_) (fun c22 => ?_)
        · replace h := h.1 c22
          exact hJ _ _ h _ _ _ S (lv_sub hl [] rfl)
        · replace h := h.2 c22
          refine lv_aload_n hx hb dX8_crosses_25 rfl (lv_at hl 0 rfl) ?_
          refine lv_iload_n hx hb dX8_crosses_26 rfl (lv_at hl 2 rfl) ?_
          refine x_callVi (As := [.int v2]) ⟨hx, hb, hml, hown, hts⟩ hK S (ct_X8_noFence l D cy ad B _ _ _ h) ro_0 rfl (cwV 1 hts gX8_crosses_X8_noFence rfl rfl rfl (by decide +kernel) ⟨Nat.le_of_ble_eq_true rfl, Nat.le_of_ble_eq_true rfl⟩) rfl hl.1 rfl (Nat.le_of_ble_eq_true rfl) dX8_crosses_27 ⟨Nat.zero_le _, Nat.zero_le _⟩ (fun r2 M2 H locs h S => ?_)
          refine lv_if_eq (tgt := 37) hx hb dX8_crosses_30 (by decide) (fun c30 => ?_) (fun c30 => ?_)
          · replace h := h.1 c30
            refine lv_aload_n hx hb dX8_crosses_37 rfl (lv_at hl 0 rfl) ?_
            refine x_getR hx hb hts (hC8) hown hK S 16 (by decide) rf_0_16 (index := 41) (hts _ (List.mem_of_getElem? (i := 3) rfl)) dX8_crosses_38 ?_
            refine lv_iload_n hx hb dX8_crosses_41 rfl (lv_at hl 1 rfl) ?_
            refine x_iald hx hb hK S ra_11 h.1 dX8_crosses_42 ?_
            replace h := h.2
            refine lv_iload_n hx hb dX8_crosses_43 rfl (lv_at hl 2 rfl) ?_
            refine lv_ishr hx hb dX8_crosses_44 ?_
            refine lv_iconst (v := 1) hx hb dX8_crosses_45 (by decide) ?_
            refine lv_iand hx hb dX8_crosses_46 ?_
            exact x_iret hx hb hr hlocks S rfl h dX8_crosses_47
          · replace h := h.2 c30
            exact hJ _ _ h _ _ _ S (lv_sub hl [] rfl)
      · replace h := h.2 c9
        refine lv_bipush (v := (-3)) hx hb dX8_crosses_12 (by decide) ?_
        refine lv_goto (tgt := 47) hx hb dX8_crosses_14 (by decide) ?_
        exact x_iret hx hb hr hlocks S rfl h dX8_crosses_47
    | 1, h, hl =>
      have hl : lv_has ls 3 [] := hl
      have h : blk_X8_crosses_1 v1 v2 Q P M := h
      unfold blk_X8_crosses_1 at h
      refine W.eq (g2 := F0 m 33 ls []) rfl ?_
      refine lv_iconst (v := (-1)) hx hb dX8_crosses_33 (by decide) ?_
      refine lv_goto (tgt := 47) hx hb dX8_crosses_34 (by decide) ?_
      exact x_iret hx hb hr hlocks S rfl h dX8_crosses_47
    | _ + 2, h, hl => exact h.elim
  have hl := lv_entry ([.ref (ad 0), .int v1, .int v2]) (n := 3) (Nat.le_of_ble_eq_true rfl)
  subst hargs
  rw [lg_entry_eq]
  generalize (lg_sl ([.ref (ad 0), .int v1, .int v2]) ++ List.replicate (3 - (lg_sl ([.ref (ad 0), .int v1, .int v2])).length) Slot.unset).toArray = ls at hl ⊢
  exact h _ (key _ (fun _ _ h => h)) s.heap [] ls ⟨hP, hD, va_S.rf⟩ hl
/-! X8_tell -/
def blk_X8_tell_0 (v1 : Int32) (v2 : Int32) (Q : Int32 → Mem → Prop) (P : Nat → Int32 → Mem → Prop) (v3 : Int32) (M : Mem) : Prop :=
  wp_X8_in v2.toInt64 (0 : Int64) (2 : Int64) (upI M 0 0 0) (fun r1 M1 => ((¬ r1 = 0 → ((¬ (M1.1 0 8) = 0 → wp_X8_noFence v1 M1 (fun r2 M2 => ((r2 = 0 → ((¬ (((M2.1 0 24) >>> (v1 &&& 31)) &&& (1 : Int32)) = 1 → P 1 0 M2) ∧ ((((M2.1 0 24) >>> (v1 &&& 31)) &&& (1 : Int32)) = 1 → P 1 1 M2))) ∧ (¬ r2 = 0 → Q (-1) M2)))) ∧ ((M1.1 0 8) = 0 → Q (-3) M1))) ∧ (r1 = 0 → Q (-2) M1)))
theorem blk_X8_tell_0_mono {v1 : Int32} {v2 : Int32} {Q Q' : Int32 → Mem → Prop} {P P' : Nat → Int32 → Mem → Prop} (hQ : ∀ (r : Int32) (M : Mem), Q r M → Q' r M) (hP : ∀ (lab : Nat) (v3 : Int32) (M : Mem), P lab v3 M → P' lab v3 M) (v3 : Int32) (M : Mem) (h : blk_X8_tell_0 v1 v2 Q P v3 M) : blk_X8_tell_0 v1 v2 Q' P' v3 M := by
  unfold blk_X8_tell_0 at h ⊢
  exact wp_X8_in_mono (fun r1 M1 h => ⟨fun c => let h := h.1 c; ⟨fun c => let h := h.1 c; wp_X8_noFence_mono (fun r2 M2 h => ⟨fun c => let h := h.1 c; ⟨fun c => let h := h.1 c; hP _ _ _ h, fun c => let h := h.2 c; hP _ _ _ h⟩, fun c => let h := h.2 c; hQ _ _ h⟩) h, fun c => let h := h.2 c; hQ _ _ h⟩, fun c => let h := h.2 c; hQ _ _ h⟩) h
def blk_X8_tell_1 (v1 : Int32) (v2 : Int32) (Q : Int32 → Mem → Prop) (P : Nat → Int32 → Mem → Prop) (v3 : Int32) (M : Mem) : Prop :=
  ((¬ v2 = 1 → P 2 v3 M) ∧ (v2 = 1 → ((v3 = 0 → Q (-3) M) ∧ (¬ v3 = 0 → P 2 v3 M))))
theorem blk_X8_tell_1_mono {v1 : Int32} {v2 : Int32} {Q Q' : Int32 → Mem → Prop} {P P' : Nat → Int32 → Mem → Prop} (hQ : ∀ (r : Int32) (M : Mem), Q r M → Q' r M) (hP : ∀ (lab : Nat) (v3 : Int32) (M : Mem), P lab v3 M → P' lab v3 M) (v3 : Int32) (M : Mem) (h : blk_X8_tell_1 v1 v2 Q P v3 M) : blk_X8_tell_1 v1 v2 Q' P' v3 M := by
  unfold blk_X8_tell_1 at h ⊢
  exact ⟨fun c => let h := h.1 c; hP _ _ _ h, fun c => let h := h.2 c; ⟨fun c => let h := h.1 c; hQ _ _ h, fun c => let h := h.2 c; hP _ _ _ h⟩⟩
def blk_X8_tell_2 (v1 : Int32) (v2 : Int32) (Q : Int32 → Mem → Prop) (P : Nat → Int32 → Mem → Prop) (v3 : Int32) (M : Mem) : Prop :=
  ((¬ v2 = 2 → P 3 0 M) ∧ (v2 = 2 → ((v3 = 0 → P 3 0 M) ∧ (¬ v3 = 0 → Q (-3) M))))
theorem blk_X8_tell_2_mono {v1 : Int32} {v2 : Int32} {Q Q' : Int32 → Mem → Prop} {P P' : Nat → Int32 → Mem → Prop} (hQ : ∀ (r : Int32) (M : Mem), Q r M → Q' r M) (hP : ∀ (lab : Nat) (v3 : Int32) (M : Mem), P lab v3 M → P' lab v3 M) (v3 : Int32) (M : Mem) (h : blk_X8_tell_2 v1 v2 Q P v3 M) : blk_X8_tell_2 v1 v2 Q' P' v3 M := by
  unfold blk_X8_tell_2 at h ⊢
  exact ⟨fun c => let h := h.1 c; hP _ _ _ h, fun c => let h := h.2 c; ⟨fun c => let h := h.1 c; hP _ _ _ h, fun c => let h := h.2 c; hQ _ _ h⟩⟩
def blk_X8_tell_3 (v1 : Int32) (v2 : Int32) (Q : Int32 → Mem → Prop) (P : Nat → Int32 → Mem → Prop) (v3 : Int32) (M : Mem) : Prop :=
  ((¬ v2 = 1 → P 4 0 (upI M 0 18 (((M.1 0 18) &&& (((1 : Int32) <<< (v1 &&& 31)) ^^^ ((-1) : Int32))) ||| (0 : Int32)))) ∧ (v2 = 1 → P 4 0 (upI M 0 18 (((M.1 0 18) &&& (((1 : Int32) <<< (v1 &&& 31)) ^^^ ((-1) : Int32))) ||| ((1 : Int32) <<< (v1 &&& 31))))))
theorem blk_X8_tell_3_mono {v1 : Int32} {v2 : Int32} {Q Q' : Int32 → Mem → Prop} {P P' : Nat → Int32 → Mem → Prop} (hQ : ∀ (r : Int32) (M : Mem), Q r M → Q' r M) (hP : ∀ (lab : Nat) (v3 : Int32) (M : Mem), P lab v3 M → P' lab v3 M) (v3 : Int32) (M : Mem) (h : blk_X8_tell_3 v1 v2 Q P v3 M) : blk_X8_tell_3 v1 v2 Q' P' v3 M := by
  unfold blk_X8_tell_3 at h ⊢
  exact ⟨fun c => let h := h.1 c; hP _ _ _ h, fun c => let h := h.2 c; hP _ _ _ h⟩
def blk_X8_tell_4 (v1 : Int32) (v2 : Int32) (Q : Int32 → Mem → Prop) (P : Nat → Int32 → Mem → Prop) (v3 : Int32) (M : Mem) : Prop :=
  ((¬ v2 = 2 → P 5 0 (upI M 0 19 (((M.1 0 19) &&& (((1 : Int32) <<< (v1 &&& 31)) ^^^ ((-1) : Int32))) ||| (0 : Int32)))) ∧ (v2 = 2 → P 5 0 (upI M 0 19 (((M.1 0 19) &&& (((1 : Int32) <<< (v1 &&& 31)) ^^^ ((-1) : Int32))) ||| ((1 : Int32) <<< (v1 &&& 31))))))
theorem blk_X8_tell_4_mono {v1 : Int32} {v2 : Int32} {Q Q' : Int32 → Mem → Prop} {P P' : Nat → Int32 → Mem → Prop} (hQ : ∀ (r : Int32) (M : Mem), Q r M → Q' r M) (hP : ∀ (lab : Nat) (v3 : Int32) (M : Mem), P lab v3 M → P' lab v3 M) (v3 : Int32) (M : Mem) (h : blk_X8_tell_4 v1 v2 Q P v3 M) : blk_X8_tell_4 v1 v2 Q' P' v3 M := by
  unfold blk_X8_tell_4 at h ⊢
  exact ⟨fun c => let h := h.1 c; hP _ _ _ h, fun c => let h := h.2 c; hP _ _ _ h⟩
def blk_X8_tell_5 (v1 : Int32) (v2 : Int32) (Q : Int32 → Mem → Prop) (P : Nat → Int32 → Mem → Prop) (v3 : Int32) (M : Mem) : Prop :=
  wp_X8_findAsked M (fun M3 => Q ((upI M3 0 25 0).1 0 22) (upI M3 0 25 0))
theorem blk_X8_tell_5_mono {v1 : Int32} {v2 : Int32} {Q Q' : Int32 → Mem → Prop} {P P' : Nat → Int32 → Mem → Prop} (hQ : ∀ (r : Int32) (M : Mem), Q r M → Q' r M) (hP : ∀ (lab : Nat) (v3 : Int32) (M : Mem), P lab v3 M → P' lab v3 M) (v3 : Int32) (M : Mem) (h : blk_X8_tell_5 v1 v2 Q P v3 M) : blk_X8_tell_5 v1 v2 Q' P' v3 M := by
  unfold blk_X8_tell_5 at h ⊢
  exact wp_X8_findAsked_mono (fun M3 h => hQ _ _ h) h
def blk_X8_tell (v1 : Int32) (v2 : Int32) (Q : Int32 → Mem → Prop) (P : Nat → Int32 → Mem → Prop) : Nat → Int32 → Mem → Prop := fun lab v3 M => match lab with
  | 0 => blk_X8_tell_0 v1 v2 Q P v3 M
  | 1 => blk_X8_tell_1 v1 v2 Q P v3 M
  | 2 => blk_X8_tell_2 v1 v2 Q P v3 M
  | 3 => blk_X8_tell_3 v1 v2 Q P v3 M
  | 4 => blk_X8_tell_4 v1 v2 Q P v3 M
  | 5 => blk_X8_tell_5 v1 v2 Q P v3 M
  | _ => False
theorem blk_X8_tell_mono {v1 : Int32} {v2 : Int32} {Q Q' : Int32 → Mem → Prop} {P P' : Nat → Int32 → Mem → Prop} (hQ : ∀ (r : Int32) (M : Mem), Q r M → Q' r M) (hP : ∀ (lab : Nat) (v3 : Int32) (M : Mem), P lab v3 M → P' lab v3 M) : ∀ (lab : Nat) (v3 : Int32) (M : Mem), blk_X8_tell v1 v2 Q P lab v3 M → blk_X8_tell v1 v2 Q' P' lab v3 M := fun lab v3 M h => match lab, h with
  | 0, h => blk_X8_tell_0_mono (v1 := v1) (v2 := v2) hQ hP v3 M h
  | 1, h => blk_X8_tell_1_mono (v1 := v1) (v2 := v2) hQ hP v3 M h
  | 2, h => blk_X8_tell_2_mono (v1 := v1) (v2 := v2) hQ hP v3 M h
  | 3, h => blk_X8_tell_3_mono (v1 := v1) (v2 := v2) hQ hP v3 M h
  | 4, h => blk_X8_tell_4_mono (v1 := v1) (v2 := v2) hQ hP v3 M h
  | 5, h => blk_X8_tell_5_mono (v1 := v1) (v2 := v2) hQ hP v3 M h
  | _ + 6, h => False.elim h
def at_X8_tell (v1 : Int32) (v2 : Int32) (Q : Int32 → Mem → Prop) : Nat → Int32 → Mem → Prop := fun lab v3 M => ∀ P : Nat → Int32 → Mem → Prop, (∀ (lab : Nat) (v3 : Int32) (M : Mem), blk_X8_tell v1 v2 Q P lab v3 M → P lab v3 M) → P lab v3 M
theorem at_X8_tell_fold {v1 : Int32} {v2 : Int32} {Q : Int32 → Mem → Prop} {lab : Nat} {v3 : Int32} {M : Mem} (h : blk_X8_tell v1 v2 Q (at_X8_tell v1 v2 Q) lab v3 M) : at_X8_tell v1 v2 Q lab v3 M := fun P hP => hP _ _ _ (blk_X8_tell_mono (fun _ _ h => h) (fun _ _ _ h => h P hP) _ _ _ h)
theorem at_X8_tell_mono {v1 : Int32} {v2 : Int32} {Q Q' : Int32 → Mem → Prop} (hQ : ∀ (r : Int32) (M : Mem), Q r M → Q' r M) {lab : Nat} {v3 : Int32} {M : Mem} (h : at_X8_tell v1 v2 Q lab v3 M) : at_X8_tell v1 v2 Q' lab v3 M := fun P hP => h P (fun lab v3 M hb => hP _ _ _ (blk_X8_tell_mono hQ (fun _ _ _ h => h) _ _ _ hb))
def wp_X8_tell (v1 : Int32) (v2 : Int32) (M : Mem) (Q : Int32 → Mem → Prop) : Prop := at_X8_tell v1 v2 Q 0 0 M
theorem wp_X8_tell_mono {v1 : Int32} {v2 : Int32} {M : Mem} {Q Q' : Int32 → Mem → Prop} (hQ : ∀ (r : Int32) (M : Mem), Q r M → Q' r M) (h : wp_X8_tell v1 v2 M Q) : wp_X8_tell v1 v2 M Q' := at_X8_tell_mono hQ h
def pcl_X8_tell : Nat → Nat := fun lab => match lab with
  | 0 => 0
  | 1 => 58
  | 2 => 67
  | 3 => 79
  | 4 => 106
  | 5 => 133
  | _ => 0
def lvl_X8_tell (ad : Nat → Nat) (v1 : Int32) (v2 : Int32) : Nat → Int32 → List (Nat × Value) := fun lab v3 => match lab with
  | 0 => [(0, .ref (ad 0)), (1, .int v1), (2, .int v2)]
  | 1 => [(0, .ref (ad 0)), (1, .int v1), (2, .int v2), (3, .int v3)]
  | 2 => [(0, .ref (ad 0)), (1, .int v1), (2, .int v2), (3, .int v3)]
  | 3 => [(0, .ref (ad 0)), (1, .int v1), (2, .int v2)]
  | 4 => [(0, .ref (ad 0)), (1, .int v1), (2, .int v2)]
  | 5 => [(0, .ref (ad 0))]
  | _ => []
abbrev rm_X8_tell : Jvm.Room := { frames := 3, cells := 0, slots := 0, locals := 63 }
set_option maxHeartbeats 4000000 in
set_option maxRecDepth 100000 in
theorem ct_X8_tell (l : Launch) (D : va_G) (cy : Nat → ClassId) (ad : Nat → Nat) (B : Nat → Prop) (v1 : Int32) (v2 : Int32) (M : Mem) (Q : Int32 → Mem → Prop) (h : wp_X8_tell v1 v2 M Q) : CTi l D cy (wR ad cy) B yX8_tell wsX8_tell rm_X8_tell [.ref (ad 0), .int v1, .int v2] M Q := by
  intro sz
  refine Met.ofW (cc := cX8_tell) (maxL := 4) (ret := some .int) (by decide) rfl ?_
  intro p e s m args below meth c s₁ Bd hml hv
  obtain ⟨hargs, hsz, hP, hK, hD⟩ := hv
  subst hsz
  have hx := Bd.exec
  have hb := Bd.bytes
  have hr := Bd.returns
  have hts := atoms_spec (ws := wsX8_tell) Bd.pre
  have hown : s.vm.findClass RX8 = some m.cls := findClass_of_methodNamed Bd.named
  have hlocks := Bd.notSynchronized
  have hC8 : xC wsX8_tell 8 RX8 TX8 34 := ⟨by decide +kernel, rfl⟩
  have key : ∀ (P : Nat → Int32 → Mem → Prop), (∀ (lab : Nat) (v3 : Int32) (M : Mem), P lab v3 M → ∀ (H : Heap) (locs : List Loc) (ls : Array Slot), xS D (wR ad cy) B s.heap H locs M → lv_has ls 4 (lvl_X8_tell ad v1 v2 lab v3 ) → W p l e (headSpec wsX8_tell rm_X8_tell).room s m args below meth c H locs 0 0 (MQ below (va_Qi (S := Mem) Q (xB D (wR ad cy) B) (xA B s.heap.size)) args s 0 0 (xA B s.heap.size)) (F0 m (pcl_X8_tell lab) ls [])) → ∀ (lab : Nat) (v3 : Int32) (M : Mem), blk_X8_tell v1 v2 Q P lab v3 M → ∀ (H : Heap) (locs : List Loc) (ls : Array Slot), xS D (wR ad cy) B s.heap H locs M → lv_has ls 4 (lvl_X8_tell ad v1 v2 lab v3 ) → W p l e (headSpec wsX8_tell rm_X8_tell).room s m args below meth c H locs 0 0 (MQ below (va_Qi (S := Mem) Q (xB D (wR ad cy) B) (xA B s.heap.size)) args s 0 0 (xA B s.heap.size)) (F0 m (pcl_X8_tell lab) ls []) := by
    intro P hJ lab v3 M h H locs ls S hl
    match lab, h, hl with
    | 0, h, hl =>
      have hl : lv_has ls 4 [(0, .ref (ad 0)), (1, .int v1), (2, .int v2)] := hl
      have h : blk_X8_tell_0 v1 v2 Q P v3 M := h
      unfold blk_X8_tell_0 at h
      refine W.eq (g2 := F0 m 0 ls []) rfl ?_
      refine lv_aload_n hx hb dX8_tell_0 rfl (lv_at hl 0 rfl) ?_
      refine lv_iconst (v := 0) hx hb dX8_tell_1 (by decide) ?_
      refine x_putI hx hb hts (hC8) tyX8 tyX8_ok nmX8 hown hK S 0 (by decide) rf_0_0 (index := 74) (hts _ (List.mem_of_getElem? (i := 1) rfl)) rfl rfl rfl dX8_tell_2 (fun H locs S => ?_)
      refine lv_iload_n hx hb dX8_tell_5 rfl (lv_at hl 2 rfl) ?_
      refine lv_i2l (v := v2.toInt64) hx hb dX8_tell_6 rfl ?_
      refine lv_lconst (v := 0) hx hb dX8_tell_7 rfl ?_
      refine lv_ldc2 (v := 2) hx hb hown (hts _ (List.mem_of_getElem? (i := 2) rfl)) dX8_tell_8 ?_
      refine x_callSi (As := [.long v2.toInt64, .long (0 : Int64), .long (2 : Int64)]) ⟨hx, hb, hml, hown, hts⟩ hK S (ct_X8_in l D cy ad B _ _ _ _ _ h) (va_cwS 3 hts gX8_tell_X8_in rfl rfl rfl (by decide +kernel) ⟨Nat.le_of_ble_eq_true rfl, Nat.le_of_ble_eq_true rfl⟩) rfl hl.1 rfl (Nat.le_of_ble_eq_true rfl) dX8_tell_11 ⟨Nat.zero_le _, Nat.zero_le _⟩ (fun r1 M1 H locs h S => ?_)
      refine lv_if_ne (tgt := 20) hx hb dX8_tell_14 (by decide) (fun c14 => ?_) (fun c14 => ?_)
      · replace h := h.1 c14
        refine lv_aload_n hx hb dX8_tell_20 rfl (lv_at hl 0 rfl) ?_
        refine x_getI hx hb hts (hC8) hown hK S 8 (by decide) rf_0_8 (index := 151) (hts _ (List.mem_of_getElem? (i := 3) rfl)) dX8_tell_21 ?_
        refine lv_if_ne (tgt := 30) hx hb dX8_tell_24 (by decide) (fun c24 => ?_) (fun c24 => ?_)
        · replace h := h.1 c24
          refine lv_aload_n hx hb dX8_tell_30 rfl (lv_at hl 0 rfl) ?_
          refine lv_iload_n hx hb dX8_tell_31 rfl (lv_at hl 1 rfl) ?_
          refine x_callVi (As := [.int v1]) ⟨hx, hb, hml, hown, hts⟩ hK S (ct_X8_noFence l D cy ad B _ _ _ h) ro_0 rfl (cwV 1 hts gX8_tell_X8_noFence rfl rfl rfl (by decide +kernel) ⟨Nat.le_of_ble_eq_true rfl, Nat.le_of_ble_eq_true rfl⟩) rfl hl.1 rfl (Nat.le_of_ble_eq_true rfl) dX8_tell_32 ⟨Nat.zero_le _, Nat.zero_le _⟩ (fun r2 M2 H locs h S => ?_)
          refine lv_if_eq (tgt := 40) hx hb dX8_tell_35 (by decide) (fun c35 => ?_) (fun c35 => ?_)
          · replace h := h.1 c35
            refine lv_aload_n hx hb dX8_tell_40 rfl (lv_at hl 0 rfl) ?_
            refine x_getI hx hb hts (hC8) hown hK S 24 (by decide) rf_0_24 (index := 145) (hts _ (List.mem_of_getElem? (i := 4) rfl)) dX8_tell_41 ?_
            refine lv_iload_n hx hb dX8_tell_44 rfl (lv_at hl 1 rfl) ?_
            refine lv_ishr hx hb dX8_tell_45 ?_
            refine lv_iconst (v := 1) hx hb dX8_tell_46 (by decide) ?_
            refine lv_iand hx hb dX8_tell_47 ?_
            refine lv_iconst (v := 1) hx hb dX8_tell_48 (by decide) ?_
            refine lv_icmp_ne (tgt := 56) hx hb dX8_tell_49 (by decide) (fun c49 => ?_) (fun c49 => ?_)
            · replace h := h.1 c49
              refine lv_iconst (v := 0) hx hb dX8_tell_56 (by decide) ?_
              refine lv_istore_n (lv' := [(3, .int 0), (0, .ref (ad 0)), (1, .int v1), (2, .int v2)]) hx hb dX8_tell_57 rfl hl (by decide) rfl (fun ls hl => ?_)
              exact hJ _ _ _ h _ _ _ S (lv_sub hl [1, 2, 3, 0] rfl)
            · replace h := h.2 c49
              refine lv_iconst (v := 1) hx hb dX8_tell_52 (by decide) ?_
              refine lv_goto (tgt := 57) hx hb dX8_tell_53 (by decide) ?_
              refine lv_istore_n (lv' := [(3, .int 1), (0, .ref (ad 0)), (1, .int v1), (2, .int v2)]) hx hb dX8_tell_57 rfl hl (by decide) rfl (fun ls hl => ?_)
              exact hJ _ _ _ h _ _ _ S (lv_sub hl [1, 2, 3, 0] rfl)
          · replace h := h.2 c35
            refine lv_iconst (v := (-1)) hx hb dX8_tell_38 (by decide) ?_
            exact x_iret hx hb hr hlocks S rfl h dX8_tell_39
        · replace h := h.2 c24
          refine lv_bipush (v := (-3)) hx hb dX8_tell_27 (by decide) ?_
          exact x_iret hx hb hr hlocks S rfl h dX8_tell_29
      · replace h := h.2 c14
        refine lv_bipush (v := (-2)) hx hb dX8_tell_17 (by decide) ?_
        exact x_iret hx hb hr hlocks S rfl h dX8_tell_19
    | 1, h, hl =>
      have hl : lv_has ls 4 [(0, .ref (ad 0)), (1, .int v1), (2, .int v2), (3, .int v3)] := hl
      have h : blk_X8_tell_1 v1 v2 Q P v3 M := h
      unfold blk_X8_tell_1 at h
      refine W.eq (g2 := F0 m 58 ls []) rfl ?_
      refine lv_iload_n hx hb dX8_tell_58 rfl (lv_at hl 2 rfl) ?_
      refine lv_iconst (v := 1) hx hb dX8_tell_59 (by decide) ?_
      refine lv_icmp_ne (tgt := 67) hx hb dX8_tell_60 (by decide) (fun c60 => ?_) (fun c60 => ?_)
      · replace h := h.1 c60
        exact hJ _ _ _ h _ _ _ S (lv_sub hl [0, 1, 2, 3] rfl)
      · replace h := h.2 c60
        refine lv_iload_n hx hb dX8_tell_63 rfl (lv_at hl 3 rfl) ?_
        refine lv_if_eq (tgt := 76) hx hb dX8_tell_64 (by decide) (fun c64 => ?_) (fun c64 => ?_)
        · replace h := h.1 c64
          refine lv_bipush (v := (-3)) hx hb dX8_tell_76 (by decide) ?_
          exact x_iret hx hb hr hlocks S rfl h dX8_tell_78
        · replace h := h.2 c64
          exact hJ _ _ _ h _ _ _ S (lv_sub hl [0, 1, 2, 3] rfl)
    | 2, h, hl =>
      have hl : lv_has ls 4 [(0, .ref (ad 0)), (1, .int v1), (2, .int v2), (3, .int v3)] := hl
      have h : blk_X8_tell_2 v1 v2 Q P v3 M := h
      unfold blk_X8_tell_2 at h
      refine W.eq (g2 := F0 m 67 ls []) rfl ?_
      refine lv_iload_n hx hb dX8_tell_67 rfl (lv_at hl 2 rfl) ?_
      refine lv_iconst (v := 2) hx hb dX8_tell_68 (by decide) ?_
      refine lv_icmp_ne (tgt := 79) hx hb dX8_tell_69 (by decide) (fun c69 => ?_) (fun c69 => ?_)
      · replace h := h.1 c69
        exact hJ _ _ _ h _ _ _ S (lv_sub hl [0, 1, 2] rfl)
      · replace h := h.2 c69
        refine lv_iload_n hx hb dX8_tell_72 rfl (lv_at hl 3 rfl) ?_
        refine lv_if_eq (tgt := 79) hx hb dX8_tell_73 (by decide) (fun c73 => ?_) (fun c73 => ?_)
        · replace h := h.1 c73
          exact hJ _ _ _ h _ _ _ S (lv_sub hl [0, 1, 2] rfl)
        · replace h := h.2 c73
          refine lv_bipush (v := (-3)) hx hb dX8_tell_76 (by decide) ?_
          exact x_iret hx hb hr hlocks S rfl h dX8_tell_78
    | 3, h, hl =>
      have hl : lv_has ls 4 [(0, .ref (ad 0)), (1, .int v1), (2, .int v2)] := hl
      have h : blk_X8_tell_3 v1 v2 Q P v3 M := h
      unfold blk_X8_tell_3 at h
      refine W.eq (g2 := F0 m 79 ls []) rfl ?_
      refine lv_aload_n hx hb dX8_tell_79 rfl (lv_at hl 0 rfl) ?_
      refine lv_aload_n hx hb dX8_tell_80 rfl (lv_at hl 0 rfl) ?_
      refine x_getI hx hb hts (hC8) hown hK S 18 (by decide) rf_0_18 (index := 130) (hts _ (List.mem_of_getElem? (i := 5) rfl)) dX8_tell_81 ?_
      refine lv_iconst (v := 1) hx hb dX8_tell_84 (by decide) ?_
      refine lv_iload_n hx hb dX8_tell_85 rfl (lv_at hl 1 rfl) ?_
      refine lv_ishl hx hb dX8_tell_86 ?_
      refine lv_iconst (v := (-1)) hx hb dX8_tell_87 (by decide) ?_
      refine lv_ixor hx hb dX8_tell_88 ?_
      refine lv_iand hx hb dX8_tell_89 ?_
      refine lv_iload_n hx hb dX8_tell_90 rfl (lv_at hl 2 rfl) ?_
      refine lv_iconst (v := 1) hx hb dX8_tell_91 (by decide) ?_
      refine lv_icmp_ne (tgt := 101) hx hb dX8_tell_92 (by decide) (fun c92 => ?_) (fun c92 => ?_)
      · replace h := h.1 c92
        refine lv_iconst (v := 0) hx hb dX8_tell_101 (by decide) ?_
        refine lv_ior hx hb dX8_tell_102 ?_
        refine x_putI hx hb hts (hC8) tyX8 tyX8_ok nmX8 hown hK S 18 (by decide) rf_0_18 (index := 130) (hts _ (List.mem_of_getElem? (i := 5) rfl)) rfl rfl rfl dX8_tell_103 (fun H locs S => ?_)
        exact hJ _ _ _ h _ _ _ S (lv_sub hl [0, 1, 2] rfl)
      · replace h := h.2 c92
        refine lv_iconst (v := 1) hx hb dX8_tell_95 (by decide) ?_
        refine lv_iload_n hx hb dX8_tell_96 rfl (lv_at hl 1 rfl) ?_
        refine lv_ishl hx hb dX8_tell_97 ?_
        refine lv_goto (tgt := 102) hx hb dX8_tell_98 (by decide) ?_
        refine lv_ior hx hb dX8_tell_102 ?_
        refine x_putI hx hb hts (hC8) tyX8 tyX8_ok nmX8 hown hK S 18 (by decide) rf_0_18 (index := 130) (hts _ (List.mem_of_getElem? (i := 5) rfl)) rfl rfl rfl dX8_tell_103 (fun H locs S => ?_)
        exact hJ _ _ _ h _ _ _ S (lv_sub hl [0, 1, 2] rfl)
    | 4, h, hl =>
      have hl : lv_has ls 4 [(0, .ref (ad 0)), (1, .int v1), (2, .int v2)] := hl
      have h : blk_X8_tell_4 v1 v2 Q P v3 M := h
      unfold blk_X8_tell_4 at h
      refine W.eq (g2 := F0 m 106 ls []) rfl ?_
      refine lv_aload_n hx hb dX8_tell_106 rfl (lv_at hl 0 rfl) ?_
      refine lv_aload_n hx hb dX8_tell_107 rfl (lv_at hl 0 rfl) ?_
      refine x_getI hx hb hts (hC8) hown hK S 19 (by decide) rf_0_19 (index := 133) (hts _ (List.mem_of_getElem? (i := 6) rfl)) dX8_tell_108 ?_
      refine lv_iconst (v := 1) hx hb dX8_tell_111 (by decide) ?_
      refine lv_iload_n hx hb dX8_tell_112 rfl (lv_at hl 1 rfl) ?_
      refine lv_ishl hx hb dX8_tell_113 ?_
      refine lv_iconst (v := (-1)) hx hb dX8_tell_114 (by decide) ?_
      refine lv_ixor hx hb dX8_tell_115 ?_
      refine lv_iand hx hb dX8_tell_116 ?_
      refine lv_iload_n hx hb dX8_tell_117 rfl (lv_at hl 2 rfl) ?_
      refine lv_iconst (v := 2) hx hb dX8_tell_118 (by decide) ?_
      refine lv_icmp_ne (tgt := 128) hx hb dX8_tell_119 (by decide) (fun c119 => ?_) (fun c119 => ?_)
      · replace h := h.1 c119
        refine lv_iconst (v := 0) hx hb dX8_tell_128 (by decide) ?_
        refine lv_ior hx hb dX8_tell_129 ?_
        refine x_putI hx hb hts (hC8) tyX8 tyX8_ok nmX8 hown hK S 19 (by decide) rf_0_19 (index := 133) (hts _ (List.mem_of_getElem? (i := 6) rfl)) rfl rfl rfl dX8_tell_130 (fun H locs S => ?_)
        exact hJ _ _ _ h _ _ _ S (lv_sub hl [0] rfl)
      · replace h := h.2 c119
        refine lv_iconst (v := 1) hx hb dX8_tell_122 (by decide) ?_
        refine lv_iload_n hx hb dX8_tell_123 rfl (lv_at hl 1 rfl) ?_
        refine lv_ishl hx hb dX8_tell_124 ?_
        refine lv_goto (tgt := 129) hx hb dX8_tell_125 (by decide) ?_
        refine lv_ior hx hb dX8_tell_129 ?_
        refine x_putI hx hb hts (hC8) tyX8 tyX8_ok nmX8 hown hK S 19 (by decide) rf_0_19 (index := 133) (hts _ (List.mem_of_getElem? (i := 6) rfl)) rfl rfl rfl dX8_tell_130 (fun H locs S => ?_)
        exact hJ _ _ _ h _ _ _ S (lv_sub hl [0] rfl)
    | 5, h, hl =>
      have hl : lv_has ls 4 [(0, .ref (ad 0))] := hl
      have h : blk_X8_tell_5 v1 v2 Q P v3 M := h
      unfold blk_X8_tell_5 at h
      refine W.eq (g2 := F0 m 133 ls []) rfl ?_
      refine lv_aload_n hx hb dX8_tell_133 rfl (lv_at hl 0 rfl) ?_
      refine x_callVv (As := []) ⟨hx, hb, hml, hown, hts⟩ hK S (ct_X8_findAsked l D cy ad B _ _ h) ro_0 rfl (cwV 0 hts gX8_tell_X8_findAsked rfl rfl rfl (by decide +kernel) ⟨Nat.le_of_ble_eq_true rfl, Nat.le_of_ble_eq_true rfl⟩) rfl hl.1 rfl (Nat.le_of_ble_eq_true rfl) dX8_tell_134 ⟨Nat.zero_le _, Nat.zero_le _⟩ (fun M3 H locs h S => ?_)
      refine lv_aload_n hx hb dX8_tell_137 rfl (lv_at hl 0 rfl) ?_
      refine lv_iconst (v := 0) hx hb dX8_tell_138 (by decide) ?_
      refine x_putI hx hb hts (hC8) tyX8 tyX8_ok nmX8 hown hK S 25 (by decide) rf_0_25 (index := 148) (hts _ (List.mem_of_getElem? (i := 7) rfl)) rfl rfl rfl dX8_tell_139 (fun H locs S => ?_)
      refine lv_aload_n hx hb dX8_tell_142 rfl (lv_at hl 0 rfl) ?_
      refine x_getI hx hb hts (hC8) hown hK S 22 (by decide) rf_0_22 (index := 127) (hts _ (List.mem_of_getElem? (i := 8) rfl)) dX8_tell_143 ?_
      exact x_iret hx hb hr hlocks S rfl h dX8_tell_146
    | _ + 6, h, hl => exact h.elim
  have hl := lv_entry ([.ref (ad 0), .int v1, .int v2]) (n := 4) (Nat.le_of_ble_eq_true rfl)
  subst hargs
  rw [lg_entry_eq]
  generalize (lg_sl ([.ref (ad 0), .int v1, .int v2]) ++ List.replicate (4 - (lg_sl ([.ref (ad 0), .int v1, .int v2])).length) Slot.unset).toArray = ls at hl ⊢
  exact h _ (key _ (fun _ _ _ h => h)) s.heap [] ls ⟨hP, hD, va_S.rf⟩ hl
/-! X8_weigh -/
def wp_X8_weigh (v1 : Int32) (v2 : Int32) (M : Mem) (Q : Int32 → Mem → Prop) : Prop :=
  wp_X8_in v2.toInt64 (-1000 : Int64) (1000 : Int64) (upI M 0 0 0) (fun r1 M1 => ((¬ r1 = 0 → ((¬ (M1.1 0 8) = 0 → wp_X8_noFence v1 M1 (fun r2 M2 => ((r2 = 0 → (vp_in v1 28 ∧ (vp_in v1 28 ∧ Q (M2.1 12 v1.toNatClampNeg) (upI M2 12 v1.toNatClampNeg v2)))) ∧ (¬ r2 = 0 → Q (-1) M2)))) ∧ ((M1.1 0 8) = 0 → Q (-3) M1))) ∧ (r1 = 0 → Q (-2) M1)))
theorem wp_X8_weigh_mono {v1 : Int32} {v2 : Int32} {M : Mem} {Q Q' : Int32 → Mem → Prop} (hQ : ∀ (r : Int32) (M : Mem), Q r M → Q' r M) (h : wp_X8_weigh v1 v2 M Q) : wp_X8_weigh v1 v2 M Q' := by
  unfold wp_X8_weigh at h ⊢
  exact wp_X8_in_mono (fun r1 M1 h => ⟨fun c => let h := h.1 c; ⟨fun c => let h := h.1 c; wp_X8_noFence_mono (fun r2 M2 h => ⟨fun c => let h := h.1 c; ⟨h.1, let h := h.2; ⟨h.1, let h := h.2; hQ _ _ h⟩⟩, fun c => let h := h.2 c; hQ _ _ h⟩) h, fun c => let h := h.2 c; hQ _ _ h⟩, fun c => let h := h.2 c; hQ _ _ h⟩) h
abbrev rm_X8_weigh : Jvm.Room := { frames := 3, cells := 0, slots := 0, locals := 63 }
set_option maxHeartbeats 4000000 in
set_option maxRecDepth 100000 in
theorem ct_X8_weigh (l : Launch) (D : va_G) (cy : Nat → ClassId) (ad : Nat → Nat) (B : Nat → Prop) (v1 : Int32) (v2 : Int32) (M : Mem) (Q : Int32 → Mem → Prop) (h : wp_X8_weigh v1 v2 M Q) : CTi l D cy (wR ad cy) B yX8_weigh wsX8_weigh rm_X8_weigh [.ref (ad 0), .int v1, .int v2] M Q := by
  intro sz
  refine Met.ofW (cc := cX8_weigh) (maxL := 4) (ret := some .int) (by decide) rfl ?_
  intro p e s m args below meth c s₁ Bd hml hv
  obtain ⟨hargs, hsz, hP, hK, hD⟩ := hv
  subst hsz
  have hx := Bd.exec
  have hb := Bd.bytes
  have hr := Bd.returns
  have hts := atoms_spec (ws := wsX8_weigh) Bd.pre
  have hown : s.vm.findClass RX8 = some m.cls := findClass_of_methodNamed Bd.named
  have hlocks := Bd.notSynchronized
  have hC8 : xC wsX8_weigh 8 RX8 TX8 34 := ⟨by decide +kernel, rfl⟩
  have hl := lv_entry ([.ref (ad 0), .int v1, .int v2]) (n := 4) (Nat.le_of_ble_eq_true rfl)
  subst hargs
  rw [lg_entry_eq]
  generalize (lg_sl ([.ref (ad 0), .int v1, .int v2]) ++ List.replicate (4 - (lg_sl ([.ref (ad 0), .int v1, .int v2])).length) Slot.unset).toArray = ls at hl ⊢
  have hl : lv_has ls 4 [(0, .ref (ad 0)), (1, .int v1), (2, .int v2)] := hl
  have S : xS D (wR ad cy) B s.heap s.heap [] M := ⟨hP, hD, va_S.rf⟩
  unfold wp_X8_weigh at h
  refine lv_aload_n hx hb dX8_weigh_0 rfl (lv_at hl 0 rfl) ?_
  refine lv_iconst (v := 0) hx hb dX8_weigh_1 (by decide) ?_
  refine x_putI hx hb hts (hC8) tyX8 tyX8_ok nmX8 hown hK S 0 (by decide) rf_0_0 (index := 74) (hts _ (List.mem_of_getElem? (i := 1) rfl)) rfl rfl rfl dX8_weigh_2 (fun H locs S => ?_)
  refine lv_iload_n hx hb dX8_weigh_5 rfl (lv_at hl 2 rfl) ?_
  refine lv_i2l (v := v2.toInt64) hx hb dX8_weigh_6 rfl ?_
  refine lv_ldc2 (v := (-1000)) hx hb hown (hts _ (List.mem_of_getElem? (i := 2) rfl)) dX8_weigh_7 ?_
  refine lv_ldc2 (v := 1000) hx hb hown (hts _ (List.mem_of_getElem? (i := 3) rfl)) dX8_weigh_10 ?_
  refine x_callSi (As := [.long v2.toInt64, .long (-1000 : Int64), .long (1000 : Int64)]) ⟨hx, hb, hml, hown, hts⟩ hK S (ct_X8_in l D cy ad B _ _ _ _ _ h) (va_cwS 3 hts gX8_weigh_X8_in rfl rfl rfl (by decide +kernel) ⟨Nat.le_of_ble_eq_true rfl, Nat.le_of_ble_eq_true rfl⟩) rfl hl.1 rfl (Nat.le_of_ble_eq_true rfl) dX8_weigh_13 ⟨Nat.zero_le _, Nat.zero_le _⟩ (fun r1 M1 H locs h S => ?_)
  refine lv_if_ne (tgt := 22) hx hb dX8_weigh_16 (by decide) (fun c16 => ?_) (fun c16 => ?_)
  · replace h := h.1 c16
    refine lv_aload_n hx hb dX8_weigh_22 rfl (lv_at hl 0 rfl) ?_
    refine x_getI hx hb hts (hC8) hown hK S 8 (by decide) rf_0_8 (index := 151) (hts _ (List.mem_of_getElem? (i := 4) rfl)) dX8_weigh_23 ?_
    refine lv_if_ne (tgt := 32) hx hb dX8_weigh_26 (by decide) (fun c26 => ?_) (fun c26 => ?_)
    · replace h := h.1 c26
      refine lv_aload_n hx hb dX8_weigh_32 rfl (lv_at hl 0 rfl) ?_
      refine lv_iload_n hx hb dX8_weigh_33 rfl (lv_at hl 1 rfl) ?_
      refine x_callVi (As := [.int v1]) ⟨hx, hb, hml, hown, hts⟩ hK S (ct_X8_noFence l D cy ad B _ _ _ h) ro_0 rfl (cwV 1 hts gX8_weigh_X8_noFence rfl rfl rfl (by decide +kernel) ⟨Nat.le_of_ble_eq_true rfl, Nat.le_of_ble_eq_true rfl⟩) rfl hl.1 rfl (Nat.le_of_ble_eq_true rfl) dX8_weigh_34 ⟨Nat.zero_le _, Nat.zero_le _⟩ (fun r2 M2 H locs h S => ?_)
      refine lv_if_eq (tgt := 42) hx hb dX8_weigh_37 (by decide) (fun c37 => ?_) (fun c37 => ?_)
      · replace h := h.1 c37
        refine lv_aload_n hx hb dX8_weigh_42 rfl (lv_at hl 0 rfl) ?_
        refine x_getR hx hb hts (hC8) hown hK S 17 (by decide) rf_0_17 (index := 44) (hts _ (List.mem_of_getElem? (i := 5) rfl)) dX8_weigh_43 ?_
        refine lv_iload_n hx hb dX8_weigh_46 rfl (lv_at hl 1 rfl) ?_
        refine x_iald hx hb hK S ra_12 h.1 dX8_weigh_47 ?_
        replace h := h.2
        refine lv_istore_n (lv' := [(3, .int (M2.1 12 v1.toNatClampNeg)), (0, .ref (ad 0)), (1, .int v1), (2, .int v2)]) hx hb dX8_weigh_48 rfl hl (by decide) rfl (fun ls hl => ?_)
        refine lv_aload_n hx hb dX8_weigh_49 rfl (lv_at hl 1 rfl) ?_
        refine x_getR hx hb hts (hC8) hown hK S 17 (by decide) rf_0_17 (index := 44) (hts _ (List.mem_of_getElem? (i := 5) rfl)) dX8_weigh_50 ?_
        refine lv_iload_n hx hb dX8_weigh_53 rfl (lv_at hl 2 rfl) ?_
        refine lv_iload_n hx hb dX8_weigh_54 rfl (lv_at hl 3 rfl) ?_
        refine x_iast hx hb hK S ra_12 h.1 dX8_weigh_55 (fun H locs S => ?_)
        replace h := h.2
        refine lv_iload_n hx hb dX8_weigh_56 rfl (lv_at hl 0 rfl) ?_
        exact x_iret hx hb hr hlocks S rfl h dX8_weigh_57
      · replace h := h.2 c37
        refine lv_iconst (v := (-1)) hx hb dX8_weigh_40 (by decide) ?_
        exact x_iret hx hb hr hlocks S rfl h dX8_weigh_41
    · replace h := h.2 c26
      refine lv_bipush (v := (-3)) hx hb dX8_weigh_29 (by decide) ?_
      exact x_iret hx hb hr hlocks S rfl h dX8_weigh_31
  · replace h := h.2 c16
    refine lv_bipush (v := (-2)) hx hb dX8_weigh_19 (by decide) ?_
    exact x_iret hx hb hr hlocks S rfl h dX8_weigh_21
/-! X8_cutting -/
def wp_X8_cutting (M : Mem) (Q : Int64 → Mem → Prop) : Prop :=
  ((((upI M 0 0 0).1 0 8) = 0 → Q (-3 : Int64) (upI M 0 0 0)) ∧ (¬ ((upI M 0 0 0).1 0 8) = 0 → Q (((upI M 0 0 0).1 0 24).toInt64) (upI M 0 0 0)))
theorem wp_X8_cutting_mono {M : Mem} {Q Q' : Int64 → Mem → Prop} (hQ : ∀ (r : Int64) (M : Mem), Q r M → Q' r M) (h : wp_X8_cutting M Q) : wp_X8_cutting M Q' := by
  unfold wp_X8_cutting at h ⊢
  exact ⟨fun c => let h := h.1 c; hQ _ _ h, fun c => let h := h.2 c; hQ _ _ h⟩
abbrev rm_X8_cutting : Jvm.Room := { frames := 1, cells := 0, slots := 0, locals := 12 }
set_option maxHeartbeats 4000000 in
set_option maxRecDepth 100000 in
theorem ct_X8_cutting (l : Launch) (D : va_G) (cy : Nat → ClassId) (ad : Nat → Nat) (B : Nat → Prop) (M : Mem) (Q : Int64 → Mem → Prop) (h : wp_X8_cutting M Q) : CTl l D cy (wR ad cy) B yX8_cutting wsX8_cutting rm_X8_cutting [.ref (ad 0)] M Q := by
  intro sz
  refine Met.ofW (cc := cX8_cutting) (maxL := 1) (ret := some .long) (by decide) rfl ?_
  intro p e s m args below meth c s₁ Bd hml hv
  obtain ⟨hargs, hsz, hP, hK, hD⟩ := hv
  subst hsz
  have hx := Bd.exec
  have hb := Bd.bytes
  have hr := Bd.returns
  have hts := atoms_spec (ws := wsX8_cutting) Bd.pre
  have hown : s.vm.findClass RX8 = some m.cls := findClass_of_methodNamed Bd.named
  have hlocks := Bd.notSynchronized
  have hC8 : xC wsX8_cutting 8 RX8 TX8 34 := ⟨by decide +kernel, rfl⟩
  have hl := lv_entry ([.ref (ad 0)]) (n := 1) (Nat.le_of_ble_eq_true rfl)
  subst hargs
  rw [lg_entry_eq]
  generalize (lg_sl ([.ref (ad 0)]) ++ List.replicate (1 - (lg_sl ([.ref (ad 0)])).length) Slot.unset).toArray = ls at hl ⊢
  have hl : lv_has ls 1 [(0, .ref (ad 0))] := hl
  have S : xS D (wR ad cy) B s.heap s.heap [] M := ⟨hP, hD, va_S.rf⟩
  unfold wp_X8_cutting at h
  refine lv_aload_n hx hb dX8_cutting_0 rfl (lv_at hl 0 rfl) ?_
  refine lv_iconst (v := 0) hx hb dX8_cutting_1 (by decide) ?_
  refine x_putI hx hb hts (hC8) tyX8 tyX8_ok nmX8 hown hK S 0 (by decide) rf_0_0 (index := 74) (hts _ (List.mem_of_getElem? (i := 1) rfl)) rfl rfl rfl dX8_cutting_2 (fun H locs S => ?_)
  refine lv_aload_n hx hb dX8_cutting_5 rfl (lv_at hl 0 rfl) ?_
  refine x_getI hx hb hts (hC8) hown hK S 8 (by decide) rf_0_8 (index := 151) (hts _ (List.mem_of_getElem? (i := 2) rfl)) dX8_cutting_6 ?_
  refine lv_if_eq (tgt := 20) hx hb dX8_cutting_9 (by decide) (fun c9 => ?_) (fun c9 => ?_)
  · replace h := h.1 c9
    refine lv_ldc2 (v := (-3)) hx hb hown (hts _ (List.mem_of_getElem? (i := 4) rfl)) dX8_cutting_20 ?_
    exact x_lret hx hb hr hlocks S h dX8_cutting_23
  · replace h := h.2 c9
    refine lv_aload_n hx hb dX8_cutting_12 rfl (lv_at hl 0 rfl) ?_
    refine x_getI hx hb hts (hC8) hown hK S 24 (by decide) rf_0_24 (index := 145) (hts _ (List.mem_of_getElem? (i := 3) rfl)) dX8_cutting_13 ?_
    refine lv_i2l (v := ((upI M 0 0 0).1 0 24).toInt64) hx hb dX8_cutting_16 rfl ?_
    refine lv_goto (tgt := 23) hx hb dX8_cutting_17 (by decide) ?_
    exact x_lret hx hb hr hlocks S h dX8_cutting_23
/-! X8_has -/
def wp_X8_has (v1 : Int32) (M : Mem) (Q : Int32 → Mem → Prop) : Prop :=
  ((¬ ((upI M 0 0 0).1 0 8) = 0 → wp_X8_noFence v1 (upI M 0 0 0) (fun r1 M1 => ((r1 = 0 → Q (((M1.1 0 24) >>> (v1 &&& 31)) &&& (1 : Int32)) M1) ∧ (¬ r1 = 0 → Q (-1) M1)))) ∧ (((upI M 0 0 0).1 0 8) = 0 → Q (-3) (upI M 0 0 0)))
theorem wp_X8_has_mono {v1 : Int32} {M : Mem} {Q Q' : Int32 → Mem → Prop} (hQ : ∀ (r : Int32) (M : Mem), Q r M → Q' r M) (h : wp_X8_has v1 M Q) : wp_X8_has v1 M Q' := by
  unfold wp_X8_has at h ⊢
  exact ⟨fun c => let h := h.1 c; wp_X8_noFence_mono (fun r1 M1 h => ⟨fun c => let h := h.1 c; hQ _ _ h, fun c => let h := h.2 c; hQ _ _ h⟩) h, fun c => let h := h.2 c; hQ _ _ h⟩
abbrev rm_X8_has : Jvm.Room := { frames := 3, cells := 0, slots := 0, locals := 63 }
set_option maxHeartbeats 4000000 in
set_option maxRecDepth 100000 in
theorem ct_X8_has (l : Launch) (D : va_G) (cy : Nat → ClassId) (ad : Nat → Nat) (B : Nat → Prop) (v1 : Int32) (M : Mem) (Q : Int32 → Mem → Prop) (h : wp_X8_has v1 M Q) : CTi l D cy (wR ad cy) B yX8_has wsX8_has rm_X8_has [.ref (ad 0), .int v1] M Q := by
  intro sz
  refine Met.ofW (cc := cX8_has) (maxL := 2) (ret := some .int) (by decide) rfl ?_
  intro p e s m args below meth c s₁ Bd hml hv
  obtain ⟨hargs, hsz, hP, hK, hD⟩ := hv
  subst hsz
  have hx := Bd.exec
  have hb := Bd.bytes
  have hr := Bd.returns
  have hts := atoms_spec (ws := wsX8_has) Bd.pre
  have hown : s.vm.findClass RX8 = some m.cls := findClass_of_methodNamed Bd.named
  have hlocks := Bd.notSynchronized
  have hC8 : xC wsX8_has 8 RX8 TX8 34 := ⟨by decide +kernel, rfl⟩
  have hl := lv_entry ([.ref (ad 0), .int v1]) (n := 2) (Nat.le_of_ble_eq_true rfl)
  subst hargs
  rw [lg_entry_eq]
  generalize (lg_sl ([.ref (ad 0), .int v1]) ++ List.replicate (2 - (lg_sl ([.ref (ad 0), .int v1])).length) Slot.unset).toArray = ls at hl ⊢
  have hl : lv_has ls 2 [(0, .ref (ad 0)), (1, .int v1)] := hl
  have S : xS D (wR ad cy) B s.heap s.heap [] M := ⟨hP, hD, va_S.rf⟩
  unfold wp_X8_has at h
  refine lv_aload_n hx hb dX8_has_0 rfl (lv_at hl 0 rfl) ?_
  refine lv_iconst (v := 0) hx hb dX8_has_1 (by decide) ?_
  refine x_putI hx hb hts (hC8) tyX8 tyX8_ok nmX8 hown hK S 0 (by decide) rf_0_0 (index := 74) (hts _ (List.mem_of_getElem? (i := 1) rfl)) rfl rfl rfl dX8_has_2 (fun H locs S => ?_)
  refine lv_aload_n hx hb dX8_has_5 rfl (lv_at hl 0 rfl) ?_
  refine x_getI hx hb hts (hC8) hown hK S 8 (by decide) rf_0_8 (index := 151) (hts _ (List.mem_of_getElem? (i := 2) rfl)) dX8_has_6 ?_
  refine lv_if_ne (tgt := 17) hx hb dX8_has_9 (by decide) (fun c9 => ?_) (fun c9 => ?_)
  · replace h := h.1 c9
    refine lv_aload_n hx hb dX8_has_17 rfl (lv_at hl 0 rfl) ?_
    refine lv_iload_n hx hb dX8_has_18 rfl (lv_at hl 1 rfl) ?_
    refine x_callVi (As := [.int v1]) ⟨hx, hb, hml, hown, hts⟩ hK S (ct_X8_noFence l D cy ad B _ _ _ h) ro_0 rfl (cwV 1 hts gX8_has_X8_noFence rfl rfl rfl (by decide +kernel) ⟨Nat.le_of_ble_eq_true rfl, Nat.le_of_ble_eq_true rfl⟩) rfl hl.1 rfl (Nat.le_of_ble_eq_true rfl) dX8_has_19 ⟨Nat.zero_le _, Nat.zero_le _⟩ (fun r1 M1 H locs h S => ?_)
    refine lv_if_eq (tgt := 29) hx hb dX8_has_22 (by decide) (fun c22 => ?_) (fun c22 => ?_)
    · replace h := h.1 c22
      refine lv_aload_n hx hb dX8_has_29 rfl (lv_at hl 0 rfl) ?_
      refine x_getI hx hb hts (hC8) hown hK S 24 (by decide) rf_0_24 (index := 145) (hts _ (List.mem_of_getElem? (i := 3) rfl)) dX8_has_30 ?_
      refine lv_iload_n hx hb dX8_has_33 rfl (lv_at hl 1 rfl) ?_
      refine lv_ishr hx hb dX8_has_34 ?_
      refine lv_iconst (v := 1) hx hb dX8_has_35 (by decide) ?_
      refine lv_iand hx hb dX8_has_36 ?_
      exact x_iret hx hb hr hlocks S rfl h dX8_has_37
    · replace h := h.2 c22
      refine lv_iconst (v := (-1)) hx hb dX8_has_25 (by decide) ?_
      refine lv_goto (tgt := 37) hx hb dX8_has_26 (by decide) ?_
      exact x_iret hx hb hr hlocks S rfl h dX8_has_37
  · replace h := h.2 c9
    refine lv_bipush (v := (-3)) hx hb dX8_has_12 (by decide) ?_
    refine lv_goto (tgt := 37) hx hb dX8_has_14 (by decide) ?_
    exact x_iret hx hb hr hlocks S rfl h dX8_has_37
/-! X8_thirds -/
def wp_X8_thirds (M : Mem) (Q : Int32 → Mem → Prop) : Prop :=
  ((¬ ((upI M 0 0 0).1 0 8) = 0 → wp_X8_findThirds ((upI M 0 0 0).1 0 24) (upI M 0 0 0) (fun M1 => Q (M1.1 0 27) M1)) ∧ (((upI M 0 0 0).1 0 8) = 0 → Q (-3) (upI M 0 0 0)))
theorem wp_X8_thirds_mono {M : Mem} {Q Q' : Int32 → Mem → Prop} (hQ : ∀ (r : Int32) (M : Mem), Q r M → Q' r M) (h : wp_X8_thirds M Q) : wp_X8_thirds M Q' := by
  unfold wp_X8_thirds at h ⊢
  exact ⟨fun c => let h := h.1 c; wp_X8_findThirds_mono (fun M1 h => hQ _ _ h) h, fun c => let h := h.2 c; hQ _ _ h⟩
abbrev rm_X8_thirds : Jvm.Room := { frames := 5, cells := 0, slots := 0, locals := 115 }
set_option maxHeartbeats 4000000 in
set_option maxRecDepth 100000 in
theorem ct_X8_thirds (l : Launch) (D : va_G) (cy : Nat → ClassId) (ad : Nat → Nat) (B : Nat → Prop) (M : Mem) (Q : Int32 → Mem → Prop) (h : wp_X8_thirds M Q) : CTi l D cy (wR ad cy) B yX8_thirds wsX8_thirds rm_X8_thirds [.ref (ad 0)] M Q := by
  intro sz
  refine Met.ofW (cc := cX8_thirds) (maxL := 1) (ret := some .int) (by decide) rfl ?_
  intro p e s m args below meth c s₁ Bd hml hv
  obtain ⟨hargs, hsz, hP, hK, hD⟩ := hv
  subst hsz
  have hx := Bd.exec
  have hb := Bd.bytes
  have hr := Bd.returns
  have hts := atoms_spec (ws := wsX8_thirds) Bd.pre
  have hown : s.vm.findClass RX8 = some m.cls := findClass_of_methodNamed Bd.named
  have hlocks := Bd.notSynchronized
  have hC8 : xC wsX8_thirds 8 RX8 TX8 34 := ⟨by decide +kernel, rfl⟩
  have hl := lv_entry ([.ref (ad 0)]) (n := 1) (Nat.le_of_ble_eq_true rfl)
  subst hargs
  rw [lg_entry_eq]
  generalize (lg_sl ([.ref (ad 0)]) ++ List.replicate (1 - (lg_sl ([.ref (ad 0)])).length) Slot.unset).toArray = ls at hl ⊢
  have hl : lv_has ls 1 [(0, .ref (ad 0))] := hl
  have S : xS D (wR ad cy) B s.heap s.heap [] M := ⟨hP, hD, va_S.rf⟩
  unfold wp_X8_thirds at h
  refine lv_aload_n hx hb dX8_thirds_0 rfl (lv_at hl 0 rfl) ?_
  refine lv_iconst (v := 0) hx hb dX8_thirds_1 (by decide) ?_
  refine x_putI hx hb hts (hC8) tyX8 tyX8_ok nmX8 hown hK S 0 (by decide) rf_0_0 (index := 74) (hts _ (List.mem_of_getElem? (i := 1) rfl)) rfl rfl rfl dX8_thirds_2 (fun H locs S => ?_)
  refine lv_aload_n hx hb dX8_thirds_5 rfl (lv_at hl 0 rfl) ?_
  refine x_getI hx hb hts (hC8) hown hK S 8 (by decide) rf_0_8 (index := 151) (hts _ (List.mem_of_getElem? (i := 2) rfl)) dX8_thirds_6 ?_
  refine lv_if_ne (tgt := 15) hx hb dX8_thirds_9 (by decide) (fun c9 => ?_) (fun c9 => ?_)
  · replace h := h.1 c9
    refine lv_aload_n hx hb dX8_thirds_15 rfl (lv_at hl 0 rfl) ?_
    refine lv_aload_n hx hb dX8_thirds_16 rfl (lv_at hl 0 rfl) ?_
    refine x_getI hx hb hts (hC8) hown hK S 24 (by decide) rf_0_24 (index := 145) (hts _ (List.mem_of_getElem? (i := 3) rfl)) dX8_thirds_17 ?_
    refine x_callVv (As := [.int ((upI M 0 0 0).1 0 24)]) ⟨hx, hb, hml, hown, hts⟩ hK S (ct_X8_findThirds l D cy ad B _ _ _ h) ro_0 rfl (cwV 1 hts gX8_thirds_X8_findThirds rfl rfl rfl (by decide +kernel) ⟨Nat.le_of_ble_eq_true rfl, Nat.le_of_ble_eq_true rfl⟩) rfl hl.1 rfl (Nat.le_of_ble_eq_true rfl) dX8_thirds_20 ⟨Nat.zero_le _, Nat.zero_le _⟩ (fun M1 H locs h S => ?_)
    refine lv_aload_n hx hb dX8_thirds_23 rfl (lv_at hl 0 rfl) ?_
    refine x_getI hx hb hts (hC8) hown hK S 27 (by decide) rf_0_27 (index := 165) (hts _ (List.mem_of_getElem? (i := 4) rfl)) dX8_thirds_24 ?_
    exact x_iret hx hb hr hlocks S rfl h dX8_thirds_27
  · replace h := h.2 c9
    refine lv_bipush (v := (-3)) hx hb dX8_thirds_12 (by decide) ?_
    exact x_iret hx hb hr hlocks S rfl h dX8_thirds_14
/-! X8_third -/
def wp_X8_third (v1 : Int32) (v2 : Int32) (M : Mem) (Q : Int32 → Mem → Prop) : Prop :=
  wp_X8_in v2.toInt64 (0 : Int64) (2 : Int64) (upI M 0 0 0) (fun r1 M1 => ((¬ r1 = 0 → ((¬ (M1.1 0 8) = 0 → wp_X8_findThirds (M1.1 0 24) M1 (fun M2 => wp_X8_in v1.toInt64 (0 : Int64) (((M2.1 0 27) - 1).toInt64) M2 (fun r3 M3 => ((¬ r3 = 0 → ((¬ v2 = 0 → ((¬ v2 = 1 → (vp_in v1 60 ∧ Q (M3.1 18 v1.toNatClampNeg) M3)) ∧ (v2 = 1 → (vp_in v1 60 ∧ Q (M3.1 17 v1.toNatClampNeg) M3)))) ∧ (v2 = 0 → (vp_in v1 60 ∧ Q (M3.1 16 v1.toNatClampNeg) M3)))) ∧ (r3 = 0 → Q (-9) M3))))) ∧ ((M1.1 0 8) = 0 → Q (-3) M1))) ∧ (r1 = 0 → Q (-2) M1)))
theorem wp_X8_third_mono {v1 : Int32} {v2 : Int32} {M : Mem} {Q Q' : Int32 → Mem → Prop} (hQ : ∀ (r : Int32) (M : Mem), Q r M → Q' r M) (h : wp_X8_third v1 v2 M Q) : wp_X8_third v1 v2 M Q' := by
  unfold wp_X8_third at h ⊢
  exact wp_X8_in_mono (fun r1 M1 h => ⟨fun c => let h := h.1 c; ⟨fun c => let h := h.1 c; wp_X8_findThirds_mono (fun M2 h => wp_X8_in_mono (fun r3 M3 h => ⟨fun c => let h := h.1 c; ⟨fun c => let h := h.1 c; ⟨fun c => let h := h.1 c; ⟨h.1, let h := h.2; hQ _ _ h⟩, fun c => let h := h.2 c; ⟨h.1, let h := h.2; hQ _ _ h⟩⟩, fun c => let h := h.2 c; ⟨h.1, let h := h.2; hQ _ _ h⟩⟩, fun c => let h := h.2 c; hQ _ _ h⟩) h) h, fun c => let h := h.2 c; hQ _ _ h⟩, fun c => let h := h.2 c; hQ _ _ h⟩) h
abbrev rm_X8_third : Jvm.Room := { frames := 5, cells := 0, slots := 0, locals := 115 }
set_option maxHeartbeats 4000000 in
set_option maxRecDepth 100000 in
theorem ct_X8_third (l : Launch) (D : va_G) (cy : Nat → ClassId) (ad : Nat → Nat) (B : Nat → Prop) (v1 : Int32) (v2 : Int32) (M : Mem) (Q : Int32 → Mem → Prop) (h : wp_X8_third v1 v2 M Q) : CTi l D cy (wR ad cy) B yX8_third wsX8_third rm_X8_third [.ref (ad 0), .int v1, .int v2] M Q := by
  intro sz
  refine Met.ofW (cc := cX8_third) (maxL := 3) (ret := some .int) (by decide) rfl ?_
  intro p e s m args below meth c s₁ Bd hml hv
  obtain ⟨hargs, hsz, hP, hK, hD⟩ := hv
  subst hsz
  have hx := Bd.exec
  have hb := Bd.bytes
  have hr := Bd.returns
  have hts := atoms_spec (ws := wsX8_third) Bd.pre
  have hown : s.vm.findClass RX8 = some m.cls := findClass_of_methodNamed Bd.named
  have hlocks := Bd.notSynchronized
  have hC8 : xC wsX8_third 8 RX8 TX8 34 := ⟨by decide +kernel, rfl⟩
  have hl := lv_entry ([.ref (ad 0), .int v1, .int v2]) (n := 3) (Nat.le_of_ble_eq_true rfl)
  subst hargs
  rw [lg_entry_eq]
  generalize (lg_sl ([.ref (ad 0), .int v1, .int v2]) ++ List.replicate (3 - (lg_sl ([.ref (ad 0), .int v1, .int v2])).length) Slot.unset).toArray = ls at hl ⊢
  have hl : lv_has ls 3 [(0, .ref (ad 0)), (1, .int v1), (2, .int v2)] := hl
  have S : xS D (wR ad cy) B s.heap s.heap [] M := ⟨hP, hD, va_S.rf⟩
  unfold wp_X8_third at h
  refine lv_aload_n hx hb dX8_third_0 rfl (lv_at hl 0 rfl) ?_
  refine lv_iconst (v := 0) hx hb dX8_third_1 (by decide) ?_
  refine x_putI hx hb hts (hC8) tyX8 tyX8_ok nmX8 hown hK S 0 (by decide) rf_0_0 (index := 74) (hts _ (List.mem_of_getElem? (i := 1) rfl)) rfl rfl rfl dX8_third_2 (fun H locs S => ?_)
  refine lv_iload_n hx hb dX8_third_5 rfl (lv_at hl 2 rfl) ?_
  refine lv_i2l (v := v2.toInt64) hx hb dX8_third_6 rfl ?_
  refine lv_lconst (v := 0) hx hb dX8_third_7 rfl ?_
  refine lv_ldc2 (v := 2) hx hb hown (hts _ (List.mem_of_getElem? (i := 2) rfl)) dX8_third_8 ?_
  refine x_callSi (As := [.long v2.toInt64, .long (0 : Int64), .long (2 : Int64)]) ⟨hx, hb, hml, hown, hts⟩ hK S (ct_X8_in l D cy ad B _ _ _ _ _ h) (va_cwS 3 hts gX8_third_X8_in rfl rfl rfl (by decide +kernel) ⟨Nat.le_of_ble_eq_true rfl, Nat.le_of_ble_eq_true rfl⟩) rfl hl.1 rfl (Nat.le_of_ble_eq_true rfl) dX8_third_11 ⟨Nat.zero_le _, Nat.zero_le _⟩ (fun r1 M1 H locs h S => ?_)
  refine lv_if_ne (tgt := 20) hx hb dX8_third_14 (by decide) (fun c14 => ?_) (fun c14 => ?_)
  · replace h := h.1 c14
    refine lv_aload_n hx hb dX8_third_20 rfl (lv_at hl 0 rfl) ?_
    refine x_getI hx hb hts (hC8) hown hK S 8 (by decide) rf_0_8 (index := 151) (hts _ (List.mem_of_getElem? (i := 3) rfl)) dX8_third_21 ?_
    refine lv_if_ne (tgt := 30) hx hb dX8_third_24 (by decide) (fun c24 => ?_) (fun c24 => ?_)
    · replace h := h.1 c24
      refine lv_aload_n hx hb dX8_third_30 rfl (lv_at hl 0 rfl) ?_
      refine lv_aload_n hx hb dX8_third_31 rfl (lv_at hl 0 rfl) ?_
      refine x_getI hx hb hts (hC8) hown hK S 24 (by decide) rf_0_24 (index := 145) (hts _ (List.mem_of_getElem? (i := 4) rfl)) dX8_third_32 ?_
      refine x_callVv (As := [.int (M1.1 0 24)]) ⟨hx, hb, hml, hown, hts⟩ hK S (ct_X8_findThirds l D cy ad B _ _ _ h) ro_0 rfl (cwV 1 hts gX8_third_X8_findThirds rfl rfl rfl (by decide +kernel) ⟨Nat.le_of_ble_eq_true rfl, Nat.le_of_ble_eq_true rfl⟩) rfl hl.1 rfl (Nat.le_of_ble_eq_true rfl) dX8_third_35 ⟨Nat.zero_le _, Nat.zero_le _⟩ (fun M2 H locs h S => ?_)
      refine lv_iload_n hx hb dX8_third_38 rfl (lv_at hl 1 rfl) ?_
      refine lv_i2l (v := v1.toInt64) hx hb dX8_third_39 rfl ?_
      refine lv_lconst (v := 0) hx hb dX8_third_40 rfl ?_
      refine lv_aload_n hx hb dX8_third_41 rfl (lv_at hl 0 rfl) ?_
      refine x_getI hx hb hts (hC8) hown hK S 27 (by decide) rf_0_27 (index := 165) (hts _ (List.mem_of_getElem? (i := 5) rfl)) dX8_third_42 ?_
      refine lv_iconst (v := 1) hx hb dX8_third_45 (by decide) ?_
      refine lv_isub hx hb dX8_third_46 ?_
      refine lv_i2l (v := ((M2.1 0 27) - 1).toInt64) hx hb dX8_third_47 rfl ?_
      refine x_callSi (As := [.long v1.toInt64, .long (0 : Int64), .long (((M2.1 0 27) - 1).toInt64)]) ⟨hx, hb, hml, hown, hts⟩ hK S (ct_X8_in l D cy ad B _ _ _ _ _ h) (va_cwS 3 hts gX8_third_X8_in rfl rfl rfl (by decide +kernel) ⟨Nat.le_of_ble_eq_true rfl, Nat.le_of_ble_eq_true rfl⟩) rfl hl.1 rfl (Nat.le_of_ble_eq_true rfl) dX8_third_48 ⟨Nat.zero_le _, Nat.zero_le _⟩ (fun r3 M3 H locs h S => ?_)
      refine lv_if_ne (tgt := 57) hx hb dX8_third_51 (by decide) (fun c51 => ?_) (fun c51 => ?_)
      · replace h := h.1 c51
        refine lv_iload_n hx hb dX8_third_57 rfl (lv_at hl 2 rfl) ?_
        refine lv_if_ne (tgt := 70) hx hb dX8_third_58 (by decide) (fun c58 => ?_) (fun c58 => ?_)
        · replace h := h.1 c58
          refine lv_iload_n hx hb dX8_third_70 rfl (lv_at hl 2 rfl) ?_
          refine lv_iconst (v := 1) hx hb dX8_third_71 (by decide) ?_
          refine lv_icmp_ne (tgt := 84) hx hb dX8_third_72 (by decide) (fun c72 => ?_) (fun c72 => ?_)
          · replace h := h.1 c72
            refine lv_aload_n hx hb dX8_third_84 rfl (lv_at hl 0 rfl) ?_
            refine x_getR hx hb hts (hC8) hown hK S 30 (by decide) rf_0_30 (index := 62) (hts _ (List.mem_of_getElem? (i := 8) rfl)) dX8_third_85 ?_
            refine lv_iload_n hx hb dX8_third_88 rfl (lv_at hl 1 rfl) ?_
            refine x_iald hx hb hK S ra_18 h.1 dX8_third_89 ?_
            replace h := h.2
            exact x_iret hx hb hr hlocks S rfl h dX8_third_90
          · replace h := h.2 c72
            refine lv_aload_n hx hb dX8_third_75 rfl (lv_at hl 0 rfl) ?_
            refine x_getR hx hb hts (hC8) hown hK S 29 (by decide) rf_0_29 (index := 59) (hts _ (List.mem_of_getElem? (i := 7) rfl)) dX8_third_76 ?_
            refine lv_iload_n hx hb dX8_third_79 rfl (lv_at hl 1 rfl) ?_
            refine x_iald hx hb hK S ra_17 h.1 dX8_third_80 ?_
            replace h := h.2
            refine lv_goto (tgt := 90) hx hb dX8_third_81 (by decide) ?_
            exact x_iret hx hb hr hlocks S rfl h dX8_third_90
        · replace h := h.2 c58
          refine lv_aload_n hx hb dX8_third_61 rfl (lv_at hl 0 rfl) ?_
          refine x_getR hx hb hts (hC8) hown hK S 28 (by decide) rf_0_28 (index := 56) (hts _ (List.mem_of_getElem? (i := 6) rfl)) dX8_third_62 ?_
          refine lv_iload_n hx hb dX8_third_65 rfl (lv_at hl 1 rfl) ?_
          refine x_iald hx hb hK S ra_16 h.1 dX8_third_66 ?_
          replace h := h.2
          refine lv_goto (tgt := 90) hx hb dX8_third_67 (by decide) ?_
          exact x_iret hx hb hr hlocks S rfl h dX8_third_90
      · replace h := h.2 c51
        refine lv_bipush (v := (-9)) hx hb dX8_third_54 (by decide) ?_
        exact x_iret hx hb hr hlocks S rfl h dX8_third_56
    · replace h := h.2 c24
      refine lv_bipush (v := (-3)) hx hb dX8_third_27 (by decide) ?_
      exact x_iret hx hb hr hlocks S rfl h dX8_third_29
  · replace h := h.2 c14
    refine lv_bipush (v := (-2)) hx hb dX8_third_17 (by decide) ?_
    exact x_iret hx hb hr hlocks S rfl h dX8_third_19
/-! X8_degree -/
def blk_X8_degree_0 (v1 : Int32) (Q : Int32 → Mem → Prop) (P : Nat → Int32 → Int32 → Mem → Prop) (v2 : Int32) (v3 : Int32) (M : Mem) : Prop :=
  ((¬ ((upI M 0 0 0).1 0 8) = 0 → wp_X8_in v1.toInt64 (0 : Int64) ((((upI M 0 0 0).1 0 9) - 1).toInt64) (upI M 0 0 0) (fun r1 M1 => ((¬ r1 = 0 → P 1 0 0 M1) ∧ (r1 = 0 → Q (-1) M1)))) ∧ (((upI M 0 0 0).1 0 8) = 0 → Q (-3) (upI M 0 0 0)))
theorem blk_X8_degree_0_mono {v1 : Int32} {Q Q' : Int32 → Mem → Prop} {P P' : Nat → Int32 → Int32 → Mem → Prop} (hQ : ∀ (r : Int32) (M : Mem), Q r M → Q' r M) (hP : ∀ (lab : Nat) (v2 : Int32) (v3 : Int32) (M : Mem), P lab v2 v3 M → P' lab v2 v3 M) (v2 : Int32) (v3 : Int32) (M : Mem) (h : blk_X8_degree_0 v1 Q P v2 v3 M) : blk_X8_degree_0 v1 Q' P' v2 v3 M := by
  unfold blk_X8_degree_0 at h ⊢
  exact ⟨fun c => let h := h.1 c; wp_X8_in_mono (fun r1 M1 h => ⟨fun c => let h := h.1 c; hP _ _ _ _ h, fun c => let h := h.2 c; hQ _ _ h⟩) h, fun c => let h := h.2 c; hQ _ _ h⟩
def blk_X8_degree_1 (v1 : Int32) (Q : Int32 → Mem → Prop) (P : Nat → Int32 → Int32 → Mem → Prop) (v2 : Int32) (v3 : Int32) (M : Mem) : Prop :=
  (((M.1 0 9) ≤ v3 → Q v2 M) ∧ (¬ (M.1 0 9) ≤ v3 → wp_X8_hasFence (M.1 0 24) v1 v3 M (fun r2 M2 => ((r2 = 0 → P 2 (v2 + 0) v3 M2) ∧ (¬ r2 = 0 → P 2 (v2 + 1) v3 M2)))))
theorem blk_X8_degree_1_mono {v1 : Int32} {Q Q' : Int32 → Mem → Prop} {P P' : Nat → Int32 → Int32 → Mem → Prop} (hQ : ∀ (r : Int32) (M : Mem), Q r M → Q' r M) (hP : ∀ (lab : Nat) (v2 : Int32) (v3 : Int32) (M : Mem), P lab v2 v3 M → P' lab v2 v3 M) (v2 : Int32) (v3 : Int32) (M : Mem) (h : blk_X8_degree_1 v1 Q P v2 v3 M) : blk_X8_degree_1 v1 Q' P' v2 v3 M := by
  unfold blk_X8_degree_1 at h ⊢
  exact ⟨fun c => let h := h.1 c; hQ _ _ h, fun c => let h := h.2 c; wp_X8_hasFence_mono (fun r2 M2 h => ⟨fun c => let h := h.1 c; hP _ _ _ _ h, fun c => let h := h.2 c; hP _ _ _ _ h⟩) h⟩
def blk_X8_degree_2 (v1 : Int32) (Q : Int32 → Mem → Prop) (P : Nat → Int32 → Int32 → Mem → Prop) (v2 : Int32) (v3 : Int32) (M : Mem) : Prop :=
  P 1 v2 (v3 + 1) M
theorem blk_X8_degree_2_mono {v1 : Int32} {Q Q' : Int32 → Mem → Prop} {P P' : Nat → Int32 → Int32 → Mem → Prop} (hQ : ∀ (r : Int32) (M : Mem), Q r M → Q' r M) (hP : ∀ (lab : Nat) (v2 : Int32) (v3 : Int32) (M : Mem), P lab v2 v3 M → P' lab v2 v3 M) (v2 : Int32) (v3 : Int32) (M : Mem) (h : blk_X8_degree_2 v1 Q P v2 v3 M) : blk_X8_degree_2 v1 Q' P' v2 v3 M := by
  unfold blk_X8_degree_2 at h ⊢
  exact hP _ _ _ _ h
def blk_X8_degree (v1 : Int32) (Q : Int32 → Mem → Prop) (P : Nat → Int32 → Int32 → Mem → Prop) : Nat → Int32 → Int32 → Mem → Prop := fun lab v2 v3 M => match lab with
  | 0 => blk_X8_degree_0 v1 Q P v2 v3 M
  | 1 => blk_X8_degree_1 v1 Q P v2 v3 M
  | 2 => blk_X8_degree_2 v1 Q P v2 v3 M
  | _ => False
theorem blk_X8_degree_mono {v1 : Int32} {Q Q' : Int32 → Mem → Prop} {P P' : Nat → Int32 → Int32 → Mem → Prop} (hQ : ∀ (r : Int32) (M : Mem), Q r M → Q' r M) (hP : ∀ (lab : Nat) (v2 : Int32) (v3 : Int32) (M : Mem), P lab v2 v3 M → P' lab v2 v3 M) : ∀ (lab : Nat) (v2 : Int32) (v3 : Int32) (M : Mem), blk_X8_degree v1 Q P lab v2 v3 M → blk_X8_degree v1 Q' P' lab v2 v3 M := fun lab v2 v3 M h => match lab, h with
  | 0, h => blk_X8_degree_0_mono (v1 := v1) hQ hP v2 v3 M h
  | 1, h => blk_X8_degree_1_mono (v1 := v1) hQ hP v2 v3 M h
  | 2, h => blk_X8_degree_2_mono (v1 := v1) hQ hP v2 v3 M h
  | _ + 3, h => False.elim h
def at_X8_degree (v1 : Int32) (Q : Int32 → Mem → Prop) : Nat → Int32 → Int32 → Mem → Prop := fun lab v2 v3 M => ∀ P : Nat → Int32 → Int32 → Mem → Prop, (∀ (lab : Nat) (v2 : Int32) (v3 : Int32) (M : Mem), blk_X8_degree v1 Q P lab v2 v3 M → P lab v2 v3 M) → P lab v2 v3 M
theorem at_X8_degree_fold {v1 : Int32} {Q : Int32 → Mem → Prop} {lab : Nat} {v2 : Int32} {v3 : Int32} {M : Mem} (h : blk_X8_degree v1 Q (at_X8_degree v1 Q) lab v2 v3 M) : at_X8_degree v1 Q lab v2 v3 M := fun P hP => hP _ _ _ _ (blk_X8_degree_mono (fun _ _ h => h) (fun _ _ _ _ h => h P hP) _ _ _ _ h)
theorem at_X8_degree_mono {v1 : Int32} {Q Q' : Int32 → Mem → Prop} (hQ : ∀ (r : Int32) (M : Mem), Q r M → Q' r M) {lab : Nat} {v2 : Int32} {v3 : Int32} {M : Mem} (h : at_X8_degree v1 Q lab v2 v3 M) : at_X8_degree v1 Q' lab v2 v3 M := fun P hP => h P (fun lab v2 v3 M hb => hP _ _ _ _ (blk_X8_degree_mono hQ (fun _ _ _ _ h => h) _ _ _ _ hb))
def wp_X8_degree (v1 : Int32) (M : Mem) (Q : Int32 → Mem → Prop) : Prop := at_X8_degree v1 Q 0 0 0 M
theorem wp_X8_degree_mono {v1 : Int32} {M : Mem} {Q Q' : Int32 → Mem → Prop} (hQ : ∀ (r : Int32) (M : Mem), Q r M → Q' r M) (h : wp_X8_degree v1 M Q) : wp_X8_degree v1 M Q' := at_X8_degree_mono hQ h
def pcl_X8_degree : Nat → Nat := fun lab => match lab with
  | 0 => 0
  | 1 => 37
  | 2 => 66
  | _ => 0
def lvl_X8_degree (ad : Nat → Nat) (v1 : Int32) : Nat → Int32 → Int32 → List (Nat × Value) := fun lab v2 v3 => match lab with
  | 0 => [(0, .ref (ad 0)), (1, .int v1)]
  | 1 => [(0, .ref (ad 0)), (1, .int v1), (2, .int v2), (3, .int v3)]
  | 2 => [(0, .ref (ad 0)), (1, .int v1), (2, .int v2), (3, .int v3)]
  | _ => []
abbrev rm_X8_degree : Jvm.Room := { frames := 2, cells := 0, slots := 0, locals := 42 }
set_option maxHeartbeats 4000000 in
set_option maxRecDepth 100000 in
theorem ct_X8_degree (l : Launch) (D : va_G) (cy : Nat → ClassId) (ad : Nat → Nat) (B : Nat → Prop) (v1 : Int32) (M : Mem) (Q : Int32 → Mem → Prop) (h : wp_X8_degree v1 M Q) : CTi l D cy (wR ad cy) B yX8_degree wsX8_degree rm_X8_degree [.ref (ad 0), .int v1] M Q := by
  intro sz
  refine Met.ofW (cc := cX8_degree) (maxL := 4) (ret := some .int) (by decide) rfl ?_
  intro p e s m args below meth c s₁ Bd hml hv
  obtain ⟨hargs, hsz, hP, hK, hD⟩ := hv
  subst hsz
  have hx := Bd.exec
  have hb := Bd.bytes
  have hr := Bd.returns
  have hts := atoms_spec (ws := wsX8_degree) Bd.pre
  have hown : s.vm.findClass RX8 = some m.cls := findClass_of_methodNamed Bd.named
  have hlocks := Bd.notSynchronized
  have hC8 : xC wsX8_degree 8 RX8 TX8 34 := ⟨by decide +kernel, rfl⟩
  have key : ∀ (P : Nat → Int32 → Int32 → Mem → Prop), (∀ (lab : Nat) (v2 : Int32) (v3 : Int32) (M : Mem), P lab v2 v3 M → ∀ (H : Heap) (locs : List Loc) (ls : Array Slot), xS D (wR ad cy) B s.heap H locs M → lv_has ls 4 (lvl_X8_degree ad v1 lab v2 v3 ) → W p l e (headSpec wsX8_degree rm_X8_degree).room s m args below meth c H locs 0 0 (MQ below (va_Qi (S := Mem) Q (xB D (wR ad cy) B) (xA B s.heap.size)) args s 0 0 (xA B s.heap.size)) (F0 m (pcl_X8_degree lab) ls [])) → ∀ (lab : Nat) (v2 : Int32) (v3 : Int32) (M : Mem), blk_X8_degree v1 Q P lab v2 v3 M → ∀ (H : Heap) (locs : List Loc) (ls : Array Slot), xS D (wR ad cy) B s.heap H locs M → lv_has ls 4 (lvl_X8_degree ad v1 lab v2 v3 ) → W p l e (headSpec wsX8_degree rm_X8_degree).room s m args below meth c H locs 0 0 (MQ below (va_Qi (S := Mem) Q (xB D (wR ad cy) B) (xA B s.heap.size)) args s 0 0 (xA B s.heap.size)) (F0 m (pcl_X8_degree lab) ls []) := by
    intro P hJ lab v2 v3 M h H locs ls S hl
    match lab, h, hl with
    | 0, h, hl =>
      have hl : lv_has ls 4 [(0, .ref (ad 0)), (1, .int v1)] := hl
      have h : blk_X8_degree_0 v1 Q P v2 v3 M := h
      unfold blk_X8_degree_0 at h
      refine W.eq (g2 := F0 m 0 ls []) rfl ?_
      refine lv_aload_n hx hb dX8_degree_0 rfl (lv_at hl 0 rfl) ?_
      refine lv_iconst (v := 0) hx hb dX8_degree_1 (by decide) ?_
      refine x_putI hx hb hts (hC8) tyX8 tyX8_ok nmX8 hown hK S 0 (by decide) rf_0_0 (index := 74) (hts _ (List.mem_of_getElem? (i := 1) rfl)) rfl rfl rfl dX8_degree_2 (fun H locs S => ?_)
      refine lv_aload_n hx hb dX8_degree_5 rfl (lv_at hl 0 rfl) ?_
      refine x_getI hx hb hts (hC8) hown hK S 8 (by decide) rf_0_8 (index := 151) (hts _ (List.mem_of_getElem? (i := 2) rfl)) dX8_degree_6 ?_
      refine lv_if_ne (tgt := 15) hx hb dX8_degree_9 (by decide) (fun c9 => ?_) (fun c9 => ?_)
      · replace h := h.1 c9
        refine lv_iload_n hx hb dX8_degree_15 rfl (lv_at hl 1 rfl) ?_
        refine lv_i2l (v := v1.toInt64) hx hb dX8_degree_16 rfl ?_
        refine lv_lconst (v := 0) hx hb dX8_degree_17 rfl ?_
        refine lv_aload_n hx hb dX8_degree_18 rfl (lv_at hl 0 rfl) ?_
        refine x_getI hx hb hts (hC8) hown hK S 9 (by decide) rf_0_9 (index := 109) (hts _ (List.mem_of_getElem? (i := 3) rfl)) dX8_degree_19 ?_
        refine lv_iconst (v := 1) hx hb dX8_degree_22 (by decide) ?_
        refine lv_isub hx hb dX8_degree_23 ?_
        refine lv_i2l (v := (((upI M 0 0 0).1 0 9) - 1).toInt64) hx hb dX8_degree_24 rfl ?_
        refine x_callSi (As := [.long v1.toInt64, .long (0 : Int64), .long ((((upI M 0 0 0).1 0 9) - 1).toInt64)]) ⟨hx, hb, hml, hown, hts⟩ hK S (ct_X8_in l D cy ad B _ _ _ _ _ h) (va_cwS 3 hts gX8_degree_X8_in rfl rfl rfl (by decide +kernel) ⟨Nat.le_of_ble_eq_true rfl, Nat.le_of_ble_eq_true rfl⟩) rfl hl.1 rfl (Nat.le_of_ble_eq_true rfl) dX8_degree_25 ⟨Nat.zero_le _, Nat.zero_le _⟩ (fun r1 M1 H locs h S => ?_)
        refine lv_if_ne (tgt := 33) hx hb dX8_degree_28 (by decide) (fun c28 => ?_) (fun c28 => ?_)
        · replace h := h.1 c28
          refine lv_iconst (v := 0) hx hb dX8_degree_33 (by decide) ?_
          refine lv_istore_n (lv' := [(2, .int 0), (0, .ref (ad 0)), (1, .int v1)]) hx hb dX8_degree_34 rfl hl (by decide) rfl (fun ls hl => ?_)
          refine lv_iconst (v := 0) hx hb dX8_degree_35 (by decide) ?_
          refine lv_istore_n (lv' := [(3, .int 0), (2, .int 0), (0, .ref (ad 0)), (1, .int v1)]) hx hb dX8_degree_36 rfl hl (by decide) rfl (fun ls hl => ?_)
          exact hJ _ _ _ _ h _ _ _ S (lv_sub hl [2, 3, 1, 0] rfl)
        · replace h := h.2 c28
          refine lv_iconst (v := (-1)) hx hb dX8_degree_31 (by decide) ?_
          exact x_iret hx hb hr hlocks S rfl h dX8_degree_32
      · replace h := h.2 c9
        refine lv_bipush (v := (-3)) hx hb dX8_degree_12 (by decide) ?_
        exact x_iret hx hb hr hlocks S rfl h dX8_degree_14
    | 1, h, hl =>
      have hl : lv_has ls 4 [(0, .ref (ad 0)), (1, .int v1), (2, .int v2), (3, .int v3)] := hl
      have h : blk_X8_degree_1 v1 Q P v2 v3 M := h
      unfold blk_X8_degree_1 at h
      refine W.eq (g2 := F0 m 37 ls []) rfl ?_
      refine lv_iload_n hx hb dX8_degree_37 rfl (lv_at hl 3 rfl) ?_
      refine lv_aload_n hx hb dX8_degree_38 rfl (lv_at hl 0 rfl) ?_
      refine x_getI hx hb hts (hC8) hown hK S 9 (by decide) rf_0_9 (index := 109) (hts _ (List.mem_of_getElem? (i := 3) rfl)) dX8_degree_39 ?_
      refine lv_icmp_ge (tgt := 72) hx hb dX8_degree_42 (by decide) (fun c42 => ?_) (fun c42 => ?_)
      · replace h := h.1 c42
        refine lv_iload_n hx hb dX8_degree_72 rfl (lv_at hl 2 rfl) ?_
        exact x_iret hx hb hr hlocks S rfl h dX8_degree_73
      · replace h := h.2 c42
        refine lv_iload_n hx hb dX8_degree_45 rfl (lv_at hl 2 rfl) ?_
        refine lv_aload_n hx hb dX8_degree_46 rfl (lv_at hl 0 rfl) ?_
        refine lv_aload_n hx hb dX8_degree_47 rfl (lv_at hl 0 rfl) ?_
        refine x_getI hx hb hts (hC8) hown hK S 24 (by decide) rf_0_24 (index := 145) (hts _ (List.mem_of_getElem? (i := 4) rfl)) dX8_degree_48 ?_
        refine lv_iload_n hx hb dX8_degree_51 rfl (lv_at hl 1 rfl) ?_
        refine lv_iload_n hx hb dX8_degree_52 rfl (lv_at hl 3 rfl) ?_
        refine x_callVi (As := [.int (M.1 0 24), .int v1, .int v3]) ⟨hx, hb, hml, hown, hts⟩ hK S (ct_X8_hasFence l D cy ad B _ _ _ _ _ h) ro_0 rfl (cwV 3 hts gX8_degree_X8_hasFence rfl rfl rfl (by decide +kernel) ⟨Nat.le_of_ble_eq_true rfl, Nat.le_of_ble_eq_true rfl⟩) rfl hl.1 rfl (Nat.le_of_ble_eq_true rfl) dX8_degree_53 ⟨Nat.zero_le _, Nat.zero_le _⟩ (fun r2 M2 H locs h S => ?_)
        refine lv_if_eq (tgt := 63) hx hb dX8_degree_56 (by decide) (fun c56 => ?_) (fun c56 => ?_)
        · replace h := h.1 c56
          refine lv_iconst (v := 0) hx hb dX8_degree_63 (by decide) ?_
          refine lv_iadd hx hb dX8_degree_64 ?_
          refine lv_istore_n (lv' := [(2, .int (v2 + 0)), (0, .ref (ad 0)), (1, .int v1), (3, .int v3)]) hx hb dX8_degree_65 rfl hl (by decide) rfl (fun ls hl => ?_)
          exact hJ _ _ _ _ h _ _ _ S (lv_sub hl [1, 2, 0, 3] rfl)
        · replace h := h.2 c56
          refine lv_iconst (v := 1) hx hb dX8_degree_59 (by decide) ?_
          refine lv_goto (tgt := 64) hx hb dX8_degree_60 (by decide) ?_
          refine lv_iadd hx hb dX8_degree_64 ?_
          refine lv_istore_n (lv' := [(2, .int (v2 + 1)), (0, .ref (ad 0)), (1, .int v1), (3, .int v3)]) hx hb dX8_degree_65 rfl hl (by decide) rfl (fun ls hl => ?_)
          exact hJ _ _ _ _ h _ _ _ S (lv_sub hl [1, 2, 0, 3] rfl)
    | 2, h, hl =>
      have hl : lv_has ls 4 [(0, .ref (ad 0)), (1, .int v1), (2, .int v2), (3, .int v3)] := hl
      have h : blk_X8_degree_2 v1 Q P v2 v3 M := h
      unfold blk_X8_degree_2 at h
      refine W.eq (g2 := F0 m 66 ls []) rfl ?_
      refine lv_iinc (v := (v3 + 1)) (lv' := [(3, .int (v3 + 1)), (0, .ref (ad 0)), (1, .int v1), (2, .int v2)]) hx hb dX8_degree_66 hl (k := 3) rfl rfl (by decide) rfl (fun ls hl => ?_)
      refine lv_goto (tgt := 37) hx hb dX8_degree_69 (by decide) ?_
      exact hJ _ _ _ _ h _ _ _ S (lv_sub hl [1, 2, 3, 0] rfl)
    | _ + 3, h, hl => exact h.elim
  have hl := lv_entry ([.ref (ad 0), .int v1]) (n := 4) (Nat.le_of_ble_eq_true rfl)
  subst hargs
  rw [lg_entry_eq]
  generalize (lg_sl ([.ref (ad 0), .int v1]) ++ List.replicate (4 - (lg_sl ([.ref (ad 0), .int v1])).length) Slot.unset).toArray = ls at hl ⊢
  exact h _ (key _ (fun _ _ _ _ h => h)) s.heap [] ls ⟨hP, hD, va_S.rf⟩ hl
/-! X8_comes -/
def blk_X8_comes_0 (v1 : Int32) (v2 : Int32) (Q : Int32 → Mem → Prop) (P : Nat → Int32 → Int32 → Int32 → Int32 → Int32 → Mem → Prop) (v3 : Int32) (v4 : Int32) (v5 : Int32) (v6 : Int32) (v7 : Int32) (M : Mem) : Prop :=
  ((((v1 >>> (v2 &&& 31)) &&& (1 : Int32)) = 0 → Q (-9) M) ∧ (¬ ((v1 >>> (v2 &&& 31)) &&& (1 : Int32)) = 0 → ((¬ (((M.1 0 18) >>> (v2 &&& 31)) &&& (1 : Int32)) = 1 → (vp_in v2 28 ∧ (vp_in v2 28 ∧ P 1 (M.1 8 v2.toNatClampNeg) (M.1 9 v2.toNatClampNeg) (-9) (-9) 0 M))) ∧ ((((M.1 0 18) >>> (v2 &&& 31)) &&& (1 : Int32)) = 1 → Q (-9) M))))
theorem blk_X8_comes_0_mono {v1 : Int32} {v2 : Int32} {Q Q' : Int32 → Mem → Prop} {P P' : Nat → Int32 → Int32 → Int32 → Int32 → Int32 → Mem → Prop} (hQ : ∀ (r : Int32) (M : Mem), Q r M → Q' r M) (hP : ∀ (lab : Nat) (v3 : Int32) (v4 : Int32) (v5 : Int32) (v6 : Int32) (v7 : Int32) (M : Mem), P lab v3 v4 v5 v6 v7 M → P' lab v3 v4 v5 v6 v7 M) (v3 : Int32) (v4 : Int32) (v5 : Int32) (v6 : Int32) (v7 : Int32) (M : Mem) (h : blk_X8_comes_0 v1 v2 Q P v3 v4 v5 v6 v7 M) : blk_X8_comes_0 v1 v2 Q' P' v3 v4 v5 v6 v7 M := by
  unfold blk_X8_comes_0 at h ⊢
  exact ⟨fun c => let h := h.1 c; hQ _ _ h, fun c => let h := h.2 c; ⟨fun c => let h := h.1 c; ⟨h.1, let h := h.2; ⟨h.1, let h := h.2; hP _ _ _ _ _ _ _ h⟩⟩, fun c => let h := h.2 c; hQ _ _ h⟩⟩
def blk_X8_comes_1 (v1 : Int32) (v2 : Int32) (Q : Int32 → Mem → Prop) (P : Nat → Int32 → Int32 → Int32 → Int32 → Int32 → Mem → Prop) (v3 : Int32) (v4 : Int32) (v5 : Int32) (v6 : Int32) (v7 : Int32) (M : Mem) : Prop :=
  (((M.1 0 9) ≤ v7 → ((v5 = (-9) → Q (-9) M) ∧ (¬ v5 = (-9) → ((v6 = (-9) → Q (-9) M) ∧ (¬ v6 = (-9) → wp_X8_side v5 v6 v3 M (fun r1 M1 => wp_X8_side v5 v6 v4 M1 (fun r2 M2 => (((r1 * r2) < 0 → (vp_in ((8 * v5) + v6) 64 ∧ ((¬ (((M2.1 0 19) >>> ((M2.1 10 ((8 * v5) + v6).toNatClampNeg) &&& 31)) &&& (1 : Int32)) = 1 → Q (M2.1 10 ((8 * v5) + v6).toNatClampNeg) M2) ∧ ((((M2.1 0 19) >>> ((M2.1 10 ((8 * v5) + v6).toNatClampNeg) &&& 31)) &&& (1 : Int32)) = 1 → Q (-9) M2)))) ∧ (¬ (r1 * r2) < 0 → Q (-9) M2))))))))) ∧ (¬ (M.1 0 9) ≤ v7 → ((v7 = v3 → P 2 v3 v4 v5 v6 v7 M) ∧ (¬ v7 = v3 → ((v7 = v4 → P 2 v3 v4 v5 v6 v7 M) ∧ (¬ v7 = v4 → wp_X8_isThird v1 v3 v4 v7 M (fun r3 M3 => ((r3 = 0 → P 2 v3 v4 v5 v6 v7 M3) ∧ (¬ r3 = 0 → wp_X8_side v3 v4 v7 M3 (fun r4 M4 => ((r4 ≤ 0 → P 3 v3 v4 v5 v6 v7 M4) ∧ (¬ r4 ≤ 0 → P 3 v3 v4 v7 v6 v7 M4))))))))))))
theorem blk_X8_comes_1_mono {v1 : Int32} {v2 : Int32} {Q Q' : Int32 → Mem → Prop} {P P' : Nat → Int32 → Int32 → Int32 → Int32 → Int32 → Mem → Prop} (hQ : ∀ (r : Int32) (M : Mem), Q r M → Q' r M) (hP : ∀ (lab : Nat) (v3 : Int32) (v4 : Int32) (v5 : Int32) (v6 : Int32) (v7 : Int32) (M : Mem), P lab v3 v4 v5 v6 v7 M → P' lab v3 v4 v5 v6 v7 M) (v3 : Int32) (v4 : Int32) (v5 : Int32) (v6 : Int32) (v7 : Int32) (M : Mem) (h : blk_X8_comes_1 v1 v2 Q P v3 v4 v5 v6 v7 M) : blk_X8_comes_1 v1 v2 Q' P' v3 v4 v5 v6 v7 M := by
  unfold blk_X8_comes_1 at h ⊢
  exact ⟨fun c => let h := h.1 c; ⟨fun c => let h := h.1 c; hQ _ _ h, fun c => let h := h.2 c; ⟨fun c => let h := h.1 c; hQ _ _ h, fun c => let h := h.2 c; wp_X8_side_mono (fun r1 M1 h => wp_X8_side_mono (fun r2 M2 h => ⟨fun c => let h := h.1 c; ⟨h.1, let h := h.2; ⟨fun c => let h := h.1 c; hQ _ _ h, fun c => let h := h.2 c; hQ _ _ h⟩⟩, fun c => let h := h.2 c; hQ _ _ h⟩) h) h⟩⟩, fun c => let h := h.2 c; ⟨fun c => let h := h.1 c; hP _ _ _ _ _ _ _ h, fun c => let h := h.2 c; ⟨fun c => let h := h.1 c; hP _ _ _ _ _ _ _ h, fun c => let h := h.2 c; wp_X8_isThird_mono (fun r3 M3 h => ⟨fun c => let h := h.1 c; hP _ _ _ _ _ _ _ h, fun c => let h := h.2 c; wp_X8_side_mono (fun r4 M4 h => ⟨fun c => let h := h.1 c; hP _ _ _ _ _ _ _ h, fun c => let h := h.2 c; hP _ _ _ _ _ _ _ h⟩) h⟩) h⟩⟩⟩
def blk_X8_comes_2 (v1 : Int32) (v2 : Int32) (Q : Int32 → Mem → Prop) (P : Nat → Int32 → Int32 → Int32 → Int32 → Int32 → Mem → Prop) (v3 : Int32) (v4 : Int32) (v5 : Int32) (v6 : Int32) (v7 : Int32) (M : Mem) : Prop :=
  P 1 v3 v4 v5 v6 (v7 + 1) M
theorem blk_X8_comes_2_mono {v1 : Int32} {v2 : Int32} {Q Q' : Int32 → Mem → Prop} {P P' : Nat → Int32 → Int32 → Int32 → Int32 → Int32 → Mem → Prop} (hQ : ∀ (r : Int32) (M : Mem), Q r M → Q' r M) (hP : ∀ (lab : Nat) (v3 : Int32) (v4 : Int32) (v5 : Int32) (v6 : Int32) (v7 : Int32) (M : Mem), P lab v3 v4 v5 v6 v7 M → P' lab v3 v4 v5 v6 v7 M) (v3 : Int32) (v4 : Int32) (v5 : Int32) (v6 : Int32) (v7 : Int32) (M : Mem) (h : blk_X8_comes_2 v1 v2 Q P v3 v4 v5 v6 v7 M) : blk_X8_comes_2 v1 v2 Q' P' v3 v4 v5 v6 v7 M := by
  unfold blk_X8_comes_2 at h ⊢
  exact hP _ _ _ _ _ _ _ h
def blk_X8_comes_3 (v1 : Int32) (v2 : Int32) (Q : Int32 → Mem → Prop) (P : Nat → Int32 → Int32 → Int32 → Int32 → Int32 → Mem → Prop) (v3 : Int32) (v4 : Int32) (v5 : Int32) (v6 : Int32) (v7 : Int32) (M : Mem) : Prop :=
  wp_X8_side v3 v4 v7 M (fun r5 M5 => ((0 ≤ r5 → P 2 v3 v4 v5 v6 v7 M5) ∧ (¬ 0 ≤ r5 → P 2 v3 v4 v5 v7 v7 M5)))
theorem blk_X8_comes_3_mono {v1 : Int32} {v2 : Int32} {Q Q' : Int32 → Mem → Prop} {P P' : Nat → Int32 → Int32 → Int32 → Int32 → Int32 → Mem → Prop} (hQ : ∀ (r : Int32) (M : Mem), Q r M → Q' r M) (hP : ∀ (lab : Nat) (v3 : Int32) (v4 : Int32) (v5 : Int32) (v6 : Int32) (v7 : Int32) (M : Mem), P lab v3 v4 v5 v6 v7 M → P' lab v3 v4 v5 v6 v7 M) (v3 : Int32) (v4 : Int32) (v5 : Int32) (v6 : Int32) (v7 : Int32) (M : Mem) (h : blk_X8_comes_3 v1 v2 Q P v3 v4 v5 v6 v7 M) : blk_X8_comes_3 v1 v2 Q' P' v3 v4 v5 v6 v7 M := by
  unfold blk_X8_comes_3 at h ⊢
  exact wp_X8_side_mono (fun r5 M5 h => ⟨fun c => let h := h.1 c; hP _ _ _ _ _ _ _ h, fun c => let h := h.2 c; hP _ _ _ _ _ _ _ h⟩) h
def blk_X8_comes (v1 : Int32) (v2 : Int32) (Q : Int32 → Mem → Prop) (P : Nat → Int32 → Int32 → Int32 → Int32 → Int32 → Mem → Prop) : Nat → Int32 → Int32 → Int32 → Int32 → Int32 → Mem → Prop := fun lab v3 v4 v5 v6 v7 M => match lab with
  | 0 => blk_X8_comes_0 v1 v2 Q P v3 v4 v5 v6 v7 M
  | 1 => blk_X8_comes_1 v1 v2 Q P v3 v4 v5 v6 v7 M
  | 2 => blk_X8_comes_2 v1 v2 Q P v3 v4 v5 v6 v7 M
  | 3 => blk_X8_comes_3 v1 v2 Q P v3 v4 v5 v6 v7 M
  | _ => False
theorem blk_X8_comes_mono {v1 : Int32} {v2 : Int32} {Q Q' : Int32 → Mem → Prop} {P P' : Nat → Int32 → Int32 → Int32 → Int32 → Int32 → Mem → Prop} (hQ : ∀ (r : Int32) (M : Mem), Q r M → Q' r M) (hP : ∀ (lab : Nat) (v3 : Int32) (v4 : Int32) (v5 : Int32) (v6 : Int32) (v7 : Int32) (M : Mem), P lab v3 v4 v5 v6 v7 M → P' lab v3 v4 v5 v6 v7 M) : ∀ (lab : Nat) (v3 : Int32) (v4 : Int32) (v5 : Int32) (v6 : Int32) (v7 : Int32) (M : Mem), blk_X8_comes v1 v2 Q P lab v3 v4 v5 v6 v7 M → blk_X8_comes v1 v2 Q' P' lab v3 v4 v5 v6 v7 M := fun lab v3 v4 v5 v6 v7 M h => match lab, h with
  | 0, h => blk_X8_comes_0_mono (v1 := v1) (v2 := v2) hQ hP v3 v4 v5 v6 v7 M h
  | 1, h => blk_X8_comes_1_mono (v1 := v1) (v2 := v2) hQ hP v3 v4 v5 v6 v7 M h
  | 2, h => blk_X8_comes_2_mono (v1 := v1) (v2 := v2) hQ hP v3 v4 v5 v6 v7 M h
  | 3, h => blk_X8_comes_3_mono (v1 := v1) (v2 := v2) hQ hP v3 v4 v5 v6 v7 M h
  | _ + 4, h => False.elim h
def at_X8_comes (v1 : Int32) (v2 : Int32) (Q : Int32 → Mem → Prop) : Nat → Int32 → Int32 → Int32 → Int32 → Int32 → Mem → Prop := fun lab v3 v4 v5 v6 v7 M => ∀ P : Nat → Int32 → Int32 → Int32 → Int32 → Int32 → Mem → Prop, (∀ (lab : Nat) (v3 : Int32) (v4 : Int32) (v5 : Int32) (v6 : Int32) (v7 : Int32) (M : Mem), blk_X8_comes v1 v2 Q P lab v3 v4 v5 v6 v7 M → P lab v3 v4 v5 v6 v7 M) → P lab v3 v4 v5 v6 v7 M
theorem at_X8_comes_fold {v1 : Int32} {v2 : Int32} {Q : Int32 → Mem → Prop} {lab : Nat} {v3 : Int32} {v4 : Int32} {v5 : Int32} {v6 : Int32} {v7 : Int32} {M : Mem} (h : blk_X8_comes v1 v2 Q (at_X8_comes v1 v2 Q) lab v3 v4 v5 v6 v7 M) : at_X8_comes v1 v2 Q lab v3 v4 v5 v6 v7 M := fun P hP => hP _ _ _ _ _ _ _ (blk_X8_comes_mono (fun _ _ h => h) (fun _ _ _ _ _ _ _ h => h P hP) _ _ _ _ _ _ _ h)
theorem at_X8_comes_mono {v1 : Int32} {v2 : Int32} {Q Q' : Int32 → Mem → Prop} (hQ : ∀ (r : Int32) (M : Mem), Q r M → Q' r M) {lab : Nat} {v3 : Int32} {v4 : Int32} {v5 : Int32} {v6 : Int32} {v7 : Int32} {M : Mem} (h : at_X8_comes v1 v2 Q lab v3 v4 v5 v6 v7 M) : at_X8_comes v1 v2 Q' lab v3 v4 v5 v6 v7 M := fun P hP => h P (fun lab v3 v4 v5 v6 v7 M hb => hP _ _ _ _ _ _ _ (blk_X8_comes_mono hQ (fun _ _ _ _ _ _ _ h => h) _ _ _ _ _ _ _ hb))
def wp_X8_comes (v1 : Int32) (v2 : Int32) (M : Mem) (Q : Int32 → Mem → Prop) : Prop := at_X8_comes v1 v2 Q 0 0 0 0 0 0 M
theorem wp_X8_comes_mono {v1 : Int32} {v2 : Int32} {M : Mem} {Q Q' : Int32 → Mem → Prop} (hQ : ∀ (r : Int32) (M : Mem), Q r M → Q' r M) (h : wp_X8_comes v1 v2 M Q) : wp_X8_comes v1 v2 M Q' := at_X8_comes_mono hQ h
def pcl_X8_comes : Nat → Nat := fun lab => match lab with
  | 0 => 0
  | 1 => 49
  | 2 => 126
  | 3 => 105
  | _ => 0
def lvl_X8_comes (ad : Nat → Nat) (v1 : Int32) (v2 : Int32) : Nat → Int32 → Int32 → Int32 → Int32 → Int32 → List (Nat × Value) := fun lab v3 v4 v5 v6 v7 => match lab with
  | 0 => [(0, .ref (ad 0)), (1, .int v1), (2, .int v2)]
  | 1 => [(0, .ref (ad 0)), (1, .int v1), (3, .int v3), (4, .int v4), (5, .int v5), (6, .int v6), (7, .int v7)]
  | 2 => [(0, .ref (ad 0)), (1, .int v1), (3, .int v3), (4, .int v4), (5, .int v5), (6, .int v6), (7, .int v7)]
  | 3 => [(0, .ref (ad 0)), (1, .int v1), (3, .int v3), (4, .int v4), (5, .int v5), (6, .int v6), (7, .int v7)]
  | _ => []
abbrev rm_X8_comes : Jvm.Room := { frames := 4, cells := 0, slots := 0, locals := 91 }
set_option maxHeartbeats 4000000 in
set_option maxRecDepth 100000 in
theorem ct_X8_comes (l : Launch) (D : va_G) (cy : Nat → ClassId) (ad : Nat → Nat) (B : Nat → Prop) (v1 : Int32) (v2 : Int32) (M : Mem) (Q : Int32 → Mem → Prop) (h : wp_X8_comes v1 v2 M Q) : CTi l D cy (wR ad cy) B yX8_comes wsX8_comes rm_X8_comes [.ref (ad 0), .int v1, .int v2] M Q := by
  intro sz
  refine Met.ofW (cc := cX8_comes) (maxL := 8) (ret := some .int) (by decide) rfl ?_
  intro p e s m args below meth c s₁ Bd hml hv
  obtain ⟨hargs, hsz, hP, hK, hD⟩ := hv
  subst hsz
  have hx := Bd.exec
  have hb := Bd.bytes
  have hr := Bd.returns
  have hts := atoms_spec (ws := wsX8_comes) Bd.pre
  have hown : s.vm.findClass RX8 = some m.cls := findClass_of_methodNamed Bd.named
  have hlocks := Bd.notSynchronized
  have hC8 : xC wsX8_comes 8 RX8 TX8 34 := ⟨by decide +kernel, rfl⟩
  have key : ∀ (P : Nat → Int32 → Int32 → Int32 → Int32 → Int32 → Mem → Prop), (∀ (lab : Nat) (v3 : Int32) (v4 : Int32) (v5 : Int32) (v6 : Int32) (v7 : Int32) (M : Mem), P lab v3 v4 v5 v6 v7 M → ∀ (H : Heap) (locs : List Loc) (ls : Array Slot), xS D (wR ad cy) B s.heap H locs M → lv_has ls 8 (lvl_X8_comes ad v1 v2 lab v3 v4 v5 v6 v7 ) → W p l e (headSpec wsX8_comes rm_X8_comes).room s m args below meth c H locs 0 0 (MQ below (va_Qi (S := Mem) Q (xB D (wR ad cy) B) (xA B s.heap.size)) args s 0 0 (xA B s.heap.size)) (F0 m (pcl_X8_comes lab) ls [])) → ∀ (lab : Nat) (v3 : Int32) (v4 : Int32) (v5 : Int32) (v6 : Int32) (v7 : Int32) (M : Mem), blk_X8_comes v1 v2 Q P lab v3 v4 v5 v6 v7 M → ∀ (H : Heap) (locs : List Loc) (ls : Array Slot), xS D (wR ad cy) B s.heap H locs M → lv_has ls 8 (lvl_X8_comes ad v1 v2 lab v3 v4 v5 v6 v7 ) → W p l e (headSpec wsX8_comes rm_X8_comes).room s m args below meth c H locs 0 0 (MQ below (va_Qi (S := Mem) Q (xB D (wR ad cy) B) (xA B s.heap.size)) args s 0 0 (xA B s.heap.size)) (F0 m (pcl_X8_comes lab) ls []) := by
    intro P hJ lab v3 v4 v5 v6 v7 M h H locs ls S hl
    match lab, h, hl with
    | 0, h, hl =>
      have hl : lv_has ls 8 [(0, .ref (ad 0)), (1, .int v1), (2, .int v2)] := hl
      have h : blk_X8_comes_0 v1 v2 Q P v3 v4 v5 v6 v7 M := h
      unfold blk_X8_comes_0 at h
      refine W.eq (g2 := F0 m 0 ls []) rfl ?_
      refine lv_iload_n hx hb dX8_comes_0 rfl (lv_at hl 1 rfl) ?_
      refine lv_iload_n hx hb dX8_comes_1 rfl (lv_at hl 2 rfl) ?_
      refine lv_ishr hx hb dX8_comes_2 ?_
      refine lv_iconst (v := 1) hx hb dX8_comes_3 (by decide) ?_
      refine lv_iand hx hb dX8_comes_4 ?_
      refine lv_if_eq (tgt := 20) hx hb dX8_comes_5 (by decide) (fun c5 => ?_) (fun c5 => ?_)
      · replace h := h.1 c5
        refine lv_bipush (v := (-9)) hx hb dX8_comes_20 (by decide) ?_
        exact x_iret hx hb hr hlocks S rfl h dX8_comes_22
      · replace h := h.2 c5
        refine lv_aload_n hx hb dX8_comes_8 rfl (lv_at hl 0 rfl) ?_
        refine x_getI hx hb hts (hC8) hown hK S 18 (by decide) rf_0_18 (index := 130) (hts _ (List.mem_of_getElem? (i := 1) rfl)) dX8_comes_9 ?_
        refine lv_iload_n hx hb dX8_comes_12 rfl (lv_at hl 2 rfl) ?_
        refine lv_ishr hx hb dX8_comes_13 ?_
        refine lv_iconst (v := 1) hx hb dX8_comes_14 (by decide) ?_
        refine lv_iand hx hb dX8_comes_15 ?_
        refine lv_iconst (v := 1) hx hb dX8_comes_16 (by decide) ?_
        refine lv_icmp_ne (tgt := 23) hx hb dX8_comes_17 (by decide) (fun c17 => ?_) (fun c17 => ?_)
        · replace h := h.1 c17
          refine lv_aload_n hx hb dX8_comes_23 rfl (lv_at hl 0 rfl) ?_
          refine x_getR hx hb hts (hC8) hown hK S 13 (by decide) rf_0_13 (index := 32) (hts _ (List.mem_of_getElem? (i := 2) rfl)) dX8_comes_24 ?_
          refine lv_iload_n hx hb dX8_comes_27 rfl (lv_at hl 2 rfl) ?_
          refine x_iald hx hb hK S ra_8 h.1 dX8_comes_28 ?_
          replace h := h.2
          refine lv_istore_n (lv' := [(3, .int (M.1 8 v2.toNatClampNeg)), (0, .ref (ad 0)), (1, .int v1), (2, .int v2)]) hx hb dX8_comes_29 rfl hl (by decide) rfl (fun ls hl => ?_)
          refine lv_aload_n hx hb dX8_comes_30 rfl (lv_at hl 1 rfl) ?_
          refine x_getR hx hb hts (hC8) hown hK S 14 (by decide) rf_0_14 (index := 35) (hts _ (List.mem_of_getElem? (i := 3) rfl)) dX8_comes_31 ?_
          refine lv_iload_n hx hb dX8_comes_34 rfl (lv_at hl 3 rfl) ?_
          refine x_iald hx hb hK S ra_9 h.1 dX8_comes_35 ?_
          replace h := h.2
          refine lv_istore (lv' := [(4, .int (M.1 9 v2.toNatClampNeg)), (3, .int (M.1 8 v2.toNatClampNeg)), (0, .ref (ad 0)), (1, .int v1), (2, .int v2)]) hx hb dX8_comes_36 hl (by decide) rfl (fun ls hl => ?_)
          refine lv_bipush (v := (-9)) hx hb dX8_comes_38 (by decide) ?_
          refine lv_istore (lv' := [(5, .int (-9)), (4, .int (M.1 9 v2.toNatClampNeg)), (3, .int (M.1 8 v2.toNatClampNeg)), (0, .ref (ad 0)), (1, .int v1), (2, .int v2)]) hx hb dX8_comes_40 hl (by decide) rfl (fun ls hl => ?_)
          refine lv_bipush (v := (-9)) hx hb dX8_comes_42 (by decide) ?_
          refine lv_istore (lv' := [(6, .int (-9)), (5, .int (-9)), (4, .int (M.1 9 v2.toNatClampNeg)), (3, .int (M.1 8 v2.toNatClampNeg)), (0, .ref (ad 0)), (1, .int v1), (2, .int v2)]) hx hb dX8_comes_44 hl (by decide) rfl (fun ls hl => ?_)
          refine lv_iconst (v := 0) hx hb dX8_comes_46 (by decide) ?_
          refine lv_istore (lv' := [(7, .int 0), (6, .int (-9)), (5, .int (-9)), (4, .int (M.1 9 v2.toNatClampNeg)), (3, .int (M.1 8 v2.toNatClampNeg)), (0, .ref (ad 0)), (1, .int v1), (2, .int v2)]) hx hb dX8_comes_47 hl (by decide) rfl (fun ls hl => ?_)
          exact hJ _ _ _ _ _ _ _ h _ _ _ S (lv_sub hl [5, 6, 4, 3, 2, 1, 0] rfl)
        · replace h := h.2 c17
          refine lv_bipush (v := (-9)) hx hb dX8_comes_20 (by decide) ?_
          exact x_iret hx hb hr hlocks S rfl h dX8_comes_22
    | 1, h, hl =>
      have hl : lv_has ls 8 [(0, .ref (ad 0)), (1, .int v1), (3, .int v3), (4, .int v4), (5, .int v5), (6, .int v6), (7, .int v7)] := hl
      have h : blk_X8_comes_1 v1 v2 Q P v3 v4 v5 v6 v7 M := h
      unfold blk_X8_comes_1 at h
      refine W.eq (g2 := F0 m 49 ls []) rfl ?_
      refine lv_iload hx hb dX8_comes_49 (lv_at hl 6 rfl) ?_
      refine lv_aload_n hx hb dX8_comes_51 rfl (lv_at hl 0 rfl) ?_
      refine x_getI hx hb hts (hC8) hown hK S 9 (by decide) rf_0_9 (index := 109) (hts _ (List.mem_of_getElem? (i := 4) rfl)) dX8_comes_52 ?_
      refine lv_icmp_ge (tgt := 132) hx hb dX8_comes_55 (by decide) (fun c55 => ?_) (fun c55 => ?_)
      · replace h := h.1 c55
        refine lv_iload hx hb dX8_comes_132 (lv_at hl 4 rfl) ?_
        refine lv_bipush (v := (-9)) hx hb dX8_comes_134 (by decide) ?_
        refine lv_icmp_eq (tgt := 169) hx hb dX8_comes_136 (by decide) (fun c136 => ?_) (fun c136 => ?_)
        · replace h := h.1 c136
          refine lv_bipush (v := (-9)) hx hb dX8_comes_169 (by decide) ?_
          exact x_iret hx hb hr hlocks S rfl h dX8_comes_171
        · replace h := h.2 c136
          refine lv_iload hx hb dX8_comes_139 (lv_at hl 5 rfl) ?_
          refine lv_bipush (v := (-9)) hx hb dX8_comes_141 (by decide) ?_
          refine lv_icmp_eq (tgt := 169) hx hb dX8_comes_143 (by decide) (fun c143 => ?_) (fun c143 => ?_)
          · replace h := h.1 c143
            refine lv_bipush (v := (-9)) hx hb dX8_comes_169 (by decide) ?_
            exact x_iret hx hb hr hlocks S rfl h dX8_comes_171
          · replace h := h.2 c143
            refine lv_aload_n hx hb dX8_comes_146 rfl (lv_at hl 0 rfl) ?_
            refine lv_iload hx hb dX8_comes_147 (lv_at hl 4 rfl) ?_
            refine lv_iload hx hb dX8_comes_149 (lv_at hl 5 rfl) ?_
            refine lv_iload_n hx hb dX8_comes_151 rfl (lv_at hl 2 rfl) ?_
            refine x_callVi (As := [.int v5, .int v6, .int v3]) ⟨hx, hb, hml, hown, hts⟩ hK S (ct_X8_side l D cy ad B _ _ _ _ _ h) ro_0 rfl (cwV 3 hts gX8_comes_X8_side rfl rfl rfl (by decide +kernel) ⟨Nat.le_of_ble_eq_true rfl, Nat.le_of_ble_eq_true rfl⟩) rfl hl.1 rfl (Nat.le_of_ble_eq_true rfl) dX8_comes_152 ⟨Nat.zero_le _, Nat.zero_le _⟩ (fun r1 M1 H locs h S => ?_)
            refine lv_aload_n hx hb dX8_comes_155 rfl (lv_at hl 0 rfl) ?_
            refine lv_iload hx hb dX8_comes_156 (lv_at hl 4 rfl) ?_
            refine lv_iload hx hb dX8_comes_158 (lv_at hl 5 rfl) ?_
            refine lv_iload hx hb dX8_comes_160 (lv_at hl 3 rfl) ?_
            refine x_callVi (As := [.int v5, .int v6, .int v4]) ⟨hx, hb, hml, hown, hts⟩ hK S (ct_X8_side l D cy ad B _ _ _ _ _ h) ro_0 rfl (cwV 3 hts gX8_comes_X8_side rfl rfl rfl (by decide +kernel) ⟨Nat.le_of_ble_eq_true rfl, Nat.le_of_ble_eq_true rfl⟩) rfl hl.1 rfl (Nat.le_of_ble_eq_true rfl) dX8_comes_162 ⟨Nat.zero_le _, Nat.zero_le _⟩ (fun r2 M2 H locs h S => ?_)
            refine lv_imul hx hb dX8_comes_165 ?_
            refine lv_if_lt (tgt := 172) hx hb dX8_comes_166 (by decide) (fun c166 => ?_) (fun c166 => ?_)
            · replace h := h.1 c166
              refine lv_aload_n hx hb dX8_comes_172 rfl (lv_at hl 0 rfl) ?_
              refine x_getR hx hb hts (hC8) hown hK S 15 (by decide) rf_0_15 (index := 38) (hts _ (List.mem_of_getElem? (i := 5) rfl)) dX8_comes_173 ?_
              refine lv_bipush (v := 8) hx hb dX8_comes_176 (by decide) ?_
              refine lv_iload hx hb dX8_comes_178 (lv_at hl 4 rfl) ?_
              refine lv_imul hx hb dX8_comes_180 ?_
              refine lv_iload hx hb dX8_comes_181 (lv_at hl 5 rfl) ?_
              refine lv_iadd hx hb dX8_comes_183 ?_
              refine x_iald hx hb hK S ra_10 h.1 dX8_comes_184 ?_
              replace h := h.2
              refine lv_istore (lv' := [(7, .int (M2.1 10 ((8 * v5) + v6).toNatClampNeg)), (0, .ref (ad 0)), (1, .int v1), (3, .int v3), (4, .int v4), (5, .int v5), (6, .int v6)]) hx hb dX8_comes_185 hl (by decide) rfl (fun ls hl => ?_)
              refine lv_aload_n hx hb dX8_comes_187 rfl (lv_at hl 1 rfl) ?_
              refine x_getI hx hb hts (hC8) hown hK S 19 (by decide) rf_0_19 (index := 133) (hts _ (List.mem_of_getElem? (i := 6) rfl)) dX8_comes_188 ?_
              refine lv_iload hx hb dX8_comes_191 (lv_at hl 0 rfl) ?_
              refine lv_ishr hx hb dX8_comes_193 ?_
              refine lv_iconst (v := 1) hx hb dX8_comes_194 (by decide) ?_
              refine lv_iand hx hb dX8_comes_195 ?_
              refine lv_iconst (v := 1) hx hb dX8_comes_196 (by decide) ?_
              refine lv_icmp_ne (tgt := 205) hx hb dX8_comes_197 (by decide) (fun c197 => ?_) (fun c197 => ?_)
              · replace h := h.1 c197
                refine lv_iload hx hb dX8_comes_205 (lv_at hl 0 rfl) ?_
                exact x_iret hx hb hr hlocks S rfl h dX8_comes_207
              · replace h := h.2 c197
                refine lv_bipush (v := (-9)) hx hb dX8_comes_200 (by decide) ?_
                refine lv_goto (tgt := 207) hx hb dX8_comes_202 (by decide) ?_
                exact x_iret hx hb hr hlocks S rfl h dX8_comes_207
            · replace h := h.2 c166
              refine lv_bipush (v := (-9)) hx hb dX8_comes_169 (by decide) ?_
              exact x_iret hx hb hr hlocks S rfl h dX8_comes_171
      · replace h := h.2 c55
        refine lv_iload hx hb dX8_comes_58 (lv_at hl 6 rfl) ?_
        refine lv_iload_n hx hb dX8_comes_60 rfl (lv_at hl 2 rfl) ?_
        refine lv_icmp_eq (tgt := 126) hx hb dX8_comes_61 (by decide) (fun c61 => ?_) (fun c61 => ?_)
        · replace h := h.1 c61
          exact hJ _ _ _ _ _ _ _ h _ _ _ S (lv_sub hl [0, 1, 2, 3, 4, 5, 6] rfl)
        · replace h := h.2 c61
          refine lv_iload hx hb dX8_comes_64 (lv_at hl 6 rfl) ?_
          refine lv_iload hx hb dX8_comes_66 (lv_at hl 3 rfl) ?_
          refine lv_icmp_eq (tgt := 126) hx hb dX8_comes_68 (by decide) (fun c68 => ?_) (fun c68 => ?_)
          · replace h := h.1 c68
            exact hJ _ _ _ _ _ _ _ h _ _ _ S (lv_sub hl [0, 1, 2, 3, 4, 5, 6] rfl)
          · replace h := h.2 c68
            refine lv_aload_n hx hb dX8_comes_71 rfl (lv_at hl 0 rfl) ?_
            refine lv_iload_n hx hb dX8_comes_72 rfl (lv_at hl 1 rfl) ?_
            refine lv_iload_n hx hb dX8_comes_73 rfl (lv_at hl 2 rfl) ?_
            refine lv_iload hx hb dX8_comes_74 (lv_at hl 3 rfl) ?_
            refine lv_iload hx hb dX8_comes_76 (lv_at hl 6 rfl) ?_
            refine x_callVi (As := [.int v1, .int v3, .int v4, .int v7]) ⟨hx, hb, hml, hown, hts⟩ hK S (ct_X8_isThird l D cy ad B _ _ _ _ _ _ h) ro_0 rfl (cwV 4 hts gX8_comes_X8_isThird rfl rfl rfl (by decide +kernel) ⟨Nat.le_of_ble_eq_true rfl, Nat.le_of_ble_eq_true rfl⟩) rfl hl.1 rfl (Nat.le_of_ble_eq_true rfl) dX8_comes_78 ⟨Nat.zero_le _, Nat.zero_le _⟩ (fun r3 M3 H locs h S => ?_)
            refine lv_if_eq (tgt := 126) hx hb dX8_comes_81 (by decide) (fun c81 => ?_) (fun c81 => ?_)
            · replace h := h.1 c81
              exact hJ _ _ _ _ _ _ _ h _ _ _ S (lv_sub hl [0, 1, 2, 3, 4, 5, 6] rfl)
            · replace h := h.2 c81
              refine lv_aload_n hx hb dX8_comes_84 rfl (lv_at hl 0 rfl) ?_
              refine lv_iload_n hx hb dX8_comes_85 rfl (lv_at hl 2 rfl) ?_
              refine lv_iload hx hb dX8_comes_86 (lv_at hl 3 rfl) ?_
              refine lv_iload hx hb dX8_comes_88 (lv_at hl 6 rfl) ?_
              refine x_callVi (As := [.int v3, .int v4, .int v7]) ⟨hx, hb, hml, hown, hts⟩ hK S (ct_X8_side l D cy ad B _ _ _ _ _ h) ro_0 rfl (cwV 3 hts gX8_comes_X8_side rfl rfl rfl (by decide +kernel) ⟨Nat.le_of_ble_eq_true rfl, Nat.le_of_ble_eq_true rfl⟩) rfl hl.1 rfl (Nat.le_of_ble_eq_true rfl) dX8_comes_90 ⟨Nat.zero_le _, Nat.zero_le _⟩ (fun r4 M4 H locs h S => ?_)
              refine lv_if_le (tgt := 101) hx hb dX8_comes_93 (by decide) (fun c93 => ?_) (fun c93 => ?_)
              · replace h := h.1 c93
                refine lv_iload hx hb dX8_comes_101 (lv_at hl 4 rfl) ?_
                refine lv_istore (lv' := [(5, .int v5), (0, .ref (ad 0)), (1, .int v1), (3, .int v3), (4, .int v4), (6, .int v6), (7, .int v7)]) hx hb dX8_comes_103 hl (by decide) rfl (fun ls hl => ?_)
                exact hJ _ _ _ _ _ _ _ h _ _ _ S (lv_sub hl [1, 2, 3, 4, 0, 5, 6] rfl)
              · replace h := h.2 c93
                refine lv_iload hx hb dX8_comes_96 (lv_at hl 6 rfl) ?_
                refine lv_goto (tgt := 103) hx hb dX8_comes_98 (by decide) ?_
                refine lv_istore (lv' := [(5, .int v7), (0, .ref (ad 0)), (1, .int v1), (3, .int v3), (4, .int v4), (6, .int v6), (7, .int v7)]) hx hb dX8_comes_103 hl (by decide) rfl (fun ls hl => ?_)
                exact hJ _ _ _ _ _ _ _ h _ _ _ S (lv_sub hl [1, 2, 3, 4, 0, 5, 6] rfl)
    | 2, h, hl =>
      have hl : lv_has ls 8 [(0, .ref (ad 0)), (1, .int v1), (3, .int v3), (4, .int v4), (5, .int v5), (6, .int v6), (7, .int v7)] := hl
      have h : blk_X8_comes_2 v1 v2 Q P v3 v4 v5 v6 v7 M := h
      unfold blk_X8_comes_2 at h
      refine W.eq (g2 := F0 m 126 ls []) rfl ?_
      refine lv_iinc (v := (v7 + 1)) (lv' := [(7, .int (v7 + 1)), (0, .ref (ad 0)), (1, .int v1), (3, .int v3), (4, .int v4), (5, .int v5), (6, .int v6)]) hx hb dX8_comes_126 hl (k := 6) rfl rfl (by decide) rfl (fun ls hl => ?_)
      refine lv_goto (tgt := 49) hx hb dX8_comes_129 (by decide) ?_
      exact hJ _ _ _ _ _ _ _ h _ _ _ S (lv_sub hl [1, 2, 3, 4, 5, 6, 0] rfl)
    | 3, h, hl =>
      have hl : lv_has ls 8 [(0, .ref (ad 0)), (1, .int v1), (3, .int v3), (4, .int v4), (5, .int v5), (6, .int v6), (7, .int v7)] := hl
      have h : blk_X8_comes_3 v1 v2 Q P v3 v4 v5 v6 v7 M := h
      unfold blk_X8_comes_3 at h
      refine W.eq (g2 := F0 m 105 ls []) rfl ?_
      refine lv_aload_n hx hb dX8_comes_105 rfl (lv_at hl 0 rfl) ?_
      refine lv_iload_n hx hb dX8_comes_106 rfl (lv_at hl 2 rfl) ?_
      refine lv_iload hx hb dX8_comes_107 (lv_at hl 3 rfl) ?_
      refine lv_iload hx hb dX8_comes_109 (lv_at hl 6 rfl) ?_
      refine x_callVi (As := [.int v3, .int v4, .int v7]) ⟨hx, hb, hml, hown, hts⟩ hK S (ct_X8_side l D cy ad B _ _ _ _ _ h) ro_0 rfl (cwV 3 hts gX8_comes_X8_side rfl rfl rfl (by decide +kernel) ⟨Nat.le_of_ble_eq_true rfl, Nat.le_of_ble_eq_true rfl⟩) rfl hl.1 rfl (Nat.le_of_ble_eq_true rfl) dX8_comes_111 ⟨Nat.zero_le _, Nat.zero_le _⟩ (fun r5 M5 H locs h S => ?_)
      refine lv_if_ge (tgt := 122) hx hb dX8_comes_114 (by decide) (fun c114 => ?_) (fun c114 => ?_)
      · replace h := h.1 c114
        refine lv_iload hx hb dX8_comes_122 (lv_at hl 5 rfl) ?_
        refine lv_istore (lv' := [(6, .int v6), (0, .ref (ad 0)), (1, .int v1), (3, .int v3), (4, .int v4), (5, .int v5), (7, .int v7)]) hx hb dX8_comes_124 hl (by decide) rfl (fun ls hl => ?_)
        exact hJ _ _ _ _ _ _ _ h _ _ _ S (lv_sub hl [1, 2, 3, 4, 5, 0, 6] rfl)
      · replace h := h.2 c114
        refine lv_iload hx hb dX8_comes_117 (lv_at hl 6 rfl) ?_
        refine lv_goto (tgt := 124) hx hb dX8_comes_119 (by decide) ?_
        refine lv_istore (lv' := [(6, .int v7), (0, .ref (ad 0)), (1, .int v1), (3, .int v3), (4, .int v4), (5, .int v5), (7, .int v7)]) hx hb dX8_comes_124 hl (by decide) rfl (fun ls hl => ?_)
        exact hJ _ _ _ _ _ _ _ h _ _ _ S (lv_sub hl [1, 2, 3, 4, 5, 0, 6] rfl)
    | _ + 4, h, hl => exact h.elim
  have hl := lv_entry ([.ref (ad 0), .int v1, .int v2]) (n := 8) (Nat.le_of_ble_eq_true rfl)
  subst hargs
  rw [lg_entry_eq]
  generalize (lg_sl ([.ref (ad 0), .int v1, .int v2]) ++ List.replicate (8 - (lg_sl ([.ref (ad 0), .int v1, .int v2])).length) Slot.unset).toArray = ls at hl ⊢
  exact h _ (key _ (fun _ _ _ _ _ _ _ h => h)) s.heap [] ls ⟨hP, hD, va_S.rf⟩ hl
