/-! X8_in -/
def wp_X8_in (v0 : Int64) (v2 : Int64) (v4 : Int64) (M : Mem) (Q : Int32 → Mem → Prop) : Prop :=
  (((lg_cmp v0 v2) < 0 → Q 0 M) ∧ (¬ (lg_cmp v0 v2) < 0 → ((0 < (lg_cmp v0 v4) → Q 0 M) ∧ (¬ 0 < (lg_cmp v0 v4) → Q 1 M))))
theorem wp_X8_in_mono {v0 : Int64} {v2 : Int64} {v4 : Int64} {M : Mem} {Q Q' : Int32 → Mem → Prop} (hQ : ∀ (r : Int32) (M : Mem), Q r M → Q' r M) (h : wp_X8_in v0 v2 v4 M Q) : wp_X8_in v0 v2 v4 M Q' := by
  unfold wp_X8_in at h ⊢
  exact ⟨fun c => let h := h.1 c; hQ _ _ h, fun c => let h := h.2 c; ⟨fun c => let h := h.1 c; hQ _ _ h, fun c => let h := h.2 c; hQ _ _ h⟩⟩
abbrev rm_X8_in : Jvm.Room := { frames := 1, cells := 0, slots := 0, locals := 17 }
set_option maxHeartbeats 4000000 in
set_option maxRecDepth 100000 in
theorem ct_X8_in (l : Launch) (D : va_G) (cy : Nat → ClassId) (ad : Nat → Nat) (B : Nat → Prop) (v0 : Int64) (v2 : Int64) (v4 : Int64) (M : Mem) (Q : Int32 → Mem → Prop) (h : wp_X8_in v0 v2 v4 M Q) : CTi l D cy (wR ad cy) B yX8_in wsX8_in rm_X8_in [.long v0, .long v2, .long v4] M Q := by
  intro sz
  refine Met.ofW (cc := cX8_in) (maxL := 6) (ret := some .boolean) (by decide) rfl ?_
  intro p e s m args below meth c s₁ Bd hml hv
  obtain ⟨hargs, hsz, hP, hK, hD⟩ := hv
  subst hsz
  have hx := Bd.exec
  have hb := Bd.bytes
  have hr := Bd.returns
  have hts := atoms_spec (ws := wsX8_in) Bd.pre
  have hown : s.vm.findClass RX8 = some m.cls := findClass_of_methodNamed Bd.named
  have hlocks := Bd.notSynchronized
  have hl := lv_entry ([.long v0, .long v2, .long v4]) (n := 6) (Nat.le_of_ble_eq_true rfl)
  subst hargs
  rw [lg_entry_eq]
  generalize (lg_sl ([.long v0, .long v2, .long v4]) ++ List.replicate (6 - (lg_sl ([.long v0, .long v2, .long v4])).length) Slot.unset).toArray = ls at hl ⊢
  have hl : lv_has ls 6 [(0, .long v0), (2, .long v2), (4, .long v4)] := hl
  have S : xS D (wR ad cy) B s.heap s.heap [] M := ⟨hP, hD, va_S.rf⟩
  unfold wp_X8_in at h
  refine lv_lload_n hx hb dX8_in_0 rfl (lv_at hl 0 rfl) ?_
  refine lv_lload_n hx hb dX8_in_1 rfl (lv_at hl 1 rfl) ?_
  refine W.lcmp hx hb dX8_in_2 ?_
  refine lv_if_lt (tgt := 17) hx hb dX8_in_3 (by decide) (fun c3 => ?_) (fun c3 => ?_)
  · replace h := h.1 c3
    refine lv_iconst (v := 0) hx hb dX8_in_17 (by decide) ?_
    exact x_iret hx hb hr hlocks S rfl h dX8_in_18
  · replace h := h.2 c3
    refine lv_lload_n hx hb dX8_in_6 rfl (lv_at hl 0 rfl) ?_
    refine lv_lload hx hb dX8_in_7 (lv_at hl 2 rfl) ?_
    refine W.lcmp hx hb dX8_in_9 ?_
    refine lv_if_gt (tgt := 17) hx hb dX8_in_10 (by decide) (fun c10 => ?_) (fun c10 => ?_)
    · replace h := h.1 c10
      refine lv_iconst (v := 0) hx hb dX8_in_17 (by decide) ?_
      exact x_iret hx hb hr hlocks S rfl h dX8_in_18
    · replace h := h.2 c10
      refine lv_iconst (v := 1) hx hb dX8_in_13 (by decide) ?_
      refine lv_goto (tgt := 18) hx hb dX8_in_14 (by decide) ?_
      exact x_iret hx hb hr hlocks S rfl h dX8_in_18
/-! X8_finds -/
def wp_X8_finds (v1 : Int32) (M : Mem) (Q : Int32 → Mem → Prop) : Prop :=
  Q v1 (upI M 0 4 ((M.1 0 4) + 1))
theorem wp_X8_finds_mono {v1 : Int32} {M : Mem} {Q Q' : Int32 → Mem → Prop} (hQ : ∀ (r : Int32) (M : Mem), Q r M → Q' r M) (h : wp_X8_finds v1 M Q) : wp_X8_finds v1 M Q' := by
  unfold wp_X8_finds at h ⊢
  exact hQ _ _ h
abbrev rm_X8_finds : Jvm.Room := { frames := 1, cells := 0, slots := 0, locals := 13 }
set_option maxHeartbeats 4000000 in
set_option maxRecDepth 100000 in
theorem ct_X8_finds (l : Launch) (D : va_G) (cy : Nat → ClassId) (ad : Nat → Nat) (B : Nat → Prop) (v1 : Int32) (M : Mem) (Q : Int32 → Mem → Prop) (h : wp_X8_finds v1 M Q) : CTi l D cy (wR ad cy) B yX8_finds wsX8_finds rm_X8_finds [.ref (ad 0), .int v1] M Q := by
  intro sz
  refine Met.ofW (cc := cX8_finds) (maxL := 2) (ret := some .int) (by decide) rfl ?_
  intro p e s m args below meth c s₁ Bd hml hv
  obtain ⟨hargs, hsz, hP, hK, hD⟩ := hv
  subst hsz
  have hx := Bd.exec
  have hb := Bd.bytes
  have hr := Bd.returns
  have hts := atoms_spec (ws := wsX8_finds) Bd.pre
  have hown : s.vm.findClass RX8 = some m.cls := findClass_of_methodNamed Bd.named
  have hlocks := Bd.notSynchronized
  have hC8 : xC wsX8_finds 8 RX8 TX8 34 := ⟨by decide +kernel, rfl⟩
  have hl := lv_entry ([.ref (ad 0), .int v1]) (n := 2) (Nat.le_of_ble_eq_true rfl)
  subst hargs
  rw [lg_entry_eq]
  generalize (lg_sl ([.ref (ad 0), .int v1]) ++ List.replicate (2 - (lg_sl ([.ref (ad 0), .int v1])).length) Slot.unset).toArray = ls at hl ⊢
  have hl : lv_has ls 2 [(0, .ref (ad 0)), (1, .int v1)] := hl
  have S : xS D (wR ad cy) B s.heap s.heap [] M := ⟨hP, hD, va_S.rf⟩
  unfold wp_X8_finds at h
  refine lv_aload_n hx hb dX8_finds_0 rfl (lv_at hl 0 rfl) ?_
  refine lv_dup hx hb dX8_finds_1 rfl ?_
  refine x_getI hx hb hts (hC8) hown hK S 4 (by decide) rf_0_4 (index := 78) (hts _ (List.mem_of_getElem? (i := 1) rfl)) dX8_finds_2 ?_
  refine lv_iconst (v := 1) hx hb dX8_finds_5 (by decide) ?_
  refine lv_iadd hx hb dX8_finds_6 ?_
  refine x_putI hx hb hts (hC8) tyX8 tyX8_ok nmX8 hown hK S 4 (by decide) rf_0_4 (index := 78) (hts _ (List.mem_of_getElem? (i := 1) rfl)) rfl rfl rfl dX8_finds_7 (fun H locs S => ?_)
  refine lv_iload_n hx hb dX8_finds_10 rfl (lv_at hl 1 rfl) ?_
  exact x_iret hx hb hr hlocks S rfl h dX8_finds_11
/-! X8_sheet -/
def blk_X8_sheet_0 (v1 : Int32) (v2 : Int32) (v3 : Int32) (Q : Int32 → Mem → Prop) (P : Nat → Int32 → Mem → Prop) (v4 : Int32) (M : Mem) : Prop :=
  wp_X8_in v1.toInt64 (0 : Int64) (3 : Int64) (upI M 0 0 0) (fun r1 M1 => ((¬ r1 = 0 → wp_X8_in v2.toInt64 (0 : Int64) (3 : Int64) M1 (fun r2 M2 => ((r2 = 0 → Q (-2) M2) ∧ (¬ r2 = 0 → ((v3 ≤ 20 → ((0 ≤ v3 → (vp_in v1 4 ∧ (vp_in v1 4 ∧ P 1 0 (upI (upI M2 1 v1.toNatClampNeg v3) 2 v1.toNatClampNeg v2)))) ∧ (¬ 0 ≤ v3 → wp_X8_finds (-14) M2 (fun r3 M3 => Q r3 M3)))) ∧ (¬ v3 ≤ 20 → Q (-2) M2)))))) ∧ (r1 = 0 → wp_X8_finds (-12) M1 (fun r4 M4 => Q r4 M4))))
theorem blk_X8_sheet_0_mono {v1 : Int32} {v2 : Int32} {v3 : Int32} {Q Q' : Int32 → Mem → Prop} {P P' : Nat → Int32 → Mem → Prop} (hQ : ∀ (r : Int32) (M : Mem), Q r M → Q' r M) (hP : ∀ (lab : Nat) (v4 : Int32) (M : Mem), P lab v4 M → P' lab v4 M) (v4 : Int32) (M : Mem) (h : blk_X8_sheet_0 v1 v2 v3 Q P v4 M) : blk_X8_sheet_0 v1 v2 v3 Q' P' v4 M := by
  unfold blk_X8_sheet_0 at h ⊢
  exact wp_X8_in_mono (fun r1 M1 h => ⟨fun c => let h := h.1 c; wp_X8_in_mono (fun r2 M2 h => ⟨fun c => let h := h.1 c; hQ _ _ h, fun c => let h := h.2 c; ⟨fun c => let h := h.1 c; ⟨fun c => let h := h.1 c; ⟨h.1, let h := h.2; ⟨h.1, let h := h.2; hP _ _ _ h⟩⟩, fun c => let h := h.2 c; wp_X8_finds_mono (fun r3 M3 h => hQ _ _ h) h⟩, fun c => let h := h.2 c; hQ _ _ h⟩⟩) h, fun c => let h := h.2 c; wp_X8_finds_mono (fun r4 M4 h => hQ _ _ h) h⟩) h
def blk_X8_sheet_1 (v1 : Int32) (v2 : Int32) (v3 : Int32) (Q : Int32 → Mem → Prop) (P : Nat → Int32 → Mem → Prop) (v4 : Int32) (M : Mem) : Prop :=
  ((v3 ≤ v4 → Q v3 M) ∧ (¬ v3 ≤ v4 → (vp_in ((20 * v1) + v4) 80 ∧ P 1 (v4 + 1) (upJ M 3 ((20 * v1) + v4).toNatClampNeg (0 : Int64)))))
theorem blk_X8_sheet_1_mono {v1 : Int32} {v2 : Int32} {v3 : Int32} {Q Q' : Int32 → Mem → Prop} {P P' : Nat → Int32 → Mem → Prop} (hQ : ∀ (r : Int32) (M : Mem), Q r M → Q' r M) (hP : ∀ (lab : Nat) (v4 : Int32) (M : Mem), P lab v4 M → P' lab v4 M) (v4 : Int32) (M : Mem) (h : blk_X8_sheet_1 v1 v2 v3 Q P v4 M) : blk_X8_sheet_1 v1 v2 v3 Q' P' v4 M := by
  unfold blk_X8_sheet_1 at h ⊢
  exact ⟨fun c => let h := h.1 c; hQ _ _ h, fun c => let h := h.2 c; ⟨h.1, let h := h.2; hP _ _ _ h⟩⟩
def blk_X8_sheet (v1 : Int32) (v2 : Int32) (v3 : Int32) (Q : Int32 → Mem → Prop) (P : Nat → Int32 → Mem → Prop) : Nat → Int32 → Mem → Prop := fun lab v4 M => match lab with
  | 0 => blk_X8_sheet_0 v1 v2 v3 Q P v4 M
  | 1 => blk_X8_sheet_1 v1 v2 v3 Q P v4 M
  | _ => False
theorem blk_X8_sheet_mono {v1 : Int32} {v2 : Int32} {v3 : Int32} {Q Q' : Int32 → Mem → Prop} {P P' : Nat → Int32 → Mem → Prop} (hQ : ∀ (r : Int32) (M : Mem), Q r M → Q' r M) (hP : ∀ (lab : Nat) (v4 : Int32) (M : Mem), P lab v4 M → P' lab v4 M) : ∀ (lab : Nat) (v4 : Int32) (M : Mem), blk_X8_sheet v1 v2 v3 Q P lab v4 M → blk_X8_sheet v1 v2 v3 Q' P' lab v4 M := fun lab v4 M h => match lab, h with
  | 0, h => blk_X8_sheet_0_mono (v1 := v1) (v2 := v2) (v3 := v3) hQ hP v4 M h
  | 1, h => blk_X8_sheet_1_mono (v1 := v1) (v2 := v2) (v3 := v3) hQ hP v4 M h
  | _ + 2, h => False.elim h
def at_X8_sheet (v1 : Int32) (v2 : Int32) (v3 : Int32) (Q : Int32 → Mem → Prop) : Nat → Int32 → Mem → Prop := fun lab v4 M => ∀ P : Nat → Int32 → Mem → Prop, (∀ (lab : Nat) (v4 : Int32) (M : Mem), blk_X8_sheet v1 v2 v3 Q P lab v4 M → P lab v4 M) → P lab v4 M
theorem at_X8_sheet_fold {v1 : Int32} {v2 : Int32} {v3 : Int32} {Q : Int32 → Mem → Prop} {lab : Nat} {v4 : Int32} {M : Mem} (h : blk_X8_sheet v1 v2 v3 Q (at_X8_sheet v1 v2 v3 Q) lab v4 M) : at_X8_sheet v1 v2 v3 Q lab v4 M := fun P hP => hP _ _ _ (blk_X8_sheet_mono (fun _ _ h => h) (fun _ _ _ h => h P hP) _ _ _ h)
theorem at_X8_sheet_mono {v1 : Int32} {v2 : Int32} {v3 : Int32} {Q Q' : Int32 → Mem → Prop} (hQ : ∀ (r : Int32) (M : Mem), Q r M → Q' r M) {lab : Nat} {v4 : Int32} {M : Mem} (h : at_X8_sheet v1 v2 v3 Q lab v4 M) : at_X8_sheet v1 v2 v3 Q' lab v4 M := fun P hP => h P (fun lab v4 M hb => hP _ _ _ (blk_X8_sheet_mono hQ (fun _ _ _ h => h) _ _ _ hb))
def wp_X8_sheet (v1 : Int32) (v2 : Int32) (v3 : Int32) (M : Mem) (Q : Int32 → Mem → Prop) : Prop := at_X8_sheet v1 v2 v3 Q 0 0 M
theorem wp_X8_sheet_mono {v1 : Int32} {v2 : Int32} {v3 : Int32} {M : Mem} {Q Q' : Int32 → Mem → Prop} (hQ : ∀ (r : Int32) (M : Mem), Q r M → Q' r M) (h : wp_X8_sheet v1 v2 v3 M Q) : wp_X8_sheet v1 v2 v3 M Q' := at_X8_sheet_mono hQ h
def pcl_X8_sheet : Nat → Nat := fun lab => match lab with
  | 0 => 0
  | 1 => 73
  | _ => 0
def lvl_X8_sheet (ad : Nat → Nat) (v1 : Int32) (v2 : Int32) (v3 : Int32) : Nat → Int32 → List (Nat × Value) := fun lab v4 => match lab with
  | 0 => [(0, .ref (ad 0)), (1, .int v1), (2, .int v2), (3, .int v3)]
  | 1 => [(0, .ref (ad 0)), (1, .int v1), (3, .int v3), (4, .int v4)]
  | _ => []
abbrev rm_X8_sheet : Jvm.Room := { frames := 2, cells := 0, slots := 0, locals := 42 }
set_option maxHeartbeats 4000000 in
set_option maxRecDepth 100000 in
theorem ct_X8_sheet (l : Launch) (D : va_G) (cy : Nat → ClassId) (ad : Nat → Nat) (B : Nat → Prop) (v1 : Int32) (v2 : Int32) (v3 : Int32) (M : Mem) (Q : Int32 → Mem → Prop) (h : wp_X8_sheet v1 v2 v3 M Q) : CTi l D cy (wR ad cy) B yX8_sheet wsX8_sheet rm_X8_sheet [.ref (ad 0), .int v1, .int v2, .int v3] M Q := by
  intro sz
  refine Met.ofW (cc := cX8_sheet) (maxL := 5) (ret := some .int) (by decide) rfl ?_
  intro p e s m args below meth c s₁ Bd hml hv
  obtain ⟨hargs, hsz, hP, hK, hD⟩ := hv
  subst hsz
  have hx := Bd.exec
  have hb := Bd.bytes
  have hr := Bd.returns
  have hts := atoms_spec (ws := wsX8_sheet) Bd.pre
  have hown : s.vm.findClass RX8 = some m.cls := findClass_of_methodNamed Bd.named
  have hlocks := Bd.notSynchronized
  have hC8 : xC wsX8_sheet 8 RX8 TX8 34 := ⟨by decide +kernel, rfl⟩
  have key : ∀ (P : Nat → Int32 → Mem → Prop), (∀ (lab : Nat) (v4 : Int32) (M : Mem), P lab v4 M → ∀ (H : Heap) (locs : List Loc) (ls : Array Slot), xS D (wR ad cy) B s.heap H locs M → lv_has ls 5 (lvl_X8_sheet ad v1 v2 v3 lab v4 ) → W p l e (headSpec wsX8_sheet rm_X8_sheet).room s m args below meth c H locs 0 0 (MQ below (va_Qi (S := Mem) Q (xB D (wR ad cy) B) (xA B s.heap.size)) args s 0 0 (xA B s.heap.size)) (F0 m (pcl_X8_sheet lab) ls [])) → ∀ (lab : Nat) (v4 : Int32) (M : Mem), blk_X8_sheet v1 v2 v3 Q P lab v4 M → ∀ (H : Heap) (locs : List Loc) (ls : Array Slot), xS D (wR ad cy) B s.heap H locs M → lv_has ls 5 (lvl_X8_sheet ad v1 v2 v3 lab v4 ) → W p l e (headSpec wsX8_sheet rm_X8_sheet).room s m args below meth c H locs 0 0 (MQ below (va_Qi (S := Mem) Q (xB D (wR ad cy) B) (xA B s.heap.size)) args s 0 0 (xA B s.heap.size)) (F0 m (pcl_X8_sheet lab) ls []) := by
    intro P hJ lab v4 M h H locs ls S hl
    match lab, h, hl with
    | 0, h, hl =>
      have hl : lv_has ls 5 [(0, .ref (ad 0)), (1, .int v1), (2, .int v2), (3, .int v3)] := hl
      have h : blk_X8_sheet_0 v1 v2 v3 Q P v4 M := h
      unfold blk_X8_sheet_0 at h
      refine W.eq (g2 := F0 m 0 ls []) rfl ?_
      refine lv_aload_n hx hb dX8_sheet_0 rfl (lv_at hl 0 rfl) ?_
      refine lv_iconst (v := 0) hx hb dX8_sheet_1 (by decide) ?_
      refine x_putI hx hb hts (hC8) tyX8 tyX8_ok nmX8 hown hK S 0 (by decide) rf_0_0 (index := 74) (hts _ (List.mem_of_getElem? (i := 1) rfl)) rfl rfl rfl dX8_sheet_2 (fun H locs S => ?_)
      refine lv_iload_n hx hb dX8_sheet_5 rfl (lv_at hl 1 rfl) ?_
      refine lv_i2l (v := v1.toInt64) hx hb dX8_sheet_6 rfl ?_
      refine lv_lconst (v := 0) hx hb dX8_sheet_7 rfl ?_
      refine lv_ldc2 (v := 3) hx hb hown (hts _ (List.mem_of_getElem? (i := 2) rfl)) dX8_sheet_8 ?_
      refine x_callSi (As := [.long v1.toInt64, .long (0 : Int64), .long (3 : Int64)]) ⟨hx, hb, hml, hown, hts⟩ hK S (ct_X8_in l D cy ad B _ _ _ _ _ h) (va_cwS 3 hts gX8_sheet_X8_in rfl rfl rfl (by decide +kernel) ⟨Nat.le_of_ble_eq_true rfl, Nat.le_of_ble_eq_true rfl⟩) rfl hl.1 rfl (Nat.le_of_ble_eq_true rfl) dX8_sheet_11 ⟨Nat.zero_le _, Nat.zero_le _⟩ (fun r1 M1 H locs h S => ?_)
      refine lv_if_ne (tgt := 24) hx hb dX8_sheet_14 (by decide) (fun c14 => ?_) (fun c14 => ?_)
      · replace h := h.1 c14
        refine lv_iload_n hx hb dX8_sheet_24 rfl (lv_at hl 2 rfl) ?_
        refine lv_i2l (v := v2.toInt64) hx hb dX8_sheet_25 rfl ?_
        refine lv_lconst (v := 0) hx hb dX8_sheet_26 rfl ?_
        refine lv_ldc2 (v := 3) hx hb hown (hts _ (List.mem_of_getElem? (i := 2) rfl)) dX8_sheet_27 ?_
        refine x_callSi (As := [.long v2.toInt64, .long (0 : Int64), .long (3 : Int64)]) ⟨hx, hb, hml, hown, hts⟩ hK S (ct_X8_in l D cy ad B _ _ _ _ _ h) (va_cwS 3 hts gX8_sheet_X8_in rfl rfl rfl (by decide +kernel) ⟨Nat.le_of_ble_eq_true rfl, Nat.le_of_ble_eq_true rfl⟩) rfl hl.1 rfl (Nat.le_of_ble_eq_true rfl) dX8_sheet_30 ⟨Nat.zero_le _, Nat.zero_le _⟩ (fun r2 M2 H locs h S => ?_)
        refine lv_if_eq (tgt := 42) hx hb dX8_sheet_33 (by decide) (fun c33 => ?_) (fun c33 => ?_)
        · replace h := h.1 c33
          refine lv_bipush (v := (-2)) hx hb dX8_sheet_42 (by decide) ?_
          exact x_iret hx hb hr hlocks S rfl h dX8_sheet_44
        · replace h := h.2 c33
          refine lv_iload_n hx hb dX8_sheet_36 rfl (lv_at hl 3 rfl) ?_
          refine lv_bipush (v := 20) hx hb dX8_sheet_37 (by decide) ?_
          refine lv_icmp_le (tgt := 45) hx hb dX8_sheet_39 (by decide) (fun c39 => ?_) (fun c39 => ?_)
          · replace h := h.1 c39
            refine lv_iload_n hx hb dX8_sheet_45 rfl (lv_at hl 3 rfl) ?_
            refine lv_if_ge (tgt := 56) hx hb dX8_sheet_46 (by decide) (fun c46 => ?_) (fun c46 => ?_)
            · replace h := h.1 c46
              refine lv_aload_n hx hb dX8_sheet_56 rfl (lv_at hl 0 rfl) ?_
              refine x_getR hx hb hts (hC8) hown hK S 1 (by decide) rf_0_1 (index := 7) (hts _ (List.mem_of_getElem? (i := 3) rfl)) dX8_sheet_57 ?_
              refine lv_iload_n hx hb dX8_sheet_60 rfl (lv_at hl 1 rfl) ?_
              refine lv_iload_n hx hb dX8_sheet_61 rfl (lv_at hl 3 rfl) ?_
              refine x_iast hx hb hK S ra_1 h.1 dX8_sheet_62 (fun H locs S => ?_)
              replace h := h.2
              refine lv_aload_n hx hb dX8_sheet_63 rfl (lv_at hl 0 rfl) ?_
              refine x_getR hx hb hts (hC8) hown hK S 2 (by decide) rf_0_2 (index := 13) (hts _ (List.mem_of_getElem? (i := 4) rfl)) dX8_sheet_64 ?_
              refine lv_iload_n hx hb dX8_sheet_67 rfl (lv_at hl 1 rfl) ?_
              refine lv_iload_n hx hb dX8_sheet_68 rfl (lv_at hl 2 rfl) ?_
              refine x_iast hx hb hK S ra_2 h.1 dX8_sheet_69 (fun H locs S => ?_)
              replace h := h.2
              refine lv_iconst (v := 0) hx hb dX8_sheet_70 (by decide) ?_
              refine lv_istore (lv' := [(4, .int 0), (0, .ref (ad 0)), (1, .int v1), (2, .int v2), (3, .int v3)]) hx hb dX8_sheet_71 hl (by decide) rfl (fun ls hl => ?_)
              exact hJ _ _ _ h _ _ _ S (lv_sub hl [1, 2, 4, 0] rfl)
            · replace h := h.2 c46
              refine lv_aload_n hx hb dX8_sheet_49 rfl (lv_at hl 0 rfl) ?_
              refine lv_bipush (v := (-14)) hx hb dX8_sheet_50 (by decide) ?_
              refine x_callVi (As := [.int (-14)]) ⟨hx, hb, hml, hown, hts⟩ hK S (ct_X8_finds l D cy ad B _ _ _ h) ro_0 rfl (cwV 1 hts gX8_sheet_X8_finds rfl rfl rfl (by decide +kernel) ⟨Nat.le_of_ble_eq_true rfl, Nat.le_of_ble_eq_true rfl⟩) rfl hl.1 rfl (Nat.le_of_ble_eq_true rfl) dX8_sheet_52 ⟨Nat.zero_le _, Nat.zero_le _⟩ (fun r3 M3 H locs h S => ?_)
              exact x_iret hx hb hr hlocks S rfl h dX8_sheet_55
          · replace h := h.2 c39
            refine lv_bipush (v := (-2)) hx hb dX8_sheet_42 (by decide) ?_
            exact x_iret hx hb hr hlocks S rfl h dX8_sheet_44
      · replace h := h.2 c14
        refine lv_aload_n hx hb dX8_sheet_17 rfl (lv_at hl 0 rfl) ?_
        refine lv_bipush (v := (-12)) hx hb dX8_sheet_18 (by decide) ?_
        refine x_callVi (As := [.int (-12)]) ⟨hx, hb, hml, hown, hts⟩ hK S (ct_X8_finds l D cy ad B _ _ _ h) ro_0 rfl (cwV 1 hts gX8_sheet_X8_finds rfl rfl rfl (by decide +kernel) ⟨Nat.le_of_ble_eq_true rfl, Nat.le_of_ble_eq_true rfl⟩) rfl hl.1 rfl (Nat.le_of_ble_eq_true rfl) dX8_sheet_20 ⟨Nat.zero_le _, Nat.zero_le _⟩ (fun r4 M4 H locs h S => ?_)
        exact x_iret hx hb hr hlocks S rfl h dX8_sheet_23
    | 1, h, hl =>
      have hl : lv_has ls 5 [(0, .ref (ad 0)), (1, .int v1), (3, .int v3), (4, .int v4)] := hl
      have h : blk_X8_sheet_1 v1 v2 v3 Q P v4 M := h
      unfold blk_X8_sheet_1 at h
      refine W.eq (g2 := F0 m 73 ls []) rfl ?_
      refine lv_iload hx hb dX8_sheet_73 (lv_at hl 3 rfl) ?_
      refine lv_iload_n hx hb dX8_sheet_75 rfl (lv_at hl 2 rfl) ?_
      refine lv_icmp_ge (tgt := 98) hx hb dX8_sheet_76 (by decide) (fun c76 => ?_) (fun c76 => ?_)
      · replace h := h.1 c76
        refine lv_iload_n hx hb dX8_sheet_98 rfl (lv_at hl 2 rfl) ?_
        exact x_iret hx hb hr hlocks S rfl h dX8_sheet_99
      · replace h := h.2 c76
        refine lv_aload_n hx hb dX8_sheet_79 rfl (lv_at hl 0 rfl) ?_
        refine x_getR hx hb hts (hC8) hown hK S 3 (by decide) rf_0_3 (index := 16) (hts _ (List.mem_of_getElem? (i := 5) rfl)) dX8_sheet_80 ?_
        refine lv_bipush (v := 20) hx hb dX8_sheet_83 (by decide) ?_
        refine lv_iload_n hx hb dX8_sheet_85 rfl (lv_at hl 1 rfl) ?_
        refine lv_imul hx hb dX8_sheet_86 ?_
        refine lv_iload hx hb dX8_sheet_87 (lv_at hl 3 rfl) ?_
        refine lv_iadd hx hb dX8_sheet_89 ?_
        refine lv_lconst (v := 0) hx hb dX8_sheet_90 rfl ?_
        refine x_last hx hb hK S ra_3 h.1 dX8_sheet_91 (fun H locs S => ?_)
        replace h := h.2
        refine lv_iinc (v := (v4 + 1)) (lv' := [(4, .int (v4 + 1)), (0, .ref (ad 0)), (1, .int v1), (3, .int v3)]) hx hb dX8_sheet_92 hl (k := 3) rfl rfl (by decide) rfl (fun ls hl => ?_)
        refine lv_goto (tgt := 73) hx hb dX8_sheet_95 (by decide) ?_
        exact hJ _ _ _ h _ _ _ S (lv_sub hl [1, 2, 3, 0] rfl)
    | _ + 2, h, hl => exact h.elim
  have hl := lv_entry ([.ref (ad 0), .int v1, .int v2, .int v3]) (n := 5) (Nat.le_of_ble_eq_true rfl)
  subst hargs
  rw [lg_entry_eq]
  generalize (lg_sl ([.ref (ad 0), .int v1, .int v2, .int v3]) ++ List.replicate (5 - (lg_sl ([.ref (ad 0), .int v1, .int v2, .int v3])).length) Slot.unset).toArray = ls at hl ⊢
  exact h _ (key _ (fun _ _ _ h => h)) s.heap [] ls ⟨hP, hD, va_S.rf⟩ hl
/-! X8_tear -/
def blk_X8_tear_0 (v1 : Int32) (Q : Int32 → Mem → Prop) (P : Nat → Int32 → Mem → Prop) (v2 : Int32) (M : Mem) : Prop :=
  wp_X8_in v1.toInt64 (0 : Int64) (3 : Int64) (upI M 0 0 0) (fun r1 M1 => ((¬ r1 = 0 → (vp_in v1 4 ∧ ((0 ≤ (M1.1 1 v1.toNatClampNeg) → P 1 0 M1) ∧ (¬ 0 ≤ (M1.1 1 v1.toNatClampNeg) → P 1 1 M1)))) ∧ (r1 = 0 → wp_X8_finds (-12) M1 (fun r2 M2 => Q r2 M2))))
theorem blk_X8_tear_0_mono {v1 : Int32} {Q Q' : Int32 → Mem → Prop} {P P' : Nat → Int32 → Mem → Prop} (hQ : ∀ (r : Int32) (M : Mem), Q r M → Q' r M) (hP : ∀ (lab : Nat) (v2 : Int32) (M : Mem), P lab v2 M → P' lab v2 M) (v2 : Int32) (M : Mem) (h : blk_X8_tear_0 v1 Q P v2 M) : blk_X8_tear_0 v1 Q' P' v2 M := by
  unfold blk_X8_tear_0 at h ⊢
  exact wp_X8_in_mono (fun r1 M1 h => ⟨fun c => let h := h.1 c; ⟨h.1, let h := h.2; ⟨fun c => let h := h.1 c; hP _ _ _ h, fun c => let h := h.2 c; hP _ _ _ h⟩⟩, fun c => let h := h.2 c; wp_X8_finds_mono (fun r2 M2 h => hQ _ _ h) h⟩) h
def blk_X8_tear_1 (v1 : Int32) (Q : Int32 → Mem → Prop) (P : Nat → Int32 → Mem → Prop) (v2 : Int32) (M : Mem) : Prop :=
  (vp_in v1 4 ∧ Q v2 (upI M 1 v1.toNatClampNeg (-1)))
theorem blk_X8_tear_1_mono {v1 : Int32} {Q Q' : Int32 → Mem → Prop} {P P' : Nat → Int32 → Mem → Prop} (hQ : ∀ (r : Int32) (M : Mem), Q r M → Q' r M) (hP : ∀ (lab : Nat) (v2 : Int32) (M : Mem), P lab v2 M → P' lab v2 M) (v2 : Int32) (M : Mem) (h : blk_X8_tear_1 v1 Q P v2 M) : blk_X8_tear_1 v1 Q' P' v2 M := by
  unfold blk_X8_tear_1 at h ⊢
  exact ⟨h.1, let h := h.2; hQ _ _ h⟩
def blk_X8_tear (v1 : Int32) (Q : Int32 → Mem → Prop) (P : Nat → Int32 → Mem → Prop) : Nat → Int32 → Mem → Prop := fun lab v2 M => match lab with
  | 0 => blk_X8_tear_0 v1 Q P v2 M
  | 1 => blk_X8_tear_1 v1 Q P v2 M
  | _ => False
theorem blk_X8_tear_mono {v1 : Int32} {Q Q' : Int32 → Mem → Prop} {P P' : Nat → Int32 → Mem → Prop} (hQ : ∀ (r : Int32) (M : Mem), Q r M → Q' r M) (hP : ∀ (lab : Nat) (v2 : Int32) (M : Mem), P lab v2 M → P' lab v2 M) : ∀ (lab : Nat) (v2 : Int32) (M : Mem), blk_X8_tear v1 Q P lab v2 M → blk_X8_tear v1 Q' P' lab v2 M := fun lab v2 M h => match lab, h with
  | 0, h => blk_X8_tear_0_mono (v1 := v1) hQ hP v2 M h
  | 1, h => blk_X8_tear_1_mono (v1 := v1) hQ hP v2 M h
  | _ + 2, h => False.elim h
def at_X8_tear (v1 : Int32) (Q : Int32 → Mem → Prop) : Nat → Int32 → Mem → Prop := fun lab v2 M => ∀ P : Nat → Int32 → Mem → Prop, (∀ (lab : Nat) (v2 : Int32) (M : Mem), blk_X8_tear v1 Q P lab v2 M → P lab v2 M) → P lab v2 M
theorem at_X8_tear_fold {v1 : Int32} {Q : Int32 → Mem → Prop} {lab : Nat} {v2 : Int32} {M : Mem} (h : blk_X8_tear v1 Q (at_X8_tear v1 Q) lab v2 M) : at_X8_tear v1 Q lab v2 M := fun P hP => hP _ _ _ (blk_X8_tear_mono (fun _ _ h => h) (fun _ _ _ h => h P hP) _ _ _ h)
theorem at_X8_tear_mono {v1 : Int32} {Q Q' : Int32 → Mem → Prop} (hQ : ∀ (r : Int32) (M : Mem), Q r M → Q' r M) {lab : Nat} {v2 : Int32} {M : Mem} (h : at_X8_tear v1 Q lab v2 M) : at_X8_tear v1 Q' lab v2 M := fun P hP => h P (fun lab v2 M hb => hP _ _ _ (blk_X8_tear_mono hQ (fun _ _ _ h => h) _ _ _ hb))
def wp_X8_tear (v1 : Int32) (M : Mem) (Q : Int32 → Mem → Prop) : Prop := at_X8_tear v1 Q 0 0 M
theorem wp_X8_tear_mono {v1 : Int32} {M : Mem} {Q Q' : Int32 → Mem → Prop} (hQ : ∀ (r : Int32) (M : Mem), Q r M → Q' r M) (h : wp_X8_tear v1 M Q) : wp_X8_tear v1 M Q' := at_X8_tear_mono hQ h
def pcl_X8_tear : Nat → Nat := fun lab => match lab with
  | 0 => 0
  | 1 => 39
  | _ => 0
def lvl_X8_tear (ad : Nat → Nat) (v1 : Int32) : Nat → Int32 → List (Nat × Value) := fun lab v2 => match lab with
  | 0 => [(0, .ref (ad 0)), (1, .int v1)]
  | 1 => [(0, .ref (ad 0)), (1, .int v1), (2, .int v2)]
  | _ => []
abbrev rm_X8_tear : Jvm.Room := { frames := 2, cells := 0, slots := 0, locals := 42 }
set_option maxHeartbeats 4000000 in
set_option maxRecDepth 100000 in
theorem ct_X8_tear (l : Launch) (D : va_G) (cy : Nat → ClassId) (ad : Nat → Nat) (B : Nat → Prop) (v1 : Int32) (M : Mem) (Q : Int32 → Mem → Prop) (h : wp_X8_tear v1 M Q) : CTi l D cy (wR ad cy) B yX8_tear wsX8_tear rm_X8_tear [.ref (ad 0), .int v1] M Q := by
  intro sz
  refine Met.ofW (cc := cX8_tear) (maxL := 3) (ret := some .int) (by decide) rfl ?_
  intro p e s m args below meth c s₁ Bd hml hv
  obtain ⟨hargs, hsz, hP, hK, hD⟩ := hv
  subst hsz
  have hx := Bd.exec
  have hb := Bd.bytes
  have hr := Bd.returns
  have hts := atoms_spec (ws := wsX8_tear) Bd.pre
  have hown : s.vm.findClass RX8 = some m.cls := findClass_of_methodNamed Bd.named
  have hlocks := Bd.notSynchronized
  have hC8 : xC wsX8_tear 8 RX8 TX8 34 := ⟨by decide +kernel, rfl⟩
  have key : ∀ (P : Nat → Int32 → Mem → Prop), (∀ (lab : Nat) (v2 : Int32) (M : Mem), P lab v2 M → ∀ (H : Heap) (locs : List Loc) (ls : Array Slot), xS D (wR ad cy) B s.heap H locs M → lv_has ls 3 (lvl_X8_tear ad v1 lab v2 ) → W p l e (headSpec wsX8_tear rm_X8_tear).room s m args below meth c H locs 0 0 (MQ below (va_Qi (S := Mem) Q (xB D (wR ad cy) B) (xA B s.heap.size)) args s 0 0 (xA B s.heap.size)) (F0 m (pcl_X8_tear lab) ls [])) → ∀ (lab : Nat) (v2 : Int32) (M : Mem), blk_X8_tear v1 Q P lab v2 M → ∀ (H : Heap) (locs : List Loc) (ls : Array Slot), xS D (wR ad cy) B s.heap H locs M → lv_has ls 3 (lvl_X8_tear ad v1 lab v2 ) → W p l e (headSpec wsX8_tear rm_X8_tear).room s m args below meth c H locs 0 0 (MQ below (va_Qi (S := Mem) Q (xB D (wR ad cy) B) (xA B s.heap.size)) args s 0 0 (xA B s.heap.size)) (F0 m (pcl_X8_tear lab) ls []) := by
    intro P hJ lab v2 M h H locs ls S hl
    match lab, h, hl with
    | 0, h, hl =>
      have hl : lv_has ls 3 [(0, .ref (ad 0)), (1, .int v1)] := hl
      have h : blk_X8_tear_0 v1 Q P v2 M := h
      unfold blk_X8_tear_0 at h
      refine W.eq (g2 := F0 m 0 ls []) rfl ?_
      refine lv_aload_n hx hb dX8_tear_0 rfl (lv_at hl 0 rfl) ?_
      refine lv_iconst (v := 0) hx hb dX8_tear_1 (by decide) ?_
      refine x_putI hx hb hts (hC8) tyX8 tyX8_ok nmX8 hown hK S 0 (by decide) rf_0_0 (index := 74) (hts _ (List.mem_of_getElem? (i := 1) rfl)) rfl rfl rfl dX8_tear_2 (fun H locs S => ?_)
      refine lv_iload_n hx hb dX8_tear_5 rfl (lv_at hl 1 rfl) ?_
      refine lv_i2l (v := v1.toInt64) hx hb dX8_tear_6 rfl ?_
      refine lv_lconst (v := 0) hx hb dX8_tear_7 rfl ?_
      refine lv_ldc2 (v := 3) hx hb hown (hts _ (List.mem_of_getElem? (i := 2) rfl)) dX8_tear_8 ?_
      refine x_callSi (As := [.long v1.toInt64, .long (0 : Int64), .long (3 : Int64)]) ⟨hx, hb, hml, hown, hts⟩ hK S (ct_X8_in l D cy ad B _ _ _ _ _ h) (va_cwS 3 hts gX8_tear_X8_in rfl rfl rfl (by decide +kernel) ⟨Nat.le_of_ble_eq_true rfl, Nat.le_of_ble_eq_true rfl⟩) rfl hl.1 rfl (Nat.le_of_ble_eq_true rfl) dX8_tear_11 ⟨Nat.zero_le _, Nat.zero_le _⟩ (fun r1 M1 H locs h S => ?_)
      refine lv_if_ne (tgt := 24) hx hb dX8_tear_14 (by decide) (fun c14 => ?_) (fun c14 => ?_)
      · replace h := h.1 c14
        refine lv_aload_n hx hb dX8_tear_24 rfl (lv_at hl 0 rfl) ?_
        refine x_getR hx hb hts (hC8) hown hK S 1 (by decide) rf_0_1 (index := 7) (hts _ (List.mem_of_getElem? (i := 3) rfl)) dX8_tear_25 ?_
        refine lv_iload_n hx hb dX8_tear_28 rfl (lv_at hl 1 rfl) ?_
        refine x_iald hx hb hK S ra_1 h.1 dX8_tear_29 ?_
        replace h := h.2
        refine lv_if_ge (tgt := 37) hx hb dX8_tear_30 (by decide) (fun c30 => ?_) (fun c30 => ?_)
        · replace h := h.1 c30
          refine lv_iconst (v := 0) hx hb dX8_tear_37 (by decide) ?_
          refine lv_istore_n (lv' := [(2, .int 0), (0, .ref (ad 0)), (1, .int v1)]) hx hb dX8_tear_38 rfl hl (by decide) rfl (fun ls hl => ?_)
          exact hJ _ _ _ h _ _ _ S (lv_sub hl [1, 2, 0] rfl)
        · replace h := h.2 c30
          refine lv_iconst (v := 1) hx hb dX8_tear_33 (by decide) ?_
          refine lv_goto (tgt := 38) hx hb dX8_tear_34 (by decide) ?_
          refine lv_istore_n (lv' := [(2, .int 1), (0, .ref (ad 0)), (1, .int v1)]) hx hb dX8_tear_38 rfl hl (by decide) rfl (fun ls hl => ?_)
          exact hJ _ _ _ h _ _ _ S (lv_sub hl [1, 2, 0] rfl)
      · replace h := h.2 c14
        refine lv_aload_n hx hb dX8_tear_17 rfl (lv_at hl 0 rfl) ?_
        refine lv_bipush (v := (-12)) hx hb dX8_tear_18 (by decide) ?_
        refine x_callVi (As := [.int (-12)]) ⟨hx, hb, hml, hown, hts⟩ hK S (ct_X8_finds l D cy ad B _ _ _ h) ro_0 rfl (cwV 1 hts gX8_tear_X8_finds rfl rfl rfl (by decide +kernel) ⟨Nat.le_of_ble_eq_true rfl, Nat.le_of_ble_eq_true rfl⟩) rfl hl.1 rfl (Nat.le_of_ble_eq_true rfl) dX8_tear_20 ⟨Nat.zero_le _, Nat.zero_le _⟩ (fun r2 M2 H locs h S => ?_)
        exact x_iret hx hb hr hlocks S rfl h dX8_tear_23
    | 1, h, hl =>
      have hl : lv_has ls 3 [(0, .ref (ad 0)), (1, .int v1), (2, .int v2)] := hl
      have h : blk_X8_tear_1 v1 Q P v2 M := h
      unfold blk_X8_tear_1 at h
      refine W.eq (g2 := F0 m 39 ls []) rfl ?_
      refine lv_aload_n hx hb dX8_tear_39 rfl (lv_at hl 0 rfl) ?_
      refine x_getR hx hb hts (hC8) hown hK S 1 (by decide) rf_0_1 (index := 7) (hts _ (List.mem_of_getElem? (i := 3) rfl)) dX8_tear_40 ?_
      refine lv_iload_n hx hb dX8_tear_43 rfl (lv_at hl 1 rfl) ?_
      refine lv_iconst (v := (-1)) hx hb dX8_tear_44 (by decide) ?_
      refine x_iast hx hb hK S ra_1 h.1 dX8_tear_45 (fun H locs S => ?_)
      replace h := h.2
      refine lv_iload_n hx hb dX8_tear_46 rfl (lv_at hl 2 rfl) ?_
      exact x_iret hx hb hr hlocks S rfl h dX8_tear_47
    | _ + 2, h, hl => exact h.elim
  have hl := lv_entry ([.ref (ad 0), .int v1]) (n := 3) (Nat.le_of_ble_eq_true rfl)
  subst hargs
  rw [lg_entry_eq]
  generalize (lg_sl ([.ref (ad 0), .int v1]) ++ List.replicate (3 - (lg_sl ([.ref (ad 0), .int v1])).length) Slot.unset).toArray = ls at hl ⊢
  exact h _ (key _ (fun _ _ _ h => h)) s.heap [] ls ⟨hP, hD, va_S.rf⟩ hl
/-! X8_put -/
def wp_X8_put (v1 : Int32) (v2 : Int32) (v3 : Int64) (M : Mem) (Q : Int32 → Mem → Prop) : Prop :=
  wp_X8_in v1.toInt64 (0 : Int64) (3 : Int64) (upI M 0 0 0) (fun r1 M1 => ((¬ r1 = 0 → (vp_in v1 4 ∧ ((0 ≤ (M1.1 1 v1.toNatClampNeg) → (vp_in v1 4 ∧ wp_X8_in v2.toInt64 (0 : Int64) (((M1.1 1 v1.toNatClampNeg) - 1).toInt64) M1 (fun r2 M2 => ((¬ r2 = 0 → (vp_in v1 4 ∧ ((¬ (M2.1 2 v1.toNatClampNeg) = 0 → (vp_in v1 4 ∧ ((¬ (M2.1 2 v1.toNatClampNeg) = 1 → (vp_in v1 4 ∧ ((¬ (M2.1 2 v1.toNatClampNeg) = 2 → (vp_in ((20 * v1) + v2) 80 ∧ Q 1 (upJ M2 3 ((20 * v1) + v2).toNatClampNeg v3))) ∧ ((M2.1 2 v1.toNatClampNeg) = 2 → (vp_in ((20 * v1) + v2) 80 ∧ Q 1 (upJ M2 3 ((20 * v1) + v2).toNatClampNeg v3.toInt32.toInt64)))))) ∧ ((M2.1 2 v1.toNatClampNeg) = 1 → (vp_in ((20 * v1) + v2) 80 ∧ Q 1 (upJ M2 3 ((20 * v1) + v2).toNatClampNeg v3.toInt32.toInt16.toInt32.toInt64)))))) ∧ ((M2.1 2 v1.toNatClampNeg) = 0 → (vp_in ((20 * v1) + v2) 80 ∧ Q 1 (upJ M2 3 ((20 * v1) + v2).toNatClampNeg v3.toInt32.toInt8.toInt32.toInt64)))))) ∧ (r2 = 0 → wp_X8_finds (-12) M2 (fun r3 M3 => Q r3 M3)))))) ∧ (¬ 0 ≤ (M1.1 1 v1.toNatClampNeg) → wp_X8_finds (-11) M1 (fun r4 M4 => Q r4 M4))))) ∧ (r1 = 0 → wp_X8_finds (-12) M1 (fun r5 M5 => Q r5 M5))))
theorem wp_X8_put_mono {v1 : Int32} {v2 : Int32} {v3 : Int64} {M : Mem} {Q Q' : Int32 → Mem → Prop} (hQ : ∀ (r : Int32) (M : Mem), Q r M → Q' r M) (h : wp_X8_put v1 v2 v3 M Q) : wp_X8_put v1 v2 v3 M Q' := by
  unfold wp_X8_put at h ⊢
  exact wp_X8_in_mono (fun r1 M1 h => ⟨fun c => let h := h.1 c; ⟨h.1, let h := h.2; ⟨fun c => let h := h.1 c; ⟨h.1, let h := h.2; wp_X8_in_mono (fun r2 M2 h => ⟨fun c => let h := h.1 c; ⟨h.1, let h := h.2; ⟨fun c => let h := h.1 c; ⟨h.1, let h := h.2; ⟨fun c => let h := h.1 c; ⟨h.1, let h := h.2; ⟨fun c => let h := h.1 c; ⟨h.1, let h := h.2; hQ _ _ h⟩, fun c => let h := h.2 c; ⟨h.1, let h := h.2; hQ _ _ h⟩⟩⟩, fun c => let h := h.2 c; ⟨h.1, let h := h.2; hQ _ _ h⟩⟩⟩, fun c => let h := h.2 c; ⟨h.1, let h := h.2; hQ _ _ h⟩⟩⟩, fun c => let h := h.2 c; wp_X8_finds_mono (fun r3 M3 h => hQ _ _ h) h⟩) h⟩, fun c => let h := h.2 c; wp_X8_finds_mono (fun r4 M4 h => hQ _ _ h) h⟩⟩, fun c => let h := h.2 c; wp_X8_finds_mono (fun r5 M5 h => hQ _ _ h) h⟩) h
abbrev rm_X8_put : Jvm.Room := { frames := 2, cells := 0, slots := 0, locals := 42 }
set_option maxHeartbeats 4000000 in
set_option maxRecDepth 100000 in
theorem ct_X8_put (l : Launch) (D : va_G) (cy : Nat → ClassId) (ad : Nat → Nat) (B : Nat → Prop) (v1 : Int32) (v2 : Int32) (v3 : Int64) (M : Mem) (Q : Int32 → Mem → Prop) (h : wp_X8_put v1 v2 v3 M Q) : CTi l D cy (wR ad cy) B yX8_put wsX8_put rm_X8_put [.ref (ad 0), .int v1, .int v2, .long v3] M Q := by
  intro sz
  refine Met.ofW (cc := cX8_put) (maxL := 5) (ret := some .int) (by decide) rfl ?_
  intro p e s m args below meth c s₁ Bd hml hv
  obtain ⟨hargs, hsz, hP, hK, hD⟩ := hv
  subst hsz
  have hx := Bd.exec
  have hb := Bd.bytes
  have hr := Bd.returns
  have hts := atoms_spec (ws := wsX8_put) Bd.pre
  have hown : s.vm.findClass RX8 = some m.cls := findClass_of_methodNamed Bd.named
  have hlocks := Bd.notSynchronized
  have hC8 : xC wsX8_put 8 RX8 TX8 34 := ⟨by decide +kernel, rfl⟩
  have hl := lv_entry ([.ref (ad 0), .int v1, .int v2, .long v3]) (n := 5) (Nat.le_of_ble_eq_true rfl)
  subst hargs
  rw [lg_entry_eq]
  generalize (lg_sl ([.ref (ad 0), .int v1, .int v2, .long v3]) ++ List.replicate (5 - (lg_sl ([.ref (ad 0), .int v1, .int v2, .long v3])).length) Slot.unset).toArray = ls at hl ⊢
  have hl : lv_has ls 5 [(0, .ref (ad 0)), (1, .int v1), (2, .int v2), (3, .long v3)] := hl
  have S : xS D (wR ad cy) B s.heap s.heap [] M := ⟨hP, hD, va_S.rf⟩
  unfold wp_X8_put at h
  refine lv_aload_n hx hb dX8_put_0 rfl (lv_at hl 0 rfl) ?_
  refine lv_iconst (v := 0) hx hb dX8_put_1 (by decide) ?_
  refine x_putI hx hb hts (hC8) tyX8 tyX8_ok nmX8 hown hK S 0 (by decide) rf_0_0 (index := 74) (hts _ (List.mem_of_getElem? (i := 1) rfl)) rfl rfl rfl dX8_put_2 (fun H locs S => ?_)
  refine lv_iload_n hx hb dX8_put_5 rfl (lv_at hl 1 rfl) ?_
  refine lv_i2l (v := v1.toInt64) hx hb dX8_put_6 rfl ?_
  refine lv_lconst (v := 0) hx hb dX8_put_7 rfl ?_
  refine lv_ldc2 (v := 3) hx hb hown (hts _ (List.mem_of_getElem? (i := 2) rfl)) dX8_put_8 ?_
  refine x_callSi (As := [.long v1.toInt64, .long (0 : Int64), .long (3 : Int64)]) ⟨hx, hb, hml, hown, hts⟩ hK S (ct_X8_in l D cy ad B _ _ _ _ _ h) (va_cwS 3 hts gX8_put_X8_in rfl rfl rfl (by decide +kernel) ⟨Nat.le_of_ble_eq_true rfl, Nat.le_of_ble_eq_true rfl⟩) rfl hl.1 rfl (Nat.le_of_ble_eq_true rfl) dX8_put_11 ⟨Nat.zero_le _, Nat.zero_le _⟩ (fun r1 M1 H locs h S => ?_)
  refine lv_if_ne (tgt := 24) hx hb dX8_put_14 (by decide) (fun c14 => ?_) (fun c14 => ?_)
  · replace h := h.1 c14
    refine lv_aload_n hx hb dX8_put_24 rfl (lv_at hl 0 rfl) ?_
    refine x_getR hx hb hts (hC8) hown hK S 1 (by decide) rf_0_1 (index := 7) (hts _ (List.mem_of_getElem? (i := 3) rfl)) dX8_put_25 ?_
    refine lv_iload_n hx hb dX8_put_28 rfl (lv_at hl 1 rfl) ?_
    refine x_iald hx hb hK S ra_1 h.1 dX8_put_29 ?_
    replace h := h.2
    refine lv_if_ge (tgt := 40) hx hb dX8_put_30 (by decide) (fun c30 => ?_) (fun c30 => ?_)
    · replace h := h.1 c30
      refine lv_iload_n hx hb dX8_put_40 rfl (lv_at hl 2 rfl) ?_
      refine lv_i2l (v := v2.toInt64) hx hb dX8_put_41 rfl ?_
      refine lv_lconst (v := 0) hx hb dX8_put_42 rfl ?_
      refine lv_aload_n hx hb dX8_put_43 rfl (lv_at hl 0 rfl) ?_
      refine x_getR hx hb hts (hC8) hown hK S 1 (by decide) rf_0_1 (index := 7) (hts _ (List.mem_of_getElem? (i := 3) rfl)) dX8_put_44 ?_
      refine lv_iload_n hx hb dX8_put_47 rfl (lv_at hl 1 rfl) ?_
      refine x_iald hx hb hK S ra_1 h.1 dX8_put_48 ?_
      replace h := h.2
      refine lv_iconst (v := 1) hx hb dX8_put_49 (by decide) ?_
      refine lv_isub hx hb dX8_put_50 ?_
      refine lv_i2l (v := ((M1.1 1 v1.toNatClampNeg) - 1).toInt64) hx hb dX8_put_51 rfl ?_
      refine x_callSi (As := [.long v2.toInt64, .long (0 : Int64), .long (((M1.1 1 v1.toNatClampNeg) - 1).toInt64)]) ⟨hx, hb, hml, hown, hts⟩ hK S (ct_X8_in l D cy ad B _ _ _ _ _ h) (va_cwS 3 hts gX8_put_X8_in rfl rfl rfl (by decide +kernel) ⟨Nat.le_of_ble_eq_true rfl, Nat.le_of_ble_eq_true rfl⟩) rfl hl.1 rfl (Nat.le_of_ble_eq_true rfl) dX8_put_52 ⟨Nat.zero_le _, Nat.zero_le _⟩ (fun r2 M2 H locs h S => ?_)
      refine lv_if_ne (tgt := 65) hx hb dX8_put_55 (by decide) (fun c55 => ?_) (fun c55 => ?_)
      · replace h := h.1 c55
        refine lv_aload_n hx hb dX8_put_65 rfl (lv_at hl 0 rfl) ?_
        refine x_getR hx hb hts (hC8) hown hK S 3 (by decide) rf_0_3 (index := 16) (hts _ (List.mem_of_getElem? (i := 4) rfl)) dX8_put_66 ?_
        refine lv_bipush (v := 20) hx hb dX8_put_69 (by decide) ?_
        refine lv_iload_n hx hb dX8_put_71 rfl (lv_at hl 1 rfl) ?_
        refine lv_imul hx hb dX8_put_72 ?_
        refine lv_iload_n hx hb dX8_put_73 rfl (lv_at hl 2 rfl) ?_
        refine lv_iadd hx hb dX8_put_74 ?_
        refine lv_aload_n hx hb dX8_put_75 rfl (lv_at hl 0 rfl) ?_
        refine x_getR hx hb hts (hC8) hown hK S 2 (by decide) rf_0_2 (index := 13) (hts _ (List.mem_of_getElem? (i := 5) rfl)) dX8_put_76 ?_
        refine lv_iload_n hx hb dX8_put_79 rfl (lv_at hl 1 rfl) ?_
        refine x_iald hx hb hK S ra_2 h.1 dX8_put_80 ?_
        replace h := h.2
        refine lv_if_ne (tgt := 91) hx hb dX8_put_81 (by decide) (fun c81 => ?_) (fun c81 => ?_)
        · replace h := h.1 c81
          refine lv_aload_n hx hb dX8_put_91 rfl (lv_at hl 0 rfl) ?_
          refine x_getR hx hb hts (hC8) hown hK S 2 (by decide) rf_0_2 (index := 13) (hts _ (List.mem_of_getElem? (i := 5) rfl)) dX8_put_92 ?_
          refine lv_iload_n hx hb dX8_put_95 rfl (lv_at hl 1 rfl) ?_
          refine x_iald hx hb hK S ra_2 h.1 dX8_put_96 ?_
          replace h := h.2
          refine lv_iconst (v := 1) hx hb dX8_put_97 (by decide) ?_
          refine lv_icmp_ne (tgt := 108) hx hb dX8_put_98 (by decide) (fun c98 => ?_) (fun c98 => ?_)
          · replace h := h.1 c98
            refine lv_aload_n hx hb dX8_put_108 rfl (lv_at hl 0 rfl) ?_
            refine x_getR hx hb hts (hC8) hown hK S 2 (by decide) rf_0_2 (index := 13) (hts _ (List.mem_of_getElem? (i := 5) rfl)) dX8_put_109 ?_
            refine lv_iload_n hx hb dX8_put_112 rfl (lv_at hl 1 rfl) ?_
            refine x_iald hx hb hK S ra_2 h.1 dX8_put_113 ?_
            replace h := h.2
            refine lv_iconst (v := 2) hx hb dX8_put_114 (by decide) ?_
            refine lv_icmp_ne (tgt := 124) hx hb dX8_put_115 (by decide) (fun c115 => ?_) (fun c115 => ?_)
            · replace h := h.1 c115
              refine lv_lload_n hx hb dX8_put_124 rfl (lv_at hl 3 rfl) ?_
              refine x_last hx hb hK S ra_3 h.1 dX8_put_125 (fun H locs S => ?_)
              replace h := h.2
              refine lv_iconst (v := 1) hx hb dX8_put_126 (by decide) ?_
              exact x_iret hx hb hr hlocks S rfl h dX8_put_127
            · replace h := h.2 c115
              refine lv_lload_n hx hb dX8_put_118 rfl (lv_at hl 3 rfl) ?_
              refine lv_l2i (v := v3.toInt32) hx hb dX8_put_119 rfl ?_
              refine lv_i2l (v := v3.toInt32.toInt64) hx hb dX8_put_120 rfl ?_
              refine lv_goto (tgt := 125) hx hb dX8_put_121 (by decide) ?_
              refine x_last hx hb hK S ra_3 h.1 dX8_put_125 (fun H locs S => ?_)
              replace h := h.2
              refine lv_iconst (v := 1) hx hb dX8_put_126 (by decide) ?_
              exact x_iret hx hb hr hlocks S rfl h dX8_put_127
          · replace h := h.2 c98
            refine lv_lload_n hx hb dX8_put_101 rfl (lv_at hl 3 rfl) ?_
            refine lv_l2i (v := v3.toInt32) hx hb dX8_put_102 rfl ?_
            refine lv_i2s (v := v3.toInt32.toInt16.toInt32) hx hb dX8_put_103 rfl ?_
            refine lv_i2l (v := v3.toInt32.toInt16.toInt32.toInt64) hx hb dX8_put_104 rfl ?_
            refine lv_goto (tgt := 125) hx hb dX8_put_105 (by decide) ?_
            refine x_last hx hb hK S ra_3 h.1 dX8_put_125 (fun H locs S => ?_)
            replace h := h.2
            refine lv_iconst (v := 1) hx hb dX8_put_126 (by decide) ?_
            exact x_iret hx hb hr hlocks S rfl h dX8_put_127
        · replace h := h.2 c81
          refine lv_lload_n hx hb dX8_put_84 rfl (lv_at hl 3 rfl) ?_
          refine lv_l2i (v := v3.toInt32) hx hb dX8_put_85 rfl ?_
          refine lv_i2b (v := v3.toInt32.toInt8.toInt32) hx hb dX8_put_86 rfl ?_
          refine lv_i2l (v := v3.toInt32.toInt8.toInt32.toInt64) hx hb dX8_put_87 rfl ?_
          refine lv_goto (tgt := 125) hx hb dX8_put_88 (by decide) ?_
          refine x_last hx hb hK S ra_3 h.1 dX8_put_125 (fun H locs S => ?_)
          replace h := h.2
          refine lv_iconst (v := 1) hx hb dX8_put_126 (by decide) ?_
          exact x_iret hx hb hr hlocks S rfl h dX8_put_127
      · replace h := h.2 c55
        refine lv_aload_n hx hb dX8_put_58 rfl (lv_at hl 0 rfl) ?_
        refine lv_bipush (v := (-12)) hx hb dX8_put_59 (by decide) ?_
        refine x_callVi (As := [.int (-12)]) ⟨hx, hb, hml, hown, hts⟩ hK S (ct_X8_finds l D cy ad B _ _ _ h) ro_0 rfl (cwV 1 hts gX8_put_X8_finds rfl rfl rfl (by decide +kernel) ⟨Nat.le_of_ble_eq_true rfl, Nat.le_of_ble_eq_true rfl⟩) rfl hl.1 rfl (Nat.le_of_ble_eq_true rfl) dX8_put_61 ⟨Nat.zero_le _, Nat.zero_le _⟩ (fun r3 M3 H locs h S => ?_)
        exact x_iret hx hb hr hlocks S rfl h dX8_put_64
    · replace h := h.2 c30
      refine lv_aload_n hx hb dX8_put_33 rfl (lv_at hl 0 rfl) ?_
      refine lv_bipush (v := (-11)) hx hb dX8_put_34 (by decide) ?_
      refine x_callVi (As := [.int (-11)]) ⟨hx, hb, hml, hown, hts⟩ hK S (ct_X8_finds l D cy ad B _ _ _ h) ro_0 rfl (cwV 1 hts gX8_put_X8_finds rfl rfl rfl (by decide +kernel) ⟨Nat.le_of_ble_eq_true rfl, Nat.le_of_ble_eq_true rfl⟩) rfl hl.1 rfl (Nat.le_of_ble_eq_true rfl) dX8_put_36 ⟨Nat.zero_le _, Nat.zero_le _⟩ (fun r4 M4 H locs h S => ?_)
      exact x_iret hx hb hr hlocks S rfl h dX8_put_39
  · replace h := h.2 c14
    refine lv_aload_n hx hb dX8_put_17 rfl (lv_at hl 0 rfl) ?_
    refine lv_bipush (v := (-12)) hx hb dX8_put_18 (by decide) ?_
    refine x_callVi (As := [.int (-12)]) ⟨hx, hb, hml, hown, hts⟩ hK S (ct_X8_finds l D cy ad B _ _ _ h) ro_0 rfl (cwV 1 hts gX8_put_X8_finds rfl rfl rfl (by decide +kernel) ⟨Nat.le_of_ble_eq_true rfl, Nat.le_of_ble_eq_true rfl⟩) rfl hl.1 rfl (Nat.le_of_ble_eq_true rfl) dX8_put_20 ⟨Nat.zero_le _, Nat.zero_le _⟩ (fun r5 M5 H locs h S => ?_)
    exact x_iret hx hb hr hlocks S rfl h dX8_put_23
/-! X8_at -/
def wp_X8_at (v1 : Int32) (v2 : Int32) (v3 : Int32) (M : Mem) (Q : Int64 → Mem → Prop) : Prop :=
  wp_X8_in v1.toInt64 (0 : Int64) (3 : Int64) (upI M 0 0 0) (fun r1 M1 => ((¬ r1 = 0 → wp_X8_in v2.toInt64 (0 : Int64) (3 : Int64) M1 (fun r2 M2 => ((¬ r2 = 0 → (vp_in v1 4 ∧ ((0 ≤ (M2.1 1 v1.toNatClampNeg) → (vp_in v1 4 ∧ (((M2.1 2 v1.toNatClampNeg) = v2 → (vp_in v1 4 ∧ wp_X8_in v3.toInt64 (0 : Int64) (((M2.1 1 v1.toNatClampNeg) - 1).toInt64) M2 (fun r3 M3 => ((r3 = 0 → wp_X8_finds (-12) M3 (fun r4 M4 => Q r4.toInt64 M4)) ∧ (¬ r3 = 0 → (vp_in ((20 * v1) + v3) 80 ∧ Q (M3.2 3 ((20 * v1) + v3).toNatClampNeg) M3)))))) ∧ (¬ (M2.1 2 v1.toNatClampNeg) = v2 → wp_X8_finds (-13) M2 (fun r5 M5 => Q r5.toInt64 M5))))) ∧ (¬ 0 ≤ (M2.1 1 v1.toNatClampNeg) → wp_X8_finds (-11) M2 (fun r6 M6 => Q r6.toInt64 M6))))) ∧ (r2 = 0 → Q (-2 : Int64) M2)))) ∧ (r1 = 0 → wp_X8_finds (-12) M1 (fun r7 M7 => Q r7.toInt64 M7))))
theorem wp_X8_at_mono {v1 : Int32} {v2 : Int32} {v3 : Int32} {M : Mem} {Q Q' : Int64 → Mem → Prop} (hQ : ∀ (r : Int64) (M : Mem), Q r M → Q' r M) (h : wp_X8_at v1 v2 v3 M Q) : wp_X8_at v1 v2 v3 M Q' := by
  unfold wp_X8_at at h ⊢
  exact wp_X8_in_mono (fun r1 M1 h => ⟨fun c => let h := h.1 c; wp_X8_in_mono (fun r2 M2 h => ⟨fun c => let h := h.1 c; ⟨h.1, let h := h.2; ⟨fun c => let h := h.1 c; ⟨h.1, let h := h.2; ⟨fun c => let h := h.1 c; ⟨h.1, let h := h.2; wp_X8_in_mono (fun r3 M3 h => ⟨fun c => let h := h.1 c; wp_X8_finds_mono (fun r4 M4 h => hQ _ _ h) h, fun c => let h := h.2 c; ⟨h.1, let h := h.2; hQ _ _ h⟩⟩) h⟩, fun c => let h := h.2 c; wp_X8_finds_mono (fun r5 M5 h => hQ _ _ h) h⟩⟩, fun c => let h := h.2 c; wp_X8_finds_mono (fun r6 M6 h => hQ _ _ h) h⟩⟩, fun c => let h := h.2 c; hQ _ _ h⟩) h, fun c => let h := h.2 c; wp_X8_finds_mono (fun r7 M7 h => hQ _ _ h) h⟩) h
abbrev rm_X8_at : Jvm.Room := { frames := 2, cells := 0, slots := 0, locals := 42 }
set_option maxHeartbeats 4000000 in
set_option maxRecDepth 100000 in
theorem ct_X8_at (l : Launch) (D : va_G) (cy : Nat → ClassId) (ad : Nat → Nat) (B : Nat → Prop) (v1 : Int32) (v2 : Int32) (v3 : Int32) (M : Mem) (Q : Int64 → Mem → Prop) (h : wp_X8_at v1 v2 v3 M Q) : CTl l D cy (wR ad cy) B yX8_at wsX8_at rm_X8_at [.ref (ad 0), .int v1, .int v2, .int v3] M Q := by
  intro sz
  refine Met.ofW (cc := cX8_at) (maxL := 4) (ret := some .long) (by decide) rfl ?_
  intro p e s m args below meth c s₁ Bd hml hv
  obtain ⟨hargs, hsz, hP, hK, hD⟩ := hv
  subst hsz
  have hx := Bd.exec
  have hb := Bd.bytes
  have hr := Bd.returns
  have hts := atoms_spec (ws := wsX8_at) Bd.pre
  have hown : s.vm.findClass RX8 = some m.cls := findClass_of_methodNamed Bd.named
  have hlocks := Bd.notSynchronized
  have hC8 : xC wsX8_at 8 RX8 TX8 34 := ⟨by decide +kernel, rfl⟩
  have hl := lv_entry ([.ref (ad 0), .int v1, .int v2, .int v3]) (n := 4) (Nat.le_of_ble_eq_true rfl)
  subst hargs
  rw [lg_entry_eq]
  generalize (lg_sl ([.ref (ad 0), .int v1, .int v2, .int v3]) ++ List.replicate (4 - (lg_sl ([.ref (ad 0), .int v1, .int v2, .int v3])).length) Slot.unset).toArray = ls at hl ⊢
  have hl : lv_has ls 4 [(0, .ref (ad 0)), (1, .int v1), (2, .int v2), (3, .int v3)] := hl
  have S : xS D (wR ad cy) B s.heap s.heap [] M := ⟨hP, hD, va_S.rf⟩
  unfold wp_X8_at at h
  refine lv_aload_n hx hb dX8_at_0 rfl (lv_at hl 0 rfl) ?_
  refine lv_iconst (v := 0) hx hb dX8_at_1 (by decide) ?_
  refine x_putI hx hb hts (hC8) tyX8 tyX8_ok nmX8 hown hK S 0 (by decide) rf_0_0 (index := 74) (hts _ (List.mem_of_getElem? (i := 1) rfl)) rfl rfl rfl dX8_at_2 (fun H locs S => ?_)
  refine lv_iload_n hx hb dX8_at_5 rfl (lv_at hl 1 rfl) ?_
  refine lv_i2l (v := v1.toInt64) hx hb dX8_at_6 rfl ?_
  refine lv_lconst (v := 0) hx hb dX8_at_7 rfl ?_
  refine lv_ldc2 (v := 3) hx hb hown (hts _ (List.mem_of_getElem? (i := 2) rfl)) dX8_at_8 ?_
  refine x_callSi (As := [.long v1.toInt64, .long (0 : Int64), .long (3 : Int64)]) ⟨hx, hb, hml, hown, hts⟩ hK S (ct_X8_in l D cy ad B _ _ _ _ _ h) (va_cwS 3 hts gX8_at_X8_in rfl rfl rfl (by decide +kernel) ⟨Nat.le_of_ble_eq_true rfl, Nat.le_of_ble_eq_true rfl⟩) rfl hl.1 rfl (Nat.le_of_ble_eq_true rfl) dX8_at_11 ⟨Nat.zero_le _, Nat.zero_le _⟩ (fun r1 M1 H locs h S => ?_)
  refine lv_if_ne (tgt := 25) hx hb dX8_at_14 (by decide) (fun c14 => ?_) (fun c14 => ?_)
  · replace h := h.1 c14
    refine lv_iload_n hx hb dX8_at_25 rfl (lv_at hl 2 rfl) ?_
    refine lv_i2l (v := v2.toInt64) hx hb dX8_at_26 rfl ?_
    refine lv_lconst (v := 0) hx hb dX8_at_27 rfl ?_
    refine lv_ldc2 (v := 3) hx hb hown (hts _ (List.mem_of_getElem? (i := 2) rfl)) dX8_at_28 ?_
    refine x_callSi (As := [.long v2.toInt64, .long (0 : Int64), .long (3 : Int64)]) ⟨hx, hb, hml, hown, hts⟩ hK S (ct_X8_in l D cy ad B _ _ _ _ _ h) (va_cwS 3 hts gX8_at_X8_in rfl rfl rfl (by decide +kernel) ⟨Nat.le_of_ble_eq_true rfl, Nat.le_of_ble_eq_true rfl⟩) rfl hl.1 rfl (Nat.le_of_ble_eq_true rfl) dX8_at_31 ⟨Nat.zero_le _, Nat.zero_le _⟩ (fun r2 M2 H locs h S => ?_)
    refine lv_if_ne (tgt := 41) hx hb dX8_at_34 (by decide) (fun c34 => ?_) (fun c34 => ?_)
    · replace h := h.1 c34
      refine lv_aload_n hx hb dX8_at_41 rfl (lv_at hl 0 rfl) ?_
      refine x_getR hx hb hts (hC8) hown hK S 1 (by decide) rf_0_1 (index := 7) (hts _ (List.mem_of_getElem? (i := 4) rfl)) dX8_at_42 ?_
      refine lv_iload_n hx hb dX8_at_45 rfl (lv_at hl 1 rfl) ?_
      refine x_iald hx hb hK S ra_1 h.1 dX8_at_46 ?_
      replace h := h.2
      refine lv_if_ge (tgt := 58) hx hb dX8_at_47 (by decide) (fun c47 => ?_) (fun c47 => ?_)
      · replace h := h.1 c47
        refine lv_aload_n hx hb dX8_at_58 rfl (lv_at hl 0 rfl) ?_
        refine x_getR hx hb hts (hC8) hown hK S 2 (by decide) rf_0_2 (index := 13) (hts _ (List.mem_of_getElem? (i := 5) rfl)) dX8_at_59 ?_
        refine lv_iload_n hx hb dX8_at_62 rfl (lv_at hl 1 rfl) ?_
        refine x_iald hx hb hK S ra_2 h.1 dX8_at_63 ?_
        replace h := h.2
        refine lv_iload_n hx hb dX8_at_64 rfl (lv_at hl 2 rfl) ?_
        refine lv_icmp_eq (tgt := 76) hx hb dX8_at_65 (by decide) (fun c65 => ?_) (fun c65 => ?_)
        · replace h := h.1 c65
          refine lv_iload_n hx hb dX8_at_76 rfl (lv_at hl 3 rfl) ?_
          refine lv_i2l (v := v3.toInt64) hx hb dX8_at_77 rfl ?_
          refine lv_lconst (v := 0) hx hb dX8_at_78 rfl ?_
          refine lv_aload_n hx hb dX8_at_79 rfl (lv_at hl 0 rfl) ?_
          refine x_getR hx hb hts (hC8) hown hK S 1 (by decide) rf_0_1 (index := 7) (hts _ (List.mem_of_getElem? (i := 4) rfl)) dX8_at_80 ?_
          refine lv_iload_n hx hb dX8_at_83 rfl (lv_at hl 1 rfl) ?_
          refine x_iald hx hb hK S ra_1 h.1 dX8_at_84 ?_
          replace h := h.2
          refine lv_iconst (v := 1) hx hb dX8_at_85 (by decide) ?_
          refine lv_isub hx hb dX8_at_86 ?_
          refine lv_i2l (v := ((M2.1 1 v1.toNatClampNeg) - 1).toInt64) hx hb dX8_at_87 rfl ?_
          refine x_callSi (As := [.long v3.toInt64, .long (0 : Int64), .long (((M2.1 1 v1.toNatClampNeg) - 1).toInt64)]) ⟨hx, hb, hml, hown, hts⟩ hK S (ct_X8_in l D cy ad B _ _ _ _ _ h) (va_cwS 3 hts gX8_at_X8_in rfl rfl rfl (by decide +kernel) ⟨Nat.le_of_ble_eq_true rfl, Nat.le_of_ble_eq_true rfl⟩) rfl hl.1 rfl (Nat.le_of_ble_eq_true rfl) dX8_at_88 ⟨Nat.zero_le _, Nat.zero_le _⟩ (fun r3 M3 H locs h S => ?_)
          refine lv_if_eq (tgt := 108) hx hb dX8_at_91 (by decide) (fun c91 => ?_) (fun c91 => ?_)
          · replace h := h.1 c91
            refine lv_aload_n hx hb dX8_at_108 rfl (lv_at hl 0 rfl) ?_
            refine lv_bipush (v := (-12)) hx hb dX8_at_109 (by decide) ?_
            refine x_callVi (As := [.int (-12)]) ⟨hx, hb, hml, hown, hts⟩ hK S (ct_X8_finds l D cy ad B _ _ _ h) ro_0 rfl (cwV 1 hts gX8_at_X8_finds rfl rfl rfl (by decide +kernel) ⟨Nat.le_of_ble_eq_true rfl, Nat.le_of_ble_eq_true rfl⟩) rfl hl.1 rfl (Nat.le_of_ble_eq_true rfl) dX8_at_111 ⟨Nat.zero_le _, Nat.zero_le _⟩ (fun r4 M4 H locs h S => ?_)
            refine lv_i2l (v := r4.toInt64) hx hb dX8_at_114 rfl ?_
            exact x_lret hx hb hr hlocks S h dX8_at_115
          · replace h := h.2 c91
            refine lv_aload_n hx hb dX8_at_94 rfl (lv_at hl 0 rfl) ?_
            refine x_getR hx hb hts (hC8) hown hK S 3 (by decide) rf_0_3 (index := 16) (hts _ (List.mem_of_getElem? (i := 6) rfl)) dX8_at_95 ?_
            refine lv_bipush (v := 20) hx hb dX8_at_98 (by decide) ?_
            refine lv_iload_n hx hb dX8_at_100 rfl (lv_at hl 1 rfl) ?_
            refine lv_imul hx hb dX8_at_101 ?_
            refine lv_iload_n hx hb dX8_at_102 rfl (lv_at hl 3 rfl) ?_
            refine lv_iadd hx hb dX8_at_103 ?_
            refine x_lald hx hb hK S ra_3 h.1 dX8_at_104 ?_
            replace h := h.2
            refine lv_goto (tgt := 115) hx hb dX8_at_105 (by decide) ?_
            exact x_lret hx hb hr hlocks S h dX8_at_115
        · replace h := h.2 c65
          refine lv_aload_n hx hb dX8_at_68 rfl (lv_at hl 0 rfl) ?_
          refine lv_bipush (v := (-13)) hx hb dX8_at_69 (by decide) ?_
          refine x_callVi (As := [.int (-13)]) ⟨hx, hb, hml, hown, hts⟩ hK S (ct_X8_finds l D cy ad B _ _ _ h) ro_0 rfl (cwV 1 hts gX8_at_X8_finds rfl rfl rfl (by decide +kernel) ⟨Nat.le_of_ble_eq_true rfl, Nat.le_of_ble_eq_true rfl⟩) rfl hl.1 rfl (Nat.le_of_ble_eq_true rfl) dX8_at_71 ⟨Nat.zero_le _, Nat.zero_le _⟩ (fun r5 M5 H locs h S => ?_)
          refine lv_i2l (v := r5.toInt64) hx hb dX8_at_74 rfl ?_
          exact x_lret hx hb hr hlocks S h dX8_at_75
      · replace h := h.2 c47
        refine lv_aload_n hx hb dX8_at_50 rfl (lv_at hl 0 rfl) ?_
        refine lv_bipush (v := (-11)) hx hb dX8_at_51 (by decide) ?_
        refine x_callVi (As := [.int (-11)]) ⟨hx, hb, hml, hown, hts⟩ hK S (ct_X8_finds l D cy ad B _ _ _ h) ro_0 rfl (cwV 1 hts gX8_at_X8_finds rfl rfl rfl (by decide +kernel) ⟨Nat.le_of_ble_eq_true rfl, Nat.le_of_ble_eq_true rfl⟩) rfl hl.1 rfl (Nat.le_of_ble_eq_true rfl) dX8_at_53 ⟨Nat.zero_le _, Nat.zero_le _⟩ (fun r6 M6 H locs h S => ?_)
        refine lv_i2l (v := r6.toInt64) hx hb dX8_at_56 rfl ?_
        exact x_lret hx hb hr hlocks S h dX8_at_57
    · replace h := h.2 c34
      refine lv_ldc2 (v := (-2)) hx hb hown (hts _ (List.mem_of_getElem? (i := 3) rfl)) dX8_at_37 ?_
      exact x_lret hx hb hr hlocks S h dX8_at_40
  · replace h := h.2 c14
    refine lv_aload_n hx hb dX8_at_17 rfl (lv_at hl 0 rfl) ?_
    refine lv_bipush (v := (-12)) hx hb dX8_at_18 (by decide) ?_
    refine x_callVi (As := [.int (-12)]) ⟨hx, hb, hml, hown, hts⟩ hK S (ct_X8_finds l D cy ad B _ _ _ h) ro_0 rfl (cwV 1 hts gX8_at_X8_finds rfl rfl rfl (by decide +kernel) ⟨Nat.le_of_ble_eq_true rfl, Nat.le_of_ble_eq_true rfl⟩) rfl hl.1 rfl (Nat.le_of_ble_eq_true rfl) dX8_at_20 ⟨Nat.zero_le _, Nat.zero_le _⟩ (fun r7 M7 H locs h S => ?_)
    refine lv_i2l (v := r7.toInt64) hx hb dX8_at_23 rfl ?_
    exact x_lret hx hb hr hlocks S h dX8_at_24
/-! X8_collect -/
def blk_X8_collect_0 (v1 : Int64) (v3 : Int64) (Q : Int32 → Mem → Prop) (P : Nat → Int32 → Mem → Prop) (v5 : Int32) (M : Mem) : Prop :=
  wp_X8_in v1 (0 : Int64) (60 : Int64) M (fun r1 M1 => ((r1 = 0 → Q (-2) M1) ∧ (¬ r1 = 0 → wp_X8_in v3 (0 : Int64) (60 : Int64) M1 (fun r2 M2 => ((¬ r2 = 0 → P 1 0 M2) ∧ (r2 = 0 → Q (-2) M2))))))
theorem blk_X8_collect_0_mono {v1 : Int64} {v3 : Int64} {Q Q' : Int32 → Mem → Prop} {P P' : Nat → Int32 → Mem → Prop} (hQ : ∀ (r : Int32) (M : Mem), Q r M → Q' r M) (hP : ∀ (lab : Nat) (v5 : Int32) (M : Mem), P lab v5 M → P' lab v5 M) (v5 : Int32) (M : Mem) (h : blk_X8_collect_0 v1 v3 Q P v5 M) : blk_X8_collect_0 v1 v3 Q' P' v5 M := by
  unfold blk_X8_collect_0 at h ⊢
  exact wp_X8_in_mono (fun r1 M1 h => ⟨fun c => let h := h.1 c; hQ _ _ h, fun c => let h := h.2 c; wp_X8_in_mono (fun r2 M2 h => ⟨fun c => let h := h.1 c; hP _ _ _ h, fun c => let h := h.2 c; hQ _ _ h⟩) h⟩) h
def blk_X8_collect_1 (v1 : Int64) (v3 : Int64) (Q : Int32 → Mem → Prop) (P : Nat → Int32 → Mem → Prop) (v5 : Int32) (M : Mem) : Prop :=
  (((M.1 0 5) ≤ v5 → ((¬ (M.1 0 5) = 8 → (vp_in (M.1 0 5) 8 ∧ (vp_in ((upI M 4 (M.1 0 5).toNatClampNeg v1.toInt32).1 0 5) 8 ∧ Q ((upI (upI (upI M 4 (M.1 0 5).toNatClampNeg v1.toInt32) 5 ((upI M 4 (M.1 0 5).toNatClampNeg v1.toInt32).1 0 5).toNatClampNeg v3.toInt32) 0 5 (((upI (upI M 4 (M.1 0 5).toNatClampNeg v1.toInt32) 5 ((upI M 4 (M.1 0 5).toNatClampNeg v1.toInt32).1 0 5).toNatClampNeg v3.toInt32).1 0 5) + 1)).1 0 5) (upI (upI (upI M 4 (M.1 0 5).toNatClampNeg v1.toInt32) 5 ((upI M 4 (M.1 0 5).toNatClampNeg v1.toInt32).1 0 5).toNatClampNeg v3.toInt32) 0 5 (((upI (upI M 4 (M.1 0 5).toNatClampNeg v1.toInt32) 5 ((upI M 4 (M.1 0 5).toNatClampNeg v1.toInt32).1 0 5).toNatClampNeg v3.toInt32).1 0 5) + 1))))) ∧ ((M.1 0 5) = 8 → Q (-4) M))) ∧ (¬ (M.1 0 5) ≤ v5 → (vp_in v5 8 ∧ ((¬ (lg_cmp (M.1 4 v5.toNatClampNeg).toInt64 v1) = 0 → P 2 v5 M) ∧ ((lg_cmp (M.1 4 v5.toNatClampNeg).toInt64 v1) = 0 → (vp_in v5 8 ∧ ((¬ (lg_cmp (M.1 5 v5.toNatClampNeg).toInt64 v3) = 0 → P 2 v5 M) ∧ ((lg_cmp (M.1 5 v5.toNatClampNeg).toInt64 v3) = 0 → Q (-3) M))))))))
theorem blk_X8_collect_1_mono {v1 : Int64} {v3 : Int64} {Q Q' : Int32 → Mem → Prop} {P P' : Nat → Int32 → Mem → Prop} (hQ : ∀ (r : Int32) (M : Mem), Q r M → Q' r M) (hP : ∀ (lab : Nat) (v5 : Int32) (M : Mem), P lab v5 M → P' lab v5 M) (v5 : Int32) (M : Mem) (h : blk_X8_collect_1 v1 v3 Q P v5 M) : blk_X8_collect_1 v1 v3 Q' P' v5 M := by
  unfold blk_X8_collect_1 at h ⊢
  exact ⟨fun c => let h := h.1 c; ⟨fun c => let h := h.1 c; ⟨h.1, let h := h.2; ⟨h.1, let h := h.2; hQ _ _ h⟩⟩, fun c => let h := h.2 c; hQ _ _ h⟩, fun c => let h := h.2 c; ⟨h.1, let h := h.2; ⟨fun c => let h := h.1 c; hP _ _ _ h, fun c => let h := h.2 c; ⟨h.1, let h := h.2; ⟨fun c => let h := h.1 c; hP _ _ _ h, fun c => let h := h.2 c; hQ _ _ h⟩⟩⟩⟩⟩
def blk_X8_collect_2 (v1 : Int64) (v3 : Int64) (Q : Int32 → Mem → Prop) (P : Nat → Int32 → Mem → Prop) (v5 : Int32) (M : Mem) : Prop :=
  P 1 (v5 + 1) M
theorem blk_X8_collect_2_mono {v1 : Int64} {v3 : Int64} {Q Q' : Int32 → Mem → Prop} {P P' : Nat → Int32 → Mem → Prop} (hQ : ∀ (r : Int32) (M : Mem), Q r M → Q' r M) (hP : ∀ (lab : Nat) (v5 : Int32) (M : Mem), P lab v5 M → P' lab v5 M) (v5 : Int32) (M : Mem) (h : blk_X8_collect_2 v1 v3 Q P v5 M) : blk_X8_collect_2 v1 v3 Q' P' v5 M := by
  unfold blk_X8_collect_2 at h ⊢
  exact hP _ _ _ h
def blk_X8_collect (v1 : Int64) (v3 : Int64) (Q : Int32 → Mem → Prop) (P : Nat → Int32 → Mem → Prop) : Nat → Int32 → Mem → Prop := fun lab v5 M => match lab with
  | 0 => blk_X8_collect_0 v1 v3 Q P v5 M
  | 1 => blk_X8_collect_1 v1 v3 Q P v5 M
  | 2 => blk_X8_collect_2 v1 v3 Q P v5 M
  | _ => False
theorem blk_X8_collect_mono {v1 : Int64} {v3 : Int64} {Q Q' : Int32 → Mem → Prop} {P P' : Nat → Int32 → Mem → Prop} (hQ : ∀ (r : Int32) (M : Mem), Q r M → Q' r M) (hP : ∀ (lab : Nat) (v5 : Int32) (M : Mem), P lab v5 M → P' lab v5 M) : ∀ (lab : Nat) (v5 : Int32) (M : Mem), blk_X8_collect v1 v3 Q P lab v5 M → blk_X8_collect v1 v3 Q' P' lab v5 M := fun lab v5 M h => match lab, h with
  | 0, h => blk_X8_collect_0_mono (v1 := v1) (v3 := v3) hQ hP v5 M h
  | 1, h => blk_X8_collect_1_mono (v1 := v1) (v3 := v3) hQ hP v5 M h
  | 2, h => blk_X8_collect_2_mono (v1 := v1) (v3 := v3) hQ hP v5 M h
  | _ + 3, h => False.elim h
def at_X8_collect (v1 : Int64) (v3 : Int64) (Q : Int32 → Mem → Prop) : Nat → Int32 → Mem → Prop := fun lab v5 M => ∀ P : Nat → Int32 → Mem → Prop, (∀ (lab : Nat) (v5 : Int32) (M : Mem), blk_X8_collect v1 v3 Q P lab v5 M → P lab v5 M) → P lab v5 M
theorem at_X8_collect_fold {v1 : Int64} {v3 : Int64} {Q : Int32 → Mem → Prop} {lab : Nat} {v5 : Int32} {M : Mem} (h : blk_X8_collect v1 v3 Q (at_X8_collect v1 v3 Q) lab v5 M) : at_X8_collect v1 v3 Q lab v5 M := fun P hP => hP _ _ _ (blk_X8_collect_mono (fun _ _ h => h) (fun _ _ _ h => h P hP) _ _ _ h)
theorem at_X8_collect_mono {v1 : Int64} {v3 : Int64} {Q Q' : Int32 → Mem → Prop} (hQ : ∀ (r : Int32) (M : Mem), Q r M → Q' r M) {lab : Nat} {v5 : Int32} {M : Mem} (h : at_X8_collect v1 v3 Q lab v5 M) : at_X8_collect v1 v3 Q' lab v5 M := fun P hP => h P (fun lab v5 M hb => hP _ _ _ (blk_X8_collect_mono hQ (fun _ _ _ h => h) _ _ _ hb))
def wp_X8_collect (v1 : Int64) (v3 : Int64) (M : Mem) (Q : Int32 → Mem → Prop) : Prop := at_X8_collect v1 v3 Q 0 0 M
theorem wp_X8_collect_mono {v1 : Int64} {v3 : Int64} {M : Mem} {Q Q' : Int32 → Mem → Prop} (hQ : ∀ (r : Int32) (M : Mem), Q r M → Q' r M) (h : wp_X8_collect v1 v3 M Q) : wp_X8_collect v1 v3 M Q' := at_X8_collect_mono hQ h
def pcl_X8_collect : Nat → Nat := fun lab => match lab with
  | 0 => 0
  | 1 => 28
  | 2 => 66
  | _ => 0
def lvl_X8_collect (ad : Nat → Nat) (v1 : Int64) (v3 : Int64) : Nat → Int32 → List (Nat × Value) := fun lab v5 => match lab with
  | 0 => [(0, .ref (ad 0)), (1, .long v1), (3, .long v3)]
  | 1 => [(0, .ref (ad 0)), (1, .long v1), (3, .long v3), (5, .int v5)]
  | 2 => [(0, .ref (ad 0)), (1, .long v1), (3, .long v3), (5, .int v5)]
  | _ => []
abbrev rm_X8_collect : Jvm.Room := { frames := 2, cells := 0, slots := 0, locals := 42 }
set_option maxHeartbeats 4000000 in
set_option maxRecDepth 100000 in
theorem ct_X8_collect (l : Launch) (D : va_G) (cy : Nat → ClassId) (ad : Nat → Nat) (B : Nat → Prop) (v1 : Int64) (v3 : Int64) (M : Mem) (Q : Int32 → Mem → Prop) (h : wp_X8_collect v1 v3 M Q) : CTi l D cy (wR ad cy) B yX8_collect wsX8_collect rm_X8_collect [.ref (ad 0), .long v1, .long v3] M Q := by
  intro sz
  refine Met.ofW (cc := cX8_collect) (maxL := 6) (ret := some .int) (by decide) rfl ?_
  intro p e s m args below meth c s₁ Bd hml hv
  obtain ⟨hargs, hsz, hP, hK, hD⟩ := hv
  subst hsz
  have hx := Bd.exec
  have hb := Bd.bytes
  have hr := Bd.returns
  have hts := atoms_spec (ws := wsX8_collect) Bd.pre
  have hown : s.vm.findClass RX8 = some m.cls := findClass_of_methodNamed Bd.named
  have hlocks := Bd.notSynchronized
  have hC8 : xC wsX8_collect 8 RX8 TX8 34 := ⟨by decide +kernel, rfl⟩
  have key : ∀ (P : Nat → Int32 → Mem → Prop), (∀ (lab : Nat) (v5 : Int32) (M : Mem), P lab v5 M → ∀ (H : Heap) (locs : List Loc) (ls : Array Slot), xS D (wR ad cy) B s.heap H locs M → lv_has ls 6 (lvl_X8_collect ad v1 v3 lab v5 ) → W p l e (headSpec wsX8_collect rm_X8_collect).room s m args below meth c H locs 0 0 (MQ below (va_Qi (S := Mem) Q (xB D (wR ad cy) B) (xA B s.heap.size)) args s 0 0 (xA B s.heap.size)) (F0 m (pcl_X8_collect lab) ls [])) → ∀ (lab : Nat) (v5 : Int32) (M : Mem), blk_X8_collect v1 v3 Q P lab v5 M → ∀ (H : Heap) (locs : List Loc) (ls : Array Slot), xS D (wR ad cy) B s.heap H locs M → lv_has ls 6 (lvl_X8_collect ad v1 v3 lab v5 ) → W p l e (headSpec wsX8_collect rm_X8_collect).room s m args below meth c H locs 0 0 (MQ below (va_Qi (S := Mem) Q (xB D (wR ad cy) B) (xA B s.heap.size)) args s 0 0 (xA B s.heap.size)) (F0 m (pcl_X8_collect lab) ls []) := by
    intro P hJ lab v5 M h H locs ls S hl
    match lab, h, hl with
    | 0, h, hl =>
      have hl : lv_has ls 6 [(0, .ref (ad 0)), (1, .long v1), (3, .long v3)] := hl
      have h : blk_X8_collect_0 v1 v3 Q P v5 M := h
      unfold blk_X8_collect_0 at h
      refine W.eq (g2 := F0 m 0 ls []) rfl ?_
      refine lv_lload_n hx hb dX8_collect_0 rfl (lv_at hl 1 rfl) ?_
      refine lv_lconst (v := 0) hx hb dX8_collect_1 rfl ?_
      refine lv_ldc2 (v := 60) hx hb hown (hts _ (List.mem_of_getElem? (i := 1) rfl)) dX8_collect_2 ?_
      refine x_callSi (As := [.long v1, .long (0 : Int64), .long (60 : Int64)]) ⟨hx, hb, hml, hown, hts⟩ hK S (ct_X8_in l D cy ad B _ _ _ _ _ h) (va_cwS 3 hts gX8_collect_X8_in rfl rfl rfl (by decide +kernel) ⟨Nat.le_of_ble_eq_true rfl, Nat.le_of_ble_eq_true rfl⟩) rfl hl.1 rfl (Nat.le_of_ble_eq_true rfl) dX8_collect_5 ⟨Nat.zero_le _, Nat.zero_le _⟩ (fun r1 M1 H locs h S => ?_)
      refine lv_if_eq (tgt := 22) hx hb dX8_collect_8 (by decide) (fun c8 => ?_) (fun c8 => ?_)
      · replace h := h.1 c8
        refine lv_bipush (v := (-2)) hx hb dX8_collect_22 (by decide) ?_
        exact x_iret hx hb hr hlocks S rfl h dX8_collect_24
      · replace h := h.2 c8
        refine lv_lload_n hx hb dX8_collect_11 rfl (lv_at hl 2 rfl) ?_
        refine lv_lconst (v := 0) hx hb dX8_collect_12 rfl ?_
        refine lv_ldc2 (v := 60) hx hb hown (hts _ (List.mem_of_getElem? (i := 1) rfl)) dX8_collect_13 ?_
        refine x_callSi (As := [.long v3, .long (0 : Int64), .long (60 : Int64)]) ⟨hx, hb, hml, hown, hts⟩ hK S (ct_X8_in l D cy ad B _ _ _ _ _ h) (va_cwS 3 hts gX8_collect_X8_in rfl rfl rfl (by decide +kernel) ⟨Nat.le_of_ble_eq_true rfl, Nat.le_of_ble_eq_true rfl⟩) rfl hl.1 rfl (Nat.le_of_ble_eq_true rfl) dX8_collect_16 ⟨Nat.zero_le _, Nat.zero_le _⟩ (fun r2 M2 H locs h S => ?_)
        refine lv_if_ne (tgt := 25) hx hb dX8_collect_19 (by decide) (fun c19 => ?_) (fun c19 => ?_)
        · replace h := h.1 c19
          refine lv_iconst (v := 0) hx hb dX8_collect_25 (by decide) ?_
          refine lv_istore (lv' := [(5, .int 0), (0, .ref (ad 0)), (1, .long v1), (3, .long v3)]) hx hb dX8_collect_26 hl (by decide) rfl (fun ls hl => ?_)
          exact hJ _ _ _ h _ _ _ S (lv_sub hl [1, 2, 3, 0] rfl)
        · replace h := h.2 c19
          refine lv_bipush (v := (-2)) hx hb dX8_collect_22 (by decide) ?_
          exact x_iret hx hb hr hlocks S rfl h dX8_collect_24
    | 1, h, hl =>
      have hl : lv_has ls 6 [(0, .ref (ad 0)), (1, .long v1), (3, .long v3), (5, .int v5)] := hl
      have h : blk_X8_collect_1 v1 v3 Q P v5 M := h
      unfold blk_X8_collect_1 at h
      refine W.eq (g2 := F0 m 28 ls []) rfl ?_
      refine lv_iload hx hb dX8_collect_28 (lv_at hl 3 rfl) ?_
      refine lv_aload_n hx hb dX8_collect_30 rfl (lv_at hl 0 rfl) ?_
      refine x_getI hx hb hts (hC8) hown hK S 5 (by decide) rf_0_5 (index := 95) (hts _ (List.mem_of_getElem? (i := 2) rfl)) dX8_collect_31 ?_
      refine lv_icmp_ge (tgt := 72) hx hb dX8_collect_34 (by decide) (fun c34 => ?_) (fun c34 => ?_)
      · replace h := h.1 c34
        refine lv_aload_n hx hb dX8_collect_72 rfl (lv_at hl 0 rfl) ?_
        refine x_getI hx hb hts (hC8) hown hK S 5 (by decide) rf_0_5 (index := 95) (hts _ (List.mem_of_getElem? (i := 2) rfl)) dX8_collect_73 ?_
        refine lv_bipush (v := 8) hx hb dX8_collect_76 (by decide) ?_
        refine lv_icmp_ne (tgt := 84) hx hb dX8_collect_78 (by decide) (fun c78 => ?_) (fun c78 => ?_)
        · replace h := h.1 c78
          refine lv_aload_n hx hb dX8_collect_84 rfl (lv_at hl 0 rfl) ?_
          refine x_getR hx hb hts (hC8) hown hK S 6 (by decide) rf_0_6 (index := 20) (hts _ (List.mem_of_getElem? (i := 3) rfl)) dX8_collect_85 ?_
          refine lv_aload_n hx hb dX8_collect_88 rfl (lv_at hl 0 rfl) ?_
          refine x_getI hx hb hts (hC8) hown hK S 5 (by decide) rf_0_5 (index := 95) (hts _ (List.mem_of_getElem? (i := 2) rfl)) dX8_collect_89 ?_
          refine lv_lload_n hx hb dX8_collect_92 rfl (lv_at hl 1 rfl) ?_
          refine lv_l2i (v := v1.toInt32) hx hb dX8_collect_93 rfl ?_
          refine x_iast hx hb hK S ra_4 h.1 dX8_collect_94 (fun H locs S => ?_)
          replace h := h.2
          refine lv_aload_n hx hb dX8_collect_95 rfl (lv_at hl 0 rfl) ?_
          refine x_getR hx hb hts (hC8) hown hK S 7 (by decide) rf_0_7 (index := 23) (hts _ (List.mem_of_getElem? (i := 4) rfl)) dX8_collect_96 ?_
          refine lv_aload_n hx hb dX8_collect_99 rfl (lv_at hl 0 rfl) ?_
          refine x_getI hx hb hts (hC8) hown hK S 5 (by decide) rf_0_5 (index := 95) (hts _ (List.mem_of_getElem? (i := 2) rfl)) dX8_collect_100 ?_
          refine lv_lload_n hx hb dX8_collect_103 rfl (lv_at hl 2 rfl) ?_
          refine lv_l2i (v := v3.toInt32) hx hb dX8_collect_104 rfl ?_
          refine x_iast hx hb hK S ra_5 h.1 dX8_collect_105 (fun H locs S => ?_)
          replace h := h.2
          refine lv_aload_n hx hb dX8_collect_106 rfl (lv_at hl 0 rfl) ?_
          refine lv_dup hx hb dX8_collect_107 rfl ?_
          refine x_getI hx hb hts (hC8) hown hK S 5 (by decide) rf_0_5 (index := 95) (hts _ (List.mem_of_getElem? (i := 2) rfl)) dX8_collect_108 ?_
          refine lv_iconst (v := 1) hx hb dX8_collect_111 (by decide) ?_
          refine lv_iadd hx hb dX8_collect_112 ?_
          refine x_putI hx hb hts (hC8) tyX8 tyX8_ok nmX8 hown hK S 5 (by decide) rf_0_5 (index := 95) (hts _ (List.mem_of_getElem? (i := 2) rfl)) rfl rfl rfl dX8_collect_113 (fun H locs S => ?_)
          refine lv_aload_n hx hb dX8_collect_116 rfl (lv_at hl 0 rfl) ?_
          refine x_getI hx hb hts (hC8) hown hK S 5 (by decide) rf_0_5 (index := 95) (hts _ (List.mem_of_getElem? (i := 2) rfl)) dX8_collect_117 ?_
          exact x_iret hx hb hr hlocks S rfl h dX8_collect_120
        · replace h := h.2 c78
          refine lv_bipush (v := (-4)) hx hb dX8_collect_81 (by decide) ?_
          exact x_iret hx hb hr hlocks S rfl h dX8_collect_83
      · replace h := h.2 c34
        refine lv_aload_n hx hb dX8_collect_37 rfl (lv_at hl 0 rfl) ?_
        refine x_getR hx hb hts (hC8) hown hK S 6 (by decide) rf_0_6 (index := 20) (hts _ (List.mem_of_getElem? (i := 3) rfl)) dX8_collect_38 ?_
        refine lv_iload hx hb dX8_collect_41 (lv_at hl 3 rfl) ?_
        refine x_iald hx hb hK S ra_4 h.1 dX8_collect_43 ?_
        replace h := h.2
        refine lv_i2l (v := (M.1 4 v5.toNatClampNeg).toInt64) hx hb dX8_collect_44 rfl ?_
        refine lv_lload_n hx hb dX8_collect_45 rfl (lv_at hl 1 rfl) ?_
        refine W.lcmp hx hb dX8_collect_46 ?_
        refine lv_if_ne (tgt := 66) hx hb dX8_collect_47 (by decide) (fun c47 => ?_) (fun c47 => ?_)
        · replace h := h.1 c47
          exact hJ _ _ _ h _ _ _ S (lv_sub hl [0, 1, 2, 3] rfl)
        · replace h := h.2 c47
          refine lv_aload_n hx hb dX8_collect_50 rfl (lv_at hl 0 rfl) ?_
          refine x_getR hx hb hts (hC8) hown hK S 7 (by decide) rf_0_7 (index := 23) (hts _ (List.mem_of_getElem? (i := 4) rfl)) dX8_collect_51 ?_
          refine lv_iload hx hb dX8_collect_54 (lv_at hl 3 rfl) ?_
          refine x_iald hx hb hK S ra_5 h.1 dX8_collect_56 ?_
          replace h := h.2
          refine lv_i2l (v := (M.1 5 v5.toNatClampNeg).toInt64) hx hb dX8_collect_57 rfl ?_
          refine lv_lload_n hx hb dX8_collect_58 rfl (lv_at hl 2 rfl) ?_
          refine W.lcmp hx hb dX8_collect_59 ?_
          refine lv_if_ne (tgt := 66) hx hb dX8_collect_60 (by decide) (fun c60 => ?_) (fun c60 => ?_)
          · replace h := h.1 c60
            exact hJ _ _ _ h _ _ _ S (lv_sub hl [0, 1, 2, 3] rfl)
          · replace h := h.2 c60
            refine lv_bipush (v := (-3)) hx hb dX8_collect_63 (by decide) ?_
            exact x_iret hx hb hr hlocks S rfl h dX8_collect_65
    | 2, h, hl =>
      have hl : lv_has ls 6 [(0, .ref (ad 0)), (1, .long v1), (3, .long v3), (5, .int v5)] := hl
      have h : blk_X8_collect_2 v1 v3 Q P v5 M := h
      unfold blk_X8_collect_2 at h
      refine W.eq (g2 := F0 m 66 ls []) rfl ?_
      refine lv_iinc (v := (v5 + 1)) (lv' := [(5, .int (v5 + 1)), (0, .ref (ad 0)), (1, .long v1), (3, .long v3)]) hx hb dX8_collect_66 hl (k := 3) rfl rfl (by decide) rfl (fun ls hl => ?_)
      refine lv_goto (tgt := 28) hx hb dX8_collect_69 (by decide) ?_
      exact hJ _ _ _ h _ _ _ S (lv_sub hl [1, 2, 3, 0] rfl)
    | _ + 3, h, hl => exact h.elim
  have hl := lv_entry ([.ref (ad 0), .long v1, .long v3]) (n := 6) (Nat.le_of_ble_eq_true rfl)
  subst hargs
  rw [lg_entry_eq]
  generalize (lg_sl ([.ref (ad 0), .long v1, .long v3]) ++ List.replicate (6 - (lg_sl ([.ref (ad 0), .long v1, .long v3])).length) Slot.unset).toArray = ls at hl ⊢
  exact h _ (key _ (fun _ _ _ h => h)) s.heap [] ls ⟨hP, hD, va_S.rf⟩ hl
/-! X8_post -/
def wp_X8_post (v1 : Int32) (v2 : Int32) (M : Mem) (Q : Int32 → Mem → Prop) : Prop :=
  wp_X8_collect v1.toInt64 v2.toInt64 (upI M 0 0 0) (fun r1 M1 => Q r1 M1)
theorem wp_X8_post_mono {v1 : Int32} {v2 : Int32} {M : Mem} {Q Q' : Int32 → Mem → Prop} (hQ : ∀ (r : Int32) (M : Mem), Q r M → Q' r M) (h : wp_X8_post v1 v2 M Q) : wp_X8_post v1 v2 M Q' := by
  unfold wp_X8_post at h ⊢
  exact wp_X8_collect_mono (fun r1 M1 h => hQ _ _ h) h
abbrev rm_X8_post : Jvm.Room := { frames := 3, cells := 0, slots := 0, locals := 67 }
set_option maxHeartbeats 4000000 in
set_option maxRecDepth 100000 in
theorem ct_X8_post (l : Launch) (D : va_G) (cy : Nat → ClassId) (ad : Nat → Nat) (B : Nat → Prop) (v1 : Int32) (v2 : Int32) (M : Mem) (Q : Int32 → Mem → Prop) (h : wp_X8_post v1 v2 M Q) : CTi l D cy (wR ad cy) B yX8_post wsX8_post rm_X8_post [.ref (ad 0), .int v1, .int v2] M Q := by
  intro sz
  refine Met.ofW (cc := cX8_post) (maxL := 3) (ret := some .int) (by decide) rfl ?_
  intro p e s m args below meth c s₁ Bd hml hv
  obtain ⟨hargs, hsz, hP, hK, hD⟩ := hv
  subst hsz
  have hx := Bd.exec
  have hb := Bd.bytes
  have hr := Bd.returns
  have hts := atoms_spec (ws := wsX8_post) Bd.pre
  have hown : s.vm.findClass RX8 = some m.cls := findClass_of_methodNamed Bd.named
  have hlocks := Bd.notSynchronized
  have hC8 : xC wsX8_post 8 RX8 TX8 34 := ⟨by decide +kernel, rfl⟩
  have hl := lv_entry ([.ref (ad 0), .int v1, .int v2]) (n := 3) (Nat.le_of_ble_eq_true rfl)
  subst hargs
  rw [lg_entry_eq]
  generalize (lg_sl ([.ref (ad 0), .int v1, .int v2]) ++ List.replicate (3 - (lg_sl ([.ref (ad 0), .int v1, .int v2])).length) Slot.unset).toArray = ls at hl ⊢
  have hl : lv_has ls 3 [(0, .ref (ad 0)), (1, .int v1), (2, .int v2)] := hl
  have S : xS D (wR ad cy) B s.heap s.heap [] M := ⟨hP, hD, va_S.rf⟩
  unfold wp_X8_post at h
  refine lv_aload_n hx hb dX8_post_0 rfl (lv_at hl 0 rfl) ?_
  refine lv_iconst (v := 0) hx hb dX8_post_1 (by decide) ?_
  refine x_putI hx hb hts (hC8) tyX8 tyX8_ok nmX8 hown hK S 0 (by decide) rf_0_0 (index := 74) (hts _ (List.mem_of_getElem? (i := 1) rfl)) rfl rfl rfl dX8_post_2 (fun H locs S => ?_)
  refine lv_aload_n hx hb dX8_post_5 rfl (lv_at hl 0 rfl) ?_
  refine lv_iload_n hx hb dX8_post_6 rfl (lv_at hl 1 rfl) ?_
  refine lv_i2l (v := v1.toInt64) hx hb dX8_post_7 rfl ?_
  refine lv_iload_n hx hb dX8_post_8 rfl (lv_at hl 2 rfl) ?_
  refine lv_i2l (v := v2.toInt64) hx hb dX8_post_9 rfl ?_
  refine x_callVi (As := [.long v1.toInt64, .long v2.toInt64]) ⟨hx, hb, hml, hown, hts⟩ hK S (ct_X8_collect l D cy ad B _ _ _ _ h) ro_0 rfl (cwV 2 hts gX8_post_X8_collect rfl rfl rfl (by decide +kernel) ⟨Nat.le_of_ble_eq_true rfl, Nat.le_of_ble_eq_true rfl⟩) rfl hl.1 rfl (Nat.le_of_ble_eq_true rfl) dX8_post_10 ⟨Nat.zero_le _, Nat.zero_le _⟩ (fun r1 M1 H locs h S => ?_)
  exact x_iret hx hb hr hlocks S rfl h dX8_post_13
/-! X8_take -/
def blk_X8_take_0 (v1 : Int32) (v2 : Int32) (Q : Int32 → Mem → Prop) (P : Nat → Int32 → Int32 → Mem → Prop) (v3 : Int32) (v4 : Int32) (M : Mem) : Prop :=
  wp_X8_in v1.toInt64 (0 : Int64) (3 : Int64) (upI M 0 0 0) (fun r1 M1 => ((¬ r1 = 0 → (vp_in v1 4 ∧ ((0 ≤ (M1.1 1 v1.toNatClampNeg) → (vp_in v1 4 ∧ wp_X8_in v2.toInt64 (0 : Int64) ((M1.1 1 v1.toNatClampNeg).toInt64) M1 (fun r2 M2 => ((¬ r2 = 0 → P 1 0 v2 M2) ∧ (r2 = 0 → wp_X8_finds (-12) M2 (fun r3 M3 => Q r3 M3)))))) ∧ (¬ 0 ≤ (M1.1 1 v1.toNatClampNeg) → wp_X8_finds (-11) M1 (fun r4 M4 => Q r4 M4))))) ∧ (r1 = 0 → wp_X8_finds (-12) M1 (fun r5 M5 => Q r5 M5))))
theorem blk_X8_take_0_mono {v1 : Int32} {v2 : Int32} {Q Q' : Int32 → Mem → Prop} {P P' : Nat → Int32 → Int32 → Mem → Prop} (hQ : ∀ (r : Int32) (M : Mem), Q r M → Q' r M) (hP : ∀ (lab : Nat) (v3 : Int32) (v4 : Int32) (M : Mem), P lab v3 v4 M → P' lab v3 v4 M) (v3 : Int32) (v4 : Int32) (M : Mem) (h : blk_X8_take_0 v1 v2 Q P v3 v4 M) : blk_X8_take_0 v1 v2 Q' P' v3 v4 M := by
  unfold blk_X8_take_0 at h ⊢
  exact wp_X8_in_mono (fun r1 M1 h => ⟨fun c => let h := h.1 c; ⟨h.1, let h := h.2; ⟨fun c => let h := h.1 c; ⟨h.1, let h := h.2; wp_X8_in_mono (fun r2 M2 h => ⟨fun c => let h := h.1 c; hP _ _ _ _ h, fun c => let h := h.2 c; wp_X8_finds_mono (fun r3 M3 h => hQ _ _ h) h⟩) h⟩, fun c => let h := h.2 c; wp_X8_finds_mono (fun r4 M4 h => hQ _ _ h) h⟩⟩, fun c => let h := h.2 c; wp_X8_finds_mono (fun r5 M5 h => hQ _ _ h) h⟩) h
def blk_X8_take_1 (v1 : Int32) (v2 : Int32) (Q : Int32 → Mem → Prop) (P : Nat → Int32 → Int32 → Mem → Prop) (v3 : Int32) (v4 : Int32) (M : Mem) : Prop :=
  (vp_in v1 4 ∧ (((M.1 1 v1.toNatClampNeg) ≤ (v4 + 1) → Q v3 M) ∧ (¬ (M.1 1 v1.toNatClampNeg) ≤ (v4 + 1) → (vp_in ((20 * v1) + v4) 80 ∧ (vp_in (((20 * v1) + v4) + 1) 80 ∧ wp_X8_collect (M.2 3 ((20 * v1) + v4).toNatClampNeg) (M.2 3 (((20 * v1) + v4) + 1).toNatClampNeg) M (fun r6 M6 => ((0 ≤ r6 → P 1 (v3 + 1) (v4 + 2) M6) ∧ (¬ 0 ≤ r6 → Q v3 M6))))))))
theorem blk_X8_take_1_mono {v1 : Int32} {v2 : Int32} {Q Q' : Int32 → Mem → Prop} {P P' : Nat → Int32 → Int32 → Mem → Prop} (hQ : ∀ (r : Int32) (M : Mem), Q r M → Q' r M) (hP : ∀ (lab : Nat) (v3 : Int32) (v4 : Int32) (M : Mem), P lab v3 v4 M → P' lab v3 v4 M) (v3 : Int32) (v4 : Int32) (M : Mem) (h : blk_X8_take_1 v1 v2 Q P v3 v4 M) : blk_X8_take_1 v1 v2 Q' P' v3 v4 M := by
  unfold blk_X8_take_1 at h ⊢
  exact ⟨h.1, let h := h.2; ⟨fun c => let h := h.1 c; hQ _ _ h, fun c => let h := h.2 c; ⟨h.1, let h := h.2; ⟨h.1, let h := h.2; wp_X8_collect_mono (fun r6 M6 h => ⟨fun c => let h := h.1 c; hP _ _ _ _ h, fun c => let h := h.2 c; hQ _ _ h⟩) h⟩⟩⟩⟩
def blk_X8_take (v1 : Int32) (v2 : Int32) (Q : Int32 → Mem → Prop) (P : Nat → Int32 → Int32 → Mem → Prop) : Nat → Int32 → Int32 → Mem → Prop := fun lab v3 v4 M => match lab with
  | 0 => blk_X8_take_0 v1 v2 Q P v3 v4 M
  | 1 => blk_X8_take_1 v1 v2 Q P v3 v4 M
  | _ => False
theorem blk_X8_take_mono {v1 : Int32} {v2 : Int32} {Q Q' : Int32 → Mem → Prop} {P P' : Nat → Int32 → Int32 → Mem → Prop} (hQ : ∀ (r : Int32) (M : Mem), Q r M → Q' r M) (hP : ∀ (lab : Nat) (v3 : Int32) (v4 : Int32) (M : Mem), P lab v3 v4 M → P' lab v3 v4 M) : ∀ (lab : Nat) (v3 : Int32) (v4 : Int32) (M : Mem), blk_X8_take v1 v2 Q P lab v3 v4 M → blk_X8_take v1 v2 Q' P' lab v3 v4 M := fun lab v3 v4 M h => match lab, h with
  | 0, h => blk_X8_take_0_mono (v1 := v1) (v2 := v2) hQ hP v3 v4 M h
  | 1, h => blk_X8_take_1_mono (v1 := v1) (v2 := v2) hQ hP v3 v4 M h
  | _ + 2, h => False.elim h
def at_X8_take (v1 : Int32) (v2 : Int32) (Q : Int32 → Mem → Prop) : Nat → Int32 → Int32 → Mem → Prop := fun lab v3 v4 M => ∀ P : Nat → Int32 → Int32 → Mem → Prop, (∀ (lab : Nat) (v3 : Int32) (v4 : Int32) (M : Mem), blk_X8_take v1 v2 Q P lab v3 v4 M → P lab v3 v4 M) → P lab v3 v4 M
theorem at_X8_take_fold {v1 : Int32} {v2 : Int32} {Q : Int32 → Mem → Prop} {lab : Nat} {v3 : Int32} {v4 : Int32} {M : Mem} (h : blk_X8_take v1 v2 Q (at_X8_take v1 v2 Q) lab v3 v4 M) : at_X8_take v1 v2 Q lab v3 v4 M := fun P hP => hP _ _ _ _ (blk_X8_take_mono (fun _ _ h => h) (fun _ _ _ _ h => h P hP) _ _ _ _ h)
theorem at_X8_take_mono {v1 : Int32} {v2 : Int32} {Q Q' : Int32 → Mem → Prop} (hQ : ∀ (r : Int32) (M : Mem), Q r M → Q' r M) {lab : Nat} {v3 : Int32} {v4 : Int32} {M : Mem} (h : at_X8_take v1 v2 Q lab v3 v4 M) : at_X8_take v1 v2 Q' lab v3 v4 M := fun P hP => h P (fun lab v3 v4 M hb => hP _ _ _ _ (blk_X8_take_mono hQ (fun _ _ _ _ h => h) _ _ _ _ hb))
def wp_X8_take (v1 : Int32) (v2 : Int32) (M : Mem) (Q : Int32 → Mem → Prop) : Prop := at_X8_take v1 v2 Q 0 0 0 M
theorem wp_X8_take_mono {v1 : Int32} {v2 : Int32} {M : Mem} {Q Q' : Int32 → Mem → Prop} (hQ : ∀ (r : Int32) (M : Mem), Q r M → Q' r M) (h : wp_X8_take v1 v2 M Q) : wp_X8_take v1 v2 M Q' := at_X8_take_mono hQ h
def pcl_X8_take : Nat → Nat := fun lab => match lab with
  | 0 => 0
  | 1 => 68
  | _ => 0
def lvl_X8_take (ad : Nat → Nat) (v1 : Int32) (v2 : Int32) : Nat → Int32 → Int32 → List (Nat × Value) := fun lab v3 v4 => match lab with
  | 0 => [(0, .ref (ad 0)), (1, .int v1), (2, .int v2)]
  | 1 => [(0, .ref (ad 0)), (1, .int v1), (3, .int v3), (4, .int v4)]
  | _ => []
abbrev rm_X8_take : Jvm.Room := { frames := 3, cells := 0, slots := 0, locals := 67 }
set_option maxHeartbeats 4000000 in
set_option maxRecDepth 100000 in
theorem ct_X8_take (l : Launch) (D : va_G) (cy : Nat → ClassId) (ad : Nat → Nat) (B : Nat → Prop) (v1 : Int32) (v2 : Int32) (M : Mem) (Q : Int32 → Mem → Prop) (h : wp_X8_take v1 v2 M Q) : CTi l D cy (wR ad cy) B yX8_take wsX8_take rm_X8_take [.ref (ad 0), .int v1, .int v2] M Q := by
  intro sz
  refine Met.ofW (cc := cX8_take) (maxL := 5) (ret := some .int) (by decide) rfl ?_
  intro p e s m args below meth c s₁ Bd hml hv
  obtain ⟨hargs, hsz, hP, hK, hD⟩ := hv
  subst hsz
  have hx := Bd.exec
  have hb := Bd.bytes
  have hr := Bd.returns
  have hts := atoms_spec (ws := wsX8_take) Bd.pre
  have hown : s.vm.findClass RX8 = some m.cls := findClass_of_methodNamed Bd.named
  have hlocks := Bd.notSynchronized
  have hC8 : xC wsX8_take 8 RX8 TX8 34 := ⟨by decide +kernel, rfl⟩
  have key : ∀ (P : Nat → Int32 → Int32 → Mem → Prop), (∀ (lab : Nat) (v3 : Int32) (v4 : Int32) (M : Mem), P lab v3 v4 M → ∀ (H : Heap) (locs : List Loc) (ls : Array Slot), xS D (wR ad cy) B s.heap H locs M → lv_has ls 5 (lvl_X8_take ad v1 v2 lab v3 v4 ) → W p l e (headSpec wsX8_take rm_X8_take).room s m args below meth c H locs 0 0 (MQ below (va_Qi (S := Mem) Q (xB D (wR ad cy) B) (xA B s.heap.size)) args s 0 0 (xA B s.heap.size)) (F0 m (pcl_X8_take lab) ls [])) → ∀ (lab : Nat) (v3 : Int32) (v4 : Int32) (M : Mem), blk_X8_take v1 v2 Q P lab v3 v4 M → ∀ (H : Heap) (locs : List Loc) (ls : Array Slot), xS D (wR ad cy) B s.heap H locs M → lv_has ls 5 (lvl_X8_take ad v1 v2 lab v3 v4 ) → W p l e (headSpec wsX8_take rm_X8_take).room s m args below meth c H locs 0 0 (MQ below (va_Qi (S := Mem) Q (xB D (wR ad cy) B) (xA B s.heap.size)) args s 0 0 (xA B s.heap.size)) (F0 m (pcl_X8_take lab) ls []) := by
    intro P hJ lab v3 v4 M h H locs ls S hl
    match lab, h, hl with
    | 0, h, hl =>
      have hl : lv_has ls 5 [(0, .ref (ad 0)), (1, .int v1), (2, .int v2)] := hl
      have h : blk_X8_take_0 v1 v2 Q P v3 v4 M := h
      unfold blk_X8_take_0 at h
      refine W.eq (g2 := F0 m 0 ls []) rfl ?_
      refine lv_aload_n hx hb dX8_take_0 rfl (lv_at hl 0 rfl) ?_
      refine lv_iconst (v := 0) hx hb dX8_take_1 (by decide) ?_
      refine x_putI hx hb hts (hC8) tyX8 tyX8_ok nmX8 hown hK S 0 (by decide) rf_0_0 (index := 74) (hts _ (List.mem_of_getElem? (i := 1) rfl)) rfl rfl rfl dX8_take_2 (fun H locs S => ?_)
      refine lv_iload_n hx hb dX8_take_5 rfl (lv_at hl 1 rfl) ?_
      refine lv_i2l (v := v1.toInt64) hx hb dX8_take_6 rfl ?_
      refine lv_lconst (v := 0) hx hb dX8_take_7 rfl ?_
      refine lv_ldc2 (v := 3) hx hb hown (hts _ (List.mem_of_getElem? (i := 2) rfl)) dX8_take_8 ?_
      refine x_callSi (As := [.long v1.toInt64, .long (0 : Int64), .long (3 : Int64)]) ⟨hx, hb, hml, hown, hts⟩ hK S (ct_X8_in l D cy ad B _ _ _ _ _ h) (va_cwS 3 hts gX8_take_X8_in rfl rfl rfl (by decide +kernel) ⟨Nat.le_of_ble_eq_true rfl, Nat.le_of_ble_eq_true rfl⟩) rfl hl.1 rfl (Nat.le_of_ble_eq_true rfl) dX8_take_11 ⟨Nat.zero_le _, Nat.zero_le _⟩ (fun r1 M1 H locs h S => ?_)
      refine lv_if_ne (tgt := 24) hx hb dX8_take_14 (by decide) (fun c14 => ?_) (fun c14 => ?_)
      · replace h := h.1 c14
        refine lv_aload_n hx hb dX8_take_24 rfl (lv_at hl 0 rfl) ?_
        refine x_getR hx hb hts (hC8) hown hK S 1 (by decide) rf_0_1 (index := 7) (hts _ (List.mem_of_getElem? (i := 3) rfl)) dX8_take_25 ?_
        refine lv_iload_n hx hb dX8_take_28 rfl (lv_at hl 1 rfl) ?_
        refine x_iald hx hb hK S ra_1 h.1 dX8_take_29 ?_
        replace h := h.2
        refine lv_if_ge (tgt := 40) hx hb dX8_take_30 (by decide) (fun c30 => ?_) (fun c30 => ?_)
        · replace h := h.1 c30
          refine lv_iload_n hx hb dX8_take_40 rfl (lv_at hl 2 rfl) ?_
          refine lv_i2l (v := v2.toInt64) hx hb dX8_take_41 rfl ?_
          refine lv_lconst (v := 0) hx hb dX8_take_42 rfl ?_
          refine lv_aload_n hx hb dX8_take_43 rfl (lv_at hl 0 rfl) ?_
          refine x_getR hx hb hts (hC8) hown hK S 1 (by decide) rf_0_1 (index := 7) (hts _ (List.mem_of_getElem? (i := 3) rfl)) dX8_take_44 ?_
          refine lv_iload_n hx hb dX8_take_47 rfl (lv_at hl 1 rfl) ?_
          refine x_iald hx hb hK S ra_1 h.1 dX8_take_48 ?_
          replace h := h.2
          refine lv_i2l (v := (M1.1 1 v1.toNatClampNeg).toInt64) hx hb dX8_take_49 rfl ?_
          refine x_callSi (As := [.long v2.toInt64, .long (0 : Int64), .long ((M1.1 1 v1.toNatClampNeg).toInt64)]) ⟨hx, hb, hml, hown, hts⟩ hK S (ct_X8_in l D cy ad B _ _ _ _ _ h) (va_cwS 3 hts gX8_take_X8_in rfl rfl rfl (by decide +kernel) ⟨Nat.le_of_ble_eq_true rfl, Nat.le_of_ble_eq_true rfl⟩) rfl hl.1 rfl (Nat.le_of_ble_eq_true rfl) dX8_take_50 ⟨Nat.zero_le _, Nat.zero_le _⟩ (fun r2 M2 H locs h S => ?_)
          refine lv_if_ne (tgt := 63) hx hb dX8_take_53 (by decide) (fun c53 => ?_) (fun c53 => ?_)
          · replace h := h.1 c53
            refine lv_iconst (v := 0) hx hb dX8_take_63 (by decide) ?_
            refine lv_istore_n (lv' := [(3, .int 0), (0, .ref (ad 0)), (1, .int v1), (2, .int v2)]) hx hb dX8_take_64 rfl hl (by decide) rfl (fun ls hl => ?_)
            refine lv_iload_n hx hb dX8_take_65 rfl (lv_at hl 3 rfl) ?_
            refine lv_istore (lv' := [(4, .int v2), (3, .int 0), (0, .ref (ad 0)), (1, .int v1), (2, .int v2)]) hx hb dX8_take_66 hl (by decide) rfl (fun ls hl => ?_)
            exact hJ _ _ _ _ h _ _ _ S (lv_sub hl [2, 3, 1, 0] rfl)
          · replace h := h.2 c53
            refine lv_aload_n hx hb dX8_take_56 rfl (lv_at hl 0 rfl) ?_
            refine lv_bipush (v := (-12)) hx hb dX8_take_57 (by decide) ?_
            refine x_callVi (As := [.int (-12)]) ⟨hx, hb, hml, hown, hts⟩ hK S (ct_X8_finds l D cy ad B _ _ _ h) ro_0 rfl (cwV 1 hts gX8_take_X8_finds rfl rfl rfl (by decide +kernel) ⟨Nat.le_of_ble_eq_true rfl, Nat.le_of_ble_eq_true rfl⟩) rfl hl.1 rfl (Nat.le_of_ble_eq_true rfl) dX8_take_59 ⟨Nat.zero_le _, Nat.zero_le _⟩ (fun r3 M3 H locs h S => ?_)
            exact x_iret hx hb hr hlocks S rfl h dX8_take_62
        · replace h := h.2 c30
          refine lv_aload_n hx hb dX8_take_33 rfl (lv_at hl 0 rfl) ?_
          refine lv_bipush (v := (-11)) hx hb dX8_take_34 (by decide) ?_
          refine x_callVi (As := [.int (-11)]) ⟨hx, hb, hml, hown, hts⟩ hK S (ct_X8_finds l D cy ad B _ _ _ h) ro_0 rfl (cwV 1 hts gX8_take_X8_finds rfl rfl rfl (by decide +kernel) ⟨Nat.le_of_ble_eq_true rfl, Nat.le_of_ble_eq_true rfl⟩) rfl hl.1 rfl (Nat.le_of_ble_eq_true rfl) dX8_take_36 ⟨Nat.zero_le _, Nat.zero_le _⟩ (fun r4 M4 H locs h S => ?_)
          exact x_iret hx hb hr hlocks S rfl h dX8_take_39
      · replace h := h.2 c14
        refine lv_aload_n hx hb dX8_take_17 rfl (lv_at hl 0 rfl) ?_
        refine lv_bipush (v := (-12)) hx hb dX8_take_18 (by decide) ?_
        refine x_callVi (As := [.int (-12)]) ⟨hx, hb, hml, hown, hts⟩ hK S (ct_X8_finds l D cy ad B _ _ _ h) ro_0 rfl (cwV 1 hts gX8_take_X8_finds rfl rfl rfl (by decide +kernel) ⟨Nat.le_of_ble_eq_true rfl, Nat.le_of_ble_eq_true rfl⟩) rfl hl.1 rfl (Nat.le_of_ble_eq_true rfl) dX8_take_20 ⟨Nat.zero_le _, Nat.zero_le _⟩ (fun r5 M5 H locs h S => ?_)
        exact x_iret hx hb hr hlocks S rfl h dX8_take_23
    | 1, h, hl =>
      have hl : lv_has ls 5 [(0, .ref (ad 0)), (1, .int v1), (3, .int v3), (4, .int v4)] := hl
      have h : blk_X8_take_1 v1 v2 Q P v3 v4 M := h
      unfold blk_X8_take_1 at h
      refine W.eq (g2 := F0 m 68 ls []) rfl ?_
      refine lv_iload hx hb dX8_take_68 (lv_at hl 3 rfl) ?_
      refine lv_iconst (v := 1) hx hb dX8_take_70 (by decide) ?_
      refine lv_iadd hx hb dX8_take_71 ?_
      refine lv_aload_n hx hb dX8_take_72 rfl (lv_at hl 0 rfl) ?_
      refine x_getR hx hb hts (hC8) hown hK S 1 (by decide) rf_0_1 (index := 7) (hts _ (List.mem_of_getElem? (i := 3) rfl)) dX8_take_73 ?_
      refine lv_iload_n hx hb dX8_take_76 rfl (lv_at hl 1 rfl) ?_
      refine x_iald hx hb hK S ra_1 h.1 dX8_take_77 ?_
      replace h := h.2
      refine lv_icmp_ge (tgt := 125) hx hb dX8_take_78 (by decide) (fun c78 => ?_) (fun c78 => ?_)
      · replace h := h.1 c78
        refine lv_iload_n hx hb dX8_take_125 rfl (lv_at hl 2 rfl) ?_
        exact x_iret hx hb hr hlocks S rfl h dX8_take_126
      · replace h := h.2 c78
        refine lv_aload_n hx hb dX8_take_81 rfl (lv_at hl 0 rfl) ?_
        refine lv_aload_n hx hb dX8_take_82 rfl (lv_at hl 0 rfl) ?_
        refine x_getR hx hb hts (hC8) hown hK S 3 (by decide) rf_0_3 (index := 16) (hts _ (List.mem_of_getElem? (i := 4) rfl)) dX8_take_83 ?_
        refine lv_bipush (v := 20) hx hb dX8_take_86 (by decide) ?_
        refine lv_iload_n hx hb dX8_take_88 rfl (lv_at hl 1 rfl) ?_
        refine lv_imul hx hb dX8_take_89 ?_
        refine lv_iload hx hb dX8_take_90 (lv_at hl 3 rfl) ?_
        refine lv_iadd hx hb dX8_take_92 ?_
        refine x_lald hx hb hK S ra_3 h.1 dX8_take_93 ?_
        replace h := h.2
        refine lv_aload_n hx hb dX8_take_94 rfl (lv_at hl 0 rfl) ?_
        refine x_getR hx hb hts (hC8) hown hK S 3 (by decide) rf_0_3 (index := 16) (hts _ (List.mem_of_getElem? (i := 4) rfl)) dX8_take_95 ?_
        refine lv_bipush (v := 20) hx hb dX8_take_98 (by decide) ?_
        refine lv_iload_n hx hb dX8_take_100 rfl (lv_at hl 1 rfl) ?_
        refine lv_imul hx hb dX8_take_101 ?_
        refine lv_iload hx hb dX8_take_102 (lv_at hl 3 rfl) ?_
        refine lv_iadd hx hb dX8_take_104 ?_
        refine lv_iconst (v := 1) hx hb dX8_take_105 (by decide) ?_
        refine lv_iadd hx hb dX8_take_106 ?_
        refine x_lald hx hb hK S ra_3 h.1 dX8_take_107 ?_
        replace h := h.2
        refine x_callVi (As := [.long (M.2 3 ((20 * v1) + v4).toNatClampNeg), .long (M.2 3 (((20 * v1) + v4) + 1).toNatClampNeg)]) ⟨hx, hb, hml, hown, hts⟩ hK S (ct_X8_collect l D cy ad B _ _ _ _ h) ro_0 rfl (cwV 2 hts gX8_take_X8_collect rfl rfl rfl (by decide +kernel) ⟨Nat.le_of_ble_eq_true rfl, Nat.le_of_ble_eq_true rfl⟩) rfl hl.1 rfl (Nat.le_of_ble_eq_true rfl) dX8_take_108 ⟨Nat.zero_le _, Nat.zero_le _⟩ (fun r6 M6 H locs h S => ?_)
        refine lv_if_ge (tgt := 116) hx hb dX8_take_111 (by decide) (fun c111 => ?_) (fun c111 => ?_)
        · replace h := h.1 c111
          refine lv_iinc (v := (v3 + 1)) (lv' := [(3, .int (v3 + 1)), (0, .ref (ad 0)), (1, .int v1), (4, .int v4)]) hx hb dX8_take_116 hl (k := 2) rfl rfl (by decide) rfl (fun ls hl => ?_)
          refine lv_iinc (v := (v4 + 2)) (lv' := [(4, .int (v4 + 2)), (3, .int (v3 + 1)), (0, .ref (ad 0)), (1, .int v1)]) hx hb dX8_take_119 hl (k := 3) rfl rfl (by decide) rfl (fun ls hl => ?_)
          refine lv_goto (tgt := 68) hx hb dX8_take_122 (by decide) ?_
          exact hJ _ _ _ _ h _ _ _ S (lv_sub hl [2, 3, 1, 0] rfl)
        · replace h := h.2 c111
          refine lv_iload_n hx hb dX8_take_114 rfl (lv_at hl 2 rfl) ?_
          exact x_iret hx hb hr hlocks S rfl h dX8_take_115
    | _ + 2, h, hl => exact h.elim
  have hl := lv_entry ([.ref (ad 0), .int v1, .int v2]) (n := 5) (Nat.le_of_ble_eq_true rfl)
  subst hargs
  rw [lg_entry_eq]
  generalize (lg_sl ([.ref (ad 0), .int v1, .int v2]) ++ List.replicate (5 - (lg_sl ([.ref (ad 0), .int v1, .int v2])).length) Slot.unset).toArray = ls at hl ⊢
  exact h _ (key _ (fun _ _ _ _ h => h)) s.heap [] ls ⟨hP, hD, va_S.rf⟩ hl
/-! X8_clear -/
def wp_X8_clear (M : Mem) (Q : Int32 → Mem → Prop) : Prop :=
  Q ((upI M 0 0 0).1 0 5) (upI (upI M 0 0 0) 0 5 0)
theorem wp_X8_clear_mono {M : Mem} {Q Q' : Int32 → Mem → Prop} (hQ : ∀ (r : Int32) (M : Mem), Q r M → Q' r M) (h : wp_X8_clear M Q) : wp_X8_clear M Q' := by
  unfold wp_X8_clear at h ⊢
  exact hQ _ _ h
abbrev rm_X8_clear : Jvm.Room := { frames := 1, cells := 0, slots := 0, locals := 13 }
set_option maxHeartbeats 4000000 in
set_option maxRecDepth 100000 in
theorem ct_X8_clear (l : Launch) (D : va_G) (cy : Nat → ClassId) (ad : Nat → Nat) (B : Nat → Prop) (M : Mem) (Q : Int32 → Mem → Prop) (h : wp_X8_clear M Q) : CTi l D cy (wR ad cy) B yX8_clear wsX8_clear rm_X8_clear [.ref (ad 0)] M Q := by
  intro sz
  refine Met.ofW (cc := cX8_clear) (maxL := 2) (ret := some .int) (by decide) rfl ?_
  intro p e s m args below meth c s₁ Bd hml hv
  obtain ⟨hargs, hsz, hP, hK, hD⟩ := hv
  subst hsz
  have hx := Bd.exec
  have hb := Bd.bytes
  have hr := Bd.returns
  have hts := atoms_spec (ws := wsX8_clear) Bd.pre
  have hown : s.vm.findClass RX8 = some m.cls := findClass_of_methodNamed Bd.named
  have hlocks := Bd.notSynchronized
  have hC8 : xC wsX8_clear 8 RX8 TX8 34 := ⟨by decide +kernel, rfl⟩
  have hl := lv_entry ([.ref (ad 0)]) (n := 2) (Nat.le_of_ble_eq_true rfl)
  subst hargs
  rw [lg_entry_eq]
  generalize (lg_sl ([.ref (ad 0)]) ++ List.replicate (2 - (lg_sl ([.ref (ad 0)])).length) Slot.unset).toArray = ls at hl ⊢
  have hl : lv_has ls 2 [(0, .ref (ad 0))] := hl
  have S : xS D (wR ad cy) B s.heap s.heap [] M := ⟨hP, hD, va_S.rf⟩
  unfold wp_X8_clear at h
  refine lv_aload_n hx hb dX8_clear_0 rfl (lv_at hl 0 rfl) ?_
  refine lv_iconst (v := 0) hx hb dX8_clear_1 (by decide) ?_
  refine x_putI hx hb hts (hC8) tyX8 tyX8_ok nmX8 hown hK S 0 (by decide) rf_0_0 (index := 74) (hts _ (List.mem_of_getElem? (i := 1) rfl)) rfl rfl rfl dX8_clear_2 (fun H locs S => ?_)
  refine lv_aload_n hx hb dX8_clear_5 rfl (lv_at hl 0 rfl) ?_
  refine x_getI hx hb hts (hC8) hown hK S 5 (by decide) rf_0_5 (index := 95) (hts _ (List.mem_of_getElem? (i := 2) rfl)) dX8_clear_6 ?_
  refine lv_istore_n (lv' := [(1, .int ((upI M 0 0 0).1 0 5)), (0, .ref (ad 0))]) hx hb dX8_clear_9 rfl hl (by decide) rfl (fun ls hl => ?_)
  refine lv_aload_n hx hb dX8_clear_10 rfl (lv_at hl 1 rfl) ?_
  refine lv_iconst (v := 0) hx hb dX8_clear_11 (by decide) ?_
  refine x_putI hx hb hts (hC8) tyX8 tyX8_ok nmX8 hown hK S 5 (by decide) rf_0_5 (index := 95) (hts _ (List.mem_of_getElem? (i := 2) rfl)) rfl rfl rfl dX8_clear_12 (fun H locs S => ?_)
  refine lv_iload_n hx hb dX8_clear_15 rfl (lv_at hl 0 rfl) ?_
  exact x_iret hx hb hr hlocks S rfl h dX8_clear_16
/-! X8_side -/
def wp_X8_side (v1 : Int32) (v2 : Int32) (v3 : Int32) (M : Mem) (Q : Int32 → Mem → Prop) : Prop :=
  (vp_in v2 8 ∧ (vp_in v1 8 ∧ (vp_in v3 8 ∧ (vp_in v1 8 ∧ (vp_in v2 8 ∧ (vp_in v1 8 ∧ (vp_in v3 8 ∧ (vp_in v1 8 ∧ ∀ x4_1 : Int32, x4_1 = ((((M.1 6 v2.toNatClampNeg) - (M.1 6 v1.toNatClampNeg)) * ((M.1 7 v3.toNatClampNeg) - (M.1 7 v1.toNatClampNeg))) - (((M.1 7 v2.toNatClampNeg) - (M.1 7 v1.toNatClampNeg)) * ((M.1 6 v3.toNatClampNeg) - (M.1 6 v1.toNatClampNeg)))) → ((x4_1 ≤ 0 → ((0 ≤ x4_1 → Q 0 M) ∧ (¬ 0 ≤ x4_1 → Q (-1) M))) ∧ (¬ x4_1 ≤ 0 → Q 1 M))))))))))
theorem wp_X8_side_mono {v1 : Int32} {v2 : Int32} {v3 : Int32} {M : Mem} {Q Q' : Int32 → Mem → Prop} (hQ : ∀ (r : Int32) (M : Mem), Q r M → Q' r M) (h : wp_X8_side v1 v2 v3 M Q) : wp_X8_side v1 v2 v3 M Q' := by
  unfold wp_X8_side at h ⊢
  exact ⟨h.1, let h := h.2; ⟨h.1, let h := h.2; ⟨h.1, let h := h.2; ⟨h.1, let h := h.2; ⟨h.1, let h := h.2; ⟨h.1, let h := h.2; ⟨h.1, let h := h.2; ⟨h.1, let h := h.2; fun x4_1 ex4_1 => let h := h x4_1 ex4_1; ⟨fun c => let h := h.1 c; ⟨fun c => let h := h.1 c; hQ _ _ h, fun c => let h := h.2 c; hQ _ _ h⟩, fun c => let h := h.2 c; hQ _ _ h⟩⟩⟩⟩⟩⟩⟩⟩⟩
abbrev rm_X8_side : Jvm.Room := { frames := 1, cells := 0, slots := 0, locals := 16 }
set_option maxHeartbeats 4000000 in
set_option maxRecDepth 100000 in
theorem ct_X8_side (l : Launch) (D : va_G) (cy : Nat → ClassId) (ad : Nat → Nat) (B : Nat → Prop) (v1 : Int32) (v2 : Int32) (v3 : Int32) (M : Mem) (Q : Int32 → Mem → Prop) (h : wp_X8_side v1 v2 v3 M Q) : CTi l D cy (wR ad cy) B yX8_side wsX8_side rm_X8_side [.ref (ad 0), .int v1, .int v2, .int v3] M Q := by
  intro sz
  refine Met.ofW (cc := cX8_side) (maxL := 5) (ret := some .int) (by decide) rfl ?_
  intro p e s m args below meth c s₁ Bd hml hv
  obtain ⟨hargs, hsz, hP, hK, hD⟩ := hv
  subst hsz
  have hx := Bd.exec
  have hb := Bd.bytes
  have hr := Bd.returns
  have hts := atoms_spec (ws := wsX8_side) Bd.pre
  have hown : s.vm.findClass RX8 = some m.cls := findClass_of_methodNamed Bd.named
  have hlocks := Bd.notSynchronized
  have hC8 : xC wsX8_side 8 RX8 TX8 34 := ⟨by decide +kernel, rfl⟩
  have hl := lv_entry ([.ref (ad 0), .int v1, .int v2, .int v3]) (n := 5) (Nat.le_of_ble_eq_true rfl)
  subst hargs
  rw [lg_entry_eq]
  generalize (lg_sl ([.ref (ad 0), .int v1, .int v2, .int v3]) ++ List.replicate (5 - (lg_sl ([.ref (ad 0), .int v1, .int v2, .int v3])).length) Slot.unset).toArray = ls at hl ⊢
  have hl : lv_has ls 5 [(0, .ref (ad 0)), (1, .int v1), (2, .int v2), (3, .int v3)] := hl
  have S : xS D (wR ad cy) B s.heap s.heap [] M := ⟨hP, hD, va_S.rf⟩
  unfold wp_X8_side at h
  refine lv_aload_n hx hb dX8_side_0 rfl (lv_at hl 0 rfl) ?_
  refine x_getR hx hb hts (hC8) hown hK S 10 (by decide) rf_0_10 (index := 26) (hts _ (List.mem_of_getElem? (i := 1) rfl)) dX8_side_1 ?_
  refine lv_iload_n hx hb dX8_side_4 rfl (lv_at hl 2 rfl) ?_
  refine x_iald hx hb hK S ra_6 h.1 dX8_side_5 ?_
  replace h := h.2
  refine lv_aload_n hx hb dX8_side_6 rfl (lv_at hl 0 rfl) ?_
  refine x_getR hx hb hts (hC8) hown hK S 10 (by decide) rf_0_10 (index := 26) (hts _ (List.mem_of_getElem? (i := 1) rfl)) dX8_side_7 ?_
  refine lv_iload_n hx hb dX8_side_10 rfl (lv_at hl 1 rfl) ?_
  refine x_iald hx hb hK S ra_6 h.1 dX8_side_11 ?_
  replace h := h.2
  refine lv_isub hx hb dX8_side_12 ?_
  refine lv_aload_n hx hb dX8_side_13 rfl (lv_at hl 0 rfl) ?_
  refine x_getR hx hb hts (hC8) hown hK S 11 (by decide) rf_0_11 (index := 29) (hts _ (List.mem_of_getElem? (i := 2) rfl)) dX8_side_14 ?_
  refine lv_iload_n hx hb dX8_side_17 rfl (lv_at hl 3 rfl) ?_
  refine x_iald hx hb hK S ra_7 h.1 dX8_side_18 ?_
  replace h := h.2
  refine lv_aload_n hx hb dX8_side_19 rfl (lv_at hl 0 rfl) ?_
  refine x_getR hx hb hts (hC8) hown hK S 11 (by decide) rf_0_11 (index := 29) (hts _ (List.mem_of_getElem? (i := 2) rfl)) dX8_side_20 ?_
  refine lv_iload_n hx hb dX8_side_23 rfl (lv_at hl 1 rfl) ?_
  refine x_iald hx hb hK S ra_7 h.1 dX8_side_24 ?_
  replace h := h.2
  refine lv_isub hx hb dX8_side_25 ?_
  refine lv_imul hx hb dX8_side_26 ?_
  refine lv_aload_n hx hb dX8_side_27 rfl (lv_at hl 0 rfl) ?_
  refine x_getR hx hb hts (hC8) hown hK S 11 (by decide) rf_0_11 (index := 29) (hts _ (List.mem_of_getElem? (i := 2) rfl)) dX8_side_28 ?_
  refine lv_iload_n hx hb dX8_side_31 rfl (lv_at hl 2 rfl) ?_
  refine x_iald hx hb hK S ra_7 h.1 dX8_side_32 ?_
  replace h := h.2
  refine lv_aload_n hx hb dX8_side_33 rfl (lv_at hl 0 rfl) ?_
  refine x_getR hx hb hts (hC8) hown hK S 11 (by decide) rf_0_11 (index := 29) (hts _ (List.mem_of_getElem? (i := 2) rfl)) dX8_side_34 ?_
  refine lv_iload_n hx hb dX8_side_37 rfl (lv_at hl 1 rfl) ?_
  refine x_iald hx hb hK S ra_7 h.1 dX8_side_38 ?_
  replace h := h.2
  refine lv_isub hx hb dX8_side_39 ?_
  refine lv_aload_n hx hb dX8_side_40 rfl (lv_at hl 0 rfl) ?_
  refine x_getR hx hb hts (hC8) hown hK S 10 (by decide) rf_0_10 (index := 26) (hts _ (List.mem_of_getElem? (i := 1) rfl)) dX8_side_41 ?_
  refine lv_iload_n hx hb dX8_side_44 rfl (lv_at hl 3 rfl) ?_
  refine x_iald hx hb hK S ra_6 h.1 dX8_side_45 ?_
  replace h := h.2
  refine lv_aload_n hx hb dX8_side_46 rfl (lv_at hl 0 rfl) ?_
  refine x_getR hx hb hts (hC8) hown hK S 10 (by decide) rf_0_10 (index := 26) (hts _ (List.mem_of_getElem? (i := 1) rfl)) dX8_side_47 ?_
  refine lv_iload_n hx hb dX8_side_50 rfl (lv_at hl 1 rfl) ?_
  refine x_iald hx hb hK S ra_6 h.1 dX8_side_51 ?_
  replace h := h.2
  refine lv_isub hx hb dX8_side_52 ?_
  refine lv_imul hx hb dX8_side_53 ?_
  refine lv_isub hx hb dX8_side_54 ?_
  refine lv_topi (fun x4_1 ex4_1 => ?_)
  replace h := h x4_1 ex4_1
  refine lv_istore (lv' := [(4, .int x4_1), (0, .ref (ad 0)), (1, .int v1), (2, .int v2), (3, .int v3)]) hx hb dX8_side_55 hl (by decide) rfl (fun ls hl => ?_)
  refine lv_iload hx hb dX8_side_57 (lv_at hl 0 rfl) ?_
  refine lv_if_le (tgt := 66) hx hb dX8_side_59 (by decide) (fun c59 => ?_) (fun c59 => ?_)
  · replace h := h.1 c59
    refine lv_iload hx hb dX8_side_66 (lv_at hl 0 rfl) ?_
    refine lv_if_ge (tgt := 75) hx hb dX8_side_68 (by decide) (fun c68 => ?_) (fun c68 => ?_)
    · replace h := h.1 c68
      refine lv_iconst (v := 0) hx hb dX8_side_75 (by decide) ?_
      exact x_iret hx hb hr hlocks S rfl h dX8_side_76
    · replace h := h.2 c68
      refine lv_iconst (v := (-1)) hx hb dX8_side_71 (by decide) ?_
      refine lv_goto (tgt := 76) hx hb dX8_side_72 (by decide) ?_
      exact x_iret hx hb hr hlocks S rfl h dX8_side_76
  · replace h := h.2 c59
    refine lv_iconst (v := 1) hx hb dX8_side_62 (by decide) ?_
    refine lv_goto (tgt := 76) hx hb dX8_side_63 (by decide) ?_
    exact x_iret hx hb hr hlocks S rfl h dX8_side_76
/-! X8_isBetween -/
def wp_X8_isBetween (v1 : Int32) (v2 : Int32) (v3 : Int32) (M : Mem) (Q : Int32 → Mem → Prop) : Prop :=
  (vp_in v1 8 ∧ (vp_in v3 8 ∧ (vp_in v2 8 ∧ (vp_in v3 8 ∧ (vp_in v1 8 ∧ (vp_in v3 8 ∧ (vp_in v2 8 ∧ (vp_in v3 8 ∧ ∀ x4_1 : Int32, x4_1 = ((((M.1 6 v1.toNatClampNeg) - (M.1 6 v3.toNatClampNeg)) * ((M.1 6 v2.toNatClampNeg) - (M.1 6 v3.toNatClampNeg))) + (((M.1 7 v1.toNatClampNeg) - (M.1 7 v3.toNatClampNeg)) * ((M.1 7 v2.toNatClampNeg) - (M.1 7 v3.toNatClampNeg)))) → wp_X8_side v1 v2 v3 M (fun r2 M2 => ((¬ r2 = 0 → Q 0 M2) ∧ (r2 = 0 → ((0 ≤ x4_1 → Q 0 M2) ∧ (¬ 0 ≤ x4_1 → Q 1 M2)))))))))))))
theorem wp_X8_isBetween_mono {v1 : Int32} {v2 : Int32} {v3 : Int32} {M : Mem} {Q Q' : Int32 → Mem → Prop} (hQ : ∀ (r : Int32) (M : Mem), Q r M → Q' r M) (h : wp_X8_isBetween v1 v2 v3 M Q) : wp_X8_isBetween v1 v2 v3 M Q' := by
  unfold wp_X8_isBetween at h ⊢
  exact ⟨h.1, let h := h.2; ⟨h.1, let h := h.2; ⟨h.1, let h := h.2; ⟨h.1, let h := h.2; ⟨h.1, let h := h.2; ⟨h.1, let h := h.2; ⟨h.1, let h := h.2; ⟨h.1, let h := h.2; fun x4_1 ex4_1 => let h := h x4_1 ex4_1; wp_X8_side_mono (fun r2 M2 h => ⟨fun c => let h := h.1 c; hQ _ _ h, fun c => let h := h.2 c; ⟨fun c => let h := h.1 c; hQ _ _ h, fun c => let h := h.2 c; hQ _ _ h⟩⟩) h⟩⟩⟩⟩⟩⟩⟩⟩
abbrev rm_X8_isBetween : Jvm.Room := { frames := 2, cells := 0, slots := 0, locals := 40 }
set_option maxHeartbeats 4000000 in
set_option maxRecDepth 100000 in
theorem ct_X8_isBetween (l : Launch) (D : va_G) (cy : Nat → ClassId) (ad : Nat → Nat) (B : Nat → Prop) (v1 : Int32) (v2 : Int32) (v3 : Int32) (M : Mem) (Q : Int32 → Mem → Prop) (h : wp_X8_isBetween v1 v2 v3 M Q) : CTi l D cy (wR ad cy) B yX8_isBetween wsX8_isBetween rm_X8_isBetween [.ref (ad 0), .int v1, .int v2, .int v3] M Q := by
  intro sz
  refine Met.ofW (cc := cX8_isBetween) (maxL := 5) (ret := some .boolean) (by decide) rfl ?_
  intro p e s m args below meth c s₁ Bd hml hv
  obtain ⟨hargs, hsz, hP, hK, hD⟩ := hv
  subst hsz
  have hx := Bd.exec
  have hb := Bd.bytes
  have hr := Bd.returns
  have hts := atoms_spec (ws := wsX8_isBetween) Bd.pre
  have hown : s.vm.findClass RX8 = some m.cls := findClass_of_methodNamed Bd.named
  have hlocks := Bd.notSynchronized
  have hC8 : xC wsX8_isBetween 8 RX8 TX8 34 := ⟨by decide +kernel, rfl⟩
  have hl := lv_entry ([.ref (ad 0), .int v1, .int v2, .int v3]) (n := 5) (Nat.le_of_ble_eq_true rfl)
  subst hargs
  rw [lg_entry_eq]
  generalize (lg_sl ([.ref (ad 0), .int v1, .int v2, .int v3]) ++ List.replicate (5 - (lg_sl ([.ref (ad 0), .int v1, .int v2, .int v3])).length) Slot.unset).toArray = ls at hl ⊢
  have hl : lv_has ls 5 [(0, .ref (ad 0)), (1, .int v1), (2, .int v2), (3, .int v3)] := hl
  have S : xS D (wR ad cy) B s.heap s.heap [] M := ⟨hP, hD, va_S.rf⟩
  unfold wp_X8_isBetween at h
  refine lv_aload_n hx hb dX8_isBetween_0 rfl (lv_at hl 0 rfl) ?_
  refine x_getR hx hb hts (hC8) hown hK S 10 (by decide) rf_0_10 (index := 26) (hts _ (List.mem_of_getElem? (i := 1) rfl)) dX8_isBetween_1 ?_
  refine lv_iload_n hx hb dX8_isBetween_4 rfl (lv_at hl 1 rfl) ?_
  refine x_iald hx hb hK S ra_6 h.1 dX8_isBetween_5 ?_
  replace h := h.2
  refine lv_aload_n hx hb dX8_isBetween_6 rfl (lv_at hl 0 rfl) ?_
  refine x_getR hx hb hts (hC8) hown hK S 10 (by decide) rf_0_10 (index := 26) (hts _ (List.mem_of_getElem? (i := 1) rfl)) dX8_isBetween_7 ?_
  refine lv_iload_n hx hb dX8_isBetween_10 rfl (lv_at hl 3 rfl) ?_
  refine x_iald hx hb hK S ra_6 h.1 dX8_isBetween_11 ?_
  replace h := h.2
  refine lv_isub hx hb dX8_isBetween_12 ?_
  refine lv_aload_n hx hb dX8_isBetween_13 rfl (lv_at hl 0 rfl) ?_
  refine x_getR hx hb hts (hC8) hown hK S 10 (by decide) rf_0_10 (index := 26) (hts _ (List.mem_of_getElem? (i := 1) rfl)) dX8_isBetween_14 ?_
  refine lv_iload_n hx hb dX8_isBetween_17 rfl (lv_at hl 2 rfl) ?_
  refine x_iald hx hb hK S ra_6 h.1 dX8_isBetween_18 ?_
  replace h := h.2
  refine lv_aload_n hx hb dX8_isBetween_19 rfl (lv_at hl 0 rfl) ?_
  refine x_getR hx hb hts (hC8) hown hK S 10 (by decide) rf_0_10 (index := 26) (hts _ (List.mem_of_getElem? (i := 1) rfl)) dX8_isBetween_20 ?_
  refine lv_iload_n hx hb dX8_isBetween_23 rfl (lv_at hl 3 rfl) ?_
  refine x_iald hx hb hK S ra_6 h.1 dX8_isBetween_24 ?_
  replace h := h.2
  refine lv_isub hx hb dX8_isBetween_25 ?_
  refine lv_imul hx hb dX8_isBetween_26 ?_
  refine lv_aload_n hx hb dX8_isBetween_27 rfl (lv_at hl 0 rfl) ?_
  refine x_getR hx hb hts (hC8) hown hK S 11 (by decide) rf_0_11 (index := 29) (hts _ (List.mem_of_getElem? (i := 2) rfl)) dX8_isBetween_28 ?_
  refine lv_iload_n hx hb dX8_isBetween_31 rfl (lv_at hl 1 rfl) ?_
  refine x_iald hx hb hK S ra_7 h.1 dX8_isBetween_32 ?_
  replace h := h.2
  refine lv_aload_n hx hb dX8_isBetween_33 rfl (lv_at hl 0 rfl) ?_
  refine x_getR hx hb hts (hC8) hown hK S 11 (by decide) rf_0_11 (index := 29) (hts _ (List.mem_of_getElem? (i := 2) rfl)) dX8_isBetween_34 ?_
  refine lv_iload_n hx hb dX8_isBetween_37 rfl (lv_at hl 3 rfl) ?_
  refine x_iald hx hb hK S ra_7 h.1 dX8_isBetween_38 ?_
  replace h := h.2
  refine lv_isub hx hb dX8_isBetween_39 ?_
  refine lv_aload_n hx hb dX8_isBetween_40 rfl (lv_at hl 0 rfl) ?_
  refine x_getR hx hb hts (hC8) hown hK S 11 (by decide) rf_0_11 (index := 29) (hts _ (List.mem_of_getElem? (i := 2) rfl)) dX8_isBetween_41 ?_
  refine lv_iload_n hx hb dX8_isBetween_44 rfl (lv_at hl 2 rfl) ?_
  refine x_iald hx hb hK S ra_7 h.1 dX8_isBetween_45 ?_
  replace h := h.2
  refine lv_aload_n hx hb dX8_isBetween_46 rfl (lv_at hl 0 rfl) ?_
  refine x_getR hx hb hts (hC8) hown hK S 11 (by decide) rf_0_11 (index := 29) (hts _ (List.mem_of_getElem? (i := 2) rfl)) dX8_isBetween_47 ?_
  refine lv_iload_n hx hb dX8_isBetween_50 rfl (lv_at hl 3 rfl) ?_
  refine x_iald hx hb hK S ra_7 h.1 dX8_isBetween_51 ?_
  replace h := h.2
  refine lv_isub hx hb dX8_isBetween_52 ?_
  refine lv_imul hx hb dX8_isBetween_53 ?_
  refine lv_iadd hx hb dX8_isBetween_54 ?_
  refine lv_topi (fun x4_1 ex4_1 => ?_)
  replace h := h x4_1 ex4_1
  refine lv_istore (lv' := [(4, .int x4_1), (0, .ref (ad 0)), (1, .int v1), (2, .int v2), (3, .int v3)]) hx hb dX8_isBetween_55 hl (by decide) rfl (fun ls hl => ?_)
  refine lv_aload_n hx hb dX8_isBetween_57 rfl (lv_at hl 1 rfl) ?_
  refine lv_iload_n hx hb dX8_isBetween_58 rfl (lv_at hl 2 rfl) ?_
  refine lv_iload_n hx hb dX8_isBetween_59 rfl (lv_at hl 3 rfl) ?_
  refine lv_iload_n hx hb dX8_isBetween_60 rfl (lv_at hl 4 rfl) ?_
  refine x_callVi (As := [.int v1, .int v2, .int v3]) ⟨hx, hb, hml, hown, hts⟩ hK S (ct_X8_side l D cy ad B _ _ _ _ _ h) ro_0 rfl (cwV 3 hts gX8_isBetween_X8_side rfl rfl rfl (by decide +kernel) ⟨Nat.le_of_ble_eq_true rfl, Nat.le_of_ble_eq_true rfl⟩) rfl hl.1 rfl (Nat.le_of_ble_eq_true rfl) dX8_isBetween_61 ⟨Nat.zero_le _, Nat.zero_le _⟩ (fun r2 M2 H locs h S => ?_)
  refine lv_if_ne (tgt := 76) hx hb dX8_isBetween_64 (by decide) (fun c64 => ?_) (fun c64 => ?_)
  · replace h := h.1 c64
    refine lv_iconst (v := 0) hx hb dX8_isBetween_76 (by decide) ?_
    exact x_iret hx hb hr hlocks S rfl h dX8_isBetween_77
  · replace h := h.2 c64
    refine lv_iload hx hb dX8_isBetween_67 (lv_at hl 0 rfl) ?_
    refine lv_if_ge (tgt := 76) hx hb dX8_isBetween_69 (by decide) (fun c69 => ?_) (fun c69 => ?_)
    · replace h := h.1 c69
      refine lv_iconst (v := 0) hx hb dX8_isBetween_76 (by decide) ?_
      exact x_iret hx hb hr hlocks S rfl h dX8_isBetween_77
    · replace h := h.2 c69
      refine lv_iconst (v := 1) hx hb dX8_isBetween_72 (by decide) ?_
      refine lv_goto (tgt := 77) hx hb dX8_isBetween_73 (by decide) ?_
      exact x_iret hx hb hr hlocks S rfl h dX8_isBetween_77
/-! X8_isCross -/
def wp_X8_isCross (v1 : Int32) (v2 : Int32) (M : Mem) (Q : Int32 → Mem → Prop) : Prop :=
  (vp_in v1 28 ∧ (vp_in v1 28 ∧ (vp_in v2 28 ∧ (vp_in v2 28 ∧ wp_X8_side (M.1 8 v1.toNatClampNeg) (M.1 9 v1.toNatClampNeg) (M.1 8 v2.toNatClampNeg) M (fun r1 M1 => wp_X8_side (M.1 8 v1.toNatClampNeg) (M.1 9 v1.toNatClampNeg) (M.1 9 v2.toNatClampNeg) M1 (fun r2 M2 => ((0 ≤ (r1 * r2) → Q 0 M2) ∧ (¬ 0 ≤ (r1 * r2) → wp_X8_side (M.1 8 v2.toNatClampNeg) (M.1 9 v2.toNatClampNeg) (M.1 8 v1.toNatClampNeg) M2 (fun r3 M3 => wp_X8_side (M.1 8 v2.toNatClampNeg) (M.1 9 v2.toNatClampNeg) (M.1 9 v1.toNatClampNeg) M3 (fun r4 M4 => ((0 ≤ (r3 * r4) → Q 0 M4) ∧ (¬ 0 ≤ (r3 * r4) → Q 1 M4))))))))))))
theorem wp_X8_isCross_mono {v1 : Int32} {v2 : Int32} {M : Mem} {Q Q' : Int32 → Mem → Prop} (hQ : ∀ (r : Int32) (M : Mem), Q r M → Q' r M) (h : wp_X8_isCross v1 v2 M Q) : wp_X8_isCross v1 v2 M Q' := by
  unfold wp_X8_isCross at h ⊢
  exact ⟨h.1, let h := h.2; ⟨h.1, let h := h.2; ⟨h.1, let h := h.2; ⟨h.1, let h := h.2; wp_X8_side_mono (fun r1 M1 h => wp_X8_side_mono (fun r2 M2 h => ⟨fun c => let h := h.1 c; hQ _ _ h, fun c => let h := h.2 c; wp_X8_side_mono (fun r3 M3 h => wp_X8_side_mono (fun r4 M4 h => ⟨fun c => let h := h.1 c; hQ _ _ h, fun c => let h := h.2 c; hQ _ _ h⟩) h) h⟩) h) h⟩⟩⟩⟩
abbrev rm_X8_isCross : Jvm.Room := { frames := 2, cells := 0, slots := 0, locals := 40 }
set_option maxHeartbeats 4000000 in
set_option maxRecDepth 100000 in
theorem ct_X8_isCross (l : Launch) (D : va_G) (cy : Nat → ClassId) (ad : Nat → Nat) (B : Nat → Prop) (v1 : Int32) (v2 : Int32) (M : Mem) (Q : Int32 → Mem → Prop) (h : wp_X8_isCross v1 v2 M Q) : CTi l D cy (wR ad cy) B yX8_isCross wsX8_isCross rm_X8_isCross [.ref (ad 0), .int v1, .int v2] M Q := by
  intro sz
  refine Met.ofW (cc := cX8_isCross) (maxL := 7) (ret := some .boolean) (by decide) rfl ?_
  intro p e s m args below meth c s₁ Bd hml hv
  obtain ⟨hargs, hsz, hP, hK, hD⟩ := hv
  subst hsz
  have hx := Bd.exec
  have hb := Bd.bytes
  have hr := Bd.returns
  have hts := atoms_spec (ws := wsX8_isCross) Bd.pre
  have hown : s.vm.findClass RX8 = some m.cls := findClass_of_methodNamed Bd.named
  have hlocks := Bd.notSynchronized
  have hC8 : xC wsX8_isCross 8 RX8 TX8 34 := ⟨by decide +kernel, rfl⟩
  have hl := lv_entry ([.ref (ad 0), .int v1, .int v2]) (n := 7) (Nat.le_of_ble_eq_true rfl)
  subst hargs
  rw [lg_entry_eq]
  generalize (lg_sl ([.ref (ad 0), .int v1, .int v2]) ++ List.replicate (7 - (lg_sl ([.ref (ad 0), .int v1, .int v2])).length) Slot.unset).toArray = ls at hl ⊢
  have hl : lv_has ls 7 [(0, .ref (ad 0)), (1, .int v1), (2, .int v2)] := hl
  have S : xS D (wR ad cy) B s.heap s.heap [] M := ⟨hP, hD, va_S.rf⟩
  unfold wp_X8_isCross at h
  refine lv_aload_n hx hb dX8_isCross_0 rfl (lv_at hl 0 rfl) ?_
  refine x_getR hx hb hts (hC8) hown hK S 13 (by decide) rf_0_13 (index := 32) (hts _ (List.mem_of_getElem? (i := 1) rfl)) dX8_isCross_1 ?_
  refine lv_iload_n hx hb dX8_isCross_4 rfl (lv_at hl 1 rfl) ?_
  refine x_iald hx hb hK S ra_8 h.1 dX8_isCross_5 ?_
  replace h := h.2
  refine lv_istore_n (lv' := [(3, .int (M.1 8 v1.toNatClampNeg)), (0, .ref (ad 0)), (1, .int v1), (2, .int v2)]) hx hb dX8_isCross_6 rfl hl (by decide) rfl (fun ls hl => ?_)
  refine lv_aload_n hx hb dX8_isCross_7 rfl (lv_at hl 1 rfl) ?_
  refine x_getR hx hb hts (hC8) hown hK S 14 (by decide) rf_0_14 (index := 35) (hts _ (List.mem_of_getElem? (i := 2) rfl)) dX8_isCross_8 ?_
  refine lv_iload_n hx hb dX8_isCross_11 rfl (lv_at hl 2 rfl) ?_
  refine x_iald hx hb hK S ra_9 h.1 dX8_isCross_12 ?_
  replace h := h.2
  refine lv_istore (lv' := [(4, .int (M.1 9 v1.toNatClampNeg)), (3, .int (M.1 8 v1.toNatClampNeg)), (0, .ref (ad 0)), (1, .int v1), (2, .int v2)]) hx hb dX8_isCross_13 hl (by decide) rfl (fun ls hl => ?_)
  refine lv_aload_n hx hb dX8_isCross_15 rfl (lv_at hl 2 rfl) ?_
  refine x_getR hx hb hts (hC8) hown hK S 13 (by decide) rf_0_13 (index := 32) (hts _ (List.mem_of_getElem? (i := 1) rfl)) dX8_isCross_16 ?_
  refine lv_iload_n hx hb dX8_isCross_19 rfl (lv_at hl 4 rfl) ?_
  refine x_iald hx hb hK S ra_8 h.1 dX8_isCross_20 ?_
  replace h := h.2
  refine lv_istore (lv' := [(5, .int (M.1 8 v2.toNatClampNeg)), (4, .int (M.1 9 v1.toNatClampNeg)), (3, .int (M.1 8 v1.toNatClampNeg)), (0, .ref (ad 0)), (1, .int v1), (2, .int v2)]) hx hb dX8_isCross_21 hl (by decide) rfl (fun ls hl => ?_)
  refine lv_aload_n hx hb dX8_isCross_23 rfl (lv_at hl 3 rfl) ?_
  refine x_getR hx hb hts (hC8) hown hK S 14 (by decide) rf_0_14 (index := 35) (hts _ (List.mem_of_getElem? (i := 2) rfl)) dX8_isCross_24 ?_
  refine lv_iload_n hx hb dX8_isCross_27 rfl (lv_at hl 5 rfl) ?_
  refine x_iald hx hb hK S ra_9 h.1 dX8_isCross_28 ?_
  replace h := h.2
  refine lv_istore (lv' := [(6, .int (M.1 9 v2.toNatClampNeg)), (5, .int (M.1 8 v2.toNatClampNeg)), (4, .int (M.1 9 v1.toNatClampNeg)), (3, .int (M.1 8 v1.toNatClampNeg)), (0, .ref (ad 0)), (1, .int v1), (2, .int v2)]) hx hb dX8_isCross_29 hl (by decide) rfl (fun ls hl => ?_)
  refine lv_aload_n hx hb dX8_isCross_31 rfl (lv_at hl 4 rfl) ?_
  refine lv_iload_n hx hb dX8_isCross_32 rfl (lv_at hl 3 rfl) ?_
  refine lv_iload hx hb dX8_isCross_33 (lv_at hl 2 rfl) ?_
  refine lv_iload hx hb dX8_isCross_35 (lv_at hl 1 rfl) ?_
  refine x_callVi (As := [.int (M.1 8 v1.toNatClampNeg), .int (M.1 9 v1.toNatClampNeg), .int (M.1 8 v2.toNatClampNeg)]) ⟨hx, hb, hml, hown, hts⟩ hK S (ct_X8_side l D cy ad B _ _ _ _ _ h) ro_0 rfl (cwV 3 hts gX8_isCross_X8_side rfl rfl rfl (by decide +kernel) ⟨Nat.le_of_ble_eq_true rfl, Nat.le_of_ble_eq_true rfl⟩) rfl hl.1 rfl (Nat.le_of_ble_eq_true rfl) dX8_isCross_37 ⟨Nat.zero_le _, Nat.zero_le _⟩ (fun r1 M1 H locs h S => ?_)
  refine lv_aload_n hx hb dX8_isCross_40 rfl (lv_at hl 4 rfl) ?_
  refine lv_iload_n hx hb dX8_isCross_41 rfl (lv_at hl 3 rfl) ?_
  refine lv_iload hx hb dX8_isCross_42 (lv_at hl 2 rfl) ?_
  refine lv_iload hx hb dX8_isCross_44 (lv_at hl 0 rfl) ?_
  refine x_callVi (As := [.int (M.1 8 v1.toNatClampNeg), .int (M.1 9 v1.toNatClampNeg), .int (M.1 9 v2.toNatClampNeg)]) ⟨hx, hb, hml, hown, hts⟩ hK S (ct_X8_side l D cy ad B _ _ _ _ _ h) ro_0 rfl (cwV 3 hts gX8_isCross_X8_side rfl rfl rfl (by decide +kernel) ⟨Nat.le_of_ble_eq_true rfl, Nat.le_of_ble_eq_true rfl⟩) rfl hl.1 rfl (Nat.le_of_ble_eq_true rfl) dX8_isCross_46 ⟨Nat.zero_le _, Nat.zero_le _⟩ (fun r2 M2 H locs h S => ?_)
  refine lv_imul hx hb dX8_isCross_49 ?_
  refine lv_if_ge (tgt := 80) hx hb dX8_isCross_50 (by decide) (fun c50 => ?_) (fun c50 => ?_)
  · replace h := h.1 c50
    refine lv_iconst (v := 0) hx hb dX8_isCross_80 (by decide) ?_
    exact x_iret hx hb hr hlocks S rfl h dX8_isCross_81
  · replace h := h.2 c50
    refine lv_aload_n hx hb dX8_isCross_53 rfl (lv_at hl 4 rfl) ?_
    refine lv_iload hx hb dX8_isCross_54 (lv_at hl 1 rfl) ?_
    refine lv_iload hx hb dX8_isCross_56 (lv_at hl 0 rfl) ?_
    refine lv_iload_n hx hb dX8_isCross_58 rfl (lv_at hl 3 rfl) ?_
    refine x_callVi (As := [.int (M.1 8 v2.toNatClampNeg), .int (M.1 9 v2.toNatClampNeg), .int (M.1 8 v1.toNatClampNeg)]) ⟨hx, hb, hml, hown, hts⟩ hK S (ct_X8_side l D cy ad B _ _ _ _ _ h) ro_0 rfl (cwV 3 hts gX8_isCross_X8_side rfl rfl rfl (by decide +kernel) ⟨Nat.le_of_ble_eq_true rfl, Nat.le_of_ble_eq_true rfl⟩) rfl hl.1 rfl (Nat.le_of_ble_eq_true rfl) dX8_isCross_59 ⟨Nat.zero_le _, Nat.zero_le _⟩ (fun r3 M3 H locs h S => ?_)
    refine lv_aload_n hx hb dX8_isCross_62 rfl (lv_at hl 4 rfl) ?_
    refine lv_iload hx hb dX8_isCross_63 (lv_at hl 1 rfl) ?_
    refine lv_iload hx hb dX8_isCross_65 (lv_at hl 0 rfl) ?_
    refine lv_iload hx hb dX8_isCross_67 (lv_at hl 2 rfl) ?_
    refine x_callVi (As := [.int (M.1 8 v2.toNatClampNeg), .int (M.1 9 v2.toNatClampNeg), .int (M.1 9 v1.toNatClampNeg)]) ⟨hx, hb, hml, hown, hts⟩ hK S (ct_X8_side l D cy ad B _ _ _ _ _ h) ro_0 rfl (cwV 3 hts gX8_isCross_X8_side rfl rfl rfl (by decide +kernel) ⟨Nat.le_of_ble_eq_true rfl, Nat.le_of_ble_eq_true rfl⟩) rfl hl.1 rfl (Nat.le_of_ble_eq_true rfl) dX8_isCross_69 ⟨Nat.zero_le _, Nat.zero_le _⟩ (fun r4 M4 H locs h S => ?_)
    refine lv_imul hx hb dX8_isCross_72 ?_
    refine lv_if_ge (tgt := 80) hx hb dX8_isCross_73 (by decide) (fun c73 => ?_) (fun c73 => ?_)
    · replace h := h.1 c73
      refine lv_iconst (v := 0) hx hb dX8_isCross_80 (by decide) ?_
      exact x_iret hx hb hr hlocks S rfl h dX8_isCross_81
    · replace h := h.2 c73
      refine lv_iconst (v := 1) hx hb dX8_isCross_76 (by decide) ?_
      refine lv_goto (tgt := 81) hx hb dX8_isCross_77 (by decide) ?_
      exact x_iret hx hb hr hlocks S rfl h dX8_isCross_81
