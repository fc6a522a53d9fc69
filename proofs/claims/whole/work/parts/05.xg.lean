/-! X7_moveTo -/
def wp_X7_moveTo (v1 : Int32) (M : Mem) (Q : Mem → Prop) : Prop :=
  wp_X3_keep (M.1 0 9) M (fun M1 => Q (upI M1 0 9 v1))
theorem wp_X7_moveTo_mono {v1 : Int32} {M : Mem} {Q Q' : Mem → Prop} (hQ : ∀ M : Mem, Q M → Q' M) (h : wp_X7_moveTo v1 M Q) : wp_X7_moveTo v1 M Q' := by
  unfold wp_X7_moveTo at h ⊢
  exact wp_X3_keep_mono (fun M1 h => hQ _ h) h
abbrev rm_X7_moveTo : Jvm.Room := { frames := 3, cells := 0, slots := 0, locals := 61 }
set_option maxHeartbeats 4000000 in
set_option maxRecDepth 100000 in
theorem ct_X7_moveTo (l : Launch) (D : va_G) (cy : Nat → ClassId) (ad : Nat → Nat) (B : Nat → Prop) (v1 : Int32) (M : Mem) (Q : Mem → Prop) (h : wp_X7_moveTo v1 M Q) : CTv l D cy (wX ad cy) B yX7_moveTo wsX7_moveTo rm_X7_moveTo [.ref (ad 0), .int v1] M Q := by
  intro sz
  refine Met.ofW (cc := cX7_moveTo) (maxL := 2) (ret := none) (by decide) rfl ?_
  intro p e s m args below meth c s₁ Bd hml hv
  obtain ⟨hargs, hsz, hP, hK, hD⟩ := hv
  subst hsz
  have hx := Bd.exec
  have hb := Bd.bytes
  have hr := Bd.returns
  have hts := atoms_spec (ws := wsX7_moveTo) Bd.pre
  have hown : s.vm.findClass RX7 = some m.cls := findClass_of_methodNamed Bd.named
  have hlocks := Bd.notSynchronized
  have hC7 : xC wsX7_moveTo 7 RX7 TX7 11 := ⟨by decide +kernel, rfl⟩
  have hl := lv_entry ([.ref (ad 0), .int v1]) (n := 2) (Nat.le_of_ble_eq_true rfl)
  subst hargs
  rw [lg_entry_eq]
  generalize (lg_sl ([.ref (ad 0), .int v1]) ++ List.replicate (2 - (lg_sl ([.ref (ad 0), .int v1])).length) Slot.unset).toArray = ls at hl ⊢
  have hl : lv_has ls 2 [(0, .ref (ad 0)), (1, .int v1)] := hl
  have S : xS D (wX ad cy) B s.heap s.heap [] M := ⟨hP, hD, va_S.rf⟩
  unfold wp_X7_moveTo at h
  refine lv_aload_n hx hb dX7_moveTo_0 rfl (lv_at hl 0 rfl) ?_
  refine x_getR hx hb hts (hC7) hown hK S 6 (by decide) xf_0_6 (index := 53) (hts _ (List.mem_of_getElem? (i := 1) rfl)) dX7_moveTo_1 ?_
  refine lv_aload_n hx hb dX7_moveTo_4 rfl (lv_at hl 0 rfl) ?_
  refine x_getI hx hb hts (hC7) hown hK S 9 (by decide) xf_0_9 (index := 123) (hts _ (List.mem_of_getElem? (i := 2) rfl)) dX7_moveTo_5 ?_
  refine x_callVv (As := [.int (M.1 0 9)]) ⟨hx, hb, hml, hown, hts⟩ hK S (ct_X3_keep l D cy ad B _ _ _ h) xo_31 rfl (cwV 1 hts gX7_moveTo_X3_keep rfl rfl rfl (by decide +kernel) ⟨Nat.le_of_ble_eq_true rfl, Nat.le_of_ble_eq_true rfl⟩) rfl hl.1 rfl (Nat.le_of_ble_eq_true rfl) dX7_moveTo_8 ⟨Nat.zero_le _, Nat.zero_le _⟩ (fun M1 H locs h S => ?_)
  refine lv_aload_n hx hb dX7_moveTo_11 rfl (lv_at hl 0 rfl) ?_
  refine lv_iload_n hx hb dX7_moveTo_12 rfl (lv_at hl 1 rfl) ?_
  refine x_putI hx hb hts (hC7) tyX7 tyX7_ok nmX7 hown hK S 9 (by decide) xf_0_9 (index := 123) (hts _ (List.mem_of_getElem? (i := 2) rfl)) rfl rfl rfl dX7_moveTo_13 (fun H locs S => ?_)
  exact x_vret hx hb hr hlocks S h dX7_moveTo_16
/-! X7_turn -/
def wp_X7_turn (v1 : Int32) (M : Mem) (Q : Int32 → Mem → Prop) : Prop :=
  wp_X7_fenceRefusal v1 M (fun r1 M1 => ((r1 = 0 → wp_X7_comingFor v1 M1 (fun r2 M2 => ((¬ r2 = (-9) → wp_X1_afterTurn (M2.1 0 9) v1 M2 (fun r3 M3 => wp_X7_moveTo r3 M3 (fun M4 => Q r2 M4))) ∧ (r2 = (-9) → Q (-3) M2)))) ∧ (¬ r1 = 0 → Q r1 M1)))
theorem wp_X7_turn_mono {v1 : Int32} {M : Mem} {Q Q' : Int32 → Mem → Prop} (hQ : ∀ (r : Int32) (M : Mem), Q r M → Q' r M) (h : wp_X7_turn v1 M Q) : wp_X7_turn v1 M Q' := by
  unfold wp_X7_turn at h ⊢
  exact wp_X7_fenceRefusal_mono (fun r1 M1 h => ⟨fun c => let h := h.1 c; wp_X7_comingFor_mono (fun r2 M2 h => ⟨fun c => let h := h.1 c; wp_X1_afterTurn_mono (fun r3 M3 h => wp_X7_moveTo_mono (fun M4 h => hQ _ _ h) h) h, fun c => let h := h.2 c; hQ _ _ h⟩) h, fun c => let h := h.2 c; hQ _ _ h⟩) h
abbrev rm_X7_turn : Jvm.Room := { frames := 5, cells := 0, slots := 0, locals := 113 }
set_option maxHeartbeats 4000000 in
set_option maxRecDepth 100000 in
theorem ct_X7_turn (l : Launch) (D : va_G) (cy : Nat → ClassId) (ad : Nat → Nat) (B : Nat → Prop) (v1 : Int32) (M : Mem) (Q : Int32 → Mem → Prop) (h : wp_X7_turn v1 M Q) : CTi l D cy (wX ad cy) B yX7_turn wsX7_turn rm_X7_turn [.ref (ad 0), .int v1] M Q := by
  intro sz
  refine Met.ofW (cc := cX7_turn) (maxL := 4) (ret := some .int) (by decide) rfl ?_
  intro p e s m args below meth c s₁ Bd hml hv
  obtain ⟨hargs, hsz, hP, hK, hD⟩ := hv
  subst hsz
  have hx := Bd.exec
  have hb := Bd.bytes
  have hr := Bd.returns
  have hts := atoms_spec (ws := wsX7_turn) Bd.pre
  have hown : s.vm.findClass RX7 = some m.cls := findClass_of_methodNamed Bd.named
  have hlocks := Bd.notSynchronized
  have hC7 : xC wsX7_turn 7 RX7 TX7 11 := ⟨by decide +kernel, rfl⟩
  have hl := lv_entry ([.ref (ad 0), .int v1]) (n := 4) (Nat.le_of_ble_eq_true rfl)
  subst hargs
  rw [lg_entry_eq]
  generalize (lg_sl ([.ref (ad 0), .int v1]) ++ List.replicate (4 - (lg_sl ([.ref (ad 0), .int v1])).length) Slot.unset).toArray = ls at hl ⊢
  have hl : lv_has ls 4 [(0, .ref (ad 0)), (1, .int v1)] := hl
  have S : xS D (wX ad cy) B s.heap s.heap [] M := ⟨hP, hD, va_S.rf⟩
  unfold wp_X7_turn at h
  refine lv_aload_n hx hb dX7_turn_0 rfl (lv_at hl 0 rfl) ?_
  refine lv_iload_n hx hb dX7_turn_1 rfl (lv_at hl 1 rfl) ?_
  refine x_callVi (As := [.int v1]) ⟨hx, hb, hml, hown, hts⟩ hK S (ct_X7_fenceRefusal l D cy ad B _ _ _ h) xo_0 rfl (cwV 1 hts gX7_turn_X7_fenceRefusal rfl rfl rfl (by decide +kernel) ⟨Nat.le_of_ble_eq_true rfl, Nat.le_of_ble_eq_true rfl⟩) rfl hl.1 rfl (Nat.le_of_ble_eq_true rfl) dX7_turn_2 ⟨Nat.zero_le _, Nat.zero_le _⟩ (fun r1 M1 H locs h S => ?_)
  refine lv_istore_n (lv' := [(2, .int r1), (0, .ref (ad 0)), (1, .int v1)]) hx hb dX7_turn_5 rfl hl (by decide) rfl (fun ls hl => ?_)
  refine lv_iload_n hx hb dX7_turn_6 rfl (lv_at hl 0 rfl) ?_
  refine lv_if_eq (tgt := 12) hx hb dX7_turn_7 (by decide) (fun c7 => ?_) (fun c7 => ?_)
  · replace h := h.1 c7
    refine lv_aload_n hx hb dX7_turn_12 rfl (lv_at hl 1 rfl) ?_
    refine lv_iload_n hx hb dX7_turn_13 rfl (lv_at hl 2 rfl) ?_
    refine x_callVi (As := [.int v1]) ⟨hx, hb, hml, hown, hts⟩ hK S (ct_X7_comingFor l D cy ad B _ _ _ h) xo_0 rfl (cwV 1 hts gX7_turn_X7_comingFor rfl rfl rfl (by decide +kernel) ⟨Nat.le_of_ble_eq_true rfl, Nat.le_of_ble_eq_true rfl⟩) rfl hl.1 rfl (Nat.le_of_ble_eq_true rfl) dX7_turn_14 ⟨Nat.zero_le _, Nat.zero_le _⟩ (fun r2 M2 H locs h S => ?_)
    refine lv_istore_n (lv' := [(3, .int r2), (2, .int r1), (0, .ref (ad 0)), (1, .int v1)]) hx hb dX7_turn_17 rfl hl (by decide) rfl (fun ls hl => ?_)
    refine lv_iload_n hx hb dX7_turn_18 rfl (lv_at hl 0 rfl) ?_
    refine lv_bipush (v := (-9)) hx hb dX7_turn_19 (by decide) ?_
    refine lv_icmp_ne (tgt := 27) hx hb dX7_turn_21 (by decide) (fun c21 => ?_) (fun c21 => ?_)
    · replace h := h.1 c21
      refine lv_aload_n hx hb dX7_turn_27 rfl (lv_at hl 2 rfl) ?_
      refine lv_aload_n hx hb dX7_turn_28 rfl (lv_at hl 2 rfl) ?_
      refine x_getR hx hb hts (hC7) hown hK S 3 (by decide) xf_0_3 (index := 32) (hts _ (List.mem_of_getElem? (i := 1) rfl)) dX7_turn_29 ?_
      refine lv_aload_n hx hb dX7_turn_32 rfl (lv_at hl 2 rfl) ?_
      refine x_getI hx hb hts (hC7) hown hK S 9 (by decide) xf_0_9 (index := 123) (hts _ (List.mem_of_getElem? (i := 2) rfl)) dX7_turn_33 ?_
      refine lv_iload_n hx hb dX7_turn_36 rfl (lv_at hl 3 rfl) ?_
      refine x_callVi (As := [.int (M2.1 0 9), .int v1]) ⟨hx, hb, hml, hown, hts⟩ hK S (ct_X1_afterTurn l D cy ad B _ _ _ _ h) xo_22 rfl (cwV 2 hts gX7_turn_X1_afterTurn rfl rfl rfl (by decide +kernel) ⟨Nat.le_of_ble_eq_true rfl, Nat.le_of_ble_eq_true rfl⟩) rfl hl.1 rfl (Nat.le_of_ble_eq_true rfl) dX7_turn_37 ⟨Nat.zero_le _, Nat.zero_le _⟩ (fun r3 M3 H locs h S => ?_)
      refine x_callVv (As := [.int r3]) ⟨hx, hb, hml, hown, hts⟩ hK S (ct_X7_moveTo l D cy ad B _ _ _ h) xo_0 rfl (cwV 1 hts gX7_turn_X7_moveTo rfl rfl rfl (by decide +kernel) ⟨Nat.le_of_ble_eq_true rfl, Nat.le_of_ble_eq_true rfl⟩) rfl hl.1 rfl (Nat.le_of_ble_eq_true rfl) dX7_turn_40 ⟨Nat.zero_le _, Nat.zero_le _⟩ (fun M4 H locs h S => ?_)
      refine lv_iload_n hx hb dX7_turn_43 rfl (lv_at hl 0 rfl) ?_
      exact x_iret hx hb hr hlocks S rfl h dX7_turn_44
    · replace h := h.2 c21
      refine lv_bipush (v := (-3)) hx hb dX7_turn_24 (by decide) ?_
      exact x_iret hx hb hr hlocks S rfl h dX7_turn_26
  · replace h := h.2 c7
    refine lv_iload_n hx hb dX7_turn_10 rfl (lv_at hl 0 rfl) ?_
    exact x_iret hx hb hr hlocks S rfl h dX7_turn_11
/-! X3_latest -/
def wp_X3_latest (M : Mem) (Q : Int32 → Mem → Prop) : Prop :=
  (vp_in ((upI (upI M 31 2 ((((M.1 31 2) + 10) - 1) - (((M.1 31 2) + 10) - 1) / 10 * 10)) 31 0 (((upI M 31 2 ((((M.1 31 2) + 10) - 1) - (((M.1 31 2) + 10) - 1) / 10 * 10)).1 31 0) - 1)).1 31 2) 10 ∧ Q ((upI (upI M 31 2 ((((M.1 31 2) + 10) - 1) - (((M.1 31 2) + 10) - 1) / 10 * 10)) 31 0 (((upI M 31 2 ((((M.1 31 2) + 10) - 1) - (((M.1 31 2) + 10) - 1) / 10 * 10)).1 31 0) - 1)).1 32 ((upI (upI M 31 2 ((((M.1 31 2) + 10) - 1) - (((M.1 31 2) + 10) - 1) / 10 * 10)) 31 0 (((upI M 31 2 ((((M.1 31 2) + 10) - 1) - (((M.1 31 2) + 10) - 1) / 10 * 10)).1 31 0) - 1)).1 31 2).toNatClampNeg) (upI (upI M 31 2 ((((M.1 31 2) + 10) - 1) - (((M.1 31 2) + 10) - 1) / 10 * 10)) 31 0 (((upI M 31 2 ((((M.1 31 2) + 10) - 1) - (((M.1 31 2) + 10) - 1) / 10 * 10)).1 31 0) - 1)))
theorem wp_X3_latest_mono {M : Mem} {Q Q' : Int32 → Mem → Prop} (hQ : ∀ (r : Int32) (M : Mem), Q r M → Q' r M) (h : wp_X3_latest M Q) : wp_X3_latest M Q' := by
  unfold wp_X3_latest at h ⊢
  exact ⟨h.1, let h := h.2; hQ _ _ h⟩
abbrev rm_X3_latest : Jvm.Room := { frames := 1, cells := 0, slots := 0, locals := 12 }
set_option maxHeartbeats 4000000 in
set_option maxRecDepth 100000 in
theorem ct_X3_latest (l : Launch) (D : va_G) (cy : Nat → ClassId) (ad : Nat → Nat) (B : Nat → Prop) (M : Mem) (Q : Int32 → Mem → Prop) (h : wp_X3_latest M Q) : CTi l D cy (wX ad cy) B yX3_latest wsX3_latest rm_X3_latest [.ref (ad 31)] M Q := by
  intro sz
  refine Met.ofW (cc := cX3_latest) (maxL := 1) (ret := some .int) (by decide) rfl ?_
  intro p e s m args below meth c s₁ Bd hml hv
  obtain ⟨hargs, hsz, hP, hK, hD⟩ := hv
  subst hsz
  have hx := Bd.exec
  have hb := Bd.bytes
  have hr := Bd.returns
  have hts := atoms_spec (ws := wsX3_latest) Bd.pre
  have hown : s.vm.findClass RX3 = some m.cls := findClass_of_methodNamed Bd.named
  have hlocks := Bd.notSynchronized
  have hC3 : xC wsX3_latest 3 RX3 TX3 3 := ⟨by decide +kernel, rfl⟩
  have hl := lv_entry ([.ref (ad 31)]) (n := 1) (Nat.le_of_ble_eq_true rfl)
  subst hargs
  rw [lg_entry_eq]
  generalize (lg_sl ([.ref (ad 31)]) ++ List.replicate (1 - (lg_sl ([.ref (ad 31)])).length) Slot.unset).toArray = ls at hl ⊢
  have hl : lv_has ls 1 [(0, .ref (ad 31))] := hl
  have S : xS D (wX ad cy) B s.heap s.heap [] M := ⟨hP, hD, va_S.rf⟩
  unfold wp_X3_latest at h
  refine lv_aload_n hx hb dX3_latest_0 rfl (lv_at hl 0 rfl) ?_
  refine lv_aload_n hx hb dX3_latest_1 rfl (lv_at hl 0 rfl) ?_
  refine x_getI hx hb hts (hC3) hown hK S 2 (by decide) xf_31_2 (index := 19) (hts _ (List.mem_of_getElem? (i := 1) rfl)) dX3_latest_2 ?_
  refine lv_bipush (v := 10) hx hb dX3_latest_5 (by decide) ?_
  refine lv_iadd hx hb dX3_latest_7 ?_
  refine lv_iconst (v := 1) hx hb dX3_latest_8 (by decide) ?_
  refine lv_isub hx hb dX3_latest_9 ?_
  refine lv_bipush (v := 10) hx hb dX3_latest_10 (by decide) ?_
  refine lv_irem hx hb dX3_latest_12 (by decide) ?_
  refine x_putI hx hb hts (hC3) tyX3 tyX3_ok nmX3 hown hK S 2 (by decide) xf_31_2 (index := 19) (hts _ (List.mem_of_getElem? (i := 1) rfl)) rfl rfl rfl dX3_latest_13 (fun H locs S => ?_)
  refine lv_aload_n hx hb dX3_latest_16 rfl (lv_at hl 0 rfl) ?_
  refine lv_dup hx hb dX3_latest_17 rfl ?_
  refine x_getI hx hb hts (hC3) hown hK S 0 (by decide) xf_31_0 (index := 15) (hts _ (List.mem_of_getElem? (i := 2) rfl)) dX3_latest_18 ?_
  refine lv_iconst (v := 1) hx hb dX3_latest_21 (by decide) ?_
  refine lv_isub hx hb dX3_latest_22 ?_
  refine x_putI hx hb hts (hC3) tyX3 tyX3_ok nmX3 hown hK S 0 (by decide) xf_31_0 (index := 15) (hts _ (List.mem_of_getElem? (i := 2) rfl)) rfl rfl rfl dX3_latest_23 (fun H locs S => ?_)
  refine lv_aload_n hx hb dX3_latest_26 rfl (lv_at hl 0 rfl) ?_
  refine x_getR hx hb hts (hC3) hown hK S 1 (by decide) xf_31_1 (index := 9) (hts _ (List.mem_of_getElem? (i := 3) rfl)) dX3_latest_27 ?_
  refine lv_aload_n hx hb dX3_latest_30 rfl (lv_at hl 0 rfl) ?_
  refine x_getI hx hb hts (hC3) hown hK S 2 (by decide) xf_31_2 (index := 19) (hts _ (List.mem_of_getElem? (i := 1) rfl)) dX3_latest_31 ?_
  refine x_iald hx hb hK S xa_32 h.1 dX3_latest_34 ?_
  replace h := h.2
  exact x_iret hx hb hr hlocks S rfl h dX3_latest_35
/-! X7_back -/
def wp_X7_back (M : Mem) (Q : Int32 → Mem → Prop) : Prop :=
  (((M.1 0 8) = 0 → Q (-3) M) ∧ (¬ (M.1 0 8) = 0 → ((¬ (M.1 31 0) = 0 → wp_X3_latest M (fun r1 M1 => Q ((upI M1 0 9 r1).1 31 0) (upI M1 0 9 r1))) ∧ ((M.1 31 0) = 0 → Q (-3) M))))
theorem wp_X7_back_mono {M : Mem} {Q Q' : Int32 → Mem → Prop} (hQ : ∀ (r : Int32) (M : Mem), Q r M → Q' r M) (h : wp_X7_back M Q) : wp_X7_back M Q' := by
  unfold wp_X7_back at h ⊢
  exact ⟨fun c => let h := h.1 c; hQ _ _ h, fun c => let h := h.2 c; ⟨fun c => let h := h.1 c; wp_X3_latest_mono (fun r1 M1 h => hQ _ _ h) h, fun c => let h := h.2 c; hQ _ _ h⟩⟩
abbrev rm_X7_back : Jvm.Room := { frames := 2, cells := 0, slots := 0, locals := 32 }
set_option maxHeartbeats 4000000 in
set_option maxRecDepth 100000 in
theorem ct_X7_back (l : Launch) (D : va_G) (cy : Nat → ClassId) (ad : Nat → Nat) (B : Nat → Prop) (M : Mem) (Q : Int32 → Mem → Prop) (h : wp_X7_back M Q) : CTi l D cy (wX ad cy) B yX7_back wsX7_back rm_X7_back [.ref (ad 0)] M Q := by
  intro sz
  refine Met.ofW (cc := cX7_back) (maxL := 1) (ret := some .int) (by decide) rfl ?_
  intro p e s m args below meth c s₁ Bd hml hv
  obtain ⟨hargs, hsz, hP, hK, hD⟩ := hv
  subst hsz
  have hx := Bd.exec
  have hb := Bd.bytes
  have hr := Bd.returns
  have hts := atoms_spec (ws := wsX7_back) Bd.pre
  have hown : s.vm.findClass RX7 = some m.cls := findClass_of_methodNamed Bd.named
  have hlocks := Bd.notSynchronized
  have hC3 : xC wsX7_back 3 RX3 TX3 3 := ⟨by decide +kernel, rfl⟩
  have hC7 : xC wsX7_back 7 RX7 TX7 11 := ⟨by decide +kernel, rfl⟩
  have hl := lv_entry ([.ref (ad 0)]) (n := 1) (Nat.le_of_ble_eq_true rfl)
  subst hargs
  rw [lg_entry_eq]
  generalize (lg_sl ([.ref (ad 0)]) ++ List.replicate (1 - (lg_sl ([.ref (ad 0)])).length) Slot.unset).toArray = ls at hl ⊢
  have hl : lv_has ls 1 [(0, .ref (ad 0))] := hl
  have S : xS D (wX ad cy) B s.heap s.heap [] M := ⟨hP, hD, va_S.rf⟩
  unfold wp_X7_back at h
  refine lv_aload_n hx hb dX7_back_0 rfl (lv_at hl 0 rfl) ?_
  refine x_getI hx hb hts (hC7) hown hK S 8 (by decide) xf_0_8 (index := 126) (hts _ (List.mem_of_getElem? (i := 1) rfl)) dX7_back_1 ?_
  refine lv_if_eq (tgt := 17) hx hb dX7_back_4 (by decide) (fun c4 => ?_) (fun c4 => ?_)
  · replace h := h.1 c4
    refine lv_bipush (v := (-3)) hx hb dX7_back_17 (by decide) ?_
    exact x_iret hx hb hr hlocks S rfl h dX7_back_19
  · replace h := h.2 c4
    refine lv_aload_n hx hb dX7_back_7 rfl (lv_at hl 0 rfl) ?_
    refine x_getR hx hb hts (hC7) hown hK S 6 (by decide) xf_0_6 (index := 53) (hts _ (List.mem_of_getElem? (i := 2) rfl)) dX7_back_8 ?_
    refine x_getI hx hb hts (hC3) hown hK S 0 (by decide) xf_31_0 (index := 197) (hts _ (List.mem_of_getElem? (i := 3) rfl)) dX7_back_11 ?_
    refine lv_if_ne (tgt := 20) hx hb dX7_back_14 (by decide) (fun c14 => ?_) (fun c14 => ?_)
    · replace h := h.1 c14
      refine lv_aload_n hx hb dX7_back_20 rfl (lv_at hl 0 rfl) ?_
      refine lv_aload_n hx hb dX7_back_21 rfl (lv_at hl 0 rfl) ?_
      refine x_getR hx hb hts (hC7) hown hK S 6 (by decide) xf_0_6 (index := 53) (hts _ (List.mem_of_getElem? (i := 2) rfl)) dX7_back_22 ?_
      refine x_callVi (As := []) ⟨hx, hb, hml, hown, hts⟩ hK S (ct_X3_latest l D cy ad B _ _ h) xo_31 rfl (cwV 0 hts gX7_back_X3_latest rfl rfl rfl (by decide +kernel) ⟨Nat.le_of_ble_eq_true rfl, Nat.le_of_ble_eq_true rfl⟩) rfl hl.1 rfl (Nat.le_of_ble_eq_true rfl) dX7_back_25 ⟨Nat.zero_le _, Nat.zero_le _⟩ (fun r1 M1 H locs h S => ?_)
      refine x_putI hx hb hts (hC7) tyX7 tyX7_ok nmX7 hown hK S 9 (by decide) xf_0_9 (index := 123) (hts _ (List.mem_of_getElem? (i := 4) rfl)) rfl rfl rfl dX7_back_28 (fun H locs S => ?_)
      refine lv_aload_n hx hb dX7_back_31 rfl (lv_at hl 0 rfl) ?_
      refine x_getR hx hb hts (hC7) hown hK S 6 (by decide) xf_0_6 (index := 53) (hts _ (List.mem_of_getElem? (i := 2) rfl)) dX7_back_32 ?_
      refine x_getI hx hb hts (hC3) hown hK S 0 (by decide) xf_31_0 (index := 197) (hts _ (List.mem_of_getElem? (i := 3) rfl)) dX7_back_35 ?_
      exact x_iret hx hb hr hlocks S rfl h dX7_back_38
    · replace h := h.2 c14
      refine lv_bipush (v := (-3)) hx hb dX7_back_17 (by decide) ?_
      exact x_iret hx hb hr hlocks S rfl h dX7_back_19
/-! X7_count -/
def wp_X7_count (M : Mem) (Q : Int32 → Mem → Prop) : Prop :=
  (((M.1 0 8) = 0 → Q (-3) M) ∧ (¬ (M.1 0 8) = 0 → Q (M.1 25 2) M))
theorem wp_X7_count_mono {M : Mem} {Q Q' : Int32 → Mem → Prop} (hQ : ∀ (r : Int32) (M : Mem), Q r M → Q' r M) (h : wp_X7_count M Q) : wp_X7_count M Q' := by
  unfold wp_X7_count at h ⊢
  exact ⟨fun c => let h := h.1 c; hQ _ _ h, fun c => let h := h.2 c; hQ _ _ h⟩
abbrev rm_X7_count : Jvm.Room := { frames := 1, cells := 0, slots := 0, locals := 12 }
set_option maxHeartbeats 4000000 in
set_option maxRecDepth 100000 in
theorem ct_X7_count (l : Launch) (D : va_G) (cy : Nat → ClassId) (ad : Nat → Nat) (B : Nat → Prop) (M : Mem) (Q : Int32 → Mem → Prop) (h : wp_X7_count M Q) : CTi l D cy (wX ad cy) B yX7_count wsX7_count rm_X7_count [.ref (ad 0)] M Q := by
  intro sz
  refine Met.ofW (cc := cX7_count) (maxL := 1) (ret := some .int) (by decide) rfl ?_
  intro p e s m args below meth c s₁ Bd hml hv
  obtain ⟨hargs, hsz, hP, hK, hD⟩ := hv
  subst hsz
  have hx := Bd.exec
  have hb := Bd.bytes
  have hr := Bd.returns
  have hts := atoms_spec (ws := wsX7_count) Bd.pre
  have hown : s.vm.findClass RX7 = some m.cls := findClass_of_methodNamed Bd.named
  have hlocks := Bd.notSynchronized
  have hC0 : xC wsX7_count 0 RX0 TX0 5 := ⟨by decide +kernel, rfl⟩
  have hC7 : xC wsX7_count 7 RX7 TX7 11 := ⟨by decide +kernel, rfl⟩
  have hl := lv_entry ([.ref (ad 0)]) (n := 1) (Nat.le_of_ble_eq_true rfl)
  subst hargs
  rw [lg_entry_eq]
  generalize (lg_sl ([.ref (ad 0)]) ++ List.replicate (1 - (lg_sl ([.ref (ad 0)])).length) Slot.unset).toArray = ls at hl ⊢
  have hl : lv_has ls 1 [(0, .ref (ad 0))] := hl
  have S : xS D (wX ad cy) B s.heap s.heap [] M := ⟨hP, hD, va_S.rf⟩
  unfold wp_X7_count at h
  refine lv_aload_n hx hb dX7_count_0 rfl (lv_at hl 0 rfl) ?_
  refine x_getI hx hb hts (hC7) hown hK S 8 (by decide) xf_0_8 (index := 126) (hts _ (List.mem_of_getElem? (i := 1) rfl)) dX7_count_1 ?_
  refine lv_if_eq (tgt := 17) hx hb dX7_count_4 (by decide) (fun c4 => ?_) (fun c4 => ?_)
  · replace h := h.1 c4
    refine lv_bipush (v := (-3)) hx hb dX7_count_17 (by decide) ?_
    exact x_iret hx hb hr hlocks S rfl h dX7_count_19
  · replace h := h.2 c4
    refine lv_aload_n hx hb dX7_count_7 rfl (lv_at hl 0 rfl) ?_
    refine x_getR hx hb hts (hC7) hown hK S 4 (by decide) xf_0_4 (index := 39) (hts _ (List.mem_of_getElem? (i := 2) rfl)) dX7_count_8 ?_
    refine x_getI hx hb hts (hC0) hown hK S 2 (by decide) xf_25_2 (index := 169) (hts _ (List.mem_of_getElem? (i := 3) rfl)) dX7_count_11 ?_
    refine lv_goto (tgt := 19) hx hb dX7_count_14 (by decide) ?_
    exact x_iret hx hb hr hlocks S rfl h dX7_count_19
/-! X7_rank -/
def wp_X7_rank (M : Mem) (Q : Int32 → Mem → Prop) : Prop :=
  (((M.1 0 8) = 0 → Q (-3) M) ∧ (¬ (M.1 0 8) = 0 → (vp_in (M.1 0 9) 256 ∧ Q (M.1 27 (M.1 0 9).toNatClampNeg) M)))
theorem wp_X7_rank_mono {M : Mem} {Q Q' : Int32 → Mem → Prop} (hQ : ∀ (r : Int32) (M : Mem), Q r M → Q' r M) (h : wp_X7_rank M Q) : wp_X7_rank M Q' := by
  unfold wp_X7_rank at h ⊢
  exact ⟨fun c => let h := h.1 c; hQ _ _ h, fun c => let h := h.2 c; ⟨h.1, let h := h.2; hQ _ _ h⟩⟩
abbrev rm_X7_rank : Jvm.Room := { frames := 1, cells := 0, slots := 0, locals := 12 }
set_option maxHeartbeats 4000000 in
set_option maxRecDepth 100000 in
theorem ct_X7_rank (l : Launch) (D : va_G) (cy : Nat → ClassId) (ad : Nat → Nat) (B : Nat → Prop) (M : Mem) (Q : Int32 → Mem → Prop) (h : wp_X7_rank M Q) : CTi l D cy (wX ad cy) B yX7_rank wsX7_rank rm_X7_rank [.ref (ad 0)] M Q := by
  intro sz
  refine Met.ofW (cc := cX7_rank) (maxL := 1) (ret := some .int) (by decide) rfl ?_
  intro p e s m args below meth c s₁ Bd hml hv
  obtain ⟨hargs, hsz, hP, hK, hD⟩ := hv
  subst hsz
  have hx := Bd.exec
  have hb := Bd.bytes
  have hr := Bd.returns
  have hts := atoms_spec (ws := wsX7_rank) Bd.pre
  have hown : s.vm.findClass RX7 = some m.cls := findClass_of_methodNamed Bd.named
  have hlocks := Bd.notSynchronized
  have hC0 : xC wsX7_rank 0 RX0 TX0 5 := ⟨by decide +kernel, rfl⟩
  have hC7 : xC wsX7_rank 7 RX7 TX7 11 := ⟨by decide +kernel, rfl⟩
  have hl := lv_entry ([.ref (ad 0)]) (n := 1) (Nat.le_of_ble_eq_true rfl)
  subst hargs
  rw [lg_entry_eq]
  generalize (lg_sl ([.ref (ad 0)]) ++ List.replicate (1 - (lg_sl ([.ref (ad 0)])).length) Slot.unset).toArray = ls at hl ⊢
  have hl : lv_has ls 1 [(0, .ref (ad 0))] := hl
  have S : xS D (wX ad cy) B s.heap s.heap [] M := ⟨hP, hD, va_S.rf⟩
  unfold wp_X7_rank at h
  refine lv_aload_n hx hb dX7_rank_0 rfl (lv_at hl 0 rfl) ?_
  refine x_getI hx hb hts (hC7) hown hK S 8 (by decide) xf_0_8 (index := 126) (hts _ (List.mem_of_getElem? (i := 1) rfl)) dX7_rank_1 ?_
  refine lv_if_eq (tgt := 22) hx hb dX7_rank_4 (by decide) (fun c4 => ?_) (fun c4 => ?_)
  · replace h := h.1 c4
    refine lv_bipush (v := (-3)) hx hb dX7_rank_22 (by decide) ?_
    exact x_iret hx hb hr hlocks S rfl h dX7_rank_24
  · replace h := h.2 c4
    refine lv_aload_n hx hb dX7_rank_7 rfl (lv_at hl 0 rfl) ?_
    refine x_getR hx hb hts (hC7) hown hK S 4 (by decide) xf_0_4 (index := 39) (hts _ (List.mem_of_getElem? (i := 2) rfl)) dX7_rank_8 ?_
    refine x_getR hx hb hts (hC0) hown hK S 1 (by decide) xf_25_1 (index := 201) (hts _ (List.mem_of_getElem? (i := 3) rfl)) dX7_rank_11 ?_
    refine lv_aload_n hx hb dX7_rank_14 rfl (lv_at hl 0 rfl) ?_
    refine x_getI hx hb hts (hC7) hown hK S 9 (by decide) xf_0_9 (index := 123) (hts _ (List.mem_of_getElem? (i := 4) rfl)) dX7_rank_15 ?_
    refine x_iald hx hb hK S xa_27 h.1 dX7_rank_18 ?_
    replace h := h.2
    refine lv_goto (tgt := 24) hx hb dX7_rank_19 (by decide) ?_
    exact x_iret hx hb hr hlocks S rfl h dX7_rank_24
/-! X7_rankRefusal -/
def wp_X7_rankRefusal (v1 : Int32) (M : Mem) (Q : Int32 → Mem → Prop) : Prop :=
  ((¬ (M.1 0 8) = 0 → ((v1 < 0 → Q (-1) M) ∧ (¬ v1 < 0 → (((M.1 25 2) ≤ v1 → Q (-1) M) ∧ (¬ (M.1 25 2) ≤ v1 → Q 0 M))))) ∧ ((M.1 0 8) = 0 → Q (-3) M))
theorem wp_X7_rankRefusal_mono {v1 : Int32} {M : Mem} {Q Q' : Int32 → Mem → Prop} (hQ : ∀ (r : Int32) (M : Mem), Q r M → Q' r M) (h : wp_X7_rankRefusal v1 M Q) : wp_X7_rankRefusal v1 M Q' := by
  unfold wp_X7_rankRefusal at h ⊢
  exact ⟨fun c => let h := h.1 c; ⟨fun c => let h := h.1 c; hQ _ _ h, fun c => let h := h.2 c; ⟨fun c => let h := h.1 c; hQ _ _ h, fun c => let h := h.2 c; hQ _ _ h⟩⟩, fun c => let h := h.2 c; hQ _ _ h⟩
abbrev rm_X7_rankRefusal : Jvm.Room := { frames := 1, cells := 0, slots := 0, locals := 13 }
set_option maxHeartbeats 4000000 in
set_option maxRecDepth 100000 in
theorem ct_X7_rankRefusal (l : Launch) (D : va_G) (cy : Nat → ClassId) (ad : Nat → Nat) (B : Nat → Prop) (v1 : Int32) (M : Mem) (Q : Int32 → Mem → Prop) (h : wp_X7_rankRefusal v1 M Q) : CTi l D cy (wX ad cy) B yX7_rankRefusal wsX7_rankRefusal rm_X7_rankRefusal [.ref (ad 0), .int v1] M Q := by
  intro sz
  refine Met.ofW (cc := cX7_rankRefusal) (maxL := 2) (ret := some .int) (by decide) rfl ?_
  intro p e s m args below meth c s₁ Bd hml hv
  obtain ⟨hargs, hsz, hP, hK, hD⟩ := hv
  subst hsz
  have hx := Bd.exec
  have hb := Bd.bytes
  have hr := Bd.returns
  have hts := atoms_spec (ws := wsX7_rankRefusal) Bd.pre
  have hown : s.vm.findClass RX7 = some m.cls := findClass_of_methodNamed Bd.named
  have hlocks := Bd.notSynchronized
  have hC0 : xC wsX7_rankRefusal 0 RX0 TX0 5 := ⟨by decide +kernel, rfl⟩
  have hC7 : xC wsX7_rankRefusal 7 RX7 TX7 11 := ⟨by decide +kernel, rfl⟩
  have hl := lv_entry ([.ref (ad 0), .int v1]) (n := 2) (Nat.le_of_ble_eq_true rfl)
  subst hargs
  rw [lg_entry_eq]
  generalize (lg_sl ([.ref (ad 0), .int v1]) ++ List.replicate (2 - (lg_sl ([.ref (ad 0), .int v1])).length) Slot.unset).toArray = ls at hl ⊢
  have hl : lv_has ls 2 [(0, .ref (ad 0)), (1, .int v1)] := hl
  have S : xS D (wX ad cy) B s.heap s.heap [] M := ⟨hP, hD, va_S.rf⟩
  unfold wp_X7_rankRefusal at h
  refine lv_aload_n hx hb dX7_rankRefusal_0 rfl (lv_at hl 0 rfl) ?_
  refine x_getI hx hb hts (hC7) hown hK S 8 (by decide) xf_0_8 (index := 126) (hts _ (List.mem_of_getElem? (i := 1) rfl)) dX7_rankRefusal_1 ?_
  refine lv_if_ne (tgt := 10) hx hb dX7_rankRefusal_4 (by decide) (fun c4 => ?_) (fun c4 => ?_)
  · replace h := h.1 c4
    refine lv_iload_n hx hb dX7_rankRefusal_10 rfl (lv_at hl 1 rfl) ?_
    refine lv_if_lt (tgt := 29) hx hb dX7_rankRefusal_11 (by decide) (fun c11 => ?_) (fun c11 => ?_)
    · replace h := h.1 c11
      refine lv_iconst (v := (-1)) hx hb dX7_rankRefusal_29 (by decide) ?_
      exact x_iret hx hb hr hlocks S rfl h dX7_rankRefusal_30
    · replace h := h.2 c11
      refine lv_iload_n hx hb dX7_rankRefusal_14 rfl (lv_at hl 1 rfl) ?_
      refine lv_aload_n hx hb dX7_rankRefusal_15 rfl (lv_at hl 0 rfl) ?_
      refine x_getR hx hb hts (hC7) hown hK S 4 (by decide) xf_0_4 (index := 39) (hts _ (List.mem_of_getElem? (i := 2) rfl)) dX7_rankRefusal_16 ?_
      refine x_getI hx hb hts (hC0) hown hK S 2 (by decide) xf_25_2 (index := 169) (hts _ (List.mem_of_getElem? (i := 3) rfl)) dX7_rankRefusal_19 ?_
      refine lv_icmp_ge (tgt := 29) hx hb dX7_rankRefusal_22 (by decide) (fun c22 => ?_) (fun c22 => ?_)
      · replace h := h.1 c22
        refine lv_iconst (v := (-1)) hx hb dX7_rankRefusal_29 (by decide) ?_
        exact x_iret hx hb hr hlocks S rfl h dX7_rankRefusal_30
      · replace h := h.2 c22
        refine lv_iconst (v := 0) hx hb dX7_rankRefusal_25 (by decide) ?_
        refine lv_goto (tgt := 30) hx hb dX7_rankRefusal_26 (by decide) ?_
        exact x_iret hx hb hr hlocks S rfl h dX7_rankRefusal_30
  · replace h := h.2 c4
    refine lv_bipush (v := (-3)) hx hb dX7_rankRefusal_7 (by decide) ?_
    exact x_iret hx hb hr hlocks S rfl h dX7_rankRefusal_9
/-! X7_fencesOf -/
def wp_X7_fencesOf (v1 : Int32) (M : Mem) (Q : Int32 → Mem → Prop) : Prop :=
  (vp_in v1 256 ∧ (vp_in (M.1 26 v1.toNatClampNeg) 256 ∧ Q (M.1 23 (M.1 26 v1.toNatClampNeg).toNatClampNeg) M))
theorem wp_X7_fencesOf_mono {v1 : Int32} {M : Mem} {Q Q' : Int32 → Mem → Prop} (hQ : ∀ (r : Int32) (M : Mem), Q r M → Q' r M) (h : wp_X7_fencesOf v1 M Q) : wp_X7_fencesOf v1 M Q' := by
  unfold wp_X7_fencesOf at h ⊢
  exact ⟨h.1, let h := h.2; ⟨h.1, let h := h.2; hQ _ _ h⟩⟩
abbrev rm_X7_fencesOf : Jvm.Room := { frames := 1, cells := 0, slots := 0, locals := 13 }
set_option maxHeartbeats 4000000 in
set_option maxRecDepth 100000 in
theorem ct_X7_fencesOf (l : Launch) (D : va_G) (cy : Nat → ClassId) (ad : Nat → Nat) (B : Nat → Prop) (v1 : Int32) (M : Mem) (Q : Int32 → Mem → Prop) (h : wp_X7_fencesOf v1 M Q) : CTi l D cy (wX ad cy) B yX7_fencesOf wsX7_fencesOf rm_X7_fencesOf [.ref (ad 0), .int v1] M Q := by
  intro sz
  refine Met.ofW (cc := cX7_fencesOf) (maxL := 2) (ret := some .int) (by decide) rfl ?_
  intro p e s m args below meth c s₁ Bd hml hv
  obtain ⟨hargs, hsz, hP, hK, hD⟩ := hv
  subst hsz
  have hx := Bd.exec
  have hb := Bd.bytes
  have hr := Bd.returns
  have hts := atoms_spec (ws := wsX7_fencesOf) Bd.pre
  have hown : s.vm.findClass RX7 = some m.cls := findClass_of_methodNamed Bd.named
  have hlocks := Bd.notSynchronized
  have hC0 : xC wsX7_fencesOf 0 RX0 TX0 5 := ⟨by decide +kernel, rfl⟩
  have hC1 : xC wsX7_fencesOf 1 RX1 TX1 3 := ⟨by decide +kernel, rfl⟩
  have hC7 : xC wsX7_fencesOf 7 RX7 TX7 11 := ⟨by decide +kernel, rfl⟩
  have hl := lv_entry ([.ref (ad 0), .int v1]) (n := 2) (Nat.le_of_ble_eq_true rfl)
  subst hargs
  rw [lg_entry_eq]
  generalize (lg_sl ([.ref (ad 0), .int v1]) ++ List.replicate (2 - (lg_sl ([.ref (ad 0), .int v1])).length) Slot.unset).toArray = ls at hl ⊢
  have hl : lv_has ls 2 [(0, .ref (ad 0)), (1, .int v1)] := hl
  have S : xS D (wX ad cy) B s.heap s.heap [] M := ⟨hP, hD, va_S.rf⟩
  unfold wp_X7_fencesOf at h
  refine lv_aload_n hx hb dX7_fencesOf_0 rfl (lv_at hl 0 rfl) ?_
  refine x_getR hx hb hts (hC7) hown hK S 3 (by decide) xf_0_3 (index := 32) (hts _ (List.mem_of_getElem? (i := 1) rfl)) dX7_fencesOf_1 ?_
  refine x_getR hx hb hts (hC1) hown hK S 0 (by decide) xf_22_0 (index := 266) (hts _ (List.mem_of_getElem? (i := 2) rfl)) dX7_fencesOf_4 ?_
  refine lv_aload_n hx hb dX7_fencesOf_7 rfl (lv_at hl 0 rfl) ?_
  refine x_getR hx hb hts (hC7) hown hK S 4 (by decide) xf_0_4 (index := 39) (hts _ (List.mem_of_getElem? (i := 3) rfl)) dX7_fencesOf_8 ?_
  refine x_getR hx hb hts (hC0) hown hK S 0 (by decide) xf_25_0 (index := 210) (hts _ (List.mem_of_getElem? (i := 4) rfl)) dX7_fencesOf_11 ?_
  refine lv_iload_n hx hb dX7_fencesOf_14 rfl (lv_at hl 1 rfl) ?_
  refine x_iald hx hb hK S xa_26 h.1 dX7_fencesOf_15 ?_
  replace h := h.2
  refine x_iald hx hb hK S xa_23 h.1 dX7_fencesOf_16 ?_
  replace h := h.2
  exact x_iret hx hb hr hlocks S rfl h dX7_fencesOf_17
/-! X7_of -/
def wp_X7_of (v1 : Int32) (M : Mem) (Q : Int64 → Mem → Prop) : Prop :=
  wp_X7_rankRefusal v1 M (fun r1 M1 => ((r1 = 0 → wp_X7_fencesOf v1 M1 (fun r2 M2 => Q r2.toInt64 M2)) ∧ (¬ r1 = 0 → Q r1.toInt64 M1)))
theorem wp_X7_of_mono {v1 : Int32} {M : Mem} {Q Q' : Int64 → Mem → Prop} (hQ : ∀ (r : Int64) (M : Mem), Q r M → Q' r M) (h : wp_X7_of v1 M Q) : wp_X7_of v1 M Q' := by
  unfold wp_X7_of at h ⊢
  exact wp_X7_rankRefusal_mono (fun r1 M1 h => ⟨fun c => let h := h.1 c; wp_X7_fencesOf_mono (fun r2 M2 h => hQ _ _ h) h, fun c => let h := h.2 c; hQ _ _ h⟩) h
abbrev rm_X7_of : Jvm.Room := { frames := 2, cells := 0, slots := 0, locals := 34 }
set_option maxHeartbeats 4000000 in
set_option maxRecDepth 100000 in
theorem ct_X7_of (l : Launch) (D : va_G) (cy : Nat → ClassId) (ad : Nat → Nat) (B : Nat → Prop) (v1 : Int32) (M : Mem) (Q : Int64 → Mem → Prop) (h : wp_X7_of v1 M Q) : CTl l D cy (wX ad cy) B yX7_of wsX7_of rm_X7_of [.ref (ad 0), .int v1] M Q := by
  intro sz
  refine Met.ofW (cc := cX7_of) (maxL := 3) (ret := some .long) (by decide) rfl ?_
  intro p e s m args below meth c s₁ Bd hml hv
  obtain ⟨hargs, hsz, hP, hK, hD⟩ := hv
  subst hsz
  have hx := Bd.exec
  have hb := Bd.bytes
  have hr := Bd.returns
  have hts := atoms_spec (ws := wsX7_of) Bd.pre
  have hown : s.vm.findClass RX7 = some m.cls := findClass_of_methodNamed Bd.named
  have hlocks := Bd.notSynchronized
  have hl := lv_entry ([.ref (ad 0), .int v1]) (n := 3) (Nat.le_of_ble_eq_true rfl)
  subst hargs
  rw [lg_entry_eq]
  generalize (lg_sl ([.ref (ad 0), .int v1]) ++ List.replicate (3 - (lg_sl ([.ref (ad 0), .int v1])).length) Slot.unset).toArray = ls at hl ⊢
  have hl : lv_has ls 3 [(0, .ref (ad 0)), (1, .int v1)] := hl
  have S : xS D (wX ad cy) B s.heap s.heap [] M := ⟨hP, hD, va_S.rf⟩
  unfold wp_X7_of at h
  refine lv_aload_n hx hb dX7_of_0 rfl (lv_at hl 0 rfl) ?_
  refine lv_iload_n hx hb dX7_of_1 rfl (lv_at hl 1 rfl) ?_
  refine x_callVi (As := [.int v1]) ⟨hx, hb, hml, hown, hts⟩ hK S (ct_X7_rankRefusal l D cy ad B _ _ _ h) xo_0 rfl (cwV 1 hts gX7_of_X7_rankRefusal rfl rfl rfl (by decide +kernel) ⟨Nat.le_of_ble_eq_true rfl, Nat.le_of_ble_eq_true rfl⟩) rfl hl.1 rfl (Nat.le_of_ble_eq_true rfl) dX7_of_2 ⟨Nat.zero_le _, Nat.zero_le _⟩ (fun r1 M1 H locs h S => ?_)
  refine lv_istore_n (lv' := [(2, .int r1), (0, .ref (ad 0)), (1, .int v1)]) hx hb dX7_of_5 rfl hl (by decide) rfl (fun ls hl => ?_)
  refine lv_iload_n hx hb dX7_of_6 rfl (lv_at hl 0 rfl) ?_
  refine lv_if_eq (tgt := 15) hx hb dX7_of_7 (by decide) (fun c7 => ?_) (fun c7 => ?_)
  · replace h := h.1 c7
    refine lv_aload_n hx hb dX7_of_15 rfl (lv_at hl 1 rfl) ?_
    refine lv_iload_n hx hb dX7_of_16 rfl (lv_at hl 2 rfl) ?_
    refine x_callVi (As := [.int v1]) ⟨hx, hb, hml, hown, hts⟩ hK S (ct_X7_fencesOf l D cy ad B _ _ _ h) xo_0 rfl (cwV 1 hts gX7_of_X7_fencesOf rfl rfl rfl (by decide +kernel) ⟨Nat.le_of_ble_eq_true rfl, Nat.le_of_ble_eq_true rfl⟩) rfl hl.1 rfl (Nat.le_of_ble_eq_true rfl) dX7_of_17 ⟨Nat.zero_le _, Nat.zero_le _⟩ (fun r2 M2 H locs h S => ?_)
    refine lv_i2l (v := r2.toInt64) hx hb dX7_of_20 rfl ?_
    exact x_lret hx hb hr hlocks S h dX7_of_21
  · replace h := h.2 c7
    refine lv_iload_n hx hb dX7_of_10 rfl (lv_at hl 0 rfl) ?_
    refine lv_i2l (v := r1.toInt64) hx hb dX7_of_11 rfl ?_
    refine lv_goto (tgt := 21) hx hb dX7_of_12 (by decide) ?_
    exact x_lret hx hb hr hlocks S h dX7_of_21
/-! X7_go -/
def wp_X7_go (v1 : Int32) (M : Mem) (Q : Int32 → Mem → Prop) : Prop :=
  wp_X7_rankRefusal v1 M (fun r1 M1 => ((r1 = 0 → (vp_in v1 256 ∧ wp_X7_moveTo (M1.1 26 v1.toNatClampNeg) M1 (fun M2 => Q 1 M2))) ∧ (¬ r1 = 0 → Q r1 M1)))
theorem wp_X7_go_mono {v1 : Int32} {M : Mem} {Q Q' : Int32 → Mem → Prop} (hQ : ∀ (r : Int32) (M : Mem), Q r M → Q' r M) (h : wp_X7_go v1 M Q) : wp_X7_go v1 M Q' := by
  unfold wp_X7_go at h ⊢
  exact wp_X7_rankRefusal_mono (fun r1 M1 h => ⟨fun c => let h := h.1 c; ⟨h.1, let h := h.2; wp_X7_moveTo_mono (fun M2 h => hQ _ _ h) h⟩, fun c => let h := h.2 c; hQ _ _ h⟩) h
abbrev rm_X7_go : Jvm.Room := { frames := 4, cells := 0, slots := 0, locals := 82 }
set_option maxHeartbeats 4000000 in
set_option maxRecDepth 100000 in
theorem ct_X7_go (l : Launch) (D : va_G) (cy : Nat → ClassId) (ad : Nat → Nat) (B : Nat → Prop) (v1 : Int32) (M : Mem) (Q : Int32 → Mem → Prop) (h : wp_X7_go v1 M Q) : CTi l D cy (wX ad cy) B yX7_go wsX7_go rm_X7_go [.ref (ad 0), .int v1] M Q := by
  intro sz
  refine Met.ofW (cc := cX7_go) (maxL := 3) (ret := some .int) (by decide) rfl ?_
  intro p e s m args below meth c s₁ Bd hml hv
  obtain ⟨hargs, hsz, hP, hK, hD⟩ := hv
  subst hsz
  have hx := Bd.exec
  have hb := Bd.bytes
  have hr := Bd.returns
  have hts := atoms_spec (ws := wsX7_go) Bd.pre
  have hown : s.vm.findClass RX7 = some m.cls := findClass_of_methodNamed Bd.named
  have hlocks := Bd.notSynchronized
  have hC0 : xC wsX7_go 0 RX0 TX0 5 := ⟨by decide +kernel, rfl⟩
  have hC7 : xC wsX7_go 7 RX7 TX7 11 := ⟨by decide +kernel, rfl⟩
  have hl := lv_entry ([.ref (ad 0), .int v1]) (n := 3) (Nat.le_of_ble_eq_true rfl)
  subst hargs
  rw [lg_entry_eq]
  generalize (lg_sl ([.ref (ad 0), .int v1]) ++ List.replicate (3 - (lg_sl ([.ref (ad 0), .int v1])).length) Slot.unset).toArray = ls at hl ⊢
  have hl : lv_has ls 3 [(0, .ref (ad 0)), (1, .int v1)] := hl
  have S : xS D (wX ad cy) B s.heap s.heap [] M := ⟨hP, hD, va_S.rf⟩
  unfold wp_X7_go at h
  refine lv_aload_n hx hb dX7_go_0 rfl (lv_at hl 0 rfl) ?_
  refine lv_iload_n hx hb dX7_go_1 rfl (lv_at hl 1 rfl) ?_
  refine x_callVi (As := [.int v1]) ⟨hx, hb, hml, hown, hts⟩ hK S (ct_X7_rankRefusal l D cy ad B _ _ _ h) xo_0 rfl (cwV 1 hts gX7_go_X7_rankRefusal rfl rfl rfl (by decide +kernel) ⟨Nat.le_of_ble_eq_true rfl, Nat.le_of_ble_eq_true rfl⟩) rfl hl.1 rfl (Nat.le_of_ble_eq_true rfl) dX7_go_2 ⟨Nat.zero_le _, Nat.zero_le _⟩ (fun r1 M1 H locs h S => ?_)
  refine lv_istore_n (lv' := [(2, .int r1), (0, .ref (ad 0)), (1, .int v1)]) hx hb dX7_go_5 rfl hl (by decide) rfl (fun ls hl => ?_)
  refine lv_iload_n hx hb dX7_go_6 rfl (lv_at hl 0 rfl) ?_
  refine lv_if_eq (tgt := 12) hx hb dX7_go_7 (by decide) (fun c7 => ?_) (fun c7 => ?_)
  · replace h := h.1 c7
    refine lv_aload_n hx hb dX7_go_12 rfl (lv_at hl 1 rfl) ?_
    refine lv_aload_n hx hb dX7_go_13 rfl (lv_at hl 1 rfl) ?_
    refine x_getR hx hb hts (hC7) hown hK S 4 (by decide) xf_0_4 (index := 39) (hts _ (List.mem_of_getElem? (i := 1) rfl)) dX7_go_14 ?_
    refine x_getR hx hb hts (hC0) hown hK S 0 (by decide) xf_25_0 (index := 210) (hts _ (List.mem_of_getElem? (i := 2) rfl)) dX7_go_17 ?_
    refine lv_iload_n hx hb dX7_go_20 rfl (lv_at hl 2 rfl) ?_
    refine x_iald hx hb hK S xa_26 h.1 dX7_go_21 ?_
    replace h := h.2
    refine x_callVv (As := [.int (M1.1 26 v1.toNatClampNeg)]) ⟨hx, hb, hml, hown, hts⟩ hK S (ct_X7_moveTo l D cy ad B _ _ _ h) xo_0 rfl (cwV 1 hts gX7_go_X7_moveTo rfl rfl rfl (by decide +kernel) ⟨Nat.le_of_ble_eq_true rfl, Nat.le_of_ble_eq_true rfl⟩) rfl hl.1 rfl (Nat.le_of_ble_eq_true rfl) dX7_go_22 ⟨Nat.zero_le _, Nat.zero_le _⟩ (fun M2 H locs h S => ?_)
    refine lv_iconst (v := 1) hx hb dX7_go_25 (by decide) ?_
    exact x_iret hx hb hr hlocks S rfl h dX7_go_26
  · replace h := h.2 c7
    refine lv_iload_n hx hb dX7_go_10 rfl (lv_at hl 0 rfl) ?_
    exact x_iret hx hb hr hlocks S rfl h dX7_go_11
/-! X7_sure -/
def blk_X7_sure_0 (v1 : Int32) (Q : Int32 → Mem → Prop) (P : Nat → Int32 → Int32 → Int32 → Mem → Prop) (v2 : Int32) (v3 : Int32) (v4 : Int32) (M : Mem) : Prop :=
  wp_X7_fenceRefusal v1 M (fun r1 M1 => ((r1 = 0 → P 1 0 0 0 M1) ∧ (¬ r1 = 0 → Q r1 M1)))
theorem blk_X7_sure_0_mono {v1 : Int32} {Q Q' : Int32 → Mem → Prop} {P P' : Nat → Int32 → Int32 → Int32 → Mem → Prop} (hQ : ∀ (r : Int32) (M : Mem), Q r M → Q' r M) (hP : ∀ (lab : Nat) (v2 : Int32) (v3 : Int32) (v4 : Int32) (M : Mem), P lab v2 v3 v4 M → P' lab v2 v3 v4 M) (v2 : Int32) (v3 : Int32) (v4 : Int32) (M : Mem) (h : blk_X7_sure_0 v1 Q P v2 v3 v4 M) : blk_X7_sure_0 v1 Q' P' v2 v3 v4 M := by
  unfold blk_X7_sure_0 at h ⊢
  exact wp_X7_fenceRefusal_mono (fun r1 M1 h => ⟨fun c => let h := h.1 c; hP _ _ _ _ _ h, fun c => let h := h.2 c; hQ _ _ h⟩) h
def blk_X7_sure_1 (v1 : Int32) (Q : Int32 → Mem → Prop) (P : Nat → Int32 → Int32 → Int32 → Mem → Prop) (v2 : Int32) (v3 : Int32) (v4 : Int32) (M : Mem) : Prop :=
  (((M.1 25 2) ≤ v4 → ((¬ v3 = 0 → ((¬ v3 = (M.1 25 2) → Q 1 M) ∧ (v3 = (M.1 25 2) → Q 2 M))) ∧ (v3 = 0 → Q 0 M))) ∧ (¬ (M.1 25 2) ≤ v4 → wp_X7_fencesOf v4 M (fun r2 M2 => wp_X7_isIn v1 r2 M2 (fun r3 M3 => ((r3 = 0 → P 2 0 v3 v4 M3) ∧ (¬ r3 = 0 → P 2 0 (v3 + 1) v4 M3))))))
theorem blk_X7_sure_1_mono {v1 : Int32} {Q Q' : Int32 → Mem → Prop} {P P' : Nat → Int32 → Int32 → Int32 → Mem → Prop} (hQ : ∀ (r : Int32) (M : Mem), Q r M → Q' r M) (hP : ∀ (lab : Nat) (v2 : Int32) (v3 : Int32) (v4 : Int32) (M : Mem), P lab v2 v3 v4 M → P' lab v2 v3 v4 M) (v2 : Int32) (v3 : Int32) (v4 : Int32) (M : Mem) (h : blk_X7_sure_1 v1 Q P v2 v3 v4 M) : blk_X7_sure_1 v1 Q' P' v2 v3 v4 M := by
  unfold blk_X7_sure_1 at h ⊢
  exact ⟨fun c => let h := h.1 c; ⟨fun c => let h := h.1 c; ⟨fun c => let h := h.1 c; hQ _ _ h, fun c => let h := h.2 c; hQ _ _ h⟩, fun c => let h := h.2 c; hQ _ _ h⟩, fun c => let h := h.2 c; wp_X7_fencesOf_mono (fun r2 M2 h => wp_X7_isIn_mono (fun r3 M3 h => ⟨fun c => let h := h.1 c; hP _ _ _ _ _ h, fun c => let h := h.2 c; hP _ _ _ _ _ h⟩) h) h⟩
def blk_X7_sure_2 (v1 : Int32) (Q : Int32 → Mem → Prop) (P : Nat → Int32 → Int32 → Int32 → Mem → Prop) (v2 : Int32) (v3 : Int32) (v4 : Int32) (M : Mem) : Prop :=
  P 1 0 v3 (v4 + 1) M
theorem blk_X7_sure_2_mono {v1 : Int32} {Q Q' : Int32 → Mem → Prop} {P P' : Nat → Int32 → Int32 → Int32 → Mem → Prop} (hQ : ∀ (r : Int32) (M : Mem), Q r M → Q' r M) (hP : ∀ (lab : Nat) (v2 : Int32) (v3 : Int32) (v4 : Int32) (M : Mem), P lab v2 v3 v4 M → P' lab v2 v3 v4 M) (v2 : Int32) (v3 : Int32) (v4 : Int32) (M : Mem) (h : blk_X7_sure_2 v1 Q P v2 v3 v4 M) : blk_X7_sure_2 v1 Q' P' v2 v3 v4 M := by
  unfold blk_X7_sure_2 at h ⊢
  exact hP _ _ _ _ _ h
def blk_X7_sure (v1 : Int32) (Q : Int32 → Mem → Prop) (P : Nat → Int32 → Int32 → Int32 → Mem → Prop) : Nat → Int32 → Int32 → Int32 → Mem → Prop := fun lab v2 v3 v4 M => match lab with
  | 0 => blk_X7_sure_0 v1 Q P v2 v3 v4 M
  | 1 => blk_X7_sure_1 v1 Q P v2 v3 v4 M
  | 2 => blk_X7_sure_2 v1 Q P v2 v3 v4 M
  | _ => False
theorem blk_X7_sure_mono {v1 : Int32} {Q Q' : Int32 → Mem → Prop} {P P' : Nat → Int32 → Int32 → Int32 → Mem → Prop} (hQ : ∀ (r : Int32) (M : Mem), Q r M → Q' r M) (hP : ∀ (lab : Nat) (v2 : Int32) (v3 : Int32) (v4 : Int32) (M : Mem), P lab v2 v3 v4 M → P' lab v2 v3 v4 M) : ∀ (lab : Nat) (v2 : Int32) (v3 : Int32) (v4 : Int32) (M : Mem), blk_X7_sure v1 Q P lab v2 v3 v4 M → blk_X7_sure v1 Q' P' lab v2 v3 v4 M := fun lab v2 v3 v4 M h => match lab, h with
  | 0, h => blk_X7_sure_0_mono (v1 := v1) hQ hP v2 v3 v4 M h
  | 1, h => blk_X7_sure_1_mono (v1 := v1) hQ hP v2 v3 v4 M h
  | 2, h => blk_X7_sure_2_mono (v1 := v1) hQ hP v2 v3 v4 M h
  | _ + 3, h => False.elim h
def at_X7_sure (v1 : Int32) (Q : Int32 → Mem → Prop) : Nat → Int32 → Int32 → Int32 → Mem → Prop := fun lab v2 v3 v4 M => ∀ P : Nat → Int32 → Int32 → Int32 → Mem → Prop, (∀ (lab : Nat) (v2 : Int32) (v3 : Int32) (v4 : Int32) (M : Mem), blk_X7_sure v1 Q P lab v2 v3 v4 M → P lab v2 v3 v4 M) → P lab v2 v3 v4 M
theorem at_X7_sure_fold {v1 : Int32} {Q : Int32 → Mem → Prop} {lab : Nat} {v2 : Int32} {v3 : Int32} {v4 : Int32} {M : Mem} (h : blk_X7_sure v1 Q (at_X7_sure v1 Q) lab v2 v3 v4 M) : at_X7_sure v1 Q lab v2 v3 v4 M := fun P hP => hP _ _ _ _ _ (blk_X7_sure_mono (fun _ _ h => h) (fun _ _ _ _ _ h => h P hP) _ _ _ _ _ h)
theorem at_X7_sure_mono {v1 : Int32} {Q Q' : Int32 → Mem → Prop} (hQ : ∀ (r : Int32) (M : Mem), Q r M → Q' r M) {lab : Nat} {v2 : Int32} {v3 : Int32} {v4 : Int32} {M : Mem} (h : at_X7_sure v1 Q lab v2 v3 v4 M) : at_X7_sure v1 Q' lab v2 v3 v4 M := fun P hP => h P (fun lab v2 v3 v4 M hb => hP _ _ _ _ _ (blk_X7_sure_mono hQ (fun _ _ _ _ _ h => h) _ _ _ _ _ hb))
def wp_X7_sure (v1 : Int32) (M : Mem) (Q : Int32 → Mem → Prop) : Prop := at_X7_sure v1 Q 0 0 0 0 M
theorem wp_X7_sure_mono {v1 : Int32} {M : Mem} {Q Q' : Int32 → Mem → Prop} (hQ : ∀ (r : Int32) (M : Mem), Q r M → Q' r M) (h : wp_X7_sure v1 M Q) : wp_X7_sure v1 M Q' := at_X7_sure_mono hQ h
def pcl_X7_sure : Nat → Nat := fun lab => match lab with
  | 0 => 0
  | 1 => 17
  | 2 => 45
  | _ => 0
def lvl_X7_sure (ad : Nat → Nat) (v1 : Int32) : Nat → Int32 → Int32 → Int32 → List (Nat × Value) := fun lab v2 v3 v4 => match lab with
  | 0 => [(0, .ref (ad 0)), (1, .int v1)]
  | 1 => [(0, .ref (ad 0)), (1, .int v1), (3, .int v3), (4, .int v4)]
  | 2 => [(0, .ref (ad 0)), (1, .int v1), (3, .int v3), (4, .int v4)]
  | _ => []
abbrev rm_X7_sure : Jvm.Room := { frames := 3, cells := 0, slots := 0, locals := 55 }
set_option maxHeartbeats 4000000 in
set_option maxRecDepth 100000 in
theorem ct_X7_sure (l : Launch) (D : va_G) (cy : Nat → ClassId) (ad : Nat → Nat) (B : Nat → Prop) (v1 : Int32) (M : Mem) (Q : Int32 → Mem → Prop) (h : wp_X7_sure v1 M Q) : CTi l D cy (wX ad cy) B yX7_sure wsX7_sure rm_X7_sure [.ref (ad 0), .int v1] M Q := by
  intro sz
  refine Met.ofW (cc := cX7_sure) (maxL := 5) (ret := some .int) (by decide) rfl ?_
  intro p e s m args below meth c s₁ Bd hml hv
  obtain ⟨hargs, hsz, hP, hK, hD⟩ := hv
  subst hsz
  have hx := Bd.exec
  have hb := Bd.bytes
  have hr := Bd.returns
  have hts := atoms_spec (ws := wsX7_sure) Bd.pre
  have hown : s.vm.findClass RX7 = some m.cls := findClass_of_methodNamed Bd.named
  have hlocks := Bd.notSynchronized
  have hC0 : xC wsX7_sure 0 RX0 TX0 5 := ⟨by decide +kernel, rfl⟩
  have hC7 : xC wsX7_sure 7 RX7 TX7 11 := ⟨by decide +kernel, rfl⟩
  have key : ∀ (P : Nat → Int32 → Int32 → Int32 → Mem → Prop), (∀ (lab : Nat) (v2 : Int32) (v3 : Int32) (v4 : Int32) (M : Mem), P lab v2 v3 v4 M → ∀ (H : Heap) (locs : List Loc) (ls : Array Slot), xS D (wX ad cy) B s.heap H locs M → lv_has ls 5 (lvl_X7_sure ad v1 lab v2 v3 v4 ) → W p l e (headSpec wsX7_sure rm_X7_sure).room s m args below meth c H locs 0 0 (MQ below (va_Qi (S := Mem) Q (xB D (wX ad cy) B) (xA B s.heap.size)) args s 0 0 (xA B s.heap.size)) (F0 m (pcl_X7_sure lab) ls [])) → ∀ (lab : Nat) (v2 : Int32) (v3 : Int32) (v4 : Int32) (M : Mem), blk_X7_sure v1 Q P lab v2 v3 v4 M → ∀ (H : Heap) (locs : List Loc) (ls : Array Slot), xS D (wX ad cy) B s.heap H locs M → lv_has ls 5 (lvl_X7_sure ad v1 lab v2 v3 v4 ) → W p l e (headSpec wsX7_sure rm_X7_sure).room s m args below meth c H locs 0 0 (MQ below (va_Qi (S := Mem) Q (xB D (wX ad cy) B) (xA B s.heap.size)) args s 0 0 (xA B s.heap.size)) (F0 m (pcl_X7_sure lab) ls []) := by
    intro P hJ lab v2 v3 v4 M h H locs ls S hl
    match lab, h, hl with
    | 0, h, hl =>
      have hl : lv_has ls 5 [(0, .ref (ad 0)), (1, .int v1)] := hl
      have h : blk_X7_sure_0 v1 Q P v2 v3 v4 M := h
      unfold blk_X7_sure_0 at h
      refine W.eq (g2 := F0 m 0 ls []) rfl ?_
      refine lv_aload_n hx hb dX7_sure_0 rfl (lv_at hl 0 rfl) ?_
      refine lv_iload_n hx hb dX7_sure_1 rfl (lv_at hl 1 rfl) ?_
      refine x_callVi (As := [.int v1]) ⟨hx, hb, hml, hown, hts⟩ hK S (ct_X7_fenceRefusal l D cy ad B _ _ _ h) xo_0 rfl (cwV 1 hts gX7_sure_X7_fenceRefusal rfl rfl rfl (by decide +kernel) ⟨Nat.le_of_ble_eq_true rfl, Nat.le_of_ble_eq_true rfl⟩) rfl hl.1 rfl (Nat.le_of_ble_eq_true rfl) dX7_sure_2 ⟨Nat.zero_le _, Nat.zero_le _⟩ (fun r1 M1 H locs h S => ?_)
      refine lv_istore_n (lv' := [(2, .int r1), (0, .ref (ad 0)), (1, .int v1)]) hx hb dX7_sure_5 rfl hl (by decide) rfl (fun ls hl => ?_)
      refine lv_iload_n hx hb dX7_sure_6 rfl (lv_at hl 0 rfl) ?_
      refine lv_if_eq (tgt := 12) hx hb dX7_sure_7 (by decide) (fun c7 => ?_) (fun c7 => ?_)
      · replace h := h.1 c7
        refine lv_iconst (v := 0) hx hb dX7_sure_12 (by decide) ?_
        refine lv_istore_n (lv' := [(3, .int 0), (2, .int r1), (0, .ref (ad 0)), (1, .int v1)]) hx hb dX7_sure_13 rfl hl (by decide) rfl (fun ls hl => ?_)
        refine lv_iconst (v := 0) hx hb dX7_sure_14 (by decide) ?_
        refine lv_istore (lv' := [(4, .int 0), (3, .int 0), (2, .int r1), (0, .ref (ad 0)), (1, .int v1)]) hx hb dX7_sure_15 hl (by decide) rfl (fun ls hl => ?_)
        exact hJ _ _ _ _ _ h _ _ _ S (lv_sub hl [3, 4, 1, 0] rfl)
      · replace h := h.2 c7
        refine lv_iload_n hx hb dX7_sure_10 rfl (lv_at hl 0 rfl) ?_
        exact x_iret hx hb hr hlocks S rfl h dX7_sure_11
    | 1, h, hl =>
      have hl : lv_has ls 5 [(0, .ref (ad 0)), (1, .int v1), (3, .int v3), (4, .int v4)] := hl
      have h : blk_X7_sure_1 v1 Q P v2 v3 v4 M := h
      unfold blk_X7_sure_1 at h
      refine W.eq (g2 := F0 m 17 ls []) rfl ?_
      refine lv_iload hx hb dX7_sure_17 (lv_at hl 3 rfl) ?_
      refine lv_aload_n hx hb dX7_sure_19 rfl (lv_at hl 0 rfl) ?_
      refine x_getR hx hb hts (hC7) hown hK S 4 (by decide) xf_0_4 (index := 39) (hts _ (List.mem_of_getElem? (i := 1) rfl)) dX7_sure_20 ?_
      refine x_getI hx hb hts (hC0) hown hK S 2 (by decide) xf_25_2 (index := 169) (hts _ (List.mem_of_getElem? (i := 2) rfl)) dX7_sure_23 ?_
      refine lv_icmp_ge (tgt := 51) hx hb dX7_sure_26 (by decide) (fun c26 => ?_) (fun c26 => ?_)
      · replace h := h.1 c26
        refine lv_iload_n hx hb dX7_sure_51 rfl (lv_at hl 2 rfl) ?_
        refine lv_if_ne (tgt := 57) hx hb dX7_sure_52 (by decide) (fun c52 => ?_) (fun c52 => ?_)
        · replace h := h.1 c52
          refine lv_iload_n hx hb dX7_sure_57 rfl (lv_at hl 2 rfl) ?_
          refine lv_aload_n hx hb dX7_sure_58 rfl (lv_at hl 0 rfl) ?_
          refine x_getR hx hb hts (hC7) hown hK S 4 (by decide) xf_0_4 (index := 39) (hts _ (List.mem_of_getElem? (i := 1) rfl)) dX7_sure_59 ?_
          refine x_getI hx hb hts (hC0) hown hK S 2 (by decide) xf_25_2 (index := 169) (hts _ (List.mem_of_getElem? (i := 2) rfl)) dX7_sure_62 ?_
          refine lv_icmp_ne (tgt := 72) hx hb dX7_sure_65 (by decide) (fun c65 => ?_) (fun c65 => ?_)
          · replace h := h.1 c65
            refine lv_iconst (v := 1) hx hb dX7_sure_72 (by decide) ?_
            exact x_iret hx hb hr hlocks S rfl h dX7_sure_73
          · replace h := h.2 c65
            refine lv_iconst (v := 2) hx hb dX7_sure_68 (by decide) ?_
            refine lv_goto (tgt := 73) hx hb dX7_sure_69 (by decide) ?_
            exact x_iret hx hb hr hlocks S rfl h dX7_sure_73
        · replace h := h.2 c52
          refine lv_iconst (v := 0) hx hb dX7_sure_55 (by decide) ?_
          exact x_iret hx hb hr hlocks S rfl h dX7_sure_56
      · replace h := h.2 c26
        refine lv_iload_n hx hb dX7_sure_29 rfl (lv_at hl 1 rfl) ?_
        refine lv_aload_n hx hb dX7_sure_30 rfl (lv_at hl 0 rfl) ?_
        refine lv_iload hx hb dX7_sure_31 (lv_at hl 3 rfl) ?_
        refine x_callVi (As := [.int v4]) ⟨hx, hb, hml, hown, hts⟩ hK S (ct_X7_fencesOf l D cy ad B _ _ _ h) xo_0 rfl (cwV 1 hts gX7_sure_X7_fencesOf rfl rfl rfl (by decide +kernel) ⟨Nat.le_of_ble_eq_true rfl, Nat.le_of_ble_eq_true rfl⟩) rfl hl.1 rfl (Nat.le_of_ble_eq_true rfl) dX7_sure_33 ⟨Nat.zero_le _, Nat.zero_le _⟩ (fun r2 M2 H locs h S => ?_)
        refine x_callSi (As := [.int v1, .int r2]) ⟨hx, hb, hml, hown, hts⟩ hK S (ct_X7_isIn l D cy ad B _ _ _ _ h) (va_cwS 2 hts gX7_sure_X7_isIn rfl rfl rfl (by decide +kernel) ⟨Nat.le_of_ble_eq_true rfl, Nat.le_of_ble_eq_true rfl⟩) rfl hl.1 rfl (Nat.le_of_ble_eq_true rfl) dX7_sure_36 ⟨Nat.zero_le _, Nat.zero_le _⟩ (fun r3 M3 H locs h S => ?_)
        refine lv_if_eq (tgt := 45) hx hb dX7_sure_39 (by decide) (fun c39 => ?_) (fun c39 => ?_)
        · replace h := h.1 c39
          exact hJ _ _ _ _ _ h _ _ _ S (lv_sub hl [0, 1, 2, 3] rfl)
        · replace h := h.2 c39
          refine lv_iinc (v := (v3 + 1)) (lv' := [(3, .int (v3 + 1)), (0, .ref (ad 0)), (1, .int v1), (4, .int v4)]) hx hb dX7_sure_42 hl (k := 2) rfl rfl (by decide) rfl (fun ls hl => ?_)
          exact hJ _ _ _ _ _ h _ _ _ S (lv_sub hl [1, 2, 0, 3] rfl)
    | 2, h, hl =>
      have hl : lv_has ls 5 [(0, .ref (ad 0)), (1, .int v1), (3, .int v3), (4, .int v4)] := hl
      have h : blk_X7_sure_2 v1 Q P v2 v3 v4 M := h
      unfold blk_X7_sure_2 at h
      refine W.eq (g2 := F0 m 45 ls []) rfl ?_
      refine lv_iinc (v := (v4 + 1)) (lv' := [(4, .int (v4 + 1)), (0, .ref (ad 0)), (1, .int v1), (3, .int v3)]) hx hb dX7_sure_45 hl (k := 3) rfl rfl (by decide) rfl (fun ls hl => ?_)
      refine lv_goto (tgt := 17) hx hb dX7_sure_48 (by decide) ?_
      exact hJ _ _ _ _ _ h _ _ _ S (lv_sub hl [1, 2, 3, 0] rfl)
    | _ + 3, h, hl => exact h.elim
  have hl := lv_entry ([.ref (ad 0), .int v1]) (n := 5) (Nat.le_of_ble_eq_true rfl)
  subst hargs
  rw [lg_entry_eq]
  generalize (lg_sl ([.ref (ad 0), .int v1]) ++ List.replicate (5 - (lg_sl ([.ref (ad 0), .int v1])).length) Slot.unset).toArray = ls at hl ⊢
  exact h _ (key _ (fun _ _ _ _ _ h => h)) s.heap [] ls ⟨hP, hD, va_S.rf⟩ hl
/-! X7_weightOf -/
def blk_X7_weightOf_0 (v1 : Int32) (Q : Int32 → Mem → Prop) (P : Nat → Int32 → Int32 → Mem → Prop) (v2 : Int32) (v3 : Int32) (M : Mem) : Prop :=
  P 1 0 0 M
theorem blk_X7_weightOf_0_mono {v1 : Int32} {Q Q' : Int32 → Mem → Prop} {P P' : Nat → Int32 → Int32 → Mem → Prop} (hQ : ∀ (r : Int32) (M : Mem), Q r M → Q' r M) (hP : ∀ (lab : Nat) (v2 : Int32) (v3 : Int32) (M : Mem), P lab v2 v3 M → P' lab v2 v3 M) (v2 : Int32) (v3 : Int32) (M : Mem) (h : blk_X7_weightOf_0 v1 Q P v2 v3 M) : blk_X7_weightOf_0 v1 Q' P' v2 v3 M := by
  unfold blk_X7_weightOf_0 at h ⊢
  exact hP _ _ _ _ h
def blk_X7_weightOf_1 (v1 : Int32) (Q : Int32 → Mem → Prop) (P : Nat → Int32 → Int32 → Mem → Prop) (v2 : Int32) (v3 : Int32) (M : Mem) : Prop :=
  (((M.1 13 4) ≤ v3 → Q v2 M) ∧ (¬ (M.1 13 4) ≤ v3 → wp_X7_isIn v3 v1 M (fun r1 M1 => ((r1 = 0 → P 2 v2 v3 M1) ∧ (¬ r1 = 0 → (vp_in v3 28 ∧ P 2 (v2 + (M1.1 33 v3.toNatClampNeg)) v3 M1))))))
theorem blk_X7_weightOf_1_mono {v1 : Int32} {Q Q' : Int32 → Mem → Prop} {P P' : Nat → Int32 → Int32 → Mem → Prop} (hQ : ∀ (r : Int32) (M : Mem), Q r M → Q' r M) (hP : ∀ (lab : Nat) (v2 : Int32) (v3 : Int32) (M : Mem), P lab v2 v3 M → P' lab v2 v3 M) (v2 : Int32) (v3 : Int32) (M : Mem) (h : blk_X7_weightOf_1 v1 Q P v2 v3 M) : blk_X7_weightOf_1 v1 Q' P' v2 v3 M := by
  unfold blk_X7_weightOf_1 at h ⊢
  exact ⟨fun c => let h := h.1 c; hQ _ _ h, fun c => let h := h.2 c; wp_X7_isIn_mono (fun r1 M1 h => ⟨fun c => let h := h.1 c; hP _ _ _ _ h, fun c => let h := h.2 c; ⟨h.1, let h := h.2; hP _ _ _ _ h⟩⟩) h⟩
def blk_X7_weightOf_2 (v1 : Int32) (Q : Int32 → Mem → Prop) (P : Nat → Int32 → Int32 → Mem → Prop) (v2 : Int32) (v3 : Int32) (M : Mem) : Prop :=
  P 1 v2 (v3 + 1) M
theorem blk_X7_weightOf_2_mono {v1 : Int32} {Q Q' : Int32 → Mem → Prop} {P P' : Nat → Int32 → Int32 → Mem → Prop} (hQ : ∀ (r : Int32) (M : Mem), Q r M → Q' r M) (hP : ∀ (lab : Nat) (v2 : Int32) (v3 : Int32) (M : Mem), P lab v2 v3 M → P' lab v2 v3 M) (v2 : Int32) (v3 : Int32) (M : Mem) (h : blk_X7_weightOf_2 v1 Q P v2 v3 M) : blk_X7_weightOf_2 v1 Q' P' v2 v3 M := by
  unfold blk_X7_weightOf_2 at h ⊢
  exact hP _ _ _ _ h
def blk_X7_weightOf (v1 : Int32) (Q : Int32 → Mem → Prop) (P : Nat → Int32 → Int32 → Mem → Prop) : Nat → Int32 → Int32 → Mem → Prop := fun lab v2 v3 M => match lab with
  | 0 => blk_X7_weightOf_0 v1 Q P v2 v3 M
  | 1 => blk_X7_weightOf_1 v1 Q P v2 v3 M
  | 2 => blk_X7_weightOf_2 v1 Q P v2 v3 M
  | _ => False
theorem blk_X7_weightOf_mono {v1 : Int32} {Q Q' : Int32 → Mem → Prop} {P P' : Nat → Int32 → Int32 → Mem → Prop} (hQ : ∀ (r : Int32) (M : Mem), Q r M → Q' r M) (hP : ∀ (lab : Nat) (v2 : Int32) (v3 : Int32) (M : Mem), P lab v2 v3 M → P' lab v2 v3 M) : ∀ (lab : Nat) (v2 : Int32) (v3 : Int32) (M : Mem), blk_X7_weightOf v1 Q P lab v2 v3 M → blk_X7_weightOf v1 Q' P' lab v2 v3 M := fun lab v2 v3 M h => match lab, h with
  | 0, h => blk_X7_weightOf_0_mono (v1 := v1) hQ hP v2 v3 M h
  | 1, h => blk_X7_weightOf_1_mono (v1 := v1) hQ hP v2 v3 M h
  | 2, h => blk_X7_weightOf_2_mono (v1 := v1) hQ hP v2 v3 M h
  | _ + 3, h => False.elim h
def at_X7_weightOf (v1 : Int32) (Q : Int32 → Mem → Prop) : Nat → Int32 → Int32 → Mem → Prop := fun lab v2 v3 M => ∀ P : Nat → Int32 → Int32 → Mem → Prop, (∀ (lab : Nat) (v2 : Int32) (v3 : Int32) (M : Mem), blk_X7_weightOf v1 Q P lab v2 v3 M → P lab v2 v3 M) → P lab v2 v3 M
theorem at_X7_weightOf_fold {v1 : Int32} {Q : Int32 → Mem → Prop} {lab : Nat} {v2 : Int32} {v3 : Int32} {M : Mem} (h : blk_X7_weightOf v1 Q (at_X7_weightOf v1 Q) lab v2 v3 M) : at_X7_weightOf v1 Q lab v2 v3 M := fun P hP => hP _ _ _ _ (blk_X7_weightOf_mono (fun _ _ h => h) (fun _ _ _ _ h => h P hP) _ _ _ _ h)
theorem at_X7_weightOf_mono {v1 : Int32} {Q Q' : Int32 → Mem → Prop} (hQ : ∀ (r : Int32) (M : Mem), Q r M → Q' r M) {lab : Nat} {v2 : Int32} {v3 : Int32} {M : Mem} (h : at_X7_weightOf v1 Q lab v2 v3 M) : at_X7_weightOf v1 Q' lab v2 v3 M := fun P hP => h P (fun lab v2 v3 M hb => hP _ _ _ _ (blk_X7_weightOf_mono hQ (fun _ _ _ _ h => h) _ _ _ _ hb))
def wp_X7_weightOf (v1 : Int32) (M : Mem) (Q : Int32 → Mem → Prop) : Prop := at_X7_weightOf v1 Q 0 0 0 M
theorem wp_X7_weightOf_mono {v1 : Int32} {M : Mem} {Q Q' : Int32 → Mem → Prop} (hQ : ∀ (r : Int32) (M : Mem), Q r M → Q' r M) (h : wp_X7_weightOf v1 M Q) : wp_X7_weightOf v1 M Q' := at_X7_weightOf_mono hQ h
def pcl_X7_weightOf : Nat → Nat := fun lab => match lab with
  | 0 => 0
  | 1 => 4
  | 2 => 32
  | _ => 0
def lvl_X7_weightOf (ad : Nat → Nat) (v1 : Int32) : Nat → Int32 → Int32 → List (Nat × Value) := fun lab v2 v3 => match lab with
  | 0 => [(0, .ref (ad 0)), (1, .int v1)]
  | 1 => [(0, .ref (ad 0)), (1, .int v1), (2, .int v2), (3, .int v3)]
  | 2 => [(0, .ref (ad 0)), (1, .int v1), (2, .int v2), (3, .int v3)]
  | _ => []
abbrev rm_X7_weightOf : Jvm.Room := { frames := 2, cells := 0, slots := 0, locals := 34 }
set_option maxHeartbeats 4000000 in
set_option maxRecDepth 100000 in
theorem ct_X7_weightOf (l : Launch) (D : va_G) (cy : Nat → ClassId) (ad : Nat → Nat) (B : Nat → Prop) (v1 : Int32) (M : Mem) (Q : Int32 → Mem → Prop) (h : wp_X7_weightOf v1 M Q) : CTi l D cy (wX ad cy) B yX7_weightOf wsX7_weightOf rm_X7_weightOf [.ref (ad 0), .int v1] M Q := by
  intro sz
  refine Met.ofW (cc := cX7_weightOf) (maxL := 4) (ret := some .int) (by decide) rfl ?_
  intro p e s m args below meth c s₁ Bd hml hv
  obtain ⟨hargs, hsz, hP, hK, hD⟩ := hv
  subst hsz
  have hx := Bd.exec
  have hb := Bd.bytes
  have hr := Bd.returns
  have hts := atoms_spec (ws := wsX7_weightOf) Bd.pre
  have hown : s.vm.findClass RX7 = some m.cls := findClass_of_methodNamed Bd.named
  have hlocks := Bd.notSynchronized
  have hC2 : xC wsX7_weightOf 2 RX2 TX2 8 := ⟨by decide +kernel, rfl⟩
  have hC7 : xC wsX7_weightOf 7 RX7 TX7 11 := ⟨by decide +kernel, rfl⟩
  have key : ∀ (P : Nat → Int32 → Int32 → Mem → Prop), (∀ (lab : Nat) (v2 : Int32) (v3 : Int32) (M : Mem), P lab v2 v3 M → ∀ (H : Heap) (locs : List Loc) (ls : Array Slot), xS D (wX ad cy) B s.heap H locs M → lv_has ls 4 (lvl_X7_weightOf ad v1 lab v2 v3 ) → W p l e (headSpec wsX7_weightOf rm_X7_weightOf).room s m args below meth c H locs 0 0 (MQ below (va_Qi (S := Mem) Q (xB D (wX ad cy) B) (xA B s.heap.size)) args s 0 0 (xA B s.heap.size)) (F0 m (pcl_X7_weightOf lab) ls [])) → ∀ (lab : Nat) (v2 : Int32) (v3 : Int32) (M : Mem), blk_X7_weightOf v1 Q P lab v2 v3 M → ∀ (H : Heap) (locs : List Loc) (ls : Array Slot), xS D (wX ad cy) B s.heap H locs M → lv_has ls 4 (lvl_X7_weightOf ad v1 lab v2 v3 ) → W p l e (headSpec wsX7_weightOf rm_X7_weightOf).room s m args below meth c H locs 0 0 (MQ below (va_Qi (S := Mem) Q (xB D (wX ad cy) B) (xA B s.heap.size)) args s 0 0 (xA B s.heap.size)) (F0 m (pcl_X7_weightOf lab) ls []) := by
    intro P hJ lab v2 v3 M h H locs ls S hl
    match lab, h, hl with
    | 0, h, hl =>
      have hl : lv_has ls 4 [(0, .ref (ad 0)), (1, .int v1)] := hl
      have h : blk_X7_weightOf_0 v1 Q P v2 v3 M := h
      unfold blk_X7_weightOf_0 at h
      refine W.eq (g2 := F0 m 0 ls []) rfl ?_
      refine lv_iconst (v := 0) hx hb dX7_weightOf_0 (by decide) ?_
      refine lv_istore_n (lv' := [(2, .int 0), (0, .ref (ad 0)), (1, .int v1)]) hx hb dX7_weightOf_1 rfl hl (by decide) rfl (fun ls hl => ?_)
      refine lv_iconst (v := 0) hx hb dX7_weightOf_2 (by decide) ?_
      refine lv_istore_n (lv' := [(3, .int 0), (2, .int 0), (0, .ref (ad 0)), (1, .int v1)]) hx hb dX7_weightOf_3 rfl hl (by decide) rfl (fun ls hl => ?_)
      exact hJ _ _ _ _ h _ _ _ S (lv_sub hl [2, 3, 1, 0] rfl)
    | 1, h, hl =>
      have hl : lv_has ls 4 [(0, .ref (ad 0)), (1, .int v1), (2, .int v2), (3, .int v3)] := hl
      have h : blk_X7_weightOf_1 v1 Q P v2 v3 M := h
      unfold blk_X7_weightOf_1 at h
      refine W.eq (g2 := F0 m 4 ls []) rfl ?_
      refine lv_iload_n hx hb dX7_weightOf_4 rfl (lv_at hl 3 rfl) ?_
      refine lv_aload_n hx hb dX7_weightOf_5 rfl (lv_at hl 0 rfl) ?_
      refine x_getR hx hb hts (hC7) hown hK S 2 (by decide) xf_0_2 (index := 25) (hts _ (List.mem_of_getElem? (i := 1) rfl)) dX7_weightOf_6 ?_
      refine x_getI hx hb hts (hC2) hown hK S 4 (by decide) xf_13_4 (index := 129) (hts _ (List.mem_of_getElem? (i := 2) rfl)) dX7_weightOf_9 ?_
      refine lv_icmp_ge (tgt := 38) hx hb dX7_weightOf_12 (by decide) (fun c12 => ?_) (fun c12 => ?_)
      · replace h := h.1 c12
        refine lv_iload_n hx hb dX7_weightOf_38 rfl (lv_at hl 2 rfl) ?_
        exact x_iret hx hb hr hlocks S rfl h dX7_weightOf_39
      · replace h := h.2 c12
        refine lv_iload_n hx hb dX7_weightOf_15 rfl (lv_at hl 3 rfl) ?_
        refine lv_iload_n hx hb dX7_weightOf_16 rfl (lv_at hl 1 rfl) ?_
        refine x_callSi (As := [.int v3, .int v1]) ⟨hx, hb, hml, hown, hts⟩ hK S (ct_X7_isIn l D cy ad B _ _ _ _ h) (va_cwS 2 hts gX7_weightOf_X7_isIn rfl rfl rfl (by decide +kernel) ⟨Nat.le_of_ble_eq_true rfl, Nat.le_of_ble_eq_true rfl⟩) rfl hl.1 rfl (Nat.le_of_ble_eq_true rfl) dX7_weightOf_17 ⟨Nat.zero_le _, Nat.zero_le _⟩ (fun r1 M1 H locs h S => ?_)
        refine lv_if_eq (tgt := 32) hx hb dX7_weightOf_20 (by decide) (fun c20 => ?_) (fun c20 => ?_)
        · replace h := h.1 c20
          exact hJ _ _ _ _ h _ _ _ S (lv_sub hl [0, 1, 2, 3] rfl)
        · replace h := h.2 c20
          refine lv_iload_n hx hb dX7_weightOf_23 rfl (lv_at hl 2 rfl) ?_
          refine lv_aload_n hx hb dX7_weightOf_24 rfl (lv_at hl 0 rfl) ?_
          refine x_getR hx hb hts (hC7) hown hK S 7 (by decide) xf_0_7 (index := 57) (hts _ (List.mem_of_getElem? (i := 3) rfl)) dX7_weightOf_25 ?_
          refine lv_iload_n hx hb dX7_weightOf_28 rfl (lv_at hl 3 rfl) ?_
          refine x_iald hx hb hK S xa_33 h.1 dX7_weightOf_29 ?_
          replace h := h.2
          refine lv_iadd hx hb dX7_weightOf_30 ?_
          refine lv_istore_n (lv' := [(2, .int (v2 + (M1.1 33 v3.toNatClampNeg))), (0, .ref (ad 0)), (1, .int v1), (3, .int v3)]) hx hb dX7_weightOf_31 rfl hl (by decide) rfl (fun ls hl => ?_)
          exact hJ _ _ _ _ h _ _ _ S (lv_sub hl [1, 2, 0, 3] rfl)
    | 2, h, hl =>
      have hl : lv_has ls 4 [(0, .ref (ad 0)), (1, .int v1), (2, .int v2), (3, .int v3)] := hl
      have h : blk_X7_weightOf_2 v1 Q P v2 v3 M := h
      unfold blk_X7_weightOf_2 at h
      refine W.eq (g2 := F0 m 32 ls []) rfl ?_
      refine lv_iinc (v := (v3 + 1)) (lv' := [(3, .int (v3 + 1)), (0, .ref (ad 0)), (1, .int v1), (2, .int v2)]) hx hb dX7_weightOf_32 hl (k := 3) rfl rfl (by decide) rfl (fun ls hl => ?_)
      refine lv_goto (tgt := 4) hx hb dX7_weightOf_35 (by decide) ?_
      exact hJ _ _ _ _ h _ _ _ S (lv_sub hl [1, 2, 3, 0] rfl)
    | _ + 3, h, hl => exact h.elim
  have hl := lv_entry ([.ref (ad 0), .int v1]) (n := 4) (Nat.le_of_ble_eq_true rfl)
  subst hargs
  rw [lg_entry_eq]
  generalize (lg_sl ([.ref (ad 0), .int v1]) ++ List.replicate (4 - (lg_sl ([.ref (ad 0), .int v1])).length) Slot.unset).toArray = ls at hl ⊢
  exact h _ (key _ (fun _ _ _ _ h => h)) s.heap [] ls ⟨hP, hD, va_S.rf⟩ hl
/-! X7_leastBestRank -/
def blk_X7_leastBestRank_0 (v1 : Int32) (Q : Int32 → Mem → Prop) (P : Nat → Int32 → Int32 → Int32 → Int32 → Mem → Prop) (v2 : Int32) (v3 : Int32) (v4 : Int32) (v5 : Int32) (M : Mem) : Prop :=
  wp_X7_fencesOf 0 M (fun r1 M1 => wp_X7_weightOf r1 M1 (fun r2 M2 => P 1 0 r2 1 0 M2))
theorem blk_X7_leastBestRank_0_mono {v1 : Int32} {Q Q' : Int32 → Mem → Prop} {P P' : Nat → Int32 → Int32 → Int32 → Int32 → Mem → Prop} (hQ : ∀ (r : Int32) (M : Mem), Q r M → Q' r M) (hP : ∀ (lab : Nat) (v2 : Int32) (v3 : Int32) (v4 : Int32) (v5 : Int32) (M : Mem), P lab v2 v3 v4 v5 M → P' lab v2 v3 v4 v5 M) (v2 : Int32) (v3 : Int32) (v4 : Int32) (v5 : Int32) (M : Mem) (h : blk_X7_leastBestRank_0 v1 Q P v2 v3 v4 v5 M) : blk_X7_leastBestRank_0 v1 Q' P' v2 v3 v4 v5 M := by
  unfold blk_X7_leastBestRank_0 at h ⊢
  exact wp_X7_fencesOf_mono (fun r1 M1 h => wp_X7_weightOf_mono (fun r2 M2 h => hP _ _ _ _ _ _ h) h) h
def blk_X7_leastBestRank_1 (v1 : Int32) (Q : Int32 → Mem → Prop) (P : Nat → Int32 → Int32 → Int32 → Int32 → Mem → Prop) (v2 : Int32) (v3 : Int32) (v4 : Int32) (v5 : Int32) (M : Mem) : Prop :=
  (((M.1 25 2) ≤ v4 → Q v2 M) ∧ (¬ (M.1 25 2) ≤ v4 → wp_X7_fencesOf v4 M (fun r3 M3 => wp_X7_weightOf r3 M3 (fun r4 M4 => ((v1 = 0 → ((v3 ≤ r4 → P 2 v2 v3 v4 0 M4) ∧ (¬ v3 ≤ r4 → P 3 0 0 v4 r4 M4))) ∧ (¬ v1 = 0 → ((r4 ≤ v3 → P 2 v2 v3 v4 0 M4) ∧ (¬ r4 ≤ v3 → P 3 0 0 v4 r4 M4))))))))
theorem blk_X7_leastBestRank_1_mono {v1 : Int32} {Q Q' : Int32 → Mem → Prop} {P P' : Nat → Int32 → Int32 → Int32 → Int32 → Mem → Prop} (hQ : ∀ (r : Int32) (M : Mem), Q r M → Q' r M) (hP : ∀ (lab : Nat) (v2 : Int32) (v3 : Int32) (v4 : Int32) (v5 : Int32) (M : Mem), P lab v2 v3 v4 v5 M → P' lab v2 v3 v4 v5 M) (v2 : Int32) (v3 : Int32) (v4 : Int32) (v5 : Int32) (M : Mem) (h : blk_X7_leastBestRank_1 v1 Q P v2 v3 v4 v5 M) : blk_X7_leastBestRank_1 v1 Q' P' v2 v3 v4 v5 M := by
  unfold blk_X7_leastBestRank_1 at h ⊢
  exact ⟨fun c => let h := h.1 c; hQ _ _ h, fun c => let h := h.2 c; wp_X7_fencesOf_mono (fun r3 M3 h => wp_X7_weightOf_mono (fun r4 M4 h => ⟨fun c => let h := h.1 c; ⟨fun c => let h := h.1 c; hP _ _ _ _ _ _ h, fun c => let h := h.2 c; hP _ _ _ _ _ _ h⟩, fun c => let h := h.2 c; ⟨fun c => let h := h.1 c; hP _ _ _ _ _ _ h, fun c => let h := h.2 c; hP _ _ _ _ _ _ h⟩⟩) h) h⟩
def blk_X7_leastBestRank_2 (v1 : Int32) (Q : Int32 → Mem → Prop) (P : Nat → Int32 → Int32 → Int32 → Int32 → Mem → Prop) (v2 : Int32) (v3 : Int32) (v4 : Int32) (v5 : Int32) (M : Mem) : Prop :=
  P 1 v2 v3 (v4 + 1) 0 M
theorem blk_X7_leastBestRank_2_mono {v1 : Int32} {Q Q' : Int32 → Mem → Prop} {P P' : Nat → Int32 → Int32 → Int32 → Int32 → Mem → Prop} (hQ : ∀ (r : Int32) (M : Mem), Q r M → Q' r M) (hP : ∀ (lab : Nat) (v2 : Int32) (v3 : Int32) (v4 : Int32) (v5 : Int32) (M : Mem), P lab v2 v3 v4 v5 M → P' lab v2 v3 v4 v5 M) (v2 : Int32) (v3 : Int32) (v4 : Int32) (v5 : Int32) (M : Mem) (h : blk_X7_leastBestRank_2 v1 Q P v2 v3 v4 v5 M) : blk_X7_leastBestRank_2 v1 Q' P' v2 v3 v4 v5 M := by
  unfold blk_X7_leastBestRank_2 at h ⊢
  exact hP _ _ _ _ _ _ h
def blk_X7_leastBestRank_3 (v1 : Int32) (Q : Int32 → Mem → Prop) (P : Nat → Int32 → Int32 → Int32 → Int32 → Mem → Prop) (v2 : Int32) (v3 : Int32) (v4 : Int32) (v5 : Int32) (M : Mem) : Prop :=
  P 2 v4 v5 v4 0 M
theorem blk_X7_leastBestRank_3_mono {v1 : Int32} {Q Q' : Int32 → Mem → Prop} {P P' : Nat → Int32 → Int32 → Int32 → Int32 → Mem → Prop} (hQ : ∀ (r : Int32) (M : Mem), Q r M → Q' r M) (hP : ∀ (lab : Nat) (v2 : Int32) (v3 : Int32) (v4 : Int32) (v5 : Int32) (M : Mem), P lab v2 v3 v4 v5 M → P' lab v2 v3 v4 v5 M) (v2 : Int32) (v3 : Int32) (v4 : Int32) (v5 : Int32) (M : Mem) (h : blk_X7_leastBestRank_3 v1 Q P v2 v3 v4 v5 M) : blk_X7_leastBestRank_3 v1 Q' P' v2 v3 v4 v5 M := by
  unfold blk_X7_leastBestRank_3 at h ⊢
  exact hP _ _ _ _ _ _ h
def blk_X7_leastBestRank (v1 : Int32) (Q : Int32 → Mem → Prop) (P : Nat → Int32 → Int32 → Int32 → Int32 → Mem → Prop) : Nat → Int32 → Int32 → Int32 → Int32 → Mem → Prop := fun lab v2 v3 v4 v5 M => match lab with
  | 0 => blk_X7_leastBestRank_0 v1 Q P v2 v3 v4 v5 M
  | 1 => blk_X7_leastBestRank_1 v1 Q P v2 v3 v4 v5 M
  | 2 => blk_X7_leastBestRank_2 v1 Q P v2 v3 v4 v5 M
  | 3 => blk_X7_leastBestRank_3 v1 Q P v2 v3 v4 v5 M
  | _ => False
theorem blk_X7_leastBestRank_mono {v1 : Int32} {Q Q' : Int32 → Mem → Prop} {P P' : Nat → Int32 → Int32 → Int32 → Int32 → Mem → Prop} (hQ : ∀ (r : Int32) (M : Mem), Q r M → Q' r M) (hP : ∀ (lab : Nat) (v2 : Int32) (v3 : Int32) (v4 : Int32) (v5 : Int32) (M : Mem), P lab v2 v3 v4 v5 M → P' lab v2 v3 v4 v5 M) : ∀ (lab : Nat) (v2 : Int32) (v3 : Int32) (v4 : Int32) (v5 : Int32) (M : Mem), blk_X7_leastBestRank v1 Q P lab v2 v3 v4 v5 M → blk_X7_leastBestRank v1 Q' P' lab v2 v3 v4 v5 M := fun lab v2 v3 v4 v5 M h => match lab, h with
  | 0, h => blk_X7_leastBestRank_0_mono (v1 := v1) hQ hP v2 v3 v4 v5 M h
  | 1, h => blk_X7_leastBestRank_1_mono (v1 := v1) hQ hP v2 v3 v4 v5 M h
  | 2, h => blk_X7_leastBestRank_2_mono (v1 := v1) hQ hP v2 v3 v4 v5 M h
  | 3, h => blk_X7_leastBestRank_3_mono (v1 := v1) hQ hP v2 v3 v4 v5 M h
  | _ + 4, h => False.elim h
def at_X7_leastBestRank (v1 : Int32) (Q : Int32 → Mem → Prop) : Nat → Int32 → Int32 → Int32 → Int32 → Mem → Prop := fun lab v2 v3 v4 v5 M => ∀ P : Nat → Int32 → Int32 → Int32 → Int32 → Mem → Prop, (∀ (lab : Nat) (v2 : Int32) (v3 : Int32) (v4 : Int32) (v5 : Int32) (M : Mem), blk_X7_leastBestRank v1 Q P lab v2 v3 v4 v5 M → P lab v2 v3 v4 v5 M) → P lab v2 v3 v4 v5 M
theorem at_X7_leastBestRank_fold {v1 : Int32} {Q : Int32 → Mem → Prop} {lab : Nat} {v2 : Int32} {v3 : Int32} {v4 : Int32} {v5 : Int32} {M : Mem} (h : blk_X7_leastBestRank v1 Q (at_X7_leastBestRank v1 Q) lab v2 v3 v4 v5 M) : at_X7_leastBestRank v1 Q lab v2 v3 v4 v5 M := fun P hP => hP _ _ _ _ _ _ (blk_X7_leastBestRank_mono (fun _ _ h => h) (fun _ _ _ _ _ _ h => h P hP) _ _ _ _ _ _ h)
theorem at_X7_leastBestRank_mono {v1 : Int32} {Q Q' : Int32 → Mem → Prop} (hQ : ∀ (r : Int32) (M : Mem), Q r M → Q' r M) {lab : Nat} {v2 : Int32} {v3 : Int32} {v4 : Int32} {v5 : Int32} {M : Mem} (h : at_X7_leastBestRank v1 Q lab v2 v3 v4 v5 M) : at_X7_leastBestRank v1 Q' lab v2 v3 v4 v5 M := fun P hP => h P (fun lab v2 v3 v4 v5 M hb => hP _ _ _ _ _ _ (blk_X7_leastBestRank_mono hQ (fun _ _ _ _ _ _ h => h) _ _ _ _ _ _ hb))
def wp_X7_leastBestRank (v1 : Int32) (M : Mem) (Q : Int32 → Mem → Prop) : Prop := at_X7_leastBestRank v1 Q 0 0 0 0 0 M
theorem wp_X7_leastBestRank_mono {v1 : Int32} {M : Mem} {Q Q' : Int32 → Mem → Prop} (hQ : ∀ (r : Int32) (M : Mem), Q r M → Q' r M) (h : wp_X7_leastBestRank v1 M Q) : wp_X7_leastBestRank v1 M Q' := at_X7_leastBestRank_mono hQ h
def pcl_X7_leastBestRank : Nat → Nat := fun lab => match lab with
  | 0 => 0
  | 1 => 15
  | 2 => 64
  | 3 => 58
  | _ => 0
def lvl_X7_leastBestRank (ad : Nat → Nat) (v1 : Int32) : Nat → Int32 → Int32 → Int32 → Int32 → List (Nat × Value) := fun lab v2 v3 v4 v5 => match lab with
  | 0 => [(0, .ref (ad 0)), (1, .int v1)]
  | 1 => [(0, .ref (ad 0)), (1, .int v1), (2, .int v2), (3, .int v3), (4, .int v4)]
  | 2 => [(0, .ref (ad 0)), (1, .int v1), (2, .int v2), (3, .int v3), (4, .int v4)]
  | 3 => [(0, .ref (ad 0)), (1, .int v1), (4, .int v4), (5, .int v5)]
  | _ => []
abbrev rm_X7_leastBestRank : Jvm.Room := { frames := 3, cells := 0, slots := 0, locals := 57 }
set_option maxHeartbeats 4000000 in
set_option maxRecDepth 100000 in
theorem ct_X7_leastBestRank (l : Launch) (D : va_G) (cy : Nat → ClassId) (ad : Nat → Nat) (B : Nat → Prop) (v1 : Int32) (M : Mem) (Q : Int32 → Mem → Prop) (h : wp_X7_leastBestRank v1 M Q) : CTi l D cy (wX ad cy) B yX7_leastBestRank wsX7_leastBestRank rm_X7_leastBestRank [.ref (ad 0), .int v1] M Q := by
  intro sz
  refine Met.ofW (cc := cX7_leastBestRank) (maxL := 6) (ret := some .int) (by decide) rfl ?_
  intro p e s m args below meth c s₁ Bd hml hv
  obtain ⟨hargs, hsz, hP, hK, hD⟩ := hv
  subst hsz
  have hx := Bd.exec
  have hb := Bd.bytes
  have hr := Bd.returns
  have hts := atoms_spec (ws := wsX7_leastBestRank) Bd.pre
  have hown : s.vm.findClass RX7 = some m.cls := findClass_of_methodNamed Bd.named
  have hlocks := Bd.notSynchronized
  have hC0 : xC wsX7_leastBestRank 0 RX0 TX0 5 := ⟨by decide +kernel, rfl⟩
  have hC7 : xC wsX7_leastBestRank 7 RX7 TX7 11 := ⟨by decide +kernel, rfl⟩
  have key : ∀ (P : Nat → Int32 → Int32 → Int32 → Int32 → Mem → Prop), (∀ (lab : Nat) (v2 : Int32) (v3 : Int32) (v4 : Int32) (v5 : Int32) (M : Mem), P lab v2 v3 v4 v5 M → ∀ (H : Heap) (locs : List Loc) (ls : Array Slot), xS D (wX ad cy) B s.heap H locs M → lv_has ls 6 (lvl_X7_leastBestRank ad v1 lab v2 v3 v4 v5 ) → W p l e (headSpec wsX7_leastBestRank rm_X7_leastBestRank).room s m args below meth c H locs 0 0 (MQ below (va_Qi (S := Mem) Q (xB D (wX ad cy) B) (xA B s.heap.size)) args s 0 0 (xA B s.heap.size)) (F0 m (pcl_X7_leastBestRank lab) ls [])) → ∀ (lab : Nat) (v2 : Int32) (v3 : Int32) (v4 : Int32) (v5 : Int32) (M : Mem), blk_X7_leastBestRank v1 Q P lab v2 v3 v4 v5 M → ∀ (H : Heap) (locs : List Loc) (ls : Array Slot), xS D (wX ad cy) B s.heap H locs M → lv_has ls 6 (lvl_X7_leastBestRank ad v1 lab v2 v3 v4 v5 ) → W p l e (headSpec wsX7_leastBestRank rm_X7_leastBestRank).room s m args below meth c H locs 0 0 (MQ below (va_Qi (S := Mem) Q (xB D (wX ad cy) B) (xA B s.heap.size)) args s 0 0 (xA B s.heap.size)) (F0 m (pcl_X7_leastBestRank lab) ls []) := by
    intro P hJ lab v2 v3 v4 v5 M h H locs ls S hl
    match lab, h, hl with
    | 0, h, hl =>
      have hl : lv_has ls 6 [(0, .ref (ad 0)), (1, .int v1)] := hl
      have h : blk_X7_leastBestRank_0 v1 Q P v2 v3 v4 v5 M := h
      unfold blk_X7_leastBestRank_0 at h
      refine W.eq (g2 := F0 m 0 ls []) rfl ?_
      refine lv_iconst (v := 0) hx hb dX7_leastBestRank_0 (by decide) ?_
      refine lv_istore_n (lv' := [(2, .int 0), (0, .ref (ad 0)), (1, .int v1)]) hx hb dX7_leastBestRank_1 rfl hl (by decide) rfl (fun ls hl => ?_)
      refine lv_aload_n hx hb dX7_leastBestRank_2 rfl (lv_at hl 1 rfl) ?_
      refine lv_aload_n hx hb dX7_leastBestRank_3 rfl (lv_at hl 1 rfl) ?_
      refine lv_iconst (v := 0) hx hb dX7_leastBestRank_4 (by decide) ?_
      refine x_callVi (As := [.int 0]) ⟨hx, hb, hml, hown, hts⟩ hK S (ct_X7_fencesOf l D cy ad B _ _ _ h) xo_0 rfl (cwV 1 hts gX7_leastBestRank_X7_fencesOf rfl rfl rfl (by decide +kernel) ⟨Nat.le_of_ble_eq_true rfl, Nat.le_of_ble_eq_true rfl⟩) rfl hl.1 rfl (Nat.le_of_ble_eq_true rfl) dX7_leastBestRank_5 ⟨Nat.zero_le _, Nat.zero_le _⟩ (fun r1 M1 H locs h S => ?_)
      refine x_callVi (As := [.int r1]) ⟨hx, hb, hml, hown, hts⟩ hK S (ct_X7_weightOf l D cy ad B _ _ _ h) xo_0 rfl (cwV 1 hts gX7_leastBestRank_X7_weightOf rfl rfl rfl (by decide +kernel) ⟨Nat.le_of_ble_eq_true rfl, Nat.le_of_ble_eq_true rfl⟩) rfl hl.1 rfl (Nat.le_of_ble_eq_true rfl) dX7_leastBestRank_8 ⟨Nat.zero_le _, Nat.zero_le _⟩ (fun r2 M2 H locs h S => ?_)
      refine lv_istore_n (lv' := [(3, .int r2), (2, .int 0), (0, .ref (ad 0)), (1, .int v1)]) hx hb dX7_leastBestRank_11 rfl hl (by decide) rfl (fun ls hl => ?_)
      refine lv_iconst (v := 1) hx hb dX7_leastBestRank_12 (by decide) ?_
      refine lv_istore (lv' := [(4, .int 1), (3, .int r2), (2, .int 0), (0, .ref (ad 0)), (1, .int v1)]) hx hb dX7_leastBestRank_13 hl (by decide) rfl (fun ls hl => ?_)
      exact hJ _ _ _ _ _ _ h _ _ _ S (lv_sub hl [3, 4, 2, 1, 0] rfl)
    | 1, h, hl =>
      have hl : lv_has ls 6 [(0, .ref (ad 0)), (1, .int v1), (2, .int v2), (3, .int v3), (4, .int v4)] := hl
      have h : blk_X7_leastBestRank_1 v1 Q P v2 v3 v4 v5 M := h
      unfold blk_X7_leastBestRank_1 at h
      refine W.eq (g2 := F0 m 15 ls []) rfl ?_
      refine lv_iload hx hb dX7_leastBestRank_15 (lv_at hl 4 rfl) ?_
      refine lv_aload_n hx hb dX7_leastBestRank_17 rfl (lv_at hl 0 rfl) ?_
      refine x_getR hx hb hts (hC7) hown hK S 4 (by decide) xf_0_4 (index := 39) (hts _ (List.mem_of_getElem? (i := 1) rfl)) dX7_leastBestRank_18 ?_
      refine x_getI hx hb hts (hC0) hown hK S 2 (by decide) xf_25_2 (index := 169) (hts _ (List.mem_of_getElem? (i := 2) rfl)) dX7_leastBestRank_21 ?_
      refine lv_icmp_ge (tgt := 70) hx hb dX7_leastBestRank_24 (by decide) (fun c24 => ?_) (fun c24 => ?_)
      · replace h := h.1 c24
        refine lv_iload_n hx hb dX7_leastBestRank_70 rfl (lv_at hl 2 rfl) ?_
        exact x_iret hx hb hr hlocks S rfl h dX7_leastBestRank_71
      · replace h := h.2 c24
        refine lv_aload_n hx hb dX7_leastBestRank_27 rfl (lv_at hl 0 rfl) ?_
        refine lv_aload_n hx hb dX7_leastBestRank_28 rfl (lv_at hl 0 rfl) ?_
        refine lv_iload hx hb dX7_leastBestRank_29 (lv_at hl 4 rfl) ?_
        refine x_callVi (As := [.int v4]) ⟨hx, hb, hml, hown, hts⟩ hK S (ct_X7_fencesOf l D cy ad B _ _ _ h) xo_0 rfl (cwV 1 hts gX7_leastBestRank_X7_fencesOf rfl rfl rfl (by decide +kernel) ⟨Nat.le_of_ble_eq_true rfl, Nat.le_of_ble_eq_true rfl⟩) rfl hl.1 rfl (Nat.le_of_ble_eq_true rfl) dX7_leastBestRank_31 ⟨Nat.zero_le _, Nat.zero_le _⟩ (fun r3 M3 H locs h S => ?_)
        refine x_callVi (As := [.int r3]) ⟨hx, hb, hml, hown, hts⟩ hK S (ct_X7_weightOf l D cy ad B _ _ _ h) xo_0 rfl (cwV 1 hts gX7_leastBestRank_X7_weightOf rfl rfl rfl (by decide +kernel) ⟨Nat.le_of_ble_eq_true rfl, Nat.le_of_ble_eq_true rfl⟩) rfl hl.1 rfl (Nat.le_of_ble_eq_true rfl) dX7_leastBestRank_34 ⟨Nat.zero_le _, Nat.zero_le _⟩ (fun r4 M4 H locs h S => ?_)
        refine lv_istore (lv' := [(5, .int r4), (0, .ref (ad 0)), (1, .int v1), (2, .int v2), (3, .int v3), (4, .int v4)]) hx hb dX7_leastBestRank_37 hl (by decide) rfl (fun ls hl => ?_)
        refine lv_iload_n hx hb dX7_leastBestRank_39 rfl (lv_at hl 2 rfl) ?_
        refine lv_if_eq (tgt := 52) hx hb dX7_leastBestRank_40 (by decide) (fun c40 => ?_) (fun c40 => ?_)
        · replace h := h.1 c40
          refine lv_iload hx hb dX7_leastBestRank_52 (lv_at hl 0 rfl) ?_
          refine lv_iload_n hx hb dX7_leastBestRank_54 rfl (lv_at hl 4 rfl) ?_
          refine lv_icmp_ge (tgt := 64) hx hb dX7_leastBestRank_55 (by decide) (fun c55 => ?_) (fun c55 => ?_)
          · replace h := h.1 c55
            exact hJ _ _ _ _ _ _ h _ _ _ S (lv_sub hl [1, 2, 3, 4, 5] rfl)
          · replace h := h.2 c55
            exact hJ _ _ _ _ _ _ h _ _ _ S (lv_sub hl [1, 2, 5, 0] rfl)
        · replace h := h.2 c40
          refine lv_iload hx hb dX7_leastBestRank_43 (lv_at hl 0 rfl) ?_
          refine lv_iload_n hx hb dX7_leastBestRank_45 rfl (lv_at hl 4 rfl) ?_
          refine lv_icmp_le (tgt := 64) hx hb dX7_leastBestRank_46 (by decide) (fun c46 => ?_) (fun c46 => ?_)
          · replace h := h.1 c46
            exact hJ _ _ _ _ _ _ h _ _ _ S (lv_sub hl [1, 2, 3, 4, 5] rfl)
          · replace h := h.2 c46
            refine lv_goto (tgt := 58) hx hb dX7_leastBestRank_49 (by decide) ?_
            exact hJ _ _ _ _ _ _ h _ _ _ S (lv_sub hl [1, 2, 5, 0] rfl)
    | 2, h, hl =>
      have hl : lv_has ls 6 [(0, .ref (ad 0)), (1, .int v1), (2, .int v2), (3, .int v3), (4, .int v4)] := hl
      have h : blk_X7_leastBestRank_2 v1 Q P v2 v3 v4 v5 M := h
      unfold blk_X7_leastBestRank_2 at h
      refine W.eq (g2 := F0 m 64 ls []) rfl ?_
      refine lv_iinc (v := (v4 + 1)) (lv' := [(4, .int (v4 + 1)), (0, .ref (ad 0)), (1, .int v1), (2, .int v2), (3, .int v3)]) hx hb dX7_leastBestRank_64 hl (k := 4) rfl rfl (by decide) rfl (fun ls hl => ?_)
      refine lv_goto (tgt := 15) hx hb dX7_leastBestRank_67 (by decide) ?_
      exact hJ _ _ _ _ _ _ h _ _ _ S (lv_sub hl [1, 2, 3, 4, 0] rfl)
    | 3, h, hl =>
      have hl : lv_has ls 6 [(0, .ref (ad 0)), (1, .int v1), (4, .int v4), (5, .int v5)] := hl
      have h : blk_X7_leastBestRank_3 v1 Q P v2 v3 v4 v5 M := h
      unfold blk_X7_leastBestRank_3 at h
      refine W.eq (g2 := F0 m 58 ls []) rfl ?_
      refine lv_iload hx hb dX7_leastBestRank_58 (lv_at hl 2 rfl) ?_
      refine lv_istore_n (lv' := [(2, .int v4), (0, .ref (ad 0)), (1, .int v1), (4, .int v4), (5, .int v5)]) hx hb dX7_leastBestRank_60 rfl hl (by decide) rfl (fun ls hl => ?_)
      refine lv_iload hx hb dX7_leastBestRank_61 (lv_at hl 4 rfl) ?_
      refine lv_istore_n (lv' := [(3, .int v5), (2, .int v4), (0, .ref (ad 0)), (1, .int v1), (4, .int v4), (5, .int v5)]) hx hb dX7_leastBestRank_63 rfl hl (by decide) rfl (fun ls hl => ?_)
      exact hJ _ _ _ _ _ _ h _ _ _ S (lv_sub hl [2, 3, 1, 0, 4] rfl)
    | _ + 4, h, hl => exact h.elim
  have hl := lv_entry ([.ref (ad 0), .int v1]) (n := 6) (Nat.le_of_ble_eq_true rfl)
  subst hargs
  rw [lg_entry_eq]
  generalize (lg_sl ([.ref (ad 0), .int v1]) ++ List.replicate (6 - (lg_sl ([.ref (ad 0), .int v1])).length) Slot.unset).toArray = ls at hl ⊢
  exact h _ (key _ (fun _ _ _ _ _ _ h => h)) s.heap [] ls ⟨hP, hD, va_S.rf⟩ hl
/-! X7_best -/
def wp_X7_best (v1 : Int32) (M : Mem) (Q : Int32 → Mem → Prop) : Prop :=
  (((M.1 0 8) = 0 → Q (-3) M) ∧ (¬ (M.1 0 8) = 0 → wp_X7_leastBestRank v1 M (fun r1 M1 => wp_X7_fencesOf r1 M1 (fun r2 M2 => wp_X7_weightOf r2 M2 (fun r3 M3 => Q r3 M3)))))
theorem wp_X7_best_mono {v1 : Int32} {M : Mem} {Q Q' : Int32 → Mem → Prop} (hQ : ∀ (r : Int32) (M : Mem), Q r M → Q' r M) (h : wp_X7_best v1 M Q) : wp_X7_best v1 M Q' := by
  unfold wp_X7_best at h ⊢
  exact ⟨fun c => let h := h.1 c; hQ _ _ h, fun c => let h := h.2 c; wp_X7_leastBestRank_mono (fun r1 M1 h => wp_X7_fencesOf_mono (fun r2 M2 h => wp_X7_weightOf_mono (fun r3 M3 h => hQ _ _ h) h) h) h⟩
abbrev rm_X7_best : Jvm.Room := { frames := 4, cells := 0, slots := 0, locals := 82 }
set_option maxHeartbeats 4000000 in
set_option maxRecDepth 100000 in
theorem ct_X7_best (l : Launch) (D : va_G) (cy : Nat → ClassId) (ad : Nat → Nat) (B : Nat → Prop) (v1 : Int32) (M : Mem) (Q : Int32 → Mem → Prop) (h : wp_X7_best v1 M Q) : CTi l D cy (wX ad cy) B yX7_best wsX7_best rm_X7_best [.ref (ad 0), .int v1] M Q := by
  intro sz
  refine Met.ofW (cc := cX7_best) (maxL := 2) (ret := some .int) (by decide) rfl ?_
  intro p e s m args below meth c s₁ Bd hml hv
  obtain ⟨hargs, hsz, hP, hK, hD⟩ := hv
  subst hsz
  have hx := Bd.exec
  have hb := Bd.bytes
  have hr := Bd.returns
  have hts := atoms_spec (ws := wsX7_best) Bd.pre
  have hown : s.vm.findClass RX7 = some m.cls := findClass_of_methodNamed Bd.named
  have hlocks := Bd.notSynchronized
  have hC7 : xC wsX7_best 7 RX7 TX7 11 := ⟨by decide +kernel, rfl⟩
  have hl := lv_entry ([.ref (ad 0), .int v1]) (n := 2) (Nat.le_of_ble_eq_true rfl)
  subst hargs
  rw [lg_entry_eq]
  generalize (lg_sl ([.ref (ad 0), .int v1]) ++ List.replicate (2 - (lg_sl ([.ref (ad 0), .int v1])).length) Slot.unset).toArray = ls at hl ⊢
  have hl : lv_has ls 2 [(0, .ref (ad 0)), (1, .int v1)] := hl
  have S : xS D (wX ad cy) B s.heap s.heap [] M := ⟨hP, hD, va_S.rf⟩
  unfold wp_X7_best at h
  refine lv_aload_n hx hb dX7_best_0 rfl (lv_at hl 0 rfl) ?_
  refine x_getI hx hb hts (hC7) hown hK S 8 (by decide) xf_0_8 (index := 126) (hts _ (List.mem_of_getElem? (i := 1) rfl)) dX7_best_1 ?_
  refine lv_if_eq (tgt := 23) hx hb dX7_best_4 (by decide) (fun c4 => ?_) (fun c4 => ?_)
  · replace h := h.1 c4
    refine lv_bipush (v := (-3)) hx hb dX7_best_23 (by decide) ?_
    exact x_iret hx hb hr hlocks S rfl h dX7_best_25
  · replace h := h.2 c4
    refine lv_aload_n hx hb dX7_best_7 rfl (lv_at hl 0 rfl) ?_
    refine lv_aload_n hx hb dX7_best_8 rfl (lv_at hl 0 rfl) ?_
    refine lv_aload_n hx hb dX7_best_9 rfl (lv_at hl 0 rfl) ?_
    refine lv_iload_n hx hb dX7_best_10 rfl (lv_at hl 1 rfl) ?_
    refine x_callVi (As := [.int v1]) ⟨hx, hb, hml, hown, hts⟩ hK S (ct_X7_leastBestRank l D cy ad B _ _ _ h) xo_0 rfl (cwV 1 hts gX7_best_X7_leastBestRank rfl rfl rfl (by decide +kernel) ⟨Nat.le_of_ble_eq_true rfl, Nat.le_of_ble_eq_true rfl⟩) rfl hl.1 rfl (Nat.le_of_ble_eq_true rfl) dX7_best_11 ⟨Nat.zero_le _, Nat.zero_le _⟩ (fun r1 M1 H locs h S => ?_)
    refine x_callVi (As := [.int r1]) ⟨hx, hb, hml, hown, hts⟩ hK S (ct_X7_fencesOf l D cy ad B _ _ _ h) xo_0 rfl (cwV 1 hts gX7_best_X7_fencesOf rfl rfl rfl (by decide +kernel) ⟨Nat.le_of_ble_eq_true rfl, Nat.le_of_ble_eq_true rfl⟩) rfl hl.1 rfl (Nat.le_of_ble_eq_true rfl) dX7_best_14 ⟨Nat.zero_le _, Nat.zero_le _⟩ (fun r2 M2 H locs h S => ?_)
    refine x_callVi (As := [.int r2]) ⟨hx, hb, hml, hown, hts⟩ hK S (ct_X7_weightOf l D cy ad B _ _ _ h) xo_0 rfl (cwV 1 hts gX7_best_X7_weightOf rfl rfl rfl (by decide +kernel) ⟨Nat.le_of_ble_eq_true rfl, Nat.le_of_ble_eq_true rfl⟩) rfl hl.1 rfl (Nat.le_of_ble_eq_true rfl) dX7_best_17 ⟨Nat.zero_le _, Nat.zero_le _⟩ (fun r3 M3 H locs h S => ?_)
    refine lv_goto (tgt := 25) hx hb dX7_best_20 (by decide) ?_
    exact x_iret hx hb hr hlocks S rfl h dX7_best_25
/-! X7_bestRank -/
def wp_X7_bestRank (v1 : Int32) (M : Mem) (Q : Int32 → Mem → Prop) : Prop :=
  (((M.1 0 8) = 0 → Q (-3) M) ∧ (¬ (M.1 0 8) = 0 → wp_X7_leastBestRank v1 M (fun r1 M1 => Q r1 M1)))
theorem wp_X7_bestRank_mono {v1 : Int32} {M : Mem} {Q Q' : Int32 → Mem → Prop} (hQ : ∀ (r : Int32) (M : Mem), Q r M → Q' r M) (h : wp_X7_bestRank v1 M Q) : wp_X7_bestRank v1 M Q' := by
  unfold wp_X7_bestRank at h ⊢
  exact ⟨fun c => let h := h.1 c; hQ _ _ h, fun c => let h := h.2 c; wp_X7_leastBestRank_mono (fun r1 M1 h => hQ _ _ h) h⟩
abbrev rm_X7_bestRank : Jvm.Room := { frames := 4, cells := 0, slots := 0, locals := 82 }
set_option maxHeartbeats 4000000 in
set_option maxRecDepth 100000 in
theorem ct_X7_bestRank (l : Launch) (D : va_G) (cy : Nat → ClassId) (ad : Nat → Nat) (B : Nat → Prop) (v1 : Int32) (M : Mem) (Q : Int32 → Mem → Prop) (h : wp_X7_bestRank v1 M Q) : CTi l D cy (wX ad cy) B yX7_bestRank wsX7_bestRank rm_X7_bestRank [.ref (ad 0), .int v1] M Q := by
  intro sz
  refine Met.ofW (cc := cX7_bestRank) (maxL := 2) (ret := some .int) (by decide) rfl ?_
  intro p e s m args below meth c s₁ Bd hml hv
  obtain ⟨hargs, hsz, hP, hK, hD⟩ := hv
  subst hsz
  have hx := Bd.exec
  have hb := Bd.bytes
  have hr := Bd.returns
  have hts := atoms_spec (ws := wsX7_bestRank) Bd.pre
  have hown : s.vm.findClass RX7 = some m.cls := findClass_of_methodNamed Bd.named
  have hlocks := Bd.notSynchronized
  have hC7 : xC wsX7_bestRank 7 RX7 TX7 11 := ⟨by decide +kernel, rfl⟩
  have hl := lv_entry ([.ref (ad 0), .int v1]) (n := 2) (Nat.le_of_ble_eq_true rfl)
  subst hargs
  rw [lg_entry_eq]
  generalize (lg_sl ([.ref (ad 0), .int v1]) ++ List.replicate (2 - (lg_sl ([.ref (ad 0), .int v1])).length) Slot.unset).toArray = ls at hl ⊢
  have hl : lv_has ls 2 [(0, .ref (ad 0)), (1, .int v1)] := hl
  have S : xS D (wX ad cy) B s.heap s.heap [] M := ⟨hP, hD, va_S.rf⟩
  unfold wp_X7_bestRank at h
  refine lv_aload_n hx hb dX7_bestRank_0 rfl (lv_at hl 0 rfl) ?_
  refine x_getI hx hb hts (hC7) hown hK S 8 (by decide) xf_0_8 (index := 126) (hts _ (List.mem_of_getElem? (i := 1) rfl)) dX7_bestRank_1 ?_
  refine lv_if_eq (tgt := 15) hx hb dX7_bestRank_4 (by decide) (fun c4 => ?_) (fun c4 => ?_)
  · replace h := h.1 c4
    refine lv_bipush (v := (-3)) hx hb dX7_bestRank_15 (by decide) ?_
    exact x_iret hx hb hr hlocks S rfl h dX7_bestRank_17
  · replace h := h.2 c4
    refine lv_aload_n hx hb dX7_bestRank_7 rfl (lv_at hl 0 rfl) ?_
    refine lv_iload_n hx hb dX7_bestRank_8 rfl (lv_at hl 1 rfl) ?_
    refine x_callVi (As := [.int v1]) ⟨hx, hb, hml, hown, hts⟩ hK S (ct_X7_leastBestRank l D cy ad B _ _ _ h) xo_0 rfl (cwV 1 hts gX7_bestRank_X7_leastBestRank rfl rfl rfl (by decide +kernel) ⟨Nat.le_of_ble_eq_true rfl, Nat.le_of_ble_eq_true rfl⟩) rfl hl.1 rfl (Nat.le_of_ble_eq_true rfl) dX7_bestRank_9 ⟨Nat.zero_le _, Nat.zero_le _⟩ (fun r1 M1 H locs h S => ?_)
    refine lv_goto (tgt := 17) hx hb dX7_bestRank_12 (by decide) ?_
    exact x_iret hx hb hr hlocks S rfl h dX7_bestRank_17
/-! X6_reach -/
def wp_X6_reach (v1 : Int32) (v2 : Int32) (M : Mem) (Q : Mem → Prop) : Prop :=
  (vp_in v1 256 ∧ ((256 ≤ ((upI M 29 v1.toNatClampNeg v2).1 28 2) → Q (upI M 29 v1.toNatClampNeg v2)) ∧ (¬ 256 ≤ ((upI M 29 v1.toNatClampNeg v2).1 28 2) → (vp_in ((upI M 29 v1.toNatClampNeg v2).1 28 2) 256 ∧ Q (upI (upI (upI M 29 v1.toNatClampNeg v2) 30 ((upI M 29 v1.toNatClampNeg v2).1 28 2).toNatClampNeg v1) 28 2 (((upI (upI M 29 v1.toNatClampNeg v2) 30 ((upI M 29 v1.toNatClampNeg v2).1 28 2).toNatClampNeg v1).1 28 2) + 1))))))
theorem wp_X6_reach_mono {v1 : Int32} {v2 : Int32} {M : Mem} {Q Q' : Mem → Prop} (hQ : ∀ M : Mem, Q M → Q' M) (h : wp_X6_reach v1 v2 M Q) : wp_X6_reach v1 v2 M Q' := by
  unfold wp_X6_reach at h ⊢
  exact ⟨h.1, let h := h.2; ⟨fun c => let h := h.1 c; hQ _ h, fun c => let h := h.2 c; ⟨h.1, let h := h.2; hQ _ h⟩⟩⟩
abbrev rm_X6_reach : Jvm.Room := { frames := 1, cells := 0, slots := 0, locals := 14 }
set_option maxHeartbeats 4000000 in
set_option maxRecDepth 100000 in
theorem ct_X6_reach (l : Launch) (D : va_G) (cy : Nat → ClassId) (ad : Nat → Nat) (B : Nat → Prop) (v1 : Int32) (v2 : Int32) (M : Mem) (Q : Mem → Prop) (h : wp_X6_reach v1 v2 M Q) : CTv l D cy (wX ad cy) B yX6_reach wsX6_reach rm_X6_reach [.ref (ad 28), .int v1, .int v2] M Q := by
  intro sz
  refine Met.ofW (cc := cX6_reach) (maxL := 3) (ret := none) (by decide) rfl ?_
  intro p e s m args below meth c s₁ Bd hml hv
  obtain ⟨hargs, hsz, hP, hK, hD⟩ := hv
  subst hsz
  have hx := Bd.exec
  have hb := Bd.bytes
  have hr := Bd.returns
  have hts := atoms_spec (ws := wsX6_reach) Bd.pre
  have hown : s.vm.findClass RX6 = some m.cls := findClass_of_methodNamed Bd.named
  have hlocks := Bd.notSynchronized
  have hC6 : xC wsX6_reach 6 RX6 TX6 3 := ⟨by decide +kernel, rfl⟩
  have hl := lv_entry ([.ref (ad 28), .int v1, .int v2]) (n := 3) (Nat.le_of_ble_eq_true rfl)
  subst hargs
  rw [lg_entry_eq]
  generalize (lg_sl ([.ref (ad 28), .int v1, .int v2]) ++ List.replicate (3 - (lg_sl ([.ref (ad 28), .int v1, .int v2])).length) Slot.unset).toArray = ls at hl ⊢
  have hl : lv_has ls 3 [(0, .ref (ad 28)), (1, .int v1), (2, .int v2)] := hl
  have S : xS D (wX ad cy) B s.heap s.heap [] M := ⟨hP, hD, va_S.rf⟩
  unfold wp_X6_reach at h
  refine lv_aload_n hx hb dX6_reach_0 rfl (lv_at hl 0 rfl) ?_
  refine x_getR hx hb hts (hC6) hown hK S 0 (by decide) xf_28_0 (index := 9) (hts _ (List.mem_of_getElem? (i := 1) rfl)) dX6_reach_1 ?_
  refine lv_iload_n hx hb dX6_reach_4 rfl (lv_at hl 1 rfl) ?_
  refine lv_iload_n hx hb dX6_reach_5 rfl (lv_at hl 2 rfl) ?_
  refine x_iast hx hb hK S xa_29 h.1 dX6_reach_6 (fun H locs S => ?_)
  replace h := h.2
  refine lv_aload_n hx hb dX6_reach_7 rfl (lv_at hl 0 rfl) ?_
  refine x_getI hx hb hts (hC6) hown hK S 2 (by decide) xf_28_2 (index := 24) (hts _ (List.mem_of_getElem? (i := 2) rfl)) dX6_reach_8 ?_
  refine lv_sipush (v := 256) hx hb dX6_reach_11 (by decide) ?_
  refine lv_icmp_ge (tgt := 37) hx hb dX6_reach_14 (by decide) (fun c14 => ?_) (fun c14 => ?_)
  · replace h := h.1 c14
    exact x_vret hx hb hr hlocks S h dX6_reach_37
  · replace h := h.2 c14
    refine lv_aload_n hx hb dX6_reach_17 rfl (lv_at hl 0 rfl) ?_
    refine x_getR hx hb hts (hC6) hown hK S 1 (by decide) xf_28_1 (index := 15) (hts _ (List.mem_of_getElem? (i := 3) rfl)) dX6_reach_18 ?_
    refine lv_aload_n hx hb dX6_reach_21 rfl (lv_at hl 0 rfl) ?_
    refine x_getI hx hb hts (hC6) hown hK S 2 (by decide) xf_28_2 (index := 24) (hts _ (List.mem_of_getElem? (i := 2) rfl)) dX6_reach_22 ?_
    refine lv_iload_n hx hb dX6_reach_25 rfl (lv_at hl 1 rfl) ?_
    refine x_iast hx hb hK S xa_30 h.1 dX6_reach_26 (fun H locs S => ?_)
    replace h := h.2
    refine lv_aload_n hx hb dX6_reach_27 rfl (lv_at hl 0 rfl) ?_
    refine lv_dup hx hb dX6_reach_28 rfl ?_
    refine x_getI hx hb hts (hC6) hown hK S 2 (by decide) xf_28_2 (index := 24) (hts _ (List.mem_of_getElem? (i := 2) rfl)) dX6_reach_29 ?_
    refine lv_iconst (v := 1) hx hb dX6_reach_32 (by decide) ?_
    refine lv_iadd hx hb dX6_reach_33 ?_
    refine x_putI hx hb hts (hC6) tyX6 tyX6_ok nmX6 hown hK S 2 (by decide) xf_28_2 (index := 24) (hts _ (List.mem_of_getElem? (i := 2) rfl)) rfl rfl rfl dX6_reach_34 (fun H locs S => ?_)
    exact x_vret hx hb hr hlocks S h dX6_reach_37
/-! X6_measure -/
def blk_X6_measure_0 (v3 : Int32) (Q : Mem → Prop) (P : Nat → Int32 → Int32 → Int32 → Int32 → Mem → Prop) (v4 : Int32) (v5 : Int32) (v6 : Int32) (v7 : Int32) (M : Mem) : Prop :=
  P 1 0 0 0 0 M
theorem blk_X6_measure_0_mono {v3 : Int32} {Q Q' : Mem → Prop} {P P' : Nat → Int32 → Int32 → Int32 → Int32 → Mem → Prop} (hQ : ∀ M : Mem, Q M → Q' M) (hP : ∀ (lab : Nat) (v4 : Int32) (v5 : Int32) (v6 : Int32) (v7 : Int32) (M : Mem), P lab v4 v5 v6 v7 M → P' lab v4 v5 v6 v7 M) (v4 : Int32) (v5 : Int32) (v6 : Int32) (v7 : Int32) (M : Mem) (h : blk_X6_measure_0 v3 Q P v4 v5 v6 v7 M) : blk_X6_measure_0 v3 Q' P' v4 v5 v6 v7 M := by
  unfold blk_X6_measure_0 at h ⊢
  exact hP _ _ _ _ _ _ h
def blk_X6_measure_1 (v3 : Int32) (Q : Mem → Prop) (P : Nat → Int32 → Int32 → Int32 → Int32 → Mem → Prop) (v4 : Int32) (v5 : Int32) (v6 : Int32) (v7 : Int32) (M : Mem) : Prop :=
  (((M.1 22 1) ≤ v4 → wp_X6_reach v3 0 (upI M 28 2 0) (fun M1 => P 2 0 0 0 0 M1)) ∧ (¬ (M.1 22 1) ≤ v4 → (vp_in v4 256 ∧ P 1 (v4 + 1) 0 0 0 (upI M 29 v4.toNatClampNeg (-9)))))
theorem blk_X6_measure_1_mono {v3 : Int32} {Q Q' : Mem → Prop} {P P' : Nat → Int32 → Int32 → Int32 → Int32 → Mem → Prop} (hQ : ∀ M : Mem, Q M → Q' M) (hP : ∀ (lab : Nat) (v4 : Int32) (v5 : Int32) (v6 : Int32) (v7 : Int32) (M : Mem), P lab v4 v5 v6 v7 M → P' lab v4 v5 v6 v7 M) (v4 : Int32) (v5 : Int32) (v6 : Int32) (v7 : Int32) (M : Mem) (h : blk_X6_measure_1 v3 Q P v4 v5 v6 v7 M) : blk_X6_measure_1 v3 Q' P' v4 v5 v6 v7 M := by
  unfold blk_X6_measure_1 at h ⊢
  exact ⟨fun c => let h := h.1 c; wp_X6_reach_mono (fun M1 h => hP _ _ _ _ _ _ h) h, fun c => let h := h.2 c; ⟨h.1, let h := h.2; hP _ _ _ _ _ _ h⟩⟩
def blk_X6_measure_2 (v3 : Int32) (Q : Mem → Prop) (P : Nat → Int32 → Int32 → Int32 → Int32 → Mem → Prop) (v4 : Int32) (v5 : Int32) (v6 : Int32) (v7 : Int32) (M : Mem) : Prop :=
  ((256 ≤ v4 → Q M) ∧ (¬ 256 ≤ v4 → (((M.1 28 2) ≤ v4 → Q M) ∧ (¬ (M.1 28 2) ≤ v4 → (vp_in v4 256 ∧ P 3 v4 (M.1 30 v4.toNatClampNeg) 0 0 M)))))
theorem blk_X6_measure_2_mono {v3 : Int32} {Q Q' : Mem → Prop} {P P' : Nat → Int32 → Int32 → Int32 → Int32 → Mem → Prop} (hQ : ∀ M : Mem, Q M → Q' M) (hP : ∀ (lab : Nat) (v4 : Int32) (v5 : Int32) (v6 : Int32) (v7 : Int32) (M : Mem), P lab v4 v5 v6 v7 M → P' lab v4 v5 v6 v7 M) (v4 : Int32) (v5 : Int32) (v6 : Int32) (v7 : Int32) (M : Mem) (h : blk_X6_measure_2 v3 Q P v4 v5 v6 v7 M) : blk_X6_measure_2 v3 Q' P' v4 v5 v6 v7 M := by
  unfold blk_X6_measure_2 at h ⊢
  exact ⟨fun c => let h := h.1 c; hQ _ h, fun c => let h := h.2 c; ⟨fun c => let h := h.1 c; hQ _ h, fun c => let h := h.2 c; ⟨h.1, let h := h.2; hP _ _ _ _ _ _ h⟩⟩⟩
def blk_X6_measure_3 (v3 : Int32) (Q : Mem → Prop) (P : Nat → Int32 → Int32 → Int32 → Int32 → Mem → Prop) (v4 : Int32) (v5 : Int32) (v6 : Int32) (v7 : Int32) (M : Mem) : Prop :=
  ((28 ≤ v6 → P 2 (v4 + 1) 0 0 0 M) ∧ (¬ 28 ≤ v6 → wp_X1_afterTurn v5 v6 M (fun r2 M2 => ((r2 = (-9) → P 4 v4 v5 v6 0 M2) ∧ (¬ r2 = (-9) → (vp_in r2 256 ∧ (((M2.1 27 r2.toNatClampNeg) = (-9) → P 4 v4 v5 v6 0 M2) ∧ (¬ (M2.1 27 r2.toNatClampNeg) = (-9) → (vp_in r2 256 ∧ ((¬ (M2.1 29 r2.toNatClampNeg) = (-9) → P 4 v4 v5 v6 0 M2) ∧ ((M2.1 29 r2.toNatClampNeg) = (-9) → (vp_in v5 256 ∧ wp_X6_reach r2 ((M2.1 29 v5.toNatClampNeg) + 1) M2 (fun M3 => P 4 v4 v5 v6 0 M3)))))))))))))
theorem blk_X6_measure_3_mono {v3 : Int32} {Q Q' : Mem → Prop} {P P' : Nat → Int32 → Int32 → Int32 → Int32 → Mem → Prop} (hQ : ∀ M : Mem, Q M → Q' M) (hP : ∀ (lab : Nat) (v4 : Int32) (v5 : Int32) (v6 : Int32) (v7 : Int32) (M : Mem), P lab v4 v5 v6 v7 M → P' lab v4 v5 v6 v7 M) (v4 : Int32) (v5 : Int32) (v6 : Int32) (v7 : Int32) (M : Mem) (h : blk_X6_measure_3 v3 Q P v4 v5 v6 v7 M) : blk_X6_measure_3 v3 Q' P' v4 v5 v6 v7 M := by
  unfold blk_X6_measure_3 at h ⊢
  exact ⟨fun c => let h := h.1 c; hP _ _ _ _ _ _ h, fun c => let h := h.2 c; wp_X1_afterTurn_mono (fun r2 M2 h => ⟨fun c => let h := h.1 c; hP _ _ _ _ _ _ h, fun c => let h := h.2 c; ⟨h.1, let h := h.2; ⟨fun c => let h := h.1 c; hP _ _ _ _ _ _ h, fun c => let h := h.2 c; ⟨h.1, let h := h.2; ⟨fun c => let h := h.1 c; hP _ _ _ _ _ _ h, fun c => let h := h.2 c; ⟨h.1, let h := h.2; wp_X6_reach_mono (fun M3 h => hP _ _ _ _ _ _ h) h⟩⟩⟩⟩⟩⟩) h⟩
def blk_X6_measure_4 (v3 : Int32) (Q : Mem → Prop) (P : Nat → Int32 → Int32 → Int32 → Int32 → Mem → Prop) (v4 : Int32) (v5 : Int32) (v6 : Int32) (v7 : Int32) (M : Mem) : Prop :=
  P 3 v4 v5 (v6 + 1) 0 M
theorem blk_X6_measure_4_mono {v3 : Int32} {Q Q' : Mem → Prop} {P P' : Nat → Int32 → Int32 → Int32 → Int32 → Mem → Prop} (hQ : ∀ M : Mem, Q M → Q' M) (hP : ∀ (lab : Nat) (v4 : Int32) (v5 : Int32) (v6 : Int32) (v7 : Int32) (M : Mem), P lab v4 v5 v6 v7 M → P' lab v4 v5 v6 v7 M) (v4 : Int32) (v5 : Int32) (v6 : Int32) (v7 : Int32) (M : Mem) (h : blk_X6_measure_4 v3 Q P v4 v5 v6 v7 M) : blk_X6_measure_4 v3 Q' P' v4 v5 v6 v7 M := by
  unfold blk_X6_measure_4 at h ⊢
  exact hP _ _ _ _ _ _ h
def blk_X6_measure (v3 : Int32) (Q : Mem → Prop) (P : Nat → Int32 → Int32 → Int32 → Int32 → Mem → Prop) : Nat → Int32 → Int32 → Int32 → Int32 → Mem → Prop := fun lab v4 v5 v6 v7 M => match lab with
  | 0 => blk_X6_measure_0 v3 Q P v4 v5 v6 v7 M
  | 1 => blk_X6_measure_1 v3 Q P v4 v5 v6 v7 M
  | 2 => blk_X6_measure_2 v3 Q P v4 v5 v6 v7 M
  | 3 => blk_X6_measure_3 v3 Q P v4 v5 v6 v7 M
  | 4 => blk_X6_measure_4 v3 Q P v4 v5 v6 v7 M
  | _ => False
theorem blk_X6_measure_mono {v3 : Int32} {Q Q' : Mem → Prop} {P P' : Nat → Int32 → Int32 → Int32 → Int32 → Mem → Prop} (hQ : ∀ M : Mem, Q M → Q' M) (hP : ∀ (lab : Nat) (v4 : Int32) (v5 : Int32) (v6 : Int32) (v7 : Int32) (M : Mem), P lab v4 v5 v6 v7 M → P' lab v4 v5 v6 v7 M) : ∀ (lab : Nat) (v4 : Int32) (v5 : Int32) (v6 : Int32) (v7 : Int32) (M : Mem), blk_X6_measure v3 Q P lab v4 v5 v6 v7 M → blk_X6_measure v3 Q' P' lab v4 v5 v6 v7 M := fun lab v4 v5 v6 v7 M h => match lab, h with
  | 0, h => blk_X6_measure_0_mono (v3 := v3) hQ hP v4 v5 v6 v7 M h
  | 1, h => blk_X6_measure_1_mono (v3 := v3) hQ hP v4 v5 v6 v7 M h
  | 2, h => blk_X6_measure_2_mono (v3 := v3) hQ hP v4 v5 v6 v7 M h
  | 3, h => blk_X6_measure_3_mono (v3 := v3) hQ hP v4 v5 v6 v7 M h
  | 4, h => blk_X6_measure_4_mono (v3 := v3) hQ hP v4 v5 v6 v7 M h
  | _ + 5, h => False.elim h
def at_X6_measure (v3 : Int32) (Q : Mem → Prop) : Nat → Int32 → Int32 → Int32 → Int32 → Mem → Prop := fun lab v4 v5 v6 v7 M => ∀ P : Nat → Int32 → Int32 → Int32 → Int32 → Mem → Prop, (∀ (lab : Nat) (v4 : Int32) (v5 : Int32) (v6 : Int32) (v7 : Int32) (M : Mem), blk_X6_measure v3 Q P lab v4 v5 v6 v7 M → P lab v4 v5 v6 v7 M) → P lab v4 v5 v6 v7 M
theorem at_X6_measure_fold {v3 : Int32} {Q : Mem → Prop} {lab : Nat} {v4 : Int32} {v5 : Int32} {v6 : Int32} {v7 : Int32} {M : Mem} (h : blk_X6_measure v3 Q (at_X6_measure v3 Q) lab v4 v5 v6 v7 M) : at_X6_measure v3 Q lab v4 v5 v6 v7 M := fun P hP => hP _ _ _ _ _ _ (blk_X6_measure_mono (fun _ h => h) (fun _ _ _ _ _ _ h => h P hP) _ _ _ _ _ _ h)
theorem at_X6_measure_mono {v3 : Int32} {Q Q' : Mem → Prop} (hQ : ∀ M : Mem, Q M → Q' M) {lab : Nat} {v4 : Int32} {v5 : Int32} {v6 : Int32} {v7 : Int32} {M : Mem} (h : at_X6_measure v3 Q lab v4 v5 v6 v7 M) : at_X6_measure v3 Q' lab v4 v5 v6 v7 M := fun P hP => h P (fun lab v4 v5 v6 v7 M hb => hP _ _ _ _ _ _ (blk_X6_measure_mono hQ (fun _ _ _ _ _ _ h => h) _ _ _ _ _ _ hb))
def wp_X6_measure (v3 : Int32) (M : Mem) (Q : Mem → Prop) : Prop := at_X6_measure v3 Q 0 0 0 0 0 M
theorem wp_X6_measure_mono {v3 : Int32} {M : Mem} {Q Q' : Mem → Prop} (hQ : ∀ M : Mem, Q M → Q' M) (h : wp_X6_measure v3 M Q) : wp_X6_measure v3 M Q' := at_X6_measure_mono hQ h
def pcl_X6_measure : Nat → Nat := fun lab => match lab with
  | 0 => 0
  | 1 => 3
  | 2 => 41
  | 3 => 70
  | 4 => 133
  | _ => 0
def lvl_X6_measure (ad : Nat → Nat) (v3 : Int32) : Nat → Int32 → Int32 → Int32 → Int32 → List (Nat × Value) := fun lab v4 v5 v6 v7 => match lab with
  | 0 => [(0, .ref (ad 28)), (1, .ref (ad 22)), (2, .ref (ad 25)), (3, .int v3)]
  | 1 => [(0, .ref (ad 28)), (1, .ref (ad 22)), (2, .ref (ad 25)), (3, .int v3), (4, .int v4)]
  | 2 => [(0, .ref (ad 28)), (1, .ref (ad 22)), (2, .ref (ad 25)), (4, .int v4)]
  | 3 => [(0, .ref (ad 28)), (1, .ref (ad 22)), (2, .ref (ad 25)), (4, .int v4), (5, .int v5), (6, .int v6)]
  | 4 => [(0, .ref (ad 28)), (1, .ref (ad 22)), (2, .ref (ad 25)), (4, .int v4), (5, .int v5), (6, .int v6)]
  | _ => []
abbrev rm_X6_measure : Jvm.Room := { frames := 2, cells := 0, slots := 0, locals := 36 }
set_option maxHeartbeats 4000000 in
set_option maxRecDepth 100000 in
theorem ct_X6_measure (l : Launch) (D : va_G) (cy : Nat → ClassId) (ad : Nat → Nat) (B : Nat → Prop) (v3 : Int32) (M : Mem) (Q : Mem → Prop) (h : wp_X6_measure v3 M Q) : CTv l D cy (wX ad cy) B yX6_measure wsX6_measure rm_X6_measure [.ref (ad 28), .ref (ad 22), .ref (ad 25), .int v3] M Q := by
  intro sz
  refine Met.ofW (cc := cX6_measure) (maxL := 8) (ret := none) (by decide) rfl ?_
  intro p e s m args below meth c s₁ Bd hml hv
  obtain ⟨hargs, hsz, hP, hK, hD⟩ := hv
  subst hsz
  have hx := Bd.exec
  have hb := Bd.bytes
  have hr := Bd.returns
  have hts := atoms_spec (ws := wsX6_measure) Bd.pre
  have hown : s.vm.findClass RX6 = some m.cls := findClass_of_methodNamed Bd.named
  have hlocks := Bd.notSynchronized
  have hC0 : xC wsX6_measure 0 RX0 TX0 5 := ⟨by decide +kernel, rfl⟩
  have hC1 : xC wsX6_measure 1 RX1 TX1 3 := ⟨by decide +kernel, rfl⟩
  have hC6 : xC wsX6_measure 6 RX6 TX6 3 := ⟨by decide +kernel, rfl⟩
  have key : ∀ (P : Nat → Int32 → Int32 → Int32 → Int32 → Mem → Prop), (∀ (lab : Nat) (v4 : Int32) (v5 : Int32) (v6 : Int32) (v7 : Int32) (M : Mem), P lab v4 v5 v6 v7 M → ∀ (H : Heap) (locs : List Loc) (ls : Array Slot), xS D (wX ad cy) B s.heap H locs M → lv_has ls 8 (lvl_X6_measure ad v3 lab v4 v5 v6 v7 ) → W p l e (headSpec wsX6_measure rm_X6_measure).room s m args below meth c H locs 0 0 (MQ below (va_Qv (S := Mem) Q (xB D (wX ad cy) B) (xA B s.heap.size)) args s 0 0 (xA B s.heap.size)) (F0 m (pcl_X6_measure lab) ls [])) → ∀ (lab : Nat) (v4 : Int32) (v5 : Int32) (v6 : Int32) (v7 : Int32) (M : Mem), blk_X6_measure v3 Q P lab v4 v5 v6 v7 M → ∀ (H : Heap) (locs : List Loc) (ls : Array Slot), xS D (wX ad cy) B s.heap H locs M → lv_has ls 8 (lvl_X6_measure ad v3 lab v4 v5 v6 v7 ) → W p l e (headSpec wsX6_measure rm_X6_measure).room s m args below meth c H locs 0 0 (MQ below (va_Qv (S := Mem) Q (xB D (wX ad cy) B) (xA B s.heap.size)) args s 0 0 (xA B s.heap.size)) (F0 m (pcl_X6_measure lab) ls []) := by
    intro P hJ lab v4 v5 v6 v7 M h H locs ls S hl
    match lab, h, hl with
    | 0, h, hl =>
      have hl : lv_has ls 8 [(0, .ref (ad 28)), (1, .ref (ad 22)), (2, .ref (ad 25)), (3, .int v3)] := hl
      have h : blk_X6_measure_0 v3 Q P v4 v5 v6 v7 M := h
      unfold blk_X6_measure_0 at h
      refine W.eq (g2 := F0 m 0 ls []) rfl ?_
      refine lv_iconst (v := 0) hx hb dX6_measure_0 (by decide) ?_
      refine lv_istore (lv' := [(4, .int 0), (0, .ref (ad 28)), (1, .ref (ad 22)), (2, .ref (ad 25)), (3, .int v3)]) hx hb dX6_measure_1 hl (by decide) rfl (fun ls hl => ?_)
      exact hJ _ _ _ _ _ _ h _ _ _ S (lv_sub hl [1, 2, 3, 4, 0] rfl)
    | 1, h, hl =>
      have hl : lv_has ls 8 [(0, .ref (ad 28)), (1, .ref (ad 22)), (2, .ref (ad 25)), (3, .int v3), (4, .int v4)] := hl
      have h : blk_X6_measure_1 v3 Q P v4 v5 v6 v7 M := h
      unfold blk_X6_measure_1 at h
      refine W.eq (g2 := F0 m 3 ls []) rfl ?_
      refine lv_iload hx hb dX6_measure_3 (lv_at hl 4 rfl) ?_
      refine lv_aload_n hx hb dX6_measure_5 rfl (lv_at hl 1 rfl) ?_
      refine x_getI hx hb hts (hC1) hown hK S 1 (by decide) xf_22_1 (index := 18) (hts _ (List.mem_of_getElem? (i := 1) rfl)) dX6_measure_6 ?_
      refine lv_icmp_ge (tgt := 27) hx hb dX6_measure_9 (by decide) (fun c9 => ?_) (fun c9 => ?_)
      · replace h := h.1 c9
        refine lv_aload_n hx hb dX6_measure_27 rfl (lv_at hl 0 rfl) ?_
        refine lv_iconst (v := 0) hx hb dX6_measure_28 (by decide) ?_
        refine x_putI hx hb hts (hC6) tyX6 tyX6_ok nmX6 hown hK S 2 (by decide) xf_28_2 (index := 24) (hts _ (List.mem_of_getElem? (i := 3) rfl)) rfl rfl rfl dX6_measure_29 (fun H locs S => ?_)
        refine lv_aload_n hx hb dX6_measure_32 rfl (lv_at hl 0 rfl) ?_
        refine lv_iload_n hx hb dX6_measure_33 rfl (lv_at hl 3 rfl) ?_
        refine lv_iconst (v := 0) hx hb dX6_measure_34 (by decide) ?_
        refine x_callVv (As := [.int v3, .int 0]) ⟨hx, hb, hml, hown, hts⟩ hK S (ct_X6_reach l D cy ad B _ _ _ _ h) xo_28 rfl (cwV 2 hts gX6_measure_X6_reach rfl rfl rfl (by decide +kernel) ⟨Nat.le_of_ble_eq_true rfl, Nat.le_of_ble_eq_true rfl⟩) rfl hl.1 rfl (Nat.le_of_ble_eq_true rfl) dX6_measure_35 ⟨Nat.zero_le _, Nat.zero_le _⟩ (fun M1 H locs h S => ?_)
        refine lv_iconst (v := 0) hx hb dX6_measure_38 (by decide) ?_
        refine lv_istore (lv' := [(4, .int 0), (0, .ref (ad 28)), (1, .ref (ad 22)), (2, .ref (ad 25)), (3, .int v3)]) hx hb dX6_measure_39 hl (by decide) rfl (fun ls hl => ?_)
        exact hJ _ _ _ _ _ _ h _ _ _ S (lv_sub hl [1, 2, 3, 0] rfl)
      · replace h := h.2 c9
        refine lv_aload_n hx hb dX6_measure_12 rfl (lv_at hl 0 rfl) ?_
        refine x_getR hx hb hts (hC6) hown hK S 0 (by decide) xf_28_0 (index := 9) (hts _ (List.mem_of_getElem? (i := 2) rfl)) dX6_measure_13 ?_
        refine lv_iload hx hb dX6_measure_16 (lv_at hl 4 rfl) ?_
        refine lv_bipush (v := (-9)) hx hb dX6_measure_18 (by decide) ?_
        refine x_iast hx hb hK S xa_29 h.1 dX6_measure_20 (fun H locs S => ?_)
        replace h := h.2
        refine lv_iinc (v := (v4 + 1)) (lv' := [(4, .int (v4 + 1)), (0, .ref (ad 28)), (1, .ref (ad 22)), (2, .ref (ad 25)), (3, .int v3)]) hx hb dX6_measure_21 hl (k := 4) rfl rfl (by decide) rfl (fun ls hl => ?_)
        refine lv_goto (tgt := 3) hx hb dX6_measure_24 (by decide) ?_
        exact hJ _ _ _ _ _ _ h _ _ _ S (lv_sub hl [1, 2, 3, 4, 0] rfl)
    | 2, h, hl =>
      have hl : lv_has ls 8 [(0, .ref (ad 28)), (1, .ref (ad 22)), (2, .ref (ad 25)), (4, .int v4)] := hl
      have h : blk_X6_measure_2 v3 Q P v4 v5 v6 v7 M := h
      unfold blk_X6_measure_2 at h
      refine W.eq (g2 := F0 m 41 ls []) rfl ?_
      refine lv_iload hx hb dX6_measure_41 (lv_at hl 3 rfl) ?_
      refine lv_sipush (v := 256) hx hb dX6_measure_43 (by decide) ?_
      refine lv_icmp_ge (tgt := 145) hx hb dX6_measure_46 (by decide) (fun c46 => ?_) (fun c46 => ?_)
      · replace h := h.1 c46
        exact x_vret hx hb hr hlocks S h dX6_measure_145
      · replace h := h.2 c46
        refine lv_iload hx hb dX6_measure_49 (lv_at hl 3 rfl) ?_
        refine lv_aload_n hx hb dX6_measure_51 rfl (lv_at hl 0 rfl) ?_
        refine x_getI hx hb hts (hC6) hown hK S 2 (by decide) xf_28_2 (index := 24) (hts _ (List.mem_of_getElem? (i := 3) rfl)) dX6_measure_52 ?_
        refine lv_icmp_ge (tgt := 145) hx hb dX6_measure_55 (by decide) (fun c55 => ?_) (fun c55 => ?_)
        · replace h := h.1 c55
          exact x_vret hx hb hr hlocks S h dX6_measure_145
        · replace h := h.2 c55
          refine lv_aload_n hx hb dX6_measure_58 rfl (lv_at hl 0 rfl) ?_
          refine x_getR hx hb hts (hC6) hown hK S 1 (by decide) xf_28_1 (index := 15) (hts _ (List.mem_of_getElem? (i := 4) rfl)) dX6_measure_59 ?_
          refine lv_iload hx hb dX6_measure_62 (lv_at hl 3 rfl) ?_
          refine x_iald hx hb hK S xa_30 h.1 dX6_measure_64 ?_
          replace h := h.2
          refine lv_istore (lv' := [(5, .int (M.1 30 v4.toNatClampNeg)), (0, .ref (ad 28)), (1, .ref (ad 22)), (2, .ref (ad 25)), (4, .int v4)]) hx hb dX6_measure_65 hl (by decide) rfl (fun ls hl => ?_)
          refine lv_iconst (v := 0) hx hb dX6_measure_67 (by decide) ?_
          refine lv_istore (lv' := [(6, .int 0), (5, .int (M.1 30 v4.toNatClampNeg)), (0, .ref (ad 28)), (1, .ref (ad 22)), (2, .ref (ad 25)), (4, .int v4)]) hx hb dX6_measure_68 hl (by decide) rfl (fun ls hl => ?_)
          exact hJ _ _ _ _ _ _ h _ _ _ S (lv_sub hl [2, 3, 4, 5, 1, 0] rfl)
    | 3, h, hl =>
      have hl : lv_has ls 8 [(0, .ref (ad 28)), (1, .ref (ad 22)), (2, .ref (ad 25)), (4, .int v4), (5, .int v5), (6, .int v6)] := hl
      have h : blk_X6_measure_3 v3 Q P v4 v5 v6 v7 M := h
      unfold blk_X6_measure_3 at h
      refine W.eq (g2 := F0 m 70 ls []) rfl ?_
      refine lv_iload hx hb dX6_measure_70 (lv_at hl 5 rfl) ?_
      refine lv_bipush (v := 28) hx hb dX6_measure_72 (by decide) ?_
      refine lv_icmp_ge (tgt := 139) hx hb dX6_measure_74 (by decide) (fun c74 => ?_) (fun c74 => ?_)
      · replace h := h.1 c74
        refine lv_iinc (v := (v4 + 1)) (lv' := [(4, .int (v4 + 1)), (0, .ref (ad 28)), (1, .ref (ad 22)), (2, .ref (ad 25)), (5, .int v5), (6, .int v6)]) hx hb dX6_measure_139 hl (k := 3) rfl rfl (by decide) rfl (fun ls hl => ?_)
        refine lv_goto (tgt := 41) hx hb dX6_measure_142 (by decide) ?_
        exact hJ _ _ _ _ _ _ h _ _ _ S (lv_sub hl [1, 2, 3, 0] rfl)
      · replace h := h.2 c74
        refine lv_aload_n hx hb dX6_measure_77 rfl (lv_at hl 1 rfl) ?_
        refine lv_iload hx hb dX6_measure_78 (lv_at hl 4 rfl) ?_
        refine lv_iload hx hb dX6_measure_80 (lv_at hl 5 rfl) ?_
        refine x_callVi (As := [.int v5, .int v6]) ⟨hx, hb, hml, hown, hts⟩ hK S (ct_X1_afterTurn l D cy ad B _ _ _ _ h) xo_22 rfl (cwV 2 hts gX6_measure_X1_afterTurn rfl rfl rfl (by decide +kernel) ⟨Nat.le_of_ble_eq_true rfl, Nat.le_of_ble_eq_true rfl⟩) rfl hl.1 rfl (Nat.le_of_ble_eq_true rfl) dX6_measure_82 ⟨Nat.zero_le _, Nat.zero_le _⟩ (fun r2 M2 H locs h S => ?_)
        refine lv_istore (lv' := [(7, .int r2), (0, .ref (ad 28)), (1, .ref (ad 22)), (2, .ref (ad 25)), (4, .int v4), (5, .int v5), (6, .int v6)]) hx hb dX6_measure_85 hl (by decide) rfl (fun ls hl => ?_)
        refine lv_iload hx hb dX6_measure_87 (lv_at hl 0 rfl) ?_
        refine lv_bipush (v := (-9)) hx hb dX6_measure_89 (by decide) ?_
        refine lv_icmp_eq (tgt := 133) hx hb dX6_measure_91 (by decide) (fun c91 => ?_) (fun c91 => ?_)
        · replace h := h.1 c91
          exact hJ _ _ _ _ _ _ h _ _ _ S (lv_sub hl [1, 2, 3, 4, 5, 6] rfl)
        · replace h := h.2 c91
          refine lv_aload_n hx hb dX6_measure_94 rfl (lv_at hl 3 rfl) ?_
          refine x_getR hx hb hts (hC0) hown hK S 1 (by decide) xf_25_1 (index := 33) (hts _ (List.mem_of_getElem? (i := 5) rfl)) dX6_measure_95 ?_
          refine lv_iload hx hb dX6_measure_98 (lv_at hl 0 rfl) ?_
          refine x_iald hx hb hK S xa_27 h.1 dX6_measure_100 ?_
          replace h := h.2
          refine lv_bipush (v := (-9)) hx hb dX6_measure_101 (by decide) ?_
          refine lv_icmp_eq (tgt := 133) hx hb dX6_measure_103 (by decide) (fun c103 => ?_) (fun c103 => ?_)
          · replace h := h.1 c103
            exact hJ _ _ _ _ _ _ h _ _ _ S (lv_sub hl [1, 2, 3, 4, 5, 6] rfl)
          · replace h := h.2 c103
            refine lv_aload_n hx hb dX6_measure_106 rfl (lv_at hl 1 rfl) ?_
            refine x_getR hx hb hts (hC6) hown hK S 0 (by decide) xf_28_0 (index := 9) (hts _ (List.mem_of_getElem? (i := 2) rfl)) dX6_measure_107 ?_
            refine lv_iload hx hb dX6_measure_110 (lv_at hl 0 rfl) ?_
            refine x_iald hx hb hK S xa_29 h.1 dX6_measure_112 ?_
            replace h := h.2
            refine lv_bipush (v := (-9)) hx hb dX6_measure_113 (by decide) ?_
            refine lv_icmp_ne (tgt := 133) hx hb dX6_measure_115 (by decide) (fun c115 => ?_) (fun c115 => ?_)
            · replace h := h.1 c115
              exact hJ _ _ _ _ _ _ h _ _ _ S (lv_sub hl [1, 2, 3, 4, 5, 6] rfl)
            · replace h := h.2 c115
              refine lv_aload_n hx hb dX6_measure_118 rfl (lv_at hl 1 rfl) ?_
              refine lv_iload hx hb dX6_measure_119 (lv_at hl 0 rfl) ?_
              refine lv_aload_n hx hb dX6_measure_121 rfl (lv_at hl 1 rfl) ?_
              refine x_getR hx hb hts (hC6) hown hK S 0 (by decide) xf_28_0 (index := 9) (hts _ (List.mem_of_getElem? (i := 2) rfl)) dX6_measure_122 ?_
              refine lv_iload hx hb dX6_measure_125 (lv_at hl 5 rfl) ?_
              refine x_iald hx hb hK S xa_29 h.1 dX6_measure_127 ?_
              replace h := h.2
              refine lv_iconst (v := 1) hx hb dX6_measure_128 (by decide) ?_
              refine lv_iadd hx hb dX6_measure_129 ?_
              refine x_callVv (As := [.int r2, .int ((M2.1 29 v5.toNatClampNeg) + 1)]) ⟨hx, hb, hml, hown, hts⟩ hK S (ct_X6_reach l D cy ad B _ _ _ _ h) xo_28 rfl (cwV 2 hts gX6_measure_X6_reach rfl rfl rfl (by decide +kernel) ⟨Nat.le_of_ble_eq_true rfl, Nat.le_of_ble_eq_true rfl⟩) rfl hl.1 rfl (Nat.le_of_ble_eq_true rfl) dX6_measure_130 ⟨Nat.zero_le _, Nat.zero_le _⟩ (fun M3 H locs h S => ?_)
              exact hJ _ _ _ _ _ _ h _ _ _ S (lv_sub hl [1, 2, 3, 4, 5, 6] rfl)
    | 4, h, hl =>
      have hl : lv_has ls 8 [(0, .ref (ad 28)), (1, .ref (ad 22)), (2, .ref (ad 25)), (4, .int v4), (5, .int v5), (6, .int v6)] := hl
      have h : blk_X6_measure_4 v3 Q P v4 v5 v6 v7 M := h
      unfold blk_X6_measure_4 at h
      refine W.eq (g2 := F0 m 133 ls []) rfl ?_
      refine lv_iinc (v := (v6 + 1)) (lv' := [(6, .int (v6 + 1)), (0, .ref (ad 28)), (1, .ref (ad 22)), (2, .ref (ad 25)), (4, .int v4), (5, .int v5)]) hx hb dX6_measure_133 hl (k := 5) rfl rfl (by decide) rfl (fun ls hl => ?_)
      refine lv_goto (tgt := 70) hx hb dX6_measure_136 (by decide) ?_
      exact hJ _ _ _ _ _ _ h _ _ _ S (lv_sub hl [1, 2, 3, 4, 5, 0] rfl)
    | _ + 5, h, hl => exact h.elim
  have hl := lv_entry ([.ref (ad 28), .ref (ad 22), .ref (ad 25), .int v3]) (n := 8) (Nat.le_of_ble_eq_true rfl)
  subst hargs
  rw [lg_entry_eq]
  generalize (lg_sl ([.ref (ad 28), .ref (ad 22), .ref (ad 25), .int v3]) ++ List.replicate (8 - (lg_sl ([.ref (ad 28), .ref (ad 22), .ref (ad 25), .int v3])).length) Slot.unset).toArray = ls at hl ⊢
  exact h _ (key _ (fun _ _ _ _ _ _ h => h)) s.heap [] ls ⟨hP, hD, va_S.rf⟩ hl
