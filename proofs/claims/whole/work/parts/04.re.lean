/-! X8_turns -/
def wp_X8_turns (v1 : Int32) (M : Mem) (Q : Int32 → Mem → Prop) : Prop :=
  ((¬ ((upI M 0 0 0).1 0 8) = 0 → wp_X8_noFence v1 (upI M 0 0 0) (fun r1 M1 => ((r1 = 0 → wp_X8_comes (M1.1 0 24) v1 M1 (fun r2 M2 => Q r2 M2)) ∧ (¬ r1 = 0 → Q (-1) M1)))) ∧ (((upI M 0 0 0).1 0 8) = 0 → Q (-3) (upI M 0 0 0)))
theorem wp_X8_turns_mono {v1 : Int32} {M : Mem} {Q Q' : Int32 → Mem → Prop} (hQ : ∀ (r : Int32) (M : Mem), Q r M → Q' r M) (h : wp_X8_turns v1 M Q) : wp_X8_turns v1 M Q' := by
  unfold wp_X8_turns at h ⊢
  exact ⟨fun c => let h := h.1 c; wp_X8_noFence_mono (fun r1 M1 h => ⟨fun c => let h := h.1 c; wp_X8_comes_mono (fun r2 M2 h => hQ _ _ h) h, fun c => let h := h.2 c; hQ _ _ h⟩) h, fun c => let h := h.2 c; hQ _ _ h⟩
abbrev rm_X8_turns : Jvm.Room := { frames := 5, cells := 0, slots := 0, locals := 118 }
set_option maxHeartbeats 4000000 in
set_option maxRecDepth 100000 in
theorem ct_X8_turns (l : Launch) (D : va_G) (cy : Nat → ClassId) (ad : Nat → Nat) (B : Nat → Prop) (v1 : Int32) (M : Mem) (Q : Int32 → Mem → Prop) (h : wp_X8_turns v1 M Q) : CTi l D cy (wR ad cy) B yX8_turns wsX8_turns rm_X8_turns [.ref (ad 0), .int v1] M Q := by
  intro sz
  refine Met.ofW (cc := cX8_turns) (maxL := 2) (ret := some .int) (by decide) rfl ?_
  intro p e s m args below meth c s₁ Bd hml hv
  obtain ⟨hargs, hsz, hP, hK, hD⟩ := hv
  subst hsz
  have hx := Bd.exec
  have hb := Bd.bytes
  have hr := Bd.returns
  have hts := atoms_spec (ws := wsX8_turns) Bd.pre
  have hown : s.vm.findClass RX8 = some m.cls := findClass_of_methodNamed Bd.named
  have hlocks := Bd.notSynchronized
  have hC8 : xC wsX8_turns 8 RX8 TX8 34 := ⟨by decide +kernel, rfl⟩
  have hl := lv_entry ([.ref (ad 0), .int v1]) (n := 2) (Nat.le_of_ble_eq_true rfl)
  subst hargs
  rw [lg_entry_eq]
  generalize (lg_sl ([.ref (ad 0), .int v1]) ++ List.replicate (2 - (lg_sl ([.ref (ad 0), .int v1])).length) Slot.unset).toArray = ls at hl ⊢
  have hl : lv_has ls 2 [(0, .ref (ad 0)), (1, .int v1)] := hl
  have S : xS D (wR ad cy) B s.heap s.heap [] M := ⟨hP, hD, va_S.rf⟩
  unfold wp_X8_turns at h
  refine lv_aload_n hx hb dX8_turns_0 rfl (lv_at hl 0 rfl) ?_
  refine lv_iconst (v := 0) hx hb dX8_turns_1 (by decide) ?_
  refine x_putI hx hb hts (hC8) tyX8 tyX8_ok nmX8 hown hK S 0 (by decide) rf_0_0 (index := 74) (hts _ (List.mem_of_getElem? (i := 1) rfl)) rfl rfl rfl dX8_turns_2 (fun H locs S => ?_)
  refine lv_aload_n hx hb dX8_turns_5 rfl (lv_at hl 0 rfl) ?_
  refine x_getI hx hb hts (hC8) hown hK S 8 (by decide) rf_0_8 (index := 151) (hts _ (List.mem_of_getElem? (i := 2) rfl)) dX8_turns_6 ?_
  refine lv_if_ne (tgt := 17) hx hb dX8_turns_9 (by decide) (fun c9 => ?_) (fun c9 => ?_)
  · replace h := h.1 c9
    refine lv_aload_n hx hb dX8_turns_17 rfl (lv_at hl 0 rfl) ?_
    refine lv_iload_n hx hb dX8_turns_18 rfl (lv_at hl 1 rfl) ?_
    refine x_callVi (As := [.int v1]) ⟨hx, hb, hml, hown, hts⟩ hK S (ct_X8_noFence l D cy ad B _ _ _ h) ro_0 rfl (cwV 1 hts gX8_turns_X8_noFence rfl rfl rfl (by decide +kernel) ⟨Nat.le_of_ble_eq_true rfl, Nat.le_of_ble_eq_true rfl⟩) rfl hl.1 rfl (Nat.le_of_ble_eq_true rfl) dX8_turns_19 ⟨Nat.zero_le _, Nat.zero_le _⟩ (fun r1 M1 H locs h S => ?_)
    refine lv_if_eq (tgt := 29) hx hb dX8_turns_22 (by decide) (fun c22 => ?_) (fun c22 => ?_)
    · replace h := h.1 c22
      refine lv_aload_n hx hb dX8_turns_29 rfl (lv_at hl 0 rfl) ?_
      refine lv_aload_n hx hb dX8_turns_30 rfl (lv_at hl 0 rfl) ?_
      refine x_getI hx hb hts (hC8) hown hK S 24 (by decide) rf_0_24 (index := 145) (hts _ (List.mem_of_getElem? (i := 3) rfl)) dX8_turns_31 ?_
      refine lv_iload_n hx hb dX8_turns_34 rfl (lv_at hl 1 rfl) ?_
      refine x_callVi (As := [.int (M1.1 0 24), .int v1]) ⟨hx, hb, hml, hown, hts⟩ hK S (ct_X8_comes l D cy ad B _ _ _ _ h) ro_0 rfl (cwV 2 hts gX8_turns_X8_comes rfl rfl rfl (by decide +kernel) ⟨Nat.le_of_ble_eq_true rfl, Nat.le_of_ble_eq_true rfl⟩) rfl hl.1 rfl (Nat.le_of_ble_eq_true rfl) dX8_turns_35 ⟨Nat.zero_le _, Nat.zero_le _⟩ (fun r2 M2 H locs h S => ?_)
      exact x_iret hx hb hr hlocks S rfl h dX8_turns_38
    · replace h := h.2 c22
      refine lv_iconst (v := (-1)) hx hb dX8_turns_25 (by decide) ?_
      refine lv_goto (tgt := 38) hx hb dX8_turns_26 (by decide) ?_
      exact x_iret hx hb hr hlocks S rfl h dX8_turns_38
  · replace h := h.2 c9
    refine lv_bipush (v := (-3)) hx hb dX8_turns_12 (by decide) ?_
    refine lv_goto (tgt := 38) hx hb dX8_turns_14 (by decide) ?_
    exact x_iret hx hb hr hlocks S rfl h dX8_turns_38
/-! X8_remember -/
def blk_X8_remember_0 (Q : Mem → Prop) (P : Nat → Int32 → Mem → Prop) (v1 : Int32) (M : Mem) : Prop :=
  ((¬ (M.1 0 25) = 10 → P 1 0 M) ∧ ((M.1 0 25) = 10 → P 2 1 M))
theorem blk_X8_remember_0_mono {Q Q' : Mem → Prop} {P P' : Nat → Int32 → Mem → Prop} (hQ : ∀ M : Mem, Q M → Q' M) (hP : ∀ (lab : Nat) (v1 : Int32) (M : Mem), P lab v1 M → P' lab v1 M) (v1 : Int32) (M : Mem) (h : blk_X8_remember_0 Q P v1 M) : blk_X8_remember_0 Q' P' v1 M := by
  unfold blk_X8_remember_0 at h ⊢
  exact ⟨fun c => let h := h.1 c; hP _ _ _ h, fun c => let h := h.2 c; hP _ _ _ h⟩
def blk_X8_remember_1 (Q : Mem → Prop) (P : Nat → Int32 → Mem → Prop) (v1 : Int32) (M : Mem) : Prop :=
  (vp_in (M.1 0 25) 10 ∧ Q (upI (upI M 15 (M.1 0 25).toNatClampNeg (M.1 0 24)) 0 25 (((upI M 15 (M.1 0 25).toNatClampNeg (M.1 0 24)).1 0 25) + 1)))
theorem blk_X8_remember_1_mono {Q Q' : Mem → Prop} {P P' : Nat → Int32 → Mem → Prop} (hQ : ∀ M : Mem, Q M → Q' M) (hP : ∀ (lab : Nat) (v1 : Int32) (M : Mem), P lab v1 M → P' lab v1 M) (v1 : Int32) (M : Mem) (h : blk_X8_remember_1 Q P v1 M) : blk_X8_remember_1 Q' P' v1 M := by
  unfold blk_X8_remember_1 at h ⊢
  exact ⟨h.1, let h := h.2; hQ _ h⟩
def blk_X8_remember_2 (Q : Mem → Prop) (P : Nat → Int32 → Mem → Prop) (v1 : Int32) (M : Mem) : Prop :=
  ((10 ≤ v1 → P 1 0 (upI M 0 25 ((M.1 0 25) - 1))) ∧ (¬ 10 ≤ v1 → (vp_in v1 10 ∧ (vp_in (v1 - 1) 10 ∧ P 2 (v1 + 1) (upI M 15 (v1 - 1).toNatClampNeg (M.1 15 v1.toNatClampNeg))))))
theorem blk_X8_remember_2_mono {Q Q' : Mem → Prop} {P P' : Nat → Int32 → Mem → Prop} (hQ : ∀ M : Mem, Q M → Q' M) (hP : ∀ (lab : Nat) (v1 : Int32) (M : Mem), P lab v1 M → P' lab v1 M) (v1 : Int32) (M : Mem) (h : blk_X8_remember_2 Q P v1 M) : blk_X8_remember_2 Q' P' v1 M := by
  unfold blk_X8_remember_2 at h ⊢
  exact ⟨fun c => let h := h.1 c; hP _ _ _ h, fun c => let h := h.2 c; ⟨h.1, let h := h.2; ⟨h.1, let h := h.2; hP _ _ _ h⟩⟩⟩
def blk_X8_remember (Q : Mem → Prop) (P : Nat → Int32 → Mem → Prop) : Nat → Int32 → Mem → Prop := fun lab v1 M => match lab with
  | 0 => blk_X8_remember_0 Q P v1 M
  | 1 => blk_X8_remember_1 Q P v1 M
  | 2 => blk_X8_remember_2 Q P v1 M
  | _ => False
theorem blk_X8_remember_mono {Q Q' : Mem → Prop} {P P' : Nat → Int32 → Mem → Prop} (hQ : ∀ M : Mem, Q M → Q' M) (hP : ∀ (lab : Nat) (v1 : Int32) (M : Mem), P lab v1 M → P' lab v1 M) : ∀ (lab : Nat) (v1 : Int32) (M : Mem), blk_X8_remember Q P lab v1 M → blk_X8_remember Q' P' lab v1 M := fun lab v1 M h => match lab, h with
  | 0, h => blk_X8_remember_0_mono hQ hP v1 M h
  | 1, h => blk_X8_remember_1_mono hQ hP v1 M h
  | 2, h => blk_X8_remember_2_mono hQ hP v1 M h
  | _ + 3, h => False.elim h
def at_X8_remember (Q : Mem → Prop) : Nat → Int32 → Mem → Prop := fun lab v1 M => ∀ P : Nat → Int32 → Mem → Prop, (∀ (lab : Nat) (v1 : Int32) (M : Mem), blk_X8_remember Q P lab v1 M → P lab v1 M) → P lab v1 M
theorem at_X8_remember_fold {Q : Mem → Prop} {lab : Nat} {v1 : Int32} {M : Mem} (h : blk_X8_remember Q (at_X8_remember Q) lab v1 M) : at_X8_remember Q lab v1 M := fun P hP => hP _ _ _ (blk_X8_remember_mono (fun _ h => h) (fun _ _ _ h => h P hP) _ _ _ h)
theorem at_X8_remember_mono {Q Q' : Mem → Prop} (hQ : ∀ M : Mem, Q M → Q' M) {lab : Nat} {v1 : Int32} {M : Mem} (h : at_X8_remember Q lab v1 M) : at_X8_remember Q' lab v1 M := fun P hP => h P (fun lab v1 M hb => hP _ _ _ (blk_X8_remember_mono hQ (fun _ _ _ h => h) _ _ _ hb))
def wp_X8_remember (M : Mem) (Q : Mem → Prop) : Prop := at_X8_remember Q 0 0 M
theorem wp_X8_remember_mono {M : Mem} {Q Q' : Mem → Prop} (hQ : ∀ M : Mem, Q M → Q' M) (h : wp_X8_remember M Q) : wp_X8_remember M Q' := at_X8_remember_mono hQ h
def pcl_X8_remember : Nat → Nat := fun lab => match lab with
  | 0 => 0
  | 1 => 47
  | 2 => 11
  | _ => 0
def lvl_X8_remember (ad : Nat → Nat) : Nat → Int32 → List (Nat × Value) := fun lab v1 => match lab with
  | 0 => [(0, .ref (ad 0))]
  | 1 => [(0, .ref (ad 0))]
  | 2 => [(0, .ref (ad 0)), (1, .int v1)]
  | _ => []
abbrev rm_X8_remember : Jvm.Room := { frames := 1, cells := 0, slots := 0, locals := 13 }
set_option maxHeartbeats 4000000 in
set_option maxRecDepth 100000 in
theorem ct_X8_remember (l : Launch) (D : va_G) (cy : Nat → ClassId) (ad : Nat → Nat) (B : Nat → Prop) (M : Mem) (Q : Mem → Prop) (h : wp_X8_remember M Q) : CTv l D cy (wR ad cy) B yX8_remember wsX8_remember rm_X8_remember [.ref (ad 0)] M Q := by
  intro sz
  refine Met.ofW (cc := cX8_remember) (maxL := 2) (ret := none) (by decide) rfl ?_
  intro p e s m args below meth c s₁ Bd hml hv
  obtain ⟨hargs, hsz, hP, hK, hD⟩ := hv
  subst hsz
  have hx := Bd.exec
  have hb := Bd.bytes
  have hr := Bd.returns
  have hts := atoms_spec (ws := wsX8_remember) Bd.pre
  have hown : s.vm.findClass RX8 = some m.cls := findClass_of_methodNamed Bd.named
  have hlocks := Bd.notSynchronized
  have hC8 : xC wsX8_remember 8 RX8 TX8 34 := ⟨by decide +kernel, rfl⟩
  have key : ∀ (P : Nat → Int32 → Mem → Prop), (∀ (lab : Nat) (v1 : Int32) (M : Mem), P lab v1 M → ∀ (H : Heap) (locs : List Loc) (ls : Array Slot), xS D (wR ad cy) B s.heap H locs M → lv_has ls 2 (lvl_X8_remember ad lab v1 ) → W p l e (headSpec wsX8_remember rm_X8_remember).room s m args below meth c H locs 0 0 (MQ below (va_Qv (S := Mem) Q (xB D (wR ad cy) B) (xA B s.heap.size)) args s 0 0 (xA B s.heap.size)) (F0 m (pcl_X8_remember lab) ls [])) → ∀ (lab : Nat) (v1 : Int32) (M : Mem), blk_X8_remember Q P lab v1 M → ∀ (H : Heap) (locs : List Loc) (ls : Array Slot), xS D (wR ad cy) B s.heap H locs M → lv_has ls 2 (lvl_X8_remember ad lab v1 ) → W p l e (headSpec wsX8_remember rm_X8_remember).room s m args below meth c H locs 0 0 (MQ below (va_Qv (S := Mem) Q (xB D (wR ad cy) B) (xA B s.heap.size)) args s 0 0 (xA B s.heap.size)) (F0 m (pcl_X8_remember lab) ls []) := by
    intro P hJ lab v1 M h H locs ls S hl
    match lab, h, hl with
    | 0, h, hl =>
      have hl : lv_has ls 2 [(0, .ref (ad 0))] := hl
      have h : blk_X8_remember_0 Q P v1 M := h
      unfold blk_X8_remember_0 at h
      refine W.eq (g2 := F0 m 0 ls []) rfl ?_
      refine lv_aload_n hx hb dX8_remember_0 rfl (lv_at hl 0 rfl) ?_
      refine x_getI hx hb hts (hC8) hown hK S 25 (by decide) rf_0_25 (index := 148) (hts _ (List.mem_of_getElem? (i := 1) rfl)) dX8_remember_1 ?_
      refine lv_bipush (v := 10) hx hb dX8_remember_4 (by decide) ?_
      refine lv_icmp_ne (tgt := 47) hx hb dX8_remember_6 (by decide) (fun c6 => ?_) (fun c6 => ?_)
      · replace h := h.1 c6
        exact hJ _ _ _ h _ _ _ S (lv_sub hl [0] rfl)
      · replace h := h.2 c6
        refine lv_iconst (v := 1) hx hb dX8_remember_9 (by decide) ?_
        refine lv_istore_n (lv' := [(1, .int 1), (0, .ref (ad 0))]) hx hb dX8_remember_10 rfl hl (by decide) rfl (fun ls hl => ?_)
        exact hJ _ _ _ h _ _ _ S (lv_sub hl [1, 0] rfl)
    | 1, h, hl =>
      have hl : lv_has ls 2 [(0, .ref (ad 0))] := hl
      have h : blk_X8_remember_1 Q P v1 M := h
      unfold blk_X8_remember_1 at h
      refine W.eq (g2 := F0 m 47 ls []) rfl ?_
      refine lv_aload_n hx hb dX8_remember_47 rfl (lv_at hl 0 rfl) ?_
      refine x_getR hx hb hts (hC8) hown hK S 26 (by decide) rf_0_26 (index := 53) (hts _ (List.mem_of_getElem? (i := 2) rfl)) dX8_remember_48 ?_
      refine lv_aload_n hx hb dX8_remember_51 rfl (lv_at hl 0 rfl) ?_
      refine x_getI hx hb hts (hC8) hown hK S 25 (by decide) rf_0_25 (index := 148) (hts _ (List.mem_of_getElem? (i := 1) rfl)) dX8_remember_52 ?_
      refine lv_aload_n hx hb dX8_remember_55 rfl (lv_at hl 0 rfl) ?_
      refine x_getI hx hb hts (hC8) hown hK S 24 (by decide) rf_0_24 (index := 145) (hts _ (List.mem_of_getElem? (i := 3) rfl)) dX8_remember_56 ?_
      refine x_iast hx hb hK S ra_15 h.1 dX8_remember_59 (fun H locs S => ?_)
      replace h := h.2
      refine lv_aload_n hx hb dX8_remember_60 rfl (lv_at hl 0 rfl) ?_
      refine lv_dup hx hb dX8_remember_61 rfl ?_
      refine x_getI hx hb hts (hC8) hown hK S 25 (by decide) rf_0_25 (index := 148) (hts _ (List.mem_of_getElem? (i := 1) rfl)) dX8_remember_62 ?_
      refine lv_iconst (v := 1) hx hb dX8_remember_65 (by decide) ?_
      refine lv_iadd hx hb dX8_remember_66 ?_
      refine x_putI hx hb hts (hC8) tyX8 tyX8_ok nmX8 hown hK S 25 (by decide) rf_0_25 (index := 148) (hts _ (List.mem_of_getElem? (i := 1) rfl)) rfl rfl rfl dX8_remember_67 (fun H locs S => ?_)
      exact x_vret hx hb hr hlocks S h dX8_remember_70
    | 2, h, hl =>
      have hl : lv_has ls 2 [(0, .ref (ad 0)), (1, .int v1)] := hl
      have h : blk_X8_remember_2 Q P v1 M := h
      unfold blk_X8_remember_2 at h
      refine W.eq (g2 := F0 m 11 ls []) rfl ?_
      refine lv_iload_n hx hb dX8_remember_11 rfl (lv_at hl 1 rfl) ?_
      refine lv_bipush (v := 10) hx hb dX8_remember_12 (by decide) ?_
      refine lv_icmp_ge (tgt := 37) hx hb dX8_remember_14 (by decide) (fun c14 => ?_) (fun c14 => ?_)
      · replace h := h.1 c14
        refine lv_aload_n hx hb dX8_remember_37 rfl (lv_at hl 0 rfl) ?_
        refine lv_dup hx hb dX8_remember_38 rfl ?_
        refine x_getI hx hb hts (hC8) hown hK S 25 (by decide) rf_0_25 (index := 148) (hts _ (List.mem_of_getElem? (i := 1) rfl)) dX8_remember_39 ?_
        refine lv_iconst (v := 1) hx hb dX8_remember_42 (by decide) ?_
        refine lv_isub hx hb dX8_remember_43 ?_
        refine x_putI hx hb hts (hC8) tyX8 tyX8_ok nmX8 hown hK S 25 (by decide) rf_0_25 (index := 148) (hts _ (List.mem_of_getElem? (i := 1) rfl)) rfl rfl rfl dX8_remember_44 (fun H locs S => ?_)
        exact hJ _ _ _ h _ _ _ S (lv_sub hl [0] rfl)
      · replace h := h.2 c14
        refine lv_aload_n hx hb dX8_remember_17 rfl (lv_at hl 0 rfl) ?_
        refine x_getR hx hb hts (hC8) hown hK S 26 (by decide) rf_0_26 (index := 53) (hts _ (List.mem_of_getElem? (i := 2) rfl)) dX8_remember_18 ?_
        refine lv_iload_n hx hb dX8_remember_21 rfl (lv_at hl 1 rfl) ?_
        refine lv_iconst (v := 1) hx hb dX8_remember_22 (by decide) ?_
        refine lv_isub hx hb dX8_remember_23 ?_
        refine lv_aload_n hx hb dX8_remember_24 rfl (lv_at hl 0 rfl) ?_
        refine x_getR hx hb hts (hC8) hown hK S 26 (by decide) rf_0_26 (index := 53) (hts _ (List.mem_of_getElem? (i := 2) rfl)) dX8_remember_25 ?_
        refine lv_iload_n hx hb dX8_remember_28 rfl (lv_at hl 1 rfl) ?_
        refine x_iald hx hb hK S ra_15 h.1 dX8_remember_29 ?_
        replace h := h.2
        refine x_iast hx hb hK S ra_15 h.1 dX8_remember_30 (fun H locs S => ?_)
        replace h := h.2
        refine lv_iinc (v := (v1 + 1)) (lv' := [(1, .int (v1 + 1)), (0, .ref (ad 0))]) hx hb dX8_remember_31 hl (k := 1) rfl rfl (by decide) rfl (fun ls hl => ?_)
        refine lv_goto (tgt := 11) hx hb dX8_remember_34 (by decide) ?_
        exact hJ _ _ _ h _ _ _ S (lv_sub hl [1, 0] rfl)
    | _ + 3, h, hl => exact h.elim
  have hl := lv_entry ([.ref (ad 0)]) (n := 2) (Nat.le_of_ble_eq_true rfl)
  subst hargs
  rw [lg_entry_eq]
  generalize (lg_sl ([.ref (ad 0)]) ++ List.replicate (2 - (lg_sl ([.ref (ad 0)])).length) Slot.unset).toArray = ls at hl ⊢
  exact h _ (key _ (fun _ _ _ h => h)) s.heap [] ls ⟨hP, hD, va_S.rf⟩ hl
/-! X8_turn -/
def wp_X8_turn (v1 : Int32) (M : Mem) (Q : Int32 → Mem → Prop) : Prop :=
  ((¬ ((upI M 0 0 0).1 0 8) = 0 → wp_X8_noFence v1 (upI M 0 0 0) (fun r1 M1 => ((r1 = 0 → wp_X8_comes (M1.1 0 24) v1 M1 (fun r2 M2 => ((¬ r2 = (-9) → wp_X8_remember M2 (fun M3 => Q r2 (upI M3 0 24 (((M3.1 0 24) &&& (((1 : Int32) <<< (v1 &&& 31)) ^^^ ((-1) : Int32))) ||| ((1 : Int32) <<< (r2 &&& 31)))))) ∧ (r2 = (-9) → Q (-3) M2)))) ∧ (¬ r1 = 0 → Q (-1) M1)))) ∧ (((upI M 0 0 0).1 0 8) = 0 → Q (-3) (upI M 0 0 0)))
theorem wp_X8_turn_mono {v1 : Int32} {M : Mem} {Q Q' : Int32 → Mem → Prop} (hQ : ∀ (r : Int32) (M : Mem), Q r M → Q' r M) (h : wp_X8_turn v1 M Q) : wp_X8_turn v1 M Q' := by
  unfold wp_X8_turn at h ⊢
  exact ⟨fun c => let h := h.1 c; wp_X8_noFence_mono (fun r1 M1 h => ⟨fun c => let h := h.1 c; wp_X8_comes_mono (fun r2 M2 h => ⟨fun c => let h := h.1 c; wp_X8_remember_mono (fun M3 h => hQ _ _ h) h, fun c => let h := h.2 c; hQ _ _ h⟩) h, fun c => let h := h.2 c; hQ _ _ h⟩) h, fun c => let h := h.2 c; hQ _ _ h⟩
abbrev rm_X8_turn : Jvm.Room := { frames := 5, cells := 0, slots := 0, locals := 118 }
set_option maxHeartbeats 4000000 in
set_option maxRecDepth 100000 in
theorem ct_X8_turn (l : Launch) (D : va_G) (cy : Nat → ClassId) (ad : Nat → Nat) (B : Nat → Prop) (v1 : Int32) (M : Mem) (Q : Int32 → Mem → Prop) (h : wp_X8_turn v1 M Q) : CTi l D cy (wR ad cy) B yX8_turn wsX8_turn rm_X8_turn [.ref (ad 0), .int v1] M Q := by
  intro sz
  refine Met.ofW (cc := cX8_turn) (maxL := 3) (ret := some .int) (by decide) rfl ?_
  intro p e s m args below meth c s₁ Bd hml hv
  obtain ⟨hargs, hsz, hP, hK, hD⟩ := hv
  subst hsz
  have hx := Bd.exec
  have hb := Bd.bytes
  have hr := Bd.returns
  have hts := atoms_spec (ws := wsX8_turn) Bd.pre
  have hown : s.vm.findClass RX8 = some m.cls := findClass_of_methodNamed Bd.named
  have hlocks := Bd.notSynchronized
  have hC8 : xC wsX8_turn 8 RX8 TX8 34 := ⟨by decide +kernel, rfl⟩
  have hl := lv_entry ([.ref (ad 0), .int v1]) (n := 3) (Nat.le_of_ble_eq_true rfl)
  subst hargs
  rw [lg_entry_eq]
  generalize (lg_sl ([.ref (ad 0), .int v1]) ++ List.replicate (3 - (lg_sl ([.ref (ad 0), .int v1])).length) Slot.unset).toArray = ls at hl ⊢
  have hl : lv_has ls 3 [(0, .ref (ad 0)), (1, .int v1)] := hl
  have S : xS D (wR ad cy) B s.heap s.heap [] M := ⟨hP, hD, va_S.rf⟩
  unfold wp_X8_turn at h
  refine lv_aload_n hx hb dX8_turn_0 rfl (lv_at hl 0 rfl) ?_
  refine lv_iconst (v := 0) hx hb dX8_turn_1 (by decide) ?_
  refine x_putI hx hb hts (hC8) tyX8 tyX8_ok nmX8 hown hK S 0 (by decide) rf_0_0 (index := 74) (hts _ (List.mem_of_getElem? (i := 1) rfl)) rfl rfl rfl dX8_turn_2 (fun H locs S => ?_)
  refine lv_aload_n hx hb dX8_turn_5 rfl (lv_at hl 0 rfl) ?_
  refine x_getI hx hb hts (hC8) hown hK S 8 (by decide) rf_0_8 (index := 151) (hts _ (List.mem_of_getElem? (i := 2) rfl)) dX8_turn_6 ?_
  refine lv_if_ne (tgt := 15) hx hb dX8_turn_9 (by decide) (fun c9 => ?_) (fun c9 => ?_)
  · replace h := h.1 c9
    refine lv_aload_n hx hb dX8_turn_15 rfl (lv_at hl 0 rfl) ?_
    refine lv_iload_n hx hb dX8_turn_16 rfl (lv_at hl 1 rfl) ?_
    refine x_callVi (As := [.int v1]) ⟨hx, hb, hml, hown, hts⟩ hK S (ct_X8_noFence l D cy ad B _ _ _ h) ro_0 rfl (cwV 1 hts gX8_turn_X8_noFence rfl rfl rfl (by decide +kernel) ⟨Nat.le_of_ble_eq_true rfl, Nat.le_of_ble_eq_true rfl⟩) rfl hl.1 rfl (Nat.le_of_ble_eq_true rfl) dX8_turn_17 ⟨Nat.zero_le _, Nat.zero_le _⟩ (fun r1 M1 H locs h S => ?_)
    refine lv_if_eq (tgt := 25) hx hb dX8_turn_20 (by decide) (fun c20 => ?_) (fun c20 => ?_)
    · replace h := h.1 c20
      refine lv_aload_n hx hb dX8_turn_25 rfl (lv_at hl 0 rfl) ?_
      refine lv_aload_n hx hb dX8_turn_26 rfl (lv_at hl 0 rfl) ?_
      refine x_getI hx hb hts (hC8) hown hK S 24 (by decide) rf_0_24 (index := 145) (hts _ (List.mem_of_getElem? (i := 3) rfl)) dX8_turn_27 ?_
      refine lv_iload_n hx hb dX8_turn_30 rfl (lv_at hl 1 rfl) ?_
      refine x_callVi (As := [.int (M1.1 0 24), .int v1]) ⟨hx, hb, hml, hown, hts⟩ hK S (ct_X8_comes l D cy ad B _ _ _ _ h) ro_0 rfl (cwV 2 hts gX8_turn_X8_comes rfl rfl rfl (by decide +kernel) ⟨Nat.le_of_ble_eq_true rfl, Nat.le_of_ble_eq_true rfl⟩) rfl hl.1 rfl (Nat.le_of_ble_eq_true rfl) dX8_turn_31 ⟨Nat.zero_le _, Nat.zero_le _⟩ (fun r2 M2 H locs h S => ?_)
      refine lv_istore_n (lv' := [(2, .int r2), (0, .ref (ad 0)), (1, .int v1)]) hx hb dX8_turn_34 rfl hl (by decide) rfl (fun ls hl => ?_)
      refine lv_iload_n hx hb dX8_turn_35 rfl (lv_at hl 0 rfl) ?_
      refine lv_bipush (v := (-9)) hx hb dX8_turn_36 (by decide) ?_
      refine lv_icmp_ne (tgt := 44) hx hb dX8_turn_38 (by decide) (fun c38 => ?_) (fun c38 => ?_)
      · replace h := h.1 c38
        refine lv_aload_n hx hb dX8_turn_44 rfl (lv_at hl 1 rfl) ?_
        refine x_callVv (As := []) ⟨hx, hb, hml, hown, hts⟩ hK S (ct_X8_remember l D cy ad B _ _ h) ro_0 rfl (cwV 0 hts gX8_turn_X8_remember rfl rfl rfl (by decide +kernel) ⟨Nat.le_of_ble_eq_true rfl, Nat.le_of_ble_eq_true rfl⟩) rfl hl.1 rfl (Nat.le_of_ble_eq_true rfl) dX8_turn_45 ⟨Nat.zero_le _, Nat.zero_le _⟩ (fun M3 H locs h S => ?_)
        refine lv_aload_n hx hb dX8_turn_48 rfl (lv_at hl 1 rfl) ?_
        refine lv_aload_n hx hb dX8_turn_49 rfl (lv_at hl 1 rfl) ?_
        refine x_getI hx hb hts (hC8) hown hK S 24 (by decide) rf_0_24 (index := 145) (hts _ (List.mem_of_getElem? (i := 3) rfl)) dX8_turn_50 ?_
        refine lv_iconst (v := 1) hx hb dX8_turn_53 (by decide) ?_
        refine lv_iload_n hx hb dX8_turn_54 rfl (lv_at hl 2 rfl) ?_
        refine lv_ishl hx hb dX8_turn_55 ?_
        refine lv_iconst (v := (-1)) hx hb dX8_turn_56 (by decide) ?_
        refine lv_ixor hx hb dX8_turn_57 ?_
        refine lv_iand hx hb dX8_turn_58 ?_
        refine lv_iconst (v := 1) hx hb dX8_turn_59 (by decide) ?_
        refine lv_iload_n hx hb dX8_turn_60 rfl (lv_at hl 0 rfl) ?_
        refine lv_ishl hx hb dX8_turn_61 ?_
        refine lv_ior hx hb dX8_turn_62 ?_
        refine x_putI hx hb hts (hC8) tyX8 tyX8_ok nmX8 hown hK S 24 (by decide) rf_0_24 (index := 145) (hts _ (List.mem_of_getElem? (i := 3) rfl)) rfl rfl rfl dX8_turn_63 (fun H locs S => ?_)
        refine lv_iload_n hx hb dX8_turn_66 rfl (lv_at hl 0 rfl) ?_
        exact x_iret hx hb hr hlocks S rfl h dX8_turn_67
      · replace h := h.2 c38
        refine lv_bipush (v := (-3)) hx hb dX8_turn_41 (by decide) ?_
        exact x_iret hx hb hr hlocks S rfl h dX8_turn_43
    · replace h := h.2 c20
      refine lv_iconst (v := (-1)) hx hb dX8_turn_23 (by decide) ?_
      exact x_iret hx hb hr hlocks S rfl h dX8_turn_24
  · replace h := h.2 c9
    refine lv_bipush (v := (-3)) hx hb dX8_turn_12 (by decide) ?_
    exact x_iret hx hb hr hlocks S rfl h dX8_turn_14
/-! X8_back -/
def wp_X8_back (M : Mem) (Q : Int32 → Mem → Prop) : Prop :=
  ((((upI M 0 0 0).1 0 8) = 0 → Q (-3) (upI M 0 0 0)) ∧ (¬ ((upI M 0 0 0).1 0 8) = 0 → ((¬ ((upI M 0 0 0).1 0 25) = 0 → (vp_in ((upI (upI M 0 0 0) 0 25 (((upI M 0 0 0).1 0 25) - 1)).1 0 25) 10 ∧ Q ((upI (upI (upI M 0 0 0) 0 25 (((upI M 0 0 0).1 0 25) - 1)) 0 24 ((upI (upI M 0 0 0) 0 25 (((upI M 0 0 0).1 0 25) - 1)).1 15 ((upI (upI M 0 0 0) 0 25 (((upI M 0 0 0).1 0 25) - 1)).1 0 25).toNatClampNeg)).1 0 25) (upI (upI (upI M 0 0 0) 0 25 (((upI M 0 0 0).1 0 25) - 1)) 0 24 ((upI (upI M 0 0 0) 0 25 (((upI M 0 0 0).1 0 25) - 1)).1 15 ((upI (upI M 0 0 0) 0 25 (((upI M 0 0 0).1 0 25) - 1)).1 0 25).toNatClampNeg)))) ∧ (((upI M 0 0 0).1 0 25) = 0 → Q (-3) (upI M 0 0 0)))))
theorem wp_X8_back_mono {M : Mem} {Q Q' : Int32 → Mem → Prop} (hQ : ∀ (r : Int32) (M : Mem), Q r M → Q' r M) (h : wp_X8_back M Q) : wp_X8_back M Q' := by
  unfold wp_X8_back at h ⊢
  exact ⟨fun c => let h := h.1 c; hQ _ _ h, fun c => let h := h.2 c; ⟨fun c => let h := h.1 c; ⟨h.1, let h := h.2; hQ _ _ h⟩, fun c => let h := h.2 c; hQ _ _ h⟩⟩
abbrev rm_X8_back : Jvm.Room := { frames := 1, cells := 0, slots := 0, locals := 12 }
set_option maxHeartbeats 4000000 in
set_option maxRecDepth 100000 in
theorem ct_X8_back (l : Launch) (D : va_G) (cy : Nat → ClassId) (ad : Nat → Nat) (B : Nat → Prop) (M : Mem) (Q : Int32 → Mem → Prop) (h : wp_X8_back M Q) : CTi l D cy (wR ad cy) B yX8_back wsX8_back rm_X8_back [.ref (ad 0)] M Q := by
  intro sz
  refine Met.ofW (cc := cX8_back) (maxL := 1) (ret := some .int) (by decide) rfl ?_
  intro p e s m args below meth c s₁ Bd hml hv
  obtain ⟨hargs, hsz, hP, hK, hD⟩ := hv
  subst hsz
  have hx := Bd.exec
  have hb := Bd.bytes
  have hr := Bd.returns
  have hts := atoms_spec (ws := wsX8_back) Bd.pre
  have hown : s.vm.findClass RX8 = some m.cls := findClass_of_methodNamed Bd.named
  have hlocks := Bd.notSynchronized
  have hC8 : xC wsX8_back 8 RX8 TX8 34 := ⟨by decide +kernel, rfl⟩
  have hl := lv_entry ([.ref (ad 0)]) (n := 1) (Nat.le_of_ble_eq_true rfl)
  subst hargs
  rw [lg_entry_eq]
  generalize (lg_sl ([.ref (ad 0)]) ++ List.replicate (1 - (lg_sl ([.ref (ad 0)])).length) Slot.unset).toArray = ls at hl ⊢
  have hl : lv_has ls 1 [(0, .ref (ad 0))] := hl
  have S : xS D (wR ad cy) B s.heap s.heap [] M := ⟨hP, hD, va_S.rf⟩
  unfold wp_X8_back at h
  refine lv_aload_n hx hb dX8_back_0 rfl (lv_at hl 0 rfl) ?_
  refine lv_iconst (v := 0) hx hb dX8_back_1 (by decide) ?_
  refine x_putI hx hb hts (hC8) tyX8 tyX8_ok nmX8 hown hK S 0 (by decide) rf_0_0 (index := 74) (hts _ (List.mem_of_getElem? (i := 1) rfl)) rfl rfl rfl dX8_back_2 (fun H locs S => ?_)
  refine lv_aload_n hx hb dX8_back_5 rfl (lv_at hl 0 rfl) ?_
  refine x_getI hx hb hts (hC8) hown hK S 8 (by decide) rf_0_8 (index := 151) (hts _ (List.mem_of_getElem? (i := 2) rfl)) dX8_back_6 ?_
  refine lv_if_eq (tgt := 19) hx hb dX8_back_9 (by decide) (fun c9 => ?_) (fun c9 => ?_)
  · replace h := h.1 c9
    refine lv_bipush (v := (-3)) hx hb dX8_back_19 (by decide) ?_
    exact x_iret hx hb hr hlocks S rfl h dX8_back_21
  · replace h := h.2 c9
    refine lv_aload_n hx hb dX8_back_12 rfl (lv_at hl 0 rfl) ?_
    refine x_getI hx hb hts (hC8) hown hK S 25 (by decide) rf_0_25 (index := 148) (hts _ (List.mem_of_getElem? (i := 3) rfl)) dX8_back_13 ?_
    refine lv_if_ne (tgt := 22) hx hb dX8_back_16 (by decide) (fun c16 => ?_) (fun c16 => ?_)
    · replace h := h.1 c16
      refine lv_aload_n hx hb dX8_back_22 rfl (lv_at hl 0 rfl) ?_
      refine lv_dup hx hb dX8_back_23 rfl ?_
      refine x_getI hx hb hts (hC8) hown hK S 25 (by decide) rf_0_25 (index := 148) (hts _ (List.mem_of_getElem? (i := 3) rfl)) dX8_back_24 ?_
      refine lv_iconst (v := 1) hx hb dX8_back_27 (by decide) ?_
      refine lv_isub hx hb dX8_back_28 ?_
      refine x_putI hx hb hts (hC8) tyX8 tyX8_ok nmX8 hown hK S 25 (by decide) rf_0_25 (index := 148) (hts _ (List.mem_of_getElem? (i := 3) rfl)) rfl rfl rfl dX8_back_29 (fun H locs S => ?_)
      refine lv_aload_n hx hb dX8_back_32 rfl (lv_at hl 0 rfl) ?_
      refine lv_aload_n hx hb dX8_back_33 rfl (lv_at hl 0 rfl) ?_
      refine x_getR hx hb hts (hC8) hown hK S 26 (by decide) rf_0_26 (index := 53) (hts _ (List.mem_of_getElem? (i := 4) rfl)) dX8_back_34 ?_
      refine lv_aload_n hx hb dX8_back_37 rfl (lv_at hl 0 rfl) ?_
      refine x_getI hx hb hts (hC8) hown hK S 25 (by decide) rf_0_25 (index := 148) (hts _ (List.mem_of_getElem? (i := 3) rfl)) dX8_back_38 ?_
      refine x_iald hx hb hK S ra_15 h.1 dX8_back_41 ?_
      replace h := h.2
      refine x_putI hx hb hts (hC8) tyX8 tyX8_ok nmX8 hown hK S 24 (by decide) rf_0_24 (index := 145) (hts _ (List.mem_of_getElem? (i := 5) rfl)) rfl rfl rfl dX8_back_42 (fun H locs S => ?_)
      refine lv_aload_n hx hb dX8_back_45 rfl (lv_at hl 0 rfl) ?_
      refine x_getI hx hb hts (hC8) hown hK S 25 (by decide) rf_0_25 (index := 148) (hts _ (List.mem_of_getElem? (i := 3) rfl)) dX8_back_46 ?_
      exact x_iret hx hb hr hlocks S rfl h dX8_back_49
    · replace h := h.2 c16
      refine lv_bipush (v := (-3)) hx hb dX8_back_19 (by decide) ?_
      exact x_iret hx hb hr hlocks S rfl h dX8_back_21
/-! X8_noRank -/
def wp_X8_noRank (v1 : Int32) (M : Mem) (Q : Int32 → Mem → Prop) : Prop :=
  wp_X8_in v1.toInt64 (0 : Int64) (((M.1 0 22) - 1).toInt64) M (fun r1 M1 => ((¬ r1 = 0 → Q 0 M1) ∧ (r1 = 0 → Q 1 M1)))
theorem wp_X8_noRank_mono {v1 : Int32} {M : Mem} {Q Q' : Int32 → Mem → Prop} (hQ : ∀ (r : Int32) (M : Mem), Q r M → Q' r M) (h : wp_X8_noRank v1 M Q) : wp_X8_noRank v1 M Q' := by
  unfold wp_X8_noRank at h ⊢
  exact wp_X8_in_mono (fun r1 M1 h => ⟨fun c => let h := h.1 c; hQ _ _ h, fun c => let h := h.2 c; hQ _ _ h⟩) h
abbrev rm_X8_noRank : Jvm.Room := { frames := 2, cells := 0, slots := 0, locals := 42 }
set_option maxHeartbeats 4000000 in
set_option maxRecDepth 100000 in
theorem ct_X8_noRank (l : Launch) (D : va_G) (cy : Nat → ClassId) (ad : Nat → Nat) (B : Nat → Prop) (v1 : Int32) (M : Mem) (Q : Int32 → Mem → Prop) (h : wp_X8_noRank v1 M Q) : CTi l D cy (wR ad cy) B yX8_noRank wsX8_noRank rm_X8_noRank [.ref (ad 0), .int v1] M Q := by
  intro sz
  refine Met.ofW (cc := cX8_noRank) (maxL := 2) (ret := some .boolean) (by decide) rfl ?_
  intro p e s m args below meth c s₁ Bd hml hv
  obtain ⟨hargs, hsz, hP, hK, hD⟩ := hv
  subst hsz
  have hx := Bd.exec
  have hb := Bd.bytes
  have hr := Bd.returns
  have hts := atoms_spec (ws := wsX8_noRank) Bd.pre
  have hown : s.vm.findClass RX8 = some m.cls := findClass_of_methodNamed Bd.named
  have hlocks := Bd.notSynchronized
  have hC8 : xC wsX8_noRank 8 RX8 TX8 34 := ⟨by decide +kernel, rfl⟩
  have hl := lv_entry ([.ref (ad 0), .int v1]) (n := 2) (Nat.le_of_ble_eq_true rfl)
  subst hargs
  rw [lg_entry_eq]
  generalize (lg_sl ([.ref (ad 0), .int v1]) ++ List.replicate (2 - (lg_sl ([.ref (ad 0), .int v1])).length) Slot.unset).toArray = ls at hl ⊢
  have hl : lv_has ls 2 [(0, .ref (ad 0)), (1, .int v1)] := hl
  have S : xS D (wR ad cy) B s.heap s.heap [] M := ⟨hP, hD, va_S.rf⟩
  unfold wp_X8_noRank at h
  refine lv_iload_n hx hb dX8_noRank_0 rfl (lv_at hl 1 rfl) ?_
  refine lv_i2l (v := v1.toInt64) hx hb dX8_noRank_1 rfl ?_
  refine lv_lconst (v := 0) hx hb dX8_noRank_2 rfl ?_
  refine lv_aload_n hx hb dX8_noRank_3 rfl (lv_at hl 0 rfl) ?_
  refine x_getI hx hb hts (hC8) hown hK S 22 (by decide) rf_0_22 (index := 127) (hts _ (List.mem_of_getElem? (i := 1) rfl)) dX8_noRank_4 ?_
  refine lv_iconst (v := 1) hx hb dX8_noRank_7 (by decide) ?_
  refine lv_isub hx hb dX8_noRank_8 ?_
  refine lv_i2l (v := ((M.1 0 22) - 1).toInt64) hx hb dX8_noRank_9 rfl ?_
  refine x_callSi (As := [.long v1.toInt64, .long (0 : Int64), .long (((M.1 0 22) - 1).toInt64)]) ⟨hx, hb, hml, hown, hts⟩ hK S (ct_X8_in l D cy ad B _ _ _ _ _ h) (va_cwS 3 hts gX8_noRank_X8_in rfl rfl rfl (by decide +kernel) ⟨Nat.le_of_ble_eq_true rfl, Nat.le_of_ble_eq_true rfl⟩) rfl hl.1 rfl (Nat.le_of_ble_eq_true rfl) dX8_noRank_10 ⟨Nat.zero_le _, Nat.zero_le _⟩ (fun r1 M1 H locs h S => ?_)
  refine lv_if_ne (tgt := 20) hx hb dX8_noRank_13 (by decide) (fun c13 => ?_) (fun c13 => ?_)
  · replace h := h.1 c13
    refine lv_iconst (v := 0) hx hb dX8_noRank_20 (by decide) ?_
    exact x_iret hx hb hr hlocks S rfl h dX8_noRank_21
  · replace h := h.2 c13
    refine lv_iconst (v := 1) hx hb dX8_noRank_16 (by decide) ?_
    refine lv_goto (tgt := 21) hx hb dX8_noRank_17 (by decide) ?_
    exact x_iret hx hb hr hlocks S rfl h dX8_noRank_21
/-! X8_rankOf -/
def blk_X8_rankOf_0 (v1 : Int32) (Q : Int32 → Mem → Prop) (P : Nat → Int32 → Mem → Prop) (v2 : Int32) (M : Mem) : Prop :=
  P 1 0 M
theorem blk_X8_rankOf_0_mono {v1 : Int32} {Q Q' : Int32 → Mem → Prop} {P P' : Nat → Int32 → Mem → Prop} (hQ : ∀ (r : Int32) (M : Mem), Q r M → Q' r M) (hP : ∀ (lab : Nat) (v2 : Int32) (M : Mem), P lab v2 M → P' lab v2 M) (v2 : Int32) (M : Mem) (h : blk_X8_rankOf_0 v1 Q P v2 M) : blk_X8_rankOf_0 v1 Q' P' v2 M := by
  unfold blk_X8_rankOf_0 at h ⊢
  exact hP _ _ _ h
def blk_X8_rankOf_1 (v1 : Int32) (Q : Int32 → Mem → Prop) (P : Nat → Int32 → Mem → Prop) (v2 : Int32) (M : Mem) : Prop :=
  (vp_in v2 2000 ∧ (((M.1 14 v2.toNatClampNeg) = v1 → Q v2 M) ∧ (¬ (M.1 14 v2.toNatClampNeg) = v1 → P 1 (v2 + 1) M)))
theorem blk_X8_rankOf_1_mono {v1 : Int32} {Q Q' : Int32 → Mem → Prop} {P P' : Nat → Int32 → Mem → Prop} (hQ : ∀ (r : Int32) (M : Mem), Q r M → Q' r M) (hP : ∀ (lab : Nat) (v2 : Int32) (M : Mem), P lab v2 M → P' lab v2 M) (v2 : Int32) (M : Mem) (h : blk_X8_rankOf_1 v1 Q P v2 M) : blk_X8_rankOf_1 v1 Q' P' v2 M := by
  unfold blk_X8_rankOf_1 at h ⊢
  exact ⟨h.1, let h := h.2; ⟨fun c => let h := h.1 c; hQ _ _ h, fun c => let h := h.2 c; hP _ _ _ h⟩⟩
def blk_X8_rankOf (v1 : Int32) (Q : Int32 → Mem → Prop) (P : Nat → Int32 → Mem → Prop) : Nat → Int32 → Mem → Prop := fun lab v2 M => match lab with
  | 0 => blk_X8_rankOf_0 v1 Q P v2 M
  | 1 => blk_X8_rankOf_1 v1 Q P v2 M
  | _ => False
theorem blk_X8_rankOf_mono {v1 : Int32} {Q Q' : Int32 → Mem → Prop} {P P' : Nat → Int32 → Mem → Prop} (hQ : ∀ (r : Int32) (M : Mem), Q r M → Q' r M) (hP : ∀ (lab : Nat) (v2 : Int32) (M : Mem), P lab v2 M → P' lab v2 M) : ∀ (lab : Nat) (v2 : Int32) (M : Mem), blk_X8_rankOf v1 Q P lab v2 M → blk_X8_rankOf v1 Q' P' lab v2 M := fun lab v2 M h => match lab, h with
  | 0, h => blk_X8_rankOf_0_mono (v1 := v1) hQ hP v2 M h
  | 1, h => blk_X8_rankOf_1_mono (v1 := v1) hQ hP v2 M h
  | _ + 2, h => False.elim h
def at_X8_rankOf (v1 : Int32) (Q : Int32 → Mem → Prop) : Nat → Int32 → Mem → Prop := fun lab v2 M => ∀ P : Nat → Int32 → Mem → Prop, (∀ (lab : Nat) (v2 : Int32) (M : Mem), blk_X8_rankOf v1 Q P lab v2 M → P lab v2 M) → P lab v2 M
theorem at_X8_rankOf_fold {v1 : Int32} {Q : Int32 → Mem → Prop} {lab : Nat} {v2 : Int32} {M : Mem} (h : blk_X8_rankOf v1 Q (at_X8_rankOf v1 Q) lab v2 M) : at_X8_rankOf v1 Q lab v2 M := fun P hP => hP _ _ _ (blk_X8_rankOf_mono (fun _ _ h => h) (fun _ _ _ h => h P hP) _ _ _ h)
theorem at_X8_rankOf_mono {v1 : Int32} {Q Q' : Int32 → Mem → Prop} (hQ : ∀ (r : Int32) (M : Mem), Q r M → Q' r M) {lab : Nat} {v2 : Int32} {M : Mem} (h : at_X8_rankOf v1 Q lab v2 M) : at_X8_rankOf v1 Q' lab v2 M := fun P hP => h P (fun lab v2 M hb => hP _ _ _ (blk_X8_rankOf_mono hQ (fun _ _ _ h => h) _ _ _ hb))
def wp_X8_rankOf (v1 : Int32) (M : Mem) (Q : Int32 → Mem → Prop) : Prop := at_X8_rankOf v1 Q 0 0 M
theorem wp_X8_rankOf_mono {v1 : Int32} {M : Mem} {Q Q' : Int32 → Mem → Prop} (hQ : ∀ (r : Int32) (M : Mem), Q r M → Q' r M) (h : wp_X8_rankOf v1 M Q) : wp_X8_rankOf v1 M Q' := at_X8_rankOf_mono hQ h
def pcl_X8_rankOf : Nat → Nat := fun lab => match lab with
  | 0 => 0
  | 1 => 2
  | _ => 0
def lvl_X8_rankOf (ad : Nat → Nat) (v1 : Int32) : Nat → Int32 → List (Nat × Value) := fun lab v2 => match lab with
  | 0 => [(0, .ref (ad 0)), (1, .int v1)]
  | 1 => [(0, .ref (ad 0)), (1, .int v1), (2, .int v2)]
  | _ => []
abbrev rm_X8_rankOf : Jvm.Room := { frames := 1, cells := 0, slots := 0, locals := 14 }
set_option maxHeartbeats 4000000 in
set_option maxRecDepth 100000 in
theorem ct_X8_rankOf (l : Launch) (D : va_G) (cy : Nat → ClassId) (ad : Nat → Nat) (B : Nat → Prop) (v1 : Int32) (M : Mem) (Q : Int32 → Mem → Prop) (h : wp_X8_rankOf v1 M Q) : CTi l D cy (wR ad cy) B yX8_rankOf wsX8_rankOf rm_X8_rankOf [.ref (ad 0), .int v1] M Q := by
  intro sz
  refine Met.ofW (cc := cX8_rankOf) (maxL := 3) (ret := some .int) (by decide) rfl ?_
  intro p e s m args below meth c s₁ Bd hml hv
  obtain ⟨hargs, hsz, hP, hK, hD⟩ := hv
  subst hsz
  have hx := Bd.exec
  have hb := Bd.bytes
  have hr := Bd.returns
  have hts := atoms_spec (ws := wsX8_rankOf) Bd.pre
  have hown : s.vm.findClass RX8 = some m.cls := findClass_of_methodNamed Bd.named
  have hlocks := Bd.notSynchronized
  have hC8 : xC wsX8_rankOf 8 RX8 TX8 34 := ⟨by decide +kernel, rfl⟩
  have key : ∀ (P : Nat → Int32 → Mem → Prop), (∀ (lab : Nat) (v2 : Int32) (M : Mem), P lab v2 M → ∀ (H : Heap) (locs : List Loc) (ls : Array Slot), xS D (wR ad cy) B s.heap H locs M → lv_has ls 3 (lvl_X8_rankOf ad v1 lab v2 ) → W p l e (headSpec wsX8_rankOf rm_X8_rankOf).room s m args below meth c H locs 0 0 (MQ below (va_Qi (S := Mem) Q (xB D (wR ad cy) B) (xA B s.heap.size)) args s 0 0 (xA B s.heap.size)) (F0 m (pcl_X8_rankOf lab) ls [])) → ∀ (lab : Nat) (v2 : Int32) (M : Mem), blk_X8_rankOf v1 Q P lab v2 M → ∀ (H : Heap) (locs : List Loc) (ls : Array Slot), xS D (wR ad cy) B s.heap H locs M → lv_has ls 3 (lvl_X8_rankOf ad v1 lab v2 ) → W p l e (headSpec wsX8_rankOf rm_X8_rankOf).room s m args below meth c H locs 0 0 (MQ below (va_Qi (S := Mem) Q (xB D (wR ad cy) B) (xA B s.heap.size)) args s 0 0 (xA B s.heap.size)) (F0 m (pcl_X8_rankOf lab) ls []) := by
    intro P hJ lab v2 M h H locs ls S hl
    match lab, h, hl with
    | 0, h, hl =>
      have hl : lv_has ls 3 [(0, .ref (ad 0)), (1, .int v1)] := hl
      have h : blk_X8_rankOf_0 v1 Q P v2 M := h
      unfold blk_X8_rankOf_0 at h
      refine W.eq (g2 := F0 m 0 ls []) rfl ?_
      refine lv_iconst (v := 0) hx hb dX8_rankOf_0 (by decide) ?_
      refine lv_istore_n (lv' := [(2, .int 0), (0, .ref (ad 0)), (1, .int v1)]) hx hb dX8_rankOf_1 rfl hl (by decide) rfl (fun ls hl => ?_)
      exact hJ _ _ _ h _ _ _ S (lv_sub hl [1, 2, 0] rfl)
    | 1, h, hl =>
      have hl : lv_has ls 3 [(0, .ref (ad 0)), (1, .int v1), (2, .int v2)] := hl
      have h : blk_X8_rankOf_1 v1 Q P v2 M := h
      unfold blk_X8_rankOf_1 at h
      refine W.eq (g2 := F0 m 2 ls []) rfl ?_
      refine lv_aload_n hx hb dX8_rankOf_2 rfl (lv_at hl 0 rfl) ?_
      refine x_getR hx hb hts (hC8) hown hK S 23 (by decide) rf_0_23 (index := 50) (hts _ (List.mem_of_getElem? (i := 1) rfl)) dX8_rankOf_3 ?_
      refine lv_iload_n hx hb dX8_rankOf_6 rfl (lv_at hl 2 rfl) ?_
      refine x_iald hx hb hK S ra_14 h.1 dX8_rankOf_7 ?_
      replace h := h.2
      refine lv_iload_n hx hb dX8_rankOf_8 rfl (lv_at hl 1 rfl) ?_
      refine lv_icmp_eq (tgt := 18) hx hb dX8_rankOf_9 (by decide) (fun c9 => ?_) (fun c9 => ?_)
      · replace h := h.1 c9
        refine lv_iload_n hx hb dX8_rankOf_18 rfl (lv_at hl 2 rfl) ?_
        exact x_iret hx hb hr hlocks S rfl h dX8_rankOf_19
      · replace h := h.2 c9
        refine lv_iinc (v := (v2 + 1)) (lv' := [(2, .int (v2 + 1)), (0, .ref (ad 0)), (1, .int v1)]) hx hb dX8_rankOf_12 hl (k := 2) rfl rfl (by decide) rfl (fun ls hl => ?_)
        refine lv_goto (tgt := 2) hx hb dX8_rankOf_15 (by decide) ?_
        exact hJ _ _ _ h _ _ _ S (lv_sub hl [1, 2, 0] rfl)
    | _ + 2, h, hl => exact h.elim
  have hl := lv_entry ([.ref (ad 0), .int v1]) (n := 3) (Nat.le_of_ble_eq_true rfl)
  subst hargs
  rw [lg_entry_eq]
  generalize (lg_sl ([.ref (ad 0), .int v1]) ++ List.replicate (3 - (lg_sl ([.ref (ad 0), .int v1])).length) Slot.unset).toArray = ls at hl ⊢
  exact h _ (key _ (fun _ _ _ h => h)) s.heap [] ls ⟨hP, hD, va_S.rf⟩ hl
/-! X8_count -/
def wp_X8_count (M : Mem) (Q : Int32 → Mem → Prop) : Prop :=
  ((((upI M 0 0 0).1 0 8) = 0 → Q (-3) (upI M 0 0 0)) ∧ (¬ ((upI M 0 0 0).1 0 8) = 0 → Q ((upI M 0 0 0).1 0 22) (upI M 0 0 0)))
theorem wp_X8_count_mono {M : Mem} {Q Q' : Int32 → Mem → Prop} (hQ : ∀ (r : Int32) (M : Mem), Q r M → Q' r M) (h : wp_X8_count M Q) : wp_X8_count M Q' := by
  unfold wp_X8_count at h ⊢
  exact ⟨fun c => let h := h.1 c; hQ _ _ h, fun c => let h := h.2 c; hQ _ _ h⟩
abbrev rm_X8_count : Jvm.Room := { frames := 1, cells := 0, slots := 0, locals := 12 }
set_option maxHeartbeats 4000000 in
set_option maxRecDepth 100000 in
theorem ct_X8_count (l : Launch) (D : va_G) (cy : Nat → ClassId) (ad : Nat → Nat) (B : Nat → Prop) (M : Mem) (Q : Int32 → Mem → Prop) (h : wp_X8_count M Q) : CTi l D cy (wR ad cy) B yX8_count wsX8_count rm_X8_count [.ref (ad 0)] M Q := by
  intro sz
  refine Met.ofW (cc := cX8_count) (maxL := 1) (ret := some .int) (by decide) rfl ?_
  intro p e s m args below meth c s₁ Bd hml hv
  obtain ⟨hargs, hsz, hP, hK, hD⟩ := hv
  subst hsz
  have hx := Bd.exec
  have hb := Bd.bytes
  have hr := Bd.returns
  have hts := atoms_spec (ws := wsX8_count) Bd.pre
  have hown : s.vm.findClass RX8 = some m.cls := findClass_of_methodNamed Bd.named
  have hlocks := Bd.notSynchronized
  have hC8 : xC wsX8_count 8 RX8 TX8 34 := ⟨by decide +kernel, rfl⟩
  have hl := lv_entry ([.ref (ad 0)]) (n := 1) (Nat.le_of_ble_eq_true rfl)
  subst hargs
  rw [lg_entry_eq]
  generalize (lg_sl ([.ref (ad 0)]) ++ List.replicate (1 - (lg_sl ([.ref (ad 0)])).length) Slot.unset).toArray = ls at hl ⊢
  have hl : lv_has ls 1 [(0, .ref (ad 0))] := hl
  have S : xS D (wR ad cy) B s.heap s.heap [] M := ⟨hP, hD, va_S.rf⟩
  unfold wp_X8_count at h
  refine lv_aload_n hx hb dX8_count_0 rfl (lv_at hl 0 rfl) ?_
  refine lv_iconst (v := 0) hx hb dX8_count_1 (by decide) ?_
  refine x_putI hx hb hts (hC8) tyX8 tyX8_ok nmX8 hown hK S 0 (by decide) rf_0_0 (index := 74) (hts _ (List.mem_of_getElem? (i := 1) rfl)) rfl rfl rfl dX8_count_2 (fun H locs S => ?_)
  refine lv_aload_n hx hb dX8_count_5 rfl (lv_at hl 0 rfl) ?_
  refine x_getI hx hb hts (hC8) hown hK S 8 (by decide) rf_0_8 (index := 151) (hts _ (List.mem_of_getElem? (i := 2) rfl)) dX8_count_6 ?_
  refine lv_if_eq (tgt := 19) hx hb dX8_count_9 (by decide) (fun c9 => ?_) (fun c9 => ?_)
  · replace h := h.1 c9
    refine lv_bipush (v := (-3)) hx hb dX8_count_19 (by decide) ?_
    exact x_iret hx hb hr hlocks S rfl h dX8_count_21
  · replace h := h.2 c9
    refine lv_aload_n hx hb dX8_count_12 rfl (lv_at hl 0 rfl) ?_
    refine x_getI hx hb hts (hC8) hown hK S 22 (by decide) rf_0_22 (index := 127) (hts _ (List.mem_of_getElem? (i := 3) rfl)) dX8_count_13 ?_
    refine lv_goto (tgt := 21) hx hb dX8_count_16 (by decide) ?_
    exact x_iret hx hb hr hlocks S rfl h dX8_count_21
/-! X8_rank -/
def wp_X8_rank (M : Mem) (Q : Int32 → Mem → Prop) : Prop :=
  ((((upI M 0 0 0).1 0 8) = 0 → Q (-3) (upI M 0 0 0)) ∧ (¬ ((upI M 0 0 0).1 0 8) = 0 → wp_X8_rankOf ((upI M 0 0 0).1 0 24) (upI M 0 0 0) (fun r1 M1 => Q r1 M1)))
theorem wp_X8_rank_mono {M : Mem} {Q Q' : Int32 → Mem → Prop} (hQ : ∀ (r : Int32) (M : Mem), Q r M → Q' r M) (h : wp_X8_rank M Q) : wp_X8_rank M Q' := by
  unfold wp_X8_rank at h ⊢
  exact ⟨fun c => let h := h.1 c; hQ _ _ h, fun c => let h := h.2 c; wp_X8_rankOf_mono (fun r1 M1 h => hQ _ _ h) h⟩
abbrev rm_X8_rank : Jvm.Room := { frames := 2, cells := 0, slots := 0, locals := 36 }
set_option maxHeartbeats 4000000 in
set_option maxRecDepth 100000 in
theorem ct_X8_rank (l : Launch) (D : va_G) (cy : Nat → ClassId) (ad : Nat → Nat) (B : Nat → Prop) (M : Mem) (Q : Int32 → Mem → Prop) (h : wp_X8_rank M Q) : CTi l D cy (wR ad cy) B yX8_rank wsX8_rank rm_X8_rank [.ref (ad 0)] M Q := by
  intro sz
  refine Met.ofW (cc := cX8_rank) (maxL := 1) (ret := some .int) (by decide) rfl ?_
  intro p e s m args below meth c s₁ Bd hml hv
  obtain ⟨hargs, hsz, hP, hK, hD⟩ := hv
  subst hsz
  have hx := Bd.exec
  have hb := Bd.bytes
  have hr := Bd.returns
  have hts := atoms_spec (ws := wsX8_rank) Bd.pre
  have hown : s.vm.findClass RX8 = some m.cls := findClass_of_methodNamed Bd.named
  have hlocks := Bd.notSynchronized
  have hC8 : xC wsX8_rank 8 RX8 TX8 34 := ⟨by decide +kernel, rfl⟩
  have hl := lv_entry ([.ref (ad 0)]) (n := 1) (Nat.le_of_ble_eq_true rfl)
  subst hargs
  rw [lg_entry_eq]
  generalize (lg_sl ([.ref (ad 0)]) ++ List.replicate (1 - (lg_sl ([.ref (ad 0)])).length) Slot.unset).toArray = ls at hl ⊢
  have hl : lv_has ls 1 [(0, .ref (ad 0))] := hl
  have S : xS D (wR ad cy) B s.heap s.heap [] M := ⟨hP, hD, va_S.rf⟩
  unfold wp_X8_rank at h
  refine lv_aload_n hx hb dX8_rank_0 rfl (lv_at hl 0 rfl) ?_
  refine lv_iconst (v := 0) hx hb dX8_rank_1 (by decide) ?_
  refine x_putI hx hb hts (hC8) tyX8 tyX8_ok nmX8 hown hK S 0 (by decide) rf_0_0 (index := 74) (hts _ (List.mem_of_getElem? (i := 1) rfl)) rfl rfl rfl dX8_rank_2 (fun H locs S => ?_)
  refine lv_aload_n hx hb dX8_rank_5 rfl (lv_at hl 0 rfl) ?_
  refine x_getI hx hb hts (hC8) hown hK S 8 (by decide) rf_0_8 (index := 151) (hts _ (List.mem_of_getElem? (i := 2) rfl)) dX8_rank_6 ?_
  refine lv_if_eq (tgt := 23) hx hb dX8_rank_9 (by decide) (fun c9 => ?_) (fun c9 => ?_)
  · replace h := h.1 c9
    refine lv_bipush (v := (-3)) hx hb dX8_rank_23 (by decide) ?_
    exact x_iret hx hb hr hlocks S rfl h dX8_rank_25
  · replace h := h.2 c9
    refine lv_aload_n hx hb dX8_rank_12 rfl (lv_at hl 0 rfl) ?_
    refine lv_aload_n hx hb dX8_rank_13 rfl (lv_at hl 0 rfl) ?_
    refine x_getI hx hb hts (hC8) hown hK S 24 (by decide) rf_0_24 (index := 145) (hts _ (List.mem_of_getElem? (i := 3) rfl)) dX8_rank_14 ?_
    refine x_callVi (As := [.int ((upI M 0 0 0).1 0 24)]) ⟨hx, hb, hml, hown, hts⟩ hK S (ct_X8_rankOf l D cy ad B _ _ _ h) ro_0 rfl (cwV 1 hts gX8_rank_X8_rankOf rfl rfl rfl (by decide +kernel) ⟨Nat.le_of_ble_eq_true rfl, Nat.le_of_ble_eq_true rfl⟩) rfl hl.1 rfl (Nat.le_of_ble_eq_true rfl) dX8_rank_17 ⟨Nat.zero_le _, Nat.zero_le _⟩ (fun r1 M1 H locs h S => ?_)
    refine lv_goto (tgt := 25) hx hb dX8_rank_20 (by decide) ?_
    exact x_iret hx hb hr hlocks S rfl h dX8_rank_25
/-! X8_of -/
def wp_X8_of (v1 : Int32) (M : Mem) (Q : Int64 → Mem → Prop) : Prop :=
  ((¬ ((upI M 0 0 0).1 0 8) = 0 → wp_X8_noRank v1 (upI M 0 0 0) (fun r1 M1 => ((r1 = 0 → (vp_in v1 2000 ∧ Q ((M1.1 14 v1.toNatClampNeg).toInt64) M1)) ∧ (¬ r1 = 0 → Q (-1 : Int64) M1)))) ∧ (((upI M 0 0 0).1 0 8) = 0 → Q (-3 : Int64) (upI M 0 0 0)))
theorem wp_X8_of_mono {v1 : Int32} {M : Mem} {Q Q' : Int64 → Mem → Prop} (hQ : ∀ (r : Int64) (M : Mem), Q r M → Q' r M) (h : wp_X8_of v1 M Q) : wp_X8_of v1 M Q' := by
  unfold wp_X8_of at h ⊢
  exact ⟨fun c => let h := h.1 c; wp_X8_noRank_mono (fun r1 M1 h => ⟨fun c => let h := h.1 c; ⟨h.1, let h := h.2; hQ _ _ h⟩, fun c => let h := h.2 c; hQ _ _ h⟩) h, fun c => let h := h.2 c; hQ _ _ h⟩
abbrev rm_X8_of : Jvm.Room := { frames := 3, cells := 0, slots := 0, locals := 63 }
set_option maxHeartbeats 4000000 in
set_option maxRecDepth 100000 in
theorem ct_X8_of (l : Launch) (D : va_G) (cy : Nat → ClassId) (ad : Nat → Nat) (B : Nat → Prop) (v1 : Int32) (M : Mem) (Q : Int64 → Mem → Prop) (h : wp_X8_of v1 M Q) : CTl l D cy (wR ad cy) B yX8_of wsX8_of rm_X8_of [.ref (ad 0), .int v1] M Q := by
  intro sz
  refine Met.ofW (cc := cX8_of) (maxL := 2) (ret := some .long) (by decide) rfl ?_
  intro p e s m args below meth c s₁ Bd hml hv
  obtain ⟨hargs, hsz, hP, hK, hD⟩ := hv
  subst hsz
  have hx := Bd.exec
  have hb := Bd.bytes
  have hr := Bd.returns
  have hts := atoms_spec (ws := wsX8_of) Bd.pre
  have hown : s.vm.findClass RX8 = some m.cls := findClass_of_methodNamed Bd.named
  have hlocks := Bd.notSynchronized
  have hC8 : xC wsX8_of 8 RX8 TX8 34 := ⟨by decide +kernel, rfl⟩
  have hl := lv_entry ([.ref (ad 0), .int v1]) (n := 2) (Nat.le_of_ble_eq_true rfl)
  subst hargs
  rw [lg_entry_eq]
  generalize (lg_sl ([.ref (ad 0), .int v1]) ++ List.replicate (2 - (lg_sl ([.ref (ad 0), .int v1])).length) Slot.unset).toArray = ls at hl ⊢
  have hl : lv_has ls 2 [(0, .ref (ad 0)), (1, .int v1)] := hl
  have S : xS D (wR ad cy) B s.heap s.heap [] M := ⟨hP, hD, va_S.rf⟩
  unfold wp_X8_of at h
  refine lv_aload_n hx hb dX8_of_0 rfl (lv_at hl 0 rfl) ?_
  refine lv_iconst (v := 0) hx hb dX8_of_1 (by decide) ?_
  refine x_putI hx hb hts (hC8) tyX8 tyX8_ok nmX8 hown hK S 0 (by decide) rf_0_0 (index := 74) (hts _ (List.mem_of_getElem? (i := 1) rfl)) rfl rfl rfl dX8_of_2 (fun H locs S => ?_)
  refine lv_aload_n hx hb dX8_of_5 rfl (lv_at hl 0 rfl) ?_
  refine x_getI hx hb hts (hC8) hown hK S 8 (by decide) rf_0_8 (index := 151) (hts _ (List.mem_of_getElem? (i := 2) rfl)) dX8_of_6 ?_
  refine lv_if_ne (tgt := 18) hx hb dX8_of_9 (by decide) (fun c9 => ?_) (fun c9 => ?_)
  · replace h := h.1 c9
    refine lv_aload_n hx hb dX8_of_18 rfl (lv_at hl 0 rfl) ?_
    refine lv_iload_n hx hb dX8_of_19 rfl (lv_at hl 1 rfl) ?_
    refine x_callVi (As := [.int v1]) ⟨hx, hb, hml, hown, hts⟩ hK S (ct_X8_noRank l D cy ad B _ _ _ h) ro_0 rfl (cwV 1 hts gX8_of_X8_noRank rfl rfl rfl (by decide +kernel) ⟨Nat.le_of_ble_eq_true rfl, Nat.le_of_ble_eq_true rfl⟩) rfl hl.1 rfl (Nat.le_of_ble_eq_true rfl) dX8_of_20 ⟨Nat.zero_le _, Nat.zero_le _⟩ (fun r1 M1 H locs h S => ?_)
    refine lv_if_eq (tgt := 32) hx hb dX8_of_23 (by decide) (fun c23 => ?_) (fun c23 => ?_)
    · replace h := h.1 c23
      refine lv_aload_n hx hb dX8_of_32 rfl (lv_at hl 0 rfl) ?_
      refine x_getR hx hb hts (hC8) hown hK S 23 (by decide) rf_0_23 (index := 50) (hts _ (List.mem_of_getElem? (i := 5) rfl)) dX8_of_33 ?_
      refine lv_iload_n hx hb dX8_of_36 rfl (lv_at hl 1 rfl) ?_
      refine x_iald hx hb hK S ra_14 h.1 dX8_of_37 ?_
      replace h := h.2
      refine lv_i2l (v := (M1.1 14 v1.toNatClampNeg).toInt64) hx hb dX8_of_38 rfl ?_
      exact x_lret hx hb hr hlocks S h dX8_of_39
    · replace h := h.2 c23
      refine lv_ldc2 (v := (-1)) hx hb hown (hts _ (List.mem_of_getElem? (i := 4) rfl)) dX8_of_26 ?_
      refine lv_goto (tgt := 39) hx hb dX8_of_29 (by decide) ?_
      exact x_lret hx hb hr hlocks S h dX8_of_39
  · replace h := h.2 c9
    refine lv_ldc2 (v := (-3)) hx hb hown (hts _ (List.mem_of_getElem? (i := 3) rfl)) dX8_of_12 ?_
    refine lv_goto (tgt := 39) hx hb dX8_of_15 (by decide) ?_
    exact x_lret hx hb hr hlocks S h dX8_of_39
/-! X8_go -/
def wp_X8_go (v1 : Int32) (M : Mem) (Q : Int32 → Mem → Prop) : Prop :=
  ((¬ ((upI M 0 0 0).1 0 8) = 0 → wp_X8_noRank v1 (upI M 0 0 0) (fun r1 M1 => ((r1 = 0 → wp_X8_remember M1 (fun M2 => (vp_in v1 2000 ∧ Q 1 (upI M2 0 24 (M2.1 14 v1.toNatClampNeg))))) ∧ (¬ r1 = 0 → Q (-1) M1)))) ∧ (((upI M 0 0 0).1 0 8) = 0 → Q (-3) (upI M 0 0 0)))
theorem wp_X8_go_mono {v1 : Int32} {M : Mem} {Q Q' : Int32 → Mem → Prop} (hQ : ∀ (r : Int32) (M : Mem), Q r M → Q' r M) (h : wp_X8_go v1 M Q) : wp_X8_go v1 M Q' := by
  unfold wp_X8_go at h ⊢
  exact ⟨fun c => let h := h.1 c; wp_X8_noRank_mono (fun r1 M1 h => ⟨fun c => let h := h.1 c; wp_X8_remember_mono (fun M2 h => ⟨h.1, let h := h.2; hQ _ _ h⟩) h, fun c => let h := h.2 c; hQ _ _ h⟩) h, fun c => let h := h.2 c; hQ _ _ h⟩
abbrev rm_X8_go : Jvm.Room := { frames := 3, cells := 0, slots := 0, locals := 63 }
set_option maxHeartbeats 4000000 in
set_option maxRecDepth 100000 in
theorem ct_X8_go (l : Launch) (D : va_G) (cy : Nat → ClassId) (ad : Nat → Nat) (B : Nat → Prop) (v1 : Int32) (M : Mem) (Q : Int32 → Mem → Prop) (h : wp_X8_go v1 M Q) : CTi l D cy (wR ad cy) B yX8_go wsX8_go rm_X8_go [.ref (ad 0), .int v1] M Q := by
  intro sz
  refine Met.ofW (cc := cX8_go) (maxL := 2) (ret := some .int) (by decide) rfl ?_
  intro p e s m args below meth c s₁ Bd hml hv
  obtain ⟨hargs, hsz, hP, hK, hD⟩ := hv
  subst hsz
  have hx := Bd.exec
  have hb := Bd.bytes
  have hr := Bd.returns
  have hts := atoms_spec (ws := wsX8_go) Bd.pre
  have hown : s.vm.findClass RX8 = some m.cls := findClass_of_methodNamed Bd.named
  have hlocks := Bd.notSynchronized
  have hC8 : xC wsX8_go 8 RX8 TX8 34 := ⟨by decide +kernel, rfl⟩
  have hl := lv_entry ([.ref (ad 0), .int v1]) (n := 2) (Nat.le_of_ble_eq_true rfl)
  subst hargs
  rw [lg_entry_eq]
  generalize (lg_sl ([.ref (ad 0), .int v1]) ++ List.replicate (2 - (lg_sl ([.ref (ad 0), .int v1])).length) Slot.unset).toArray = ls at hl ⊢
  have hl : lv_has ls 2 [(0, .ref (ad 0)), (1, .int v1)] := hl
  have S : xS D (wR ad cy) B s.heap s.heap [] M := ⟨hP, hD, va_S.rf⟩
  unfold wp_X8_go at h
  refine lv_aload_n hx hb dX8_go_0 rfl (lv_at hl 0 rfl) ?_
  refine lv_iconst (v := 0) hx hb dX8_go_1 (by decide) ?_
  refine x_putI hx hb hts (hC8) tyX8 tyX8_ok nmX8 hown hK S 0 (by decide) rf_0_0 (index := 74) (hts _ (List.mem_of_getElem? (i := 1) rfl)) rfl rfl rfl dX8_go_2 (fun H locs S => ?_)
  refine lv_aload_n hx hb dX8_go_5 rfl (lv_at hl 0 rfl) ?_
  refine x_getI hx hb hts (hC8) hown hK S 8 (by decide) rf_0_8 (index := 151) (hts _ (List.mem_of_getElem? (i := 2) rfl)) dX8_go_6 ?_
  refine lv_if_ne (tgt := 15) hx hb dX8_go_9 (by decide) (fun c9 => ?_) (fun c9 => ?_)
  · replace h := h.1 c9
    refine lv_aload_n hx hb dX8_go_15 rfl (lv_at hl 0 rfl) ?_
    refine lv_iload_n hx hb dX8_go_16 rfl (lv_at hl 1 rfl) ?_
    refine x_callVi (As := [.int v1]) ⟨hx, hb, hml, hown, hts⟩ hK S (ct_X8_noRank l D cy ad B _ _ _ h) ro_0 rfl (cwV 1 hts gX8_go_X8_noRank rfl rfl rfl (by decide +kernel) ⟨Nat.le_of_ble_eq_true rfl, Nat.le_of_ble_eq_true rfl⟩) rfl hl.1 rfl (Nat.le_of_ble_eq_true rfl) dX8_go_17 ⟨Nat.zero_le _, Nat.zero_le _⟩ (fun r1 M1 H locs h S => ?_)
    refine lv_if_eq (tgt := 25) hx hb dX8_go_20 (by decide) (fun c20 => ?_) (fun c20 => ?_)
    · replace h := h.1 c20
      refine lv_aload_n hx hb dX8_go_25 rfl (lv_at hl 0 rfl) ?_
      refine x_callVv (As := []) ⟨hx, hb, hml, hown, hts⟩ hK S (ct_X8_remember l D cy ad B _ _ h) ro_0 rfl (cwV 0 hts gX8_go_X8_remember rfl rfl rfl (by decide +kernel) ⟨Nat.le_of_ble_eq_true rfl, Nat.le_of_ble_eq_true rfl⟩) rfl hl.1 rfl (Nat.le_of_ble_eq_true rfl) dX8_go_26 ⟨Nat.zero_le _, Nat.zero_le _⟩ (fun M2 H locs h S => ?_)
      refine lv_aload_n hx hb dX8_go_29 rfl (lv_at hl 0 rfl) ?_
      refine lv_aload_n hx hb dX8_go_30 rfl (lv_at hl 0 rfl) ?_
      refine x_getR hx hb hts (hC8) hown hK S 23 (by decide) rf_0_23 (index := 50) (hts _ (List.mem_of_getElem? (i := 3) rfl)) dX8_go_31 ?_
      refine lv_iload_n hx hb dX8_go_34 rfl (lv_at hl 1 rfl) ?_
      refine x_iald hx hb hK S ra_14 h.1 dX8_go_35 ?_
      replace h := h.2
      refine x_putI hx hb hts (hC8) tyX8 tyX8_ok nmX8 hown hK S 24 (by decide) rf_0_24 (index := 145) (hts _ (List.mem_of_getElem? (i := 4) rfl)) rfl rfl rfl dX8_go_36 (fun H locs S => ?_)
      refine lv_iconst (v := 1) hx hb dX8_go_39 (by decide) ?_
      exact x_iret hx hb hr hlocks S rfl h dX8_go_40
    · replace h := h.2 c20
      refine lv_iconst (v := (-1)) hx hb dX8_go_23 (by decide) ?_
      exact x_iret hx hb hr hlocks S rfl h dX8_go_24
  · replace h := h.2 c9
    refine lv_bipush (v := (-3)) hx hb dX8_go_12 (by decide) ?_
    exact x_iret hx hb hr hlocks S rfl h dX8_go_14
/-! X8_sure -/
def blk_X8_sure_0 (v1 : Int32) (Q : Int32 → Mem → Prop) (P : Nat → Int32 → Int32 → Mem → Prop) (v2 : Int32) (v3 : Int32) (M : Mem) : Prop :=
  ((¬ ((upI M 0 0 0).1 0 8) = 0 → wp_X8_noFence v1 (upI M 0 0 0) (fun r1 M1 => ((r1 = 0 → P 1 0 0 M1) ∧ (¬ r1 = 0 → Q (-1) M1)))) ∧ (((upI M 0 0 0).1 0 8) = 0 → Q (-3) (upI M 0 0 0)))
theorem blk_X8_sure_0_mono {v1 : Int32} {Q Q' : Int32 → Mem → Prop} {P P' : Nat → Int32 → Int32 → Mem → Prop} (hQ : ∀ (r : Int32) (M : Mem), Q r M → Q' r M) (hP : ∀ (lab : Nat) (v2 : Int32) (v3 : Int32) (M : Mem), P lab v2 v3 M → P' lab v2 v3 M) (v2 : Int32) (v3 : Int32) (M : Mem) (h : blk_X8_sure_0 v1 Q P v2 v3 M) : blk_X8_sure_0 v1 Q' P' v2 v3 M := by
  unfold blk_X8_sure_0 at h ⊢
  exact ⟨fun c => let h := h.1 c; wp_X8_noFence_mono (fun r1 M1 h => ⟨fun c => let h := h.1 c; hP _ _ _ _ h, fun c => let h := h.2 c; hQ _ _ h⟩) h, fun c => let h := h.2 c; hQ _ _ h⟩
def blk_X8_sure_1 (v1 : Int32) (Q : Int32 → Mem → Prop) (P : Nat → Int32 → Int32 → Mem → Prop) (v2 : Int32) (v3 : Int32) (M : Mem) : Prop :=
  (((M.1 0 22) ≤ v3 → ((¬ v2 = (M.1 0 22) → ((v2 ≤ 0 → Q 0 M) ∧ (¬ v2 ≤ 0 → Q 1 M))) ∧ (v2 = (M.1 0 22) → Q 2 M))) ∧ (¬ (M.1 0 22) ≤ v3 → (vp_in v3 2000 ∧ ∀ x2_2 : Int32, x2_2 = (v2 + (((M.1 14 v3.toNatClampNeg) >>> (v1 &&& 31)) &&& (1 : Int32))) → P 1 x2_2 (v3 + 1) M)))
theorem blk_X8_sure_1_mono {v1 : Int32} {Q Q' : Int32 → Mem → Prop} {P P' : Nat → Int32 → Int32 → Mem → Prop} (hQ : ∀ (r : Int32) (M : Mem), Q r M → Q' r M) (hP : ∀ (lab : Nat) (v2 : Int32) (v3 : Int32) (M : Mem), P lab v2 v3 M → P' lab v2 v3 M) (v2 : Int32) (v3 : Int32) (M : Mem) (h : blk_X8_sure_1 v1 Q P v2 v3 M) : blk_X8_sure_1 v1 Q' P' v2 v3 M := by
  unfold blk_X8_sure_1 at h ⊢
  exact ⟨fun c => let h := h.1 c; ⟨fun c => let h := h.1 c; ⟨fun c => let h := h.1 c; hQ _ _ h, fun c => let h := h.2 c; hQ _ _ h⟩, fun c => let h := h.2 c; hQ _ _ h⟩, fun c => let h := h.2 c; ⟨h.1, let h := h.2; fun x2_2 ex2_2 => let h := h x2_2 ex2_2; hP _ _ _ _ h⟩⟩
def blk_X8_sure (v1 : Int32) (Q : Int32 → Mem → Prop) (P : Nat → Int32 → Int32 → Mem → Prop) : Nat → Int32 → Int32 → Mem → Prop := fun lab v2 v3 M => match lab with
  | 0 => blk_X8_sure_0 v1 Q P v2 v3 M
  | 1 => blk_X8_sure_1 v1 Q P v2 v3 M
  | _ => False
theorem blk_X8_sure_mono {v1 : Int32} {Q Q' : Int32 → Mem → Prop} {P P' : Nat → Int32 → Int32 → Mem → Prop} (hQ : ∀ (r : Int32) (M : Mem), Q r M → Q' r M) (hP : ∀ (lab : Nat) (v2 : Int32) (v3 : Int32) (M : Mem), P lab v2 v3 M → P' lab v2 v3 M) : ∀ (lab : Nat) (v2 : Int32) (v3 : Int32) (M : Mem), blk_X8_sure v1 Q P lab v2 v3 M → blk_X8_sure v1 Q' P' lab v2 v3 M := fun lab v2 v3 M h => match lab, h with
  | 0, h => blk_X8_sure_0_mono (v1 := v1) hQ hP v2 v3 M h
  | 1, h => blk_X8_sure_1_mono (v1 := v1) hQ hP v2 v3 M h
  | _ + 2, h => False.elim h
def at_X8_sure (v1 : Int32) (Q : Int32 → Mem → Prop) : Nat → Int32 → Int32 → Mem → Prop := fun lab v2 v3 M => ∀ P : Nat → Int32 → Int32 → Mem → Prop, (∀ (lab : Nat) (v2 : Int32) (v3 : Int32) (M : Mem), blk_X8_sure v1 Q P lab v2 v3 M → P lab v2 v3 M) → P lab v2 v3 M
theorem at_X8_sure_fold {v1 : Int32} {Q : Int32 → Mem → Prop} {lab : Nat} {v2 : Int32} {v3 : Int32} {M : Mem} (h : blk_X8_sure v1 Q (at_X8_sure v1 Q) lab v2 v3 M) : at_X8_sure v1 Q lab v2 v3 M := fun P hP => hP _ _ _ _ (blk_X8_sure_mono (fun _ _ h => h) (fun _ _ _ _ h => h P hP) _ _ _ _ h)
theorem at_X8_sure_mono {v1 : Int32} {Q Q' : Int32 → Mem → Prop} (hQ : ∀ (r : Int32) (M : Mem), Q r M → Q' r M) {lab : Nat} {v2 : Int32} {v3 : Int32} {M : Mem} (h : at_X8_sure v1 Q lab v2 v3 M) : at_X8_sure v1 Q' lab v2 v3 M := fun P hP => h P (fun lab v2 v3 M hb => hP _ _ _ _ (blk_X8_sure_mono hQ (fun _ _ _ _ h => h) _ _ _ _ hb))
def wp_X8_sure (v1 : Int32) (M : Mem) (Q : Int32 → Mem → Prop) : Prop := at_X8_sure v1 Q 0 0 0 M
theorem wp_X8_sure_mono {v1 : Int32} {M : Mem} {Q Q' : Int32 → Mem → Prop} (hQ : ∀ (r : Int32) (M : Mem), Q r M → Q' r M) (h : wp_X8_sure v1 M Q) : wp_X8_sure v1 M Q' := at_X8_sure_mono hQ h
def pcl_X8_sure : Nat → Nat := fun lab => match lab with
  | 0 => 0
  | 1 => 29
  | _ => 0
def lvl_X8_sure (ad : Nat → Nat) (v1 : Int32) : Nat → Int32 → Int32 → List (Nat × Value) := fun lab v2 v3 => match lab with
  | 0 => [(0, .ref (ad 0)), (1, .int v1)]
  | 1 => [(0, .ref (ad 0)), (1, .int v1), (2, .int v2), (3, .int v3)]
  | _ => []
abbrev rm_X8_sure : Jvm.Room := { frames := 3, cells := 0, slots := 0, locals := 63 }
set_option maxHeartbeats 4000000 in
set_option maxRecDepth 100000 in
theorem ct_X8_sure (l : Launch) (D : va_G) (cy : Nat → ClassId) (ad : Nat → Nat) (B : Nat → Prop) (v1 : Int32) (M : Mem) (Q : Int32 → Mem → Prop) (h : wp_X8_sure v1 M Q) : CTi l D cy (wR ad cy) B yX8_sure wsX8_sure rm_X8_sure [.ref (ad 0), .int v1] M Q := by
  intro sz
  refine Met.ofW (cc := cX8_sure) (maxL := 4) (ret := some .int) (by decide) rfl ?_
  intro p e s m args below meth c s₁ Bd hml hv
  obtain ⟨hargs, hsz, hP, hK, hD⟩ := hv
  subst hsz
  have hx := Bd.exec
  have hb := Bd.bytes
  have hr := Bd.returns
  have hts := atoms_spec (ws := wsX8_sure) Bd.pre
  have hown : s.vm.findClass RX8 = some m.cls := findClass_of_methodNamed Bd.named
  have hlocks := Bd.notSynchronized
  have hC8 : xC wsX8_sure 8 RX8 TX8 34 := ⟨by decide +kernel, rfl⟩
  have key : ∀ (P : Nat → Int32 → Int32 → Mem → Prop), (∀ (lab : Nat) (v2 : Int32) (v3 : Int32) (M : Mem), P lab v2 v3 M → ∀ (H : Heap) (locs : List Loc) (ls : Array Slot), xS D (wR ad cy) B s.heap H locs M → lv_has ls 4 (lvl_X8_sure ad v1 lab v2 v3 ) → W p l e (headSpec wsX8_sure rm_X8_sure).room s m args below meth c H locs 0 0 (MQ below (va_Qi (S := Mem) Q (xB D (wR ad cy) B) (xA B s.heap.size)) args s 0 0 (xA B s.heap.size)) (F0 m (pcl_X8_sure lab) ls [])) → ∀ (lab : Nat) (v2 : Int32) (v3 : Int32) (M : Mem), blk_X8_sure v1 Q P lab v2 v3 M → ∀ (H : Heap) (locs : List Loc) (ls : Array Slot), xS D (wR ad cy) B s.heap H locs M → lv_has ls 4 (lvl_X8_sure ad v1 lab v2 v3 ) → W p l e (headSpec wsX8_sure rm_X8_sure).room s m args below meth c H locs 0 0 (MQ below (va_Qi (S := Mem) Q (xB D (wR ad cy) B) (xA B s.heap.size)) args s 0 0 (xA B s.heap.size)) (F0 m (pcl_X8_sure lab) ls []) := by
    intro P hJ lab v2 v3 M h H locs ls S hl
    match lab, h, hl with
    | 0, h, hl =>
      have hl : lv_has ls 4 [(0, .ref (ad 0)), (1, .int v1)] := hl
      have h : blk_X8_sure_0 v1 Q P v2 v3 M := h
      unfold blk_X8_sure_0 at h
      refine W.eq (g2 := F0 m 0 ls []) rfl ?_
      refine lv_aload_n hx hb dX8_sure_0 rfl (lv_at hl 0 rfl) ?_
      refine lv_iconst (v := 0) hx hb dX8_sure_1 (by decide) ?_
      refine x_putI hx hb hts (hC8) tyX8 tyX8_ok nmX8 hown hK S 0 (by decide) rf_0_0 (index := 74) (hts _ (List.mem_of_getElem? (i := 1) rfl)) rfl rfl rfl dX8_sure_2 (fun H locs S => ?_)
      refine lv_aload_n hx hb dX8_sure_5 rfl (lv_at hl 0 rfl) ?_
      refine x_getI hx hb hts (hC8) hown hK S 8 (by decide) rf_0_8 (index := 151) (hts _ (List.mem_of_getElem? (i := 2) rfl)) dX8_sure_6 ?_
      refine lv_if_ne (tgt := 15) hx hb dX8_sure_9 (by decide) (fun c9 => ?_) (fun c9 => ?_)
      · replace h := h.1 c9
        refine lv_aload_n hx hb dX8_sure_15 rfl (lv_at hl 0 rfl) ?_
        refine lv_iload_n hx hb dX8_sure_16 rfl (lv_at hl 1 rfl) ?_
        refine x_callVi (As := [.int v1]) ⟨hx, hb, hml, hown, hts⟩ hK S (ct_X8_noFence l D cy ad B _ _ _ h) ro_0 rfl (cwV 1 hts gX8_sure_X8_noFence rfl rfl rfl (by decide +kernel) ⟨Nat.le_of_ble_eq_true rfl, Nat.le_of_ble_eq_true rfl⟩) rfl hl.1 rfl (Nat.le_of_ble_eq_true rfl) dX8_sure_17 ⟨Nat.zero_le _, Nat.zero_le _⟩ (fun r1 M1 H locs h S => ?_)
        refine lv_if_eq (tgt := 25) hx hb dX8_sure_20 (by decide) (fun c20 => ?_) (fun c20 => ?_)
        · replace h := h.1 c20
          refine lv_iconst (v := 0) hx hb dX8_sure_25 (by decide) ?_
          refine lv_istore_n (lv' := [(2, .int 0), (0, .ref (ad 0)), (1, .int v1)]) hx hb dX8_sure_26 rfl hl (by decide) rfl (fun ls hl => ?_)
          refine lv_iconst (v := 0) hx hb dX8_sure_27 (by decide) ?_
          refine lv_istore_n (lv' := [(3, .int 0), (2, .int 0), (0, .ref (ad 0)), (1, .int v1)]) hx hb dX8_sure_28 rfl hl (by decide) rfl (fun ls hl => ?_)
          exact hJ _ _ _ _ h _ _ _ S (lv_sub hl [2, 3, 1, 0] rfl)
        · replace h := h.2 c20
          refine lv_iconst (v := (-1)) hx hb dX8_sure_23 (by decide) ?_
          exact x_iret hx hb hr hlocks S rfl h dX8_sure_24
      · replace h := h.2 c9
        refine lv_bipush (v := (-3)) hx hb dX8_sure_12 (by decide) ?_
        exact x_iret hx hb hr hlocks S rfl h dX8_sure_14
    | 1, h, hl =>
      have hl : lv_has ls 4 [(0, .ref (ad 0)), (1, .int v1), (2, .int v2), (3, .int v3)] := hl
      have h : blk_X8_sure_1 v1 Q P v2 v3 M := h
      unfold blk_X8_sure_1 at h
      refine W.eq (g2 := F0 m 29 ls []) rfl ?_
      refine lv_iload_n hx hb dX8_sure_29 rfl (lv_at hl 3 rfl) ?_
      refine lv_aload_n hx hb dX8_sure_30 rfl (lv_at hl 0 rfl) ?_
      refine x_getI hx hb hts (hC8) hown hK S 22 (by decide) rf_0_22 (index := 127) (hts _ (List.mem_of_getElem? (i := 3) rfl)) dX8_sure_31 ?_
      refine lv_icmp_ge (tgt := 56) hx hb dX8_sure_34 (by decide) (fun c34 => ?_) (fun c34 => ?_)
      · replace h := h.1 c34
        refine lv_iload_n hx hb dX8_sure_56 rfl (lv_at hl 2 rfl) ?_
        refine lv_aload_n hx hb dX8_sure_57 rfl (lv_at hl 0 rfl) ?_
        refine x_getI hx hb hts (hC8) hown hK S 22 (by decide) rf_0_22 (index := 127) (hts _ (List.mem_of_getElem? (i := 3) rfl)) dX8_sure_58 ?_
        refine lv_icmp_ne (tgt := 68) hx hb dX8_sure_61 (by decide) (fun c61 => ?_) (fun c61 => ?_)
        · replace h := h.1 c61
          refine lv_iload_n hx hb dX8_sure_68 rfl (lv_at hl 2 rfl) ?_
          refine lv_if_le (tgt := 76) hx hb dX8_sure_69 (by decide) (fun c69 => ?_) (fun c69 => ?_)
          · replace h := h.1 c69
            refine lv_iconst (v := 0) hx hb dX8_sure_76 (by decide) ?_
            exact x_iret hx hb hr hlocks S rfl h dX8_sure_77
          · replace h := h.2 c69
            refine lv_iconst (v := 1) hx hb dX8_sure_72 (by decide) ?_
            refine lv_goto (tgt := 77) hx hb dX8_sure_73 (by decide) ?_
            exact x_iret hx hb hr hlocks S rfl h dX8_sure_77
        · replace h := h.2 c61
          refine lv_iconst (v := 2) hx hb dX8_sure_64 (by decide) ?_
          refine lv_goto (tgt := 77) hx hb dX8_sure_65 (by decide) ?_
          exact x_iret hx hb hr hlocks S rfl h dX8_sure_77
      · replace h := h.2 c34
        refine lv_iload_n hx hb dX8_sure_37 rfl (lv_at hl 2 rfl) ?_
        refine lv_aload_n hx hb dX8_sure_38 rfl (lv_at hl 0 rfl) ?_
        refine x_getR hx hb hts (hC8) hown hK S 23 (by decide) rf_0_23 (index := 50) (hts _ (List.mem_of_getElem? (i := 4) rfl)) dX8_sure_39 ?_
        refine lv_iload_n hx hb dX8_sure_42 rfl (lv_at hl 3 rfl) ?_
        refine x_iald hx hb hK S ra_14 h.1 dX8_sure_43 ?_
        replace h := h.2
        refine lv_iload_n hx hb dX8_sure_44 rfl (lv_at hl 1 rfl) ?_
        refine lv_ishr hx hb dX8_sure_45 ?_
        refine lv_iconst (v := 1) hx hb dX8_sure_46 (by decide) ?_
        refine lv_iand hx hb dX8_sure_47 ?_
        refine lv_iadd hx hb dX8_sure_48 ?_
        refine lv_topi (fun x2_2 ex2_2 => ?_)
        replace h := h x2_2 ex2_2
        refine lv_istore_n (lv' := [(2, .int x2_2), (0, .ref (ad 0)), (1, .int v1), (3, .int v3)]) hx hb dX8_sure_49 rfl hl (by decide) rfl (fun ls hl => ?_)
        refine lv_iinc (v := (v3 + 1)) (lv' := [(3, .int (v3 + 1)), (2, .int x2_2), (0, .ref (ad 0)), (1, .int v1)]) hx hb dX8_sure_50 hl (k := 3) rfl rfl (by decide) rfl (fun ls hl => ?_)
        refine lv_goto (tgt := 29) hx hb dX8_sure_53 (by decide) ?_
        exact hJ _ _ _ _ h _ _ _ S (lv_sub hl [2, 3, 1, 0] rfl)
    | _ + 2, h, hl => exact h.elim
  have hl := lv_entry ([.ref (ad 0), .int v1]) (n := 4) (Nat.le_of_ble_eq_true rfl)
  subst hargs
  rw [lg_entry_eq]
  generalize (lg_sl ([.ref (ad 0), .int v1]) ++ List.replicate (4 - (lg_sl ([.ref (ad 0), .int v1])).length) Slot.unset).toArray = ls at hl ⊢
  exact h _ (key _ (fun _ _ _ _ h => h)) s.heap [] ls ⟨hP, hD, va_S.rf⟩ hl
/-! X8_sumOf -/
def blk_X8_sumOf_0 (v1 : Int32) (Q : Int32 → Mem → Prop) (P : Nat → Int32 → Int32 → Mem → Prop) (v2 : Int32) (v3 : Int32) (M : Mem) : Prop :=
  P 1 0 0 M
theorem blk_X8_sumOf_0_mono {v1 : Int32} {Q Q' : Int32 → Mem → Prop} {P P' : Nat → Int32 → Int32 → Mem → Prop} (hQ : ∀ (r : Int32) (M : Mem), Q r M → Q' r M) (hP : ∀ (lab : Nat) (v2 : Int32) (v3 : Int32) (M : Mem), P lab v2 v3 M → P' lab v2 v3 M) (v2 : Int32) (v3 : Int32) (M : Mem) (h : blk_X8_sumOf_0 v1 Q P v2 v3 M) : blk_X8_sumOf_0 v1 Q' P' v2 v3 M := by
  unfold blk_X8_sumOf_0 at h ⊢
  exact hP _ _ _ _ h
def blk_X8_sumOf_1 (v1 : Int32) (Q : Int32 → Mem → Prop) (P : Nat → Int32 → Int32 → Mem → Prop) (v2 : Int32) (v3 : Int32) (M : Mem) : Prop :=
  (((M.1 0 12) ≤ v3 → Q v2 M) ∧ (¬ (M.1 0 12) ≤ v3 → ((¬ ((v1 >>> (v3 &&& 31)) &&& (1 : Int32)) = 1 → P 2 (v2 + 0) v3 M) ∧ (((v1 >>> (v3 &&& 31)) &&& (1 : Int32)) = 1 → (vp_in v3 28 ∧ P 2 (v2 + (M.1 12 v3.toNatClampNeg)) v3 M)))))
theorem blk_X8_sumOf_1_mono {v1 : Int32} {Q Q' : Int32 → Mem → Prop} {P P' : Nat → Int32 → Int32 → Mem → Prop} (hQ : ∀ (r : Int32) (M : Mem), Q r M → Q' r M) (hP : ∀ (lab : Nat) (v2 : Int32) (v3 : Int32) (M : Mem), P lab v2 v3 M → P' lab v2 v3 M) (v2 : Int32) (v3 : Int32) (M : Mem) (h : blk_X8_sumOf_1 v1 Q P v2 v3 M) : blk_X8_sumOf_1 v1 Q' P' v2 v3 M := by
  unfold blk_X8_sumOf_1 at h ⊢
  exact ⟨fun c => let h := h.1 c; hQ _ _ h, fun c => let h := h.2 c; ⟨fun c => let h := h.1 c; hP _ _ _ _ h, fun c => let h := h.2 c; ⟨h.1, let h := h.2; hP _ _ _ _ h⟩⟩⟩
def blk_X8_sumOf_2 (v1 : Int32) (Q : Int32 → Mem → Prop) (P : Nat → Int32 → Int32 → Mem → Prop) (v2 : Int32) (v3 : Int32) (M : Mem) : Prop :=
  P 1 v2 (v3 + 1) M
theorem blk_X8_sumOf_2_mono {v1 : Int32} {Q Q' : Int32 → Mem → Prop} {P P' : Nat → Int32 → Int32 → Mem → Prop} (hQ : ∀ (r : Int32) (M : Mem), Q r M → Q' r M) (hP : ∀ (lab : Nat) (v2 : Int32) (v3 : Int32) (M : Mem), P lab v2 v3 M → P' lab v2 v3 M) (v2 : Int32) (v3 : Int32) (M : Mem) (h : blk_X8_sumOf_2 v1 Q P v2 v3 M) : blk_X8_sumOf_2 v1 Q' P' v2 v3 M := by
  unfold blk_X8_sumOf_2 at h ⊢
  exact hP _ _ _ _ h
def blk_X8_sumOf (v1 : Int32) (Q : Int32 → Mem → Prop) (P : Nat → Int32 → Int32 → Mem → Prop) : Nat → Int32 → Int32 → Mem → Prop := fun lab v2 v3 M => match lab with
  | 0 => blk_X8_sumOf_0 v1 Q P v2 v3 M
  | 1 => blk_X8_sumOf_1 v1 Q P v2 v3 M
  | 2 => blk_X8_sumOf_2 v1 Q P v2 v3 M
  | _ => False
theorem blk_X8_sumOf_mono {v1 : Int32} {Q Q' : Int32 → Mem → Prop} {P P' : Nat → Int32 → Int32 → Mem → Prop} (hQ : ∀ (r : Int32) (M : Mem), Q r M → Q' r M) (hP : ∀ (lab : Nat) (v2 : Int32) (v3 : Int32) (M : Mem), P lab v2 v3 M → P' lab v2 v3 M) : ∀ (lab : Nat) (v2 : Int32) (v3 : Int32) (M : Mem), blk_X8_sumOf v1 Q P lab v2 v3 M → blk_X8_sumOf v1 Q' P' lab v2 v3 M := fun lab v2 v3 M h => match lab, h with
  | 0, h => blk_X8_sumOf_0_mono (v1 := v1) hQ hP v2 v3 M h
  | 1, h => blk_X8_sumOf_1_mono (v1 := v1) hQ hP v2 v3 M h
  | 2, h => blk_X8_sumOf_2_mono (v1 := v1) hQ hP v2 v3 M h
  | _ + 3, h => False.elim h
def at_X8_sumOf (v1 : Int32) (Q : Int32 → Mem → Prop) : Nat → Int32 → Int32 → Mem → Prop := fun lab v2 v3 M => ∀ P : Nat → Int32 → Int32 → Mem → Prop, (∀ (lab : Nat) (v2 : Int32) (v3 : Int32) (M : Mem), blk_X8_sumOf v1 Q P lab v2 v3 M → P lab v2 v3 M) → P lab v2 v3 M
theorem at_X8_sumOf_fold {v1 : Int32} {Q : Int32 → Mem → Prop} {lab : Nat} {v2 : Int32} {v3 : Int32} {M : Mem} (h : blk_X8_sumOf v1 Q (at_X8_sumOf v1 Q) lab v2 v3 M) : at_X8_sumOf v1 Q lab v2 v3 M := fun P hP => hP _ _ _ _ (blk_X8_sumOf_mono (fun _ _ h => h) (fun _ _ _ _ h => h P hP) _ _ _ _ h)
theorem at_X8_sumOf_mono {v1 : Int32} {Q Q' : Int32 → Mem → Prop} (hQ : ∀ (r : Int32) (M : Mem), Q r M → Q' r M) {lab : Nat} {v2 : Int32} {v3 : Int32} {M : Mem} (h : at_X8_sumOf v1 Q lab v2 v3 M) : at_X8_sumOf v1 Q' lab v2 v3 M := fun P hP => h P (fun lab v2 v3 M hb => hP _ _ _ _ (blk_X8_sumOf_mono hQ (fun _ _ _ _ h => h) _ _ _ _ hb))
def wp_X8_sumOf (v1 : Int32) (M : Mem) (Q : Int32 → Mem → Prop) : Prop := at_X8_sumOf v1 Q 0 0 0 M
theorem wp_X8_sumOf_mono {v1 : Int32} {M : Mem} {Q Q' : Int32 → Mem → Prop} (hQ : ∀ (r : Int32) (M : Mem), Q r M → Q' r M) (h : wp_X8_sumOf v1 M Q) : wp_X8_sumOf v1 M Q' := at_X8_sumOf_mono hQ h
def pcl_X8_sumOf : Nat → Nat := fun lab => match lab with
  | 0 => 0
  | 1 => 4
  | 2 => 34
  | _ => 0
def lvl_X8_sumOf (ad : Nat → Nat) (v1 : Int32) : Nat → Int32 → Int32 → List (Nat × Value) := fun lab v2 v3 => match lab with
  | 0 => [(0, .ref (ad 0)), (1, .int v1)]
  | 1 => [(0, .ref (ad 0)), (1, .int v1), (2, .int v2), (3, .int v3)]
  | 2 => [(0, .ref (ad 0)), (1, .int v1), (2, .int v2), (3, .int v3)]
  | _ => []
abbrev rm_X8_sumOf : Jvm.Room := { frames := 1, cells := 0, slots := 0, locals := 15 }
set_option maxHeartbeats 4000000 in
set_option maxRecDepth 100000 in
theorem ct_X8_sumOf (l : Launch) (D : va_G) (cy : Nat → ClassId) (ad : Nat → Nat) (B : Nat → Prop) (v1 : Int32) (M : Mem) (Q : Int32 → Mem → Prop) (h : wp_X8_sumOf v1 M Q) : CTi l D cy (wR ad cy) B yX8_sumOf wsX8_sumOf rm_X8_sumOf [.ref (ad 0), .int v1] M Q := by
  intro sz
  refine Met.ofW (cc := cX8_sumOf) (maxL := 4) (ret := some .int) (by decide) rfl ?_
  intro p e s m args below meth c s₁ Bd hml hv
  obtain ⟨hargs, hsz, hP, hK, hD⟩ := hv
  subst hsz
  have hx := Bd.exec
  have hb := Bd.bytes
  have hr := Bd.returns
  have hts := atoms_spec (ws := wsX8_sumOf) Bd.pre
  have hown : s.vm.findClass RX8 = some m.cls := findClass_of_methodNamed Bd.named
  have hlocks := Bd.notSynchronized
  have hC8 : xC wsX8_sumOf 8 RX8 TX8 34 := ⟨by decide +kernel, rfl⟩
  have key : ∀ (P : Nat → Int32 → Int32 → Mem → Prop), (∀ (lab : Nat) (v2 : Int32) (v3 : Int32) (M : Mem), P lab v2 v3 M → ∀ (H : Heap) (locs : List Loc) (ls : Array Slot), xS D (wR ad cy) B s.heap H locs M → lv_has ls 4 (lvl_X8_sumOf ad v1 lab v2 v3 ) → W p l e (headSpec wsX8_sumOf rm_X8_sumOf).room s m args below meth c H locs 0 0 (MQ below (va_Qi (S := Mem) Q (xB D (wR ad cy) B) (xA B s.heap.size)) args s 0 0 (xA B s.heap.size)) (F0 m (pcl_X8_sumOf lab) ls [])) → ∀ (lab : Nat) (v2 : Int32) (v3 : Int32) (M : Mem), blk_X8_sumOf v1 Q P lab v2 v3 M → ∀ (H : Heap) (locs : List Loc) (ls : Array Slot), xS D (wR ad cy) B s.heap H locs M → lv_has ls 4 (lvl_X8_sumOf ad v1 lab v2 v3 ) → W p l e (headSpec wsX8_sumOf rm_X8_sumOf).room s m args below meth c H locs 0 0 (MQ below (va_Qi (S := Mem) Q (xB D (wR ad cy) B) (xA B s.heap.size)) args s 0 0 (xA B s.heap.size)) (F0 m (pcl_X8_sumOf lab) ls []) := by
    intro P hJ lab v2 v3 M h H locs ls S hl
    match lab, h, hl with
    | 0, h, hl =>
      have hl : lv_has ls 4 [(0, .ref (ad 0)), (1, .int v1)] := hl
      have h : blk_X8_sumOf_0 v1 Q P v2 v3 M := h
      unfold blk_X8_sumOf_0 at h
      refine W.eq (g2 := F0 m 0 ls []) rfl ?_
      refine lv_iconst (v := 0) hx hb dX8_sumOf_0 (by decide) ?_
      refine lv_istore_n (lv' := [(2, .int 0), (0, .ref (ad 0)), (1, .int v1)]) hx hb dX8_sumOf_1 rfl hl (by decide) rfl (fun ls hl => ?_)
      refine lv_iconst (v := 0) hx hb dX8_sumOf_2 (by decide) ?_
      refine lv_istore_n (lv' := [(3, .int 0), (2, .int 0), (0, .ref (ad 0)), (1, .int v1)]) hx hb dX8_sumOf_3 rfl hl (by decide) rfl (fun ls hl => ?_)
      exact hJ _ _ _ _ h _ _ _ S (lv_sub hl [2, 3, 1, 0] rfl)
    | 1, h, hl =>
      have hl : lv_has ls 4 [(0, .ref (ad 0)), (1, .int v1), (2, .int v2), (3, .int v3)] := hl
      have h : blk_X8_sumOf_1 v1 Q P v2 v3 M := h
      unfold blk_X8_sumOf_1 at h
      refine W.eq (g2 := F0 m 4 ls []) rfl ?_
      refine lv_iload_n hx hb dX8_sumOf_4 rfl (lv_at hl 3 rfl) ?_
      refine lv_aload_n hx hb dX8_sumOf_5 rfl (lv_at hl 0 rfl) ?_
      refine x_getI hx hb hts (hC8) hown hK S 12 (by decide) rf_0_12 (index := 106) (hts _ (List.mem_of_getElem? (i := 1) rfl)) dX8_sumOf_6 ?_
      refine lv_icmp_ge (tgt := 40) hx hb dX8_sumOf_9 (by decide) (fun c9 => ?_) (fun c9 => ?_)
      · replace h := h.1 c9
        refine lv_iload_n hx hb dX8_sumOf_40 rfl (lv_at hl 2 rfl) ?_
        exact x_iret hx hb hr hlocks S rfl h dX8_sumOf_41
      · replace h := h.2 c9
        refine lv_iload_n hx hb dX8_sumOf_12 rfl (lv_at hl 2 rfl) ?_
        refine lv_iload_n hx hb dX8_sumOf_13 rfl (lv_at hl 1 rfl) ?_
        refine lv_iload_n hx hb dX8_sumOf_14 rfl (lv_at hl 3 rfl) ?_
        refine lv_ishr hx hb dX8_sumOf_15 ?_
        refine lv_iconst (v := 1) hx hb dX8_sumOf_16 (by decide) ?_
        refine lv_iand hx hb dX8_sumOf_17 ?_
        refine lv_iconst (v := 1) hx hb dX8_sumOf_18 (by decide) ?_
        refine lv_icmp_ne (tgt := 31) hx hb dX8_sumOf_19 (by decide) (fun c19 => ?_) (fun c19 => ?_)
        · replace h := h.1 c19
          refine lv_iconst (v := 0) hx hb dX8_sumOf_31 (by decide) ?_
          refine lv_iadd hx hb dX8_sumOf_32 ?_
          refine lv_istore_n (lv' := [(2, .int (v2 + 0)), (0, .ref (ad 0)), (1, .int v1), (3, .int v3)]) hx hb dX8_sumOf_33 rfl hl (by decide) rfl (fun ls hl => ?_)
          exact hJ _ _ _ _ h _ _ _ S (lv_sub hl [1, 2, 0, 3] rfl)
        · replace h := h.2 c19
          refine lv_aload_n hx hb dX8_sumOf_22 rfl (lv_at hl 0 rfl) ?_
          refine x_getR hx hb hts (hC8) hown hK S 17 (by decide) rf_0_17 (index := 44) (hts _ (List.mem_of_getElem? (i := 2) rfl)) dX8_sumOf_23 ?_
          refine lv_iload_n hx hb dX8_sumOf_26 rfl (lv_at hl 3 rfl) ?_
          refine x_iald hx hb hK S ra_12 h.1 dX8_sumOf_27 ?_
          replace h := h.2
          refine lv_goto (tgt := 32) hx hb dX8_sumOf_28 (by decide) ?_
          refine lv_iadd hx hb dX8_sumOf_32 ?_
          refine lv_istore_n (lv' := [(2, .int (v2 + (M.1 12 v3.toNatClampNeg))), (0, .ref (ad 0)), (1, .int v1), (3, .int v3)]) hx hb dX8_sumOf_33 rfl hl (by decide) rfl (fun ls hl => ?_)
          exact hJ _ _ _ _ h _ _ _ S (lv_sub hl [1, 2, 0, 3] rfl)
    | 2, h, hl =>
      have hl : lv_has ls 4 [(0, .ref (ad 0)), (1, .int v1), (2, .int v2), (3, .int v3)] := hl
      have h : blk_X8_sumOf_2 v1 Q P v2 v3 M := h
      unfold blk_X8_sumOf_2 at h
      refine W.eq (g2 := F0 m 34 ls []) rfl ?_
      refine lv_iinc (v := (v3 + 1)) (lv' := [(3, .int (v3 + 1)), (0, .ref (ad 0)), (1, .int v1), (2, .int v2)]) hx hb dX8_sumOf_34 hl (k := 3) rfl rfl (by decide) rfl (fun ls hl => ?_)
      refine lv_goto (tgt := 4) hx hb dX8_sumOf_37 (by decide) ?_
      exact hJ _ _ _ _ h _ _ _ S (lv_sub hl [1, 2, 3, 0] rfl)
    | _ + 3, h, hl => exact h.elim
  have hl := lv_entry ([.ref (ad 0), .int v1]) (n := 4) (Nat.le_of_ble_eq_true rfl)
  subst hargs
  rw [lg_entry_eq]
  generalize (lg_sl ([.ref (ad 0), .int v1]) ++ List.replicate (4 - (lg_sl ([.ref (ad 0), .int v1])).length) Slot.unset).toArray = ls at hl ⊢
  exact h _ (key _ (fun _ _ _ _ h => h)) s.heap [] ls ⟨hP, hD, va_S.rf⟩ hl
/-! X8_bestOf -/
def blk_X8_bestOf_0 (v1 : Int32) (Q : Int32 → Mem → Prop) (P : Nat → Int32 → Int32 → Int32 → Int32 → Mem → Prop) (v2 : Int32) (v3 : Int32) (v4 : Int32) (v5 : Int32) (M : Mem) : Prop :=
  P 1 0 1 0 0 M
theorem blk_X8_bestOf_0_mono {v1 : Int32} {Q Q' : Int32 → Mem → Prop} {P P' : Nat → Int32 → Int32 → Int32 → Int32 → Mem → Prop} (hQ : ∀ (r : Int32) (M : Mem), Q r M → Q' r M) (hP : ∀ (lab : Nat) (v2 : Int32) (v3 : Int32) (v4 : Int32) (v5 : Int32) (M : Mem), P lab v2 v3 v4 v5 M → P' lab v2 v3 v4 v5 M) (v2 : Int32) (v3 : Int32) (v4 : Int32) (v5 : Int32) (M : Mem) (h : blk_X8_bestOf_0 v1 Q P v2 v3 v4 v5 M) : blk_X8_bestOf_0 v1 Q' P' v2 v3 v4 v5 M := by
  unfold blk_X8_bestOf_0 at h ⊢
  exact hP _ _ _ _ _ _ h
def blk_X8_bestOf_1 (v1 : Int32) (Q : Int32 → Mem → Prop) (P : Nat → Int32 → Int32 → Int32 → Int32 → Mem → Prop) (v2 : Int32) (v3 : Int32) (v4 : Int32) (v5 : Int32) (M : Mem) : Prop :=
  (((M.1 0 22) ≤ v3 → Q v2 M) ∧ (¬ (M.1 0 22) ≤ v3 → (vp_in v3 2000 ∧ wp_X8_sumOf (M.1 14 v3.toNatClampNeg) M (fun r1 M1 => (vp_in v2 2000 ∧ wp_X8_sumOf (M1.1 14 v2.toNatClampNeg) M1 (fun r2 M2 => ((v1 = 0 → ((r2 ≤ r1 → P 2 v2 v3 0 0 M2) ∧ (¬ r2 ≤ r1 → P 3 0 v3 0 0 M2))) ∧ (¬ v1 = 0 → ((r1 ≤ r2 → P 2 v2 v3 0 0 M2) ∧ (¬ r1 ≤ r2 → P 3 0 v3 0 0 M2))))))))))
theorem blk_X8_bestOf_1_mono {v1 : Int32} {Q Q' : Int32 → Mem → Prop} {P P' : Nat → Int32 → Int32 → Int32 → Int32 → Mem → Prop} (hQ : ∀ (r : Int32) (M : Mem), Q r M → Q' r M) (hP : ∀ (lab : Nat) (v2 : Int32) (v3 : Int32) (v4 : Int32) (v5 : Int32) (M : Mem), P lab v2 v3 v4 v5 M → P' lab v2 v3 v4 v5 M) (v2 : Int32) (v3 : Int32) (v4 : Int32) (v5 : Int32) (M : Mem) (h : blk_X8_bestOf_1 v1 Q P v2 v3 v4 v5 M) : blk_X8_bestOf_1 v1 Q' P' v2 v3 v4 v5 M := by
  unfold blk_X8_bestOf_1 at h ⊢
  exact ⟨fun c => let h := h.1 c; hQ _ _ h, fun c => let h := h.2 c; ⟨h.1, let h := h.2; wp_X8_sumOf_mono (fun r1 M1 h => ⟨h.1, let h := h.2; wp_X8_sumOf_mono (fun r2 M2 h => ⟨fun c => let h := h.1 c; ⟨fun c => let h := h.1 c; hP _ _ _ _ _ _ h, fun c => let h := h.2 c; hP _ _ _ _ _ _ h⟩, fun c => let h := h.2 c; ⟨fun c => let h := h.1 c; hP _ _ _ _ _ _ h, fun c => let h := h.2 c; hP _ _ _ _ _ _ h⟩⟩) h⟩) h⟩⟩
def blk_X8_bestOf_2 (v1 : Int32) (Q : Int32 → Mem → Prop) (P : Nat → Int32 → Int32 → Int32 → Int32 → Mem → Prop) (v2 : Int32) (v3 : Int32) (v4 : Int32) (v5 : Int32) (M : Mem) : Prop :=
  P 4 v2 v3 0 0 M
theorem blk_X8_bestOf_2_mono {v1 : Int32} {Q Q' : Int32 → Mem → Prop} {P P' : Nat → Int32 → Int32 → Int32 → Int32 → Mem → Prop} (hQ : ∀ (r : Int32) (M : Mem), Q r M → Q' r M) (hP : ∀ (lab : Nat) (v2 : Int32) (v3 : Int32) (v4 : Int32) (v5 : Int32) (M : Mem), P lab v2 v3 v4 v5 M → P' lab v2 v3 v4 v5 M) (v2 : Int32) (v3 : Int32) (v4 : Int32) (v5 : Int32) (M : Mem) (h : blk_X8_bestOf_2 v1 Q P v2 v3 v4 v5 M) : blk_X8_bestOf_2 v1 Q' P' v2 v3 v4 v5 M := by
  unfold blk_X8_bestOf_2 at h ⊢
  exact hP _ _ _ _ _ _ h
def blk_X8_bestOf_3 (v1 : Int32) (Q : Int32 → Mem → Prop) (P : Nat → Int32 → Int32 → Int32 → Int32 → Mem → Prop) (v2 : Int32) (v3 : Int32) (v4 : Int32) (v5 : Int32) (M : Mem) : Prop :=
  P 4 v3 v3 0 0 M
theorem blk_X8_bestOf_3_mono {v1 : Int32} {Q Q' : Int32 → Mem → Prop} {P P' : Nat → Int32 → Int32 → Int32 → Int32 → Mem → Prop} (hQ : ∀ (r : Int32) (M : Mem), Q r M → Q' r M) (hP : ∀ (lab : Nat) (v2 : Int32) (v3 : Int32) (v4 : Int32) (v5 : Int32) (M : Mem), P lab v2 v3 v4 v5 M → P' lab v2 v3 v4 v5 M) (v2 : Int32) (v3 : Int32) (v4 : Int32) (v5 : Int32) (M : Mem) (h : blk_X8_bestOf_3 v1 Q P v2 v3 v4 v5 M) : blk_X8_bestOf_3 v1 Q' P' v2 v3 v4 v5 M := by
  unfold blk_X8_bestOf_3 at h ⊢
  exact hP _ _ _ _ _ _ h
def blk_X8_bestOf_4 (v1 : Int32) (Q : Int32 → Mem → Prop) (P : Nat → Int32 → Int32 → Int32 → Int32 → Mem → Prop) (v2 : Int32) (v3 : Int32) (v4 : Int32) (v5 : Int32) (M : Mem) : Prop :=
  P 1 v2 (v3 + 1) 0 0 M
theorem blk_X8_bestOf_4_mono {v1 : Int32} {Q Q' : Int32 → Mem → Prop} {P P' : Nat → Int32 → Int32 → Int32 → Int32 → Mem → Prop} (hQ : ∀ (r : Int32) (M : Mem), Q r M → Q' r M) (hP : ∀ (lab : Nat) (v2 : Int32) (v3 : Int32) (v4 : Int32) (v5 : Int32) (M : Mem), P lab v2 v3 v4 v5 M → P' lab v2 v3 v4 v5 M) (v2 : Int32) (v3 : Int32) (v4 : Int32) (v5 : Int32) (M : Mem) (h : blk_X8_bestOf_4 v1 Q P v2 v3 v4 v5 M) : blk_X8_bestOf_4 v1 Q' P' v2 v3 v4 v5 M := by
  unfold blk_X8_bestOf_4 at h ⊢
  exact hP _ _ _ _ _ _ h
def blk_X8_bestOf (v1 : Int32) (Q : Int32 → Mem → Prop) (P : Nat → Int32 → Int32 → Int32 → Int32 → Mem → Prop) : Nat → Int32 → Int32 → Int32 → Int32 → Mem → Prop := fun lab v2 v3 v4 v5 M => match lab with
  | 0 => blk_X8_bestOf_0 v1 Q P v2 v3 v4 v5 M
  | 1 => blk_X8_bestOf_1 v1 Q P v2 v3 v4 v5 M
  | 2 => blk_X8_bestOf_2 v1 Q P v2 v3 v4 v5 M
  | 3 => blk_X8_bestOf_3 v1 Q P v2 v3 v4 v5 M
  | 4 => blk_X8_bestOf_4 v1 Q P v2 v3 v4 v5 M
  | _ => False
theorem blk_X8_bestOf_mono {v1 : Int32} {Q Q' : Int32 → Mem → Prop} {P P' : Nat → Int32 → Int32 → Int32 → Int32 → Mem → Prop} (hQ : ∀ (r : Int32) (M : Mem), Q r M → Q' r M) (hP : ∀ (lab : Nat) (v2 : Int32) (v3 : Int32) (v4 : Int32) (v5 : Int32) (M : Mem), P lab v2 v3 v4 v5 M → P' lab v2 v3 v4 v5 M) : ∀ (lab : Nat) (v2 : Int32) (v3 : Int32) (v4 : Int32) (v5 : Int32) (M : Mem), blk_X8_bestOf v1 Q P lab v2 v3 v4 v5 M → blk_X8_bestOf v1 Q' P' lab v2 v3 v4 v5 M := fun lab v2 v3 v4 v5 M h => match lab, h with
  | 0, h => blk_X8_bestOf_0_mono (v1 := v1) hQ hP v2 v3 v4 v5 M h
  | 1, h => blk_X8_bestOf_1_mono (v1 := v1) hQ hP v2 v3 v4 v5 M h
  | 2, h => blk_X8_bestOf_2_mono (v1 := v1) hQ hP v2 v3 v4 v5 M h
  | 3, h => blk_X8_bestOf_3_mono (v1 := v1) hQ hP v2 v3 v4 v5 M h
  | 4, h => blk_X8_bestOf_4_mono (v1 := v1) hQ hP v2 v3 v4 v5 M h
  | _ + 5, h => False.elim h
def at_X8_bestOf (v1 : Int32) (Q : Int32 → Mem → Prop) : Nat → Int32 → Int32 → Int32 → Int32 → Mem → Prop := fun lab v2 v3 v4 v5 M => ∀ P : Nat → Int32 → Int32 → Int32 → Int32 → Mem → Prop, (∀ (lab : Nat) (v2 : Int32) (v3 : Int32) (v4 : Int32) (v5 : Int32) (M : Mem), blk_X8_bestOf v1 Q P lab v2 v3 v4 v5 M → P lab v2 v3 v4 v5 M) → P lab v2 v3 v4 v5 M
theorem at_X8_bestOf_fold {v1 : Int32} {Q : Int32 → Mem → Prop} {lab : Nat} {v2 : Int32} {v3 : Int32} {v4 : Int32} {v5 : Int32} {M : Mem} (h : blk_X8_bestOf v1 Q (at_X8_bestOf v1 Q) lab v2 v3 v4 v5 M) : at_X8_bestOf v1 Q lab v2 v3 v4 v5 M := fun P hP => hP _ _ _ _ _ _ (blk_X8_bestOf_mono (fun _ _ h => h) (fun _ _ _ _ _ _ h => h P hP) _ _ _ _ _ _ h)
theorem at_X8_bestOf_mono {v1 : Int32} {Q Q' : Int32 → Mem → Prop} (hQ : ∀ (r : Int32) (M : Mem), Q r M → Q' r M) {lab : Nat} {v2 : Int32} {v3 : Int32} {v4 : Int32} {v5 : Int32} {M : Mem} (h : at_X8_bestOf v1 Q lab v2 v3 v4 v5 M) : at_X8_bestOf v1 Q' lab v2 v3 v4 v5 M := fun P hP => h P (fun lab v2 v3 v4 v5 M hb => hP _ _ _ _ _ _ (blk_X8_bestOf_mono hQ (fun _ _ _ _ _ _ h => h) _ _ _ _ _ _ hb))
def wp_X8_bestOf (v1 : Int32) (M : Mem) (Q : Int32 → Mem → Prop) : Prop := at_X8_bestOf v1 Q 0 0 0 0 0 M
theorem wp_X8_bestOf_mono {v1 : Int32} {M : Mem} {Q Q' : Int32 → Mem → Prop} (hQ : ∀ (r : Int32) (M : Mem), Q r M → Q' r M) (h : wp_X8_bestOf v1 M Q) : wp_X8_bestOf v1 M Q' := at_X8_bestOf_mono hQ h
def pcl_X8_bestOf : Nat → Nat := fun lab => match lab with
  | 0 => 0
  | 1 => 4
  | 2 => 61
  | 3 => 57
  | 4 => 63
  | _ => 0
def lvl_X8_bestOf (ad : Nat → Nat) (v1 : Int32) : Nat → Int32 → Int32 → Int32 → Int32 → List (Nat × Value) := fun lab v2 v3 v4 v5 => match lab with
  | 0 => [(0, .ref (ad 0)), (1, .int v1)]
  | 1 => [(0, .ref (ad 0)), (1, .int v1), (2, .int v2), (3, .int v3)]
  | 2 => [(0, .ref (ad 0)), (1, .int v1), (2, .int v2), (3, .int v3)]
  | 3 => [(0, .ref (ad 0)), (1, .int v1), (3, .int v3)]
  | 4 => [(0, .ref (ad 0)), (1, .int v1), (2, .int v2), (3, .int v3)]
  | _ => []
abbrev rm_X8_bestOf : Jvm.Room := { frames := 2, cells := 0, slots := 0, locals := 38 }
set_option maxHeartbeats 4000000 in
set_option maxRecDepth 100000 in
theorem ct_X8_bestOf (l : Launch) (D : va_G) (cy : Nat → ClassId) (ad : Nat → Nat) (B : Nat → Prop) (v1 : Int32) (M : Mem) (Q : Int32 → Mem → Prop) (h : wp_X8_bestOf v1 M Q) : CTi l D cy (wR ad cy) B yX8_bestOf wsX8_bestOf rm_X8_bestOf [.ref (ad 0), .int v1] M Q := by
  intro sz
  refine Met.ofW (cc := cX8_bestOf) (maxL := 6) (ret := some .int) (by decide) rfl ?_
  intro p e s m args below meth c s₁ Bd hml hv
  obtain ⟨hargs, hsz, hP, hK, hD⟩ := hv
  subst hsz
  have hx := Bd.exec
  have hb := Bd.bytes
  have hr := Bd.returns
  have hts := atoms_spec (ws := wsX8_bestOf) Bd.pre
  have hown : s.vm.findClass RX8 = some m.cls := findClass_of_methodNamed Bd.named
  have hlocks := Bd.notSynchronized
  have hC8 : xC wsX8_bestOf 8 RX8 TX8 34 := ⟨by decide +kernel, rfl⟩
  have key : ∀ (P : Nat → Int32 → Int32 → Int32 → Int32 → Mem → Prop), (∀ (lab : Nat) (v2 : Int32) (v3 : Int32) (v4 : Int32) (v5 : Int32) (M : Mem), P lab v2 v3 v4 v5 M → ∀ (H : Heap) (locs : List Loc) (ls : Array Slot), xS D (wR ad cy) B s.heap H locs M → lv_has ls 6 (lvl_X8_bestOf ad v1 lab v2 v3 v4 v5 ) → W p l e (headSpec wsX8_bestOf rm_X8_bestOf).room s m args below meth c H locs 0 0 (MQ below (va_Qi (S := Mem) Q (xB D (wR ad cy) B) (xA B s.heap.size)) args s 0 0 (xA B s.heap.size)) (F0 m (pcl_X8_bestOf lab) ls [])) → ∀ (lab : Nat) (v2 : Int32) (v3 : Int32) (v4 : Int32) (v5 : Int32) (M : Mem), blk_X8_bestOf v1 Q P lab v2 v3 v4 v5 M → ∀ (H : Heap) (locs : List Loc) (ls : Array Slot), xS D (wR ad cy) B s.heap H locs M → lv_has ls 6 (lvl_X8_bestOf ad v1 lab v2 v3 v4 v5 ) → W p l e (headSpec wsX8_bestOf rm_X8_bestOf).room s m args below meth c H locs 0 0 (MQ below (va_Qi (S := Mem) Q (xB D (wR ad cy) B) (xA B s.heap.size)) args s 0 0 (xA B s.heap.size)) (F0 m (pcl_X8_bestOf lab) ls []) := by
    intro P hJ lab v2 v3 v4 v5 M h H locs ls S hl
    match lab, h, hl with
    | 0, h, hl =>
      have hl : lv_has ls 6 [(0, .ref (ad 0)), (1, .int v1)] := hl
      have h : blk_X8_bestOf_0 v1 Q P v2 v3 v4 v5 M := h
      unfold blk_X8_bestOf_0 at h
      refine W.eq (g2 := F0 m 0 ls []) rfl ?_
      refine lv_iconst (v := 0) hx hb dX8_bestOf_0 (by decide) ?_
      refine lv_istore_n (lv' := [(2, .int 0), (0, .ref (ad 0)), (1, .int v1)]) hx hb dX8_bestOf_1 rfl hl (by decide) rfl (fun ls hl => ?_)
      refine lv_iconst (v := 1) hx hb dX8_bestOf_2 (by decide) ?_
      refine lv_istore_n (lv' := [(3, .int 1), (2, .int 0), (0, .ref (ad 0)), (1, .int v1)]) hx hb dX8_bestOf_3 rfl hl (by decide) rfl (fun ls hl => ?_)
      exact hJ _ _ _ _ _ _ h _ _ _ S (lv_sub hl [2, 3, 1, 0] rfl)
    | 1, h, hl =>
      have hl : lv_has ls 6 [(0, .ref (ad 0)), (1, .int v1), (2, .int v2), (3, .int v3)] := hl
      have h : blk_X8_bestOf_1 v1 Q P v2 v3 v4 v5 M := h
      unfold blk_X8_bestOf_1 at h
      refine W.eq (g2 := F0 m 4 ls []) rfl ?_
      refine lv_iload_n hx hb dX8_bestOf_4 rfl (lv_at hl 3 rfl) ?_
      refine lv_aload_n hx hb dX8_bestOf_5 rfl (lv_at hl 0 rfl) ?_
      refine x_getI hx hb hts (hC8) hown hK S 22 (by decide) rf_0_22 (index := 127) (hts _ (List.mem_of_getElem? (i := 1) rfl)) dX8_bestOf_6 ?_
      refine lv_icmp_ge (tgt := 69) hx hb dX8_bestOf_9 (by decide) (fun c9 => ?_) (fun c9 => ?_)
      · replace h := h.1 c9
        refine lv_iload_n hx hb dX8_bestOf_69 rfl (lv_at hl 2 rfl) ?_
        exact x_iret hx hb hr hlocks S rfl h dX8_bestOf_70
      · replace h := h.2 c9
        refine lv_aload_n hx hb dX8_bestOf_12 rfl (lv_at hl 0 rfl) ?_
        refine lv_aload_n hx hb dX8_bestOf_13 rfl (lv_at hl 0 rfl) ?_
        refine x_getR hx hb hts (hC8) hown hK S 23 (by decide) rf_0_23 (index := 50) (hts _ (List.mem_of_getElem? (i := 2) rfl)) dX8_bestOf_14 ?_
        refine lv_iload_n hx hb dX8_bestOf_17 rfl (lv_at hl 3 rfl) ?_
        refine x_iald hx hb hK S ra_14 h.1 dX8_bestOf_18 ?_
        replace h := h.2
        refine x_callVi (As := [.int (M.1 14 v3.toNatClampNeg)]) ⟨hx, hb, hml, hown, hts⟩ hK S (ct_X8_sumOf l D cy ad B _ _ _ h) ro_0 rfl (cwV 1 hts gX8_bestOf_X8_sumOf rfl rfl rfl (by decide +kernel) ⟨Nat.le_of_ble_eq_true rfl, Nat.le_of_ble_eq_true rfl⟩) rfl hl.1 rfl (Nat.le_of_ble_eq_true rfl) dX8_bestOf_19 ⟨Nat.zero_le _, Nat.zero_le _⟩ (fun r1 M1 H locs h S => ?_)
        refine lv_istore (lv' := [(4, .int r1), (0, .ref (ad 0)), (1, .int v1), (2, .int v2), (3, .int v3)]) hx hb dX8_bestOf_22 hl (by decide) rfl (fun ls hl => ?_)
        refine lv_aload_n hx hb dX8_bestOf_24 rfl (lv_at hl 1 rfl) ?_
        refine lv_aload_n hx hb dX8_bestOf_25 rfl (lv_at hl 1 rfl) ?_
        refine x_getR hx hb hts (hC8) hown hK S 23 (by decide) rf_0_23 (index := 50) (hts _ (List.mem_of_getElem? (i := 2) rfl)) dX8_bestOf_26 ?_
        refine lv_iload_n hx hb dX8_bestOf_29 rfl (lv_at hl 3 rfl) ?_
        refine x_iald hx hb hK S ra_14 h.1 dX8_bestOf_30 ?_
        replace h := h.2
        refine x_callVi (As := [.int (M1.1 14 v2.toNatClampNeg)]) ⟨hx, hb, hml, hown, hts⟩ hK S (ct_X8_sumOf l D cy ad B _ _ _ h) ro_0 rfl (cwV 1 hts gX8_bestOf_X8_sumOf rfl rfl rfl (by decide +kernel) ⟨Nat.le_of_ble_eq_true rfl, Nat.le_of_ble_eq_true rfl⟩) rfl hl.1 rfl (Nat.le_of_ble_eq_true rfl) dX8_bestOf_31 ⟨Nat.zero_le _, Nat.zero_le _⟩ (fun r2 M2 H locs h S => ?_)
        refine lv_istore (lv' := [(5, .int r2), (4, .int r1), (0, .ref (ad 0)), (1, .int v1), (2, .int v2), (3, .int v3)]) hx hb dX8_bestOf_34 hl (by decide) rfl (fun ls hl => ?_)
        refine lv_iload_n hx hb dX8_bestOf_36 rfl (lv_at hl 3 rfl) ?_
        refine lv_if_eq (tgt := 50) hx hb dX8_bestOf_37 (by decide) (fun c37 => ?_) (fun c37 => ?_)
        · replace h := h.1 c37
          refine lv_iload hx hb dX8_bestOf_50 (lv_at hl 1 rfl) ?_
          refine lv_iload hx hb dX8_bestOf_52 (lv_at hl 0 rfl) ?_
          refine lv_icmp_ge (tgt := 61) hx hb dX8_bestOf_54 (by decide) (fun c54 => ?_) (fun c54 => ?_)
          · replace h := h.1 c54
            exact hJ _ _ _ _ _ _ h _ _ _ S (lv_sub hl [2, 3, 4, 5] rfl)
          · replace h := h.2 c54
            exact hJ _ _ _ _ _ _ h _ _ _ S (lv_sub hl [2, 3, 5] rfl)
        · replace h := h.2 c37
          refine lv_iload hx hb dX8_bestOf_40 (lv_at hl 1 rfl) ?_
          refine lv_iload hx hb dX8_bestOf_42 (lv_at hl 0 rfl) ?_
          refine lv_icmp_le (tgt := 61) hx hb dX8_bestOf_44 (by decide) (fun c44 => ?_) (fun c44 => ?_)
          · replace h := h.1 c44
            exact hJ _ _ _ _ _ _ h _ _ _ S (lv_sub hl [2, 3, 4, 5] rfl)
          · replace h := h.2 c44
            refine lv_goto (tgt := 57) hx hb dX8_bestOf_47 (by decide) ?_
            exact hJ _ _ _ _ _ _ h _ _ _ S (lv_sub hl [2, 3, 5] rfl)
    | 2, h, hl =>
      have hl : lv_has ls 6 [(0, .ref (ad 0)), (1, .int v1), (2, .int v2), (3, .int v3)] := hl
      have h : blk_X8_bestOf_2 v1 Q P v2 v3 v4 v5 M := h
      unfold blk_X8_bestOf_2 at h
      refine W.eq (g2 := F0 m 61 ls []) rfl ?_
      refine lv_iload_n hx hb dX8_bestOf_61 rfl (lv_at hl 2 rfl) ?_
      refine lv_istore_n (lv' := [(2, .int v2), (0, .ref (ad 0)), (1, .int v1), (3, .int v3)]) hx hb dX8_bestOf_62 rfl hl (by decide) rfl (fun ls hl => ?_)
      exact hJ _ _ _ _ _ _ h _ _ _ S (lv_sub hl [1, 2, 0, 3] rfl)
    | 3, h, hl =>
      have hl : lv_has ls 6 [(0, .ref (ad 0)), (1, .int v1), (3, .int v3)] := hl
      have h : blk_X8_bestOf_3 v1 Q P v2 v3 v4 v5 M := h
      unfold blk_X8_bestOf_3 at h
      refine W.eq (g2 := F0 m 57 ls []) rfl ?_
      refine lv_iload_n hx hb dX8_bestOf_57 rfl (lv_at hl 2 rfl) ?_
      refine lv_goto (tgt := 62) hx hb dX8_bestOf_58 (by decide) ?_
      refine lv_istore_n (lv' := [(2, .int v3), (0, .ref (ad 0)), (1, .int v1), (3, .int v3)]) hx hb dX8_bestOf_62 rfl hl (by decide) rfl (fun ls hl => ?_)
      exact hJ _ _ _ _ _ _ h _ _ _ S (lv_sub hl [1, 2, 0, 3] rfl)
    | 4, h, hl =>
      have hl : lv_has ls 6 [(0, .ref (ad 0)), (1, .int v1), (2, .int v2), (3, .int v3)] := hl
      have h : blk_X8_bestOf_4 v1 Q P v2 v3 v4 v5 M := h
      unfold blk_X8_bestOf_4 at h
      refine W.eq (g2 := F0 m 63 ls []) rfl ?_
      refine lv_iinc (v := (v3 + 1)) (lv' := [(3, .int (v3 + 1)), (0, .ref (ad 0)), (1, .int v1), (2, .int v2)]) hx hb dX8_bestOf_63 hl (k := 3) rfl rfl (by decide) rfl (fun ls hl => ?_)
      refine lv_goto (tgt := 4) hx hb dX8_bestOf_66 (by decide) ?_
      exact hJ _ _ _ _ _ _ h _ _ _ S (lv_sub hl [1, 2, 3, 0] rfl)
    | _ + 5, h, hl => exact h.elim
  have hl := lv_entry ([.ref (ad 0), .int v1]) (n := 6) (Nat.le_of_ble_eq_true rfl)
  subst hargs
  rw [lg_entry_eq]
  generalize (lg_sl ([.ref (ad 0), .int v1]) ++ List.replicate (6 - (lg_sl ([.ref (ad 0), .int v1])).length) Slot.unset).toArray = ls at hl ⊢
  exact h _ (key _ (fun _ _ _ _ _ _ h => h)) s.heap [] ls ⟨hP, hD, va_S.rf⟩ hl
/-! X8_best -/
def wp_X8_best (v1 : Int32) (M : Mem) (Q : Int32 → Mem → Prop) : Prop :=
  ((((upI M 0 0 0).1 0 8) = 0 → Q (-3) (upI M 0 0 0)) ∧ (¬ ((upI M 0 0 0).1 0 8) = 0 → wp_X8_bestOf v1 (upI M 0 0 0) (fun r1 M1 => (vp_in r1 2000 ∧ wp_X8_sumOf (M1.1 14 r1.toNatClampNeg) M1 (fun r2 M2 => Q r2 M2)))))
theorem wp_X8_best_mono {v1 : Int32} {M : Mem} {Q Q' : Int32 → Mem → Prop} (hQ : ∀ (r : Int32) (M : Mem), Q r M → Q' r M) (h : wp_X8_best v1 M Q) : wp_X8_best v1 M Q' := by
  unfold wp_X8_best at h ⊢
  exact ⟨fun c => let h := h.1 c; hQ _ _ h, fun c => let h := h.2 c; wp_X8_bestOf_mono (fun r1 M1 h => ⟨h.1, let h := h.2; wp_X8_sumOf_mono (fun r2 M2 h => hQ _ _ h) h⟩) h⟩
abbrev rm_X8_best : Jvm.Room := { frames := 3, cells := 0, slots := 0, locals := 63 }
set_option maxHeartbeats 4000000 in
set_option maxRecDepth 100000 in
theorem ct_X8_best (l : Launch) (D : va_G) (cy : Nat → ClassId) (ad : Nat → Nat) (B : Nat → Prop) (v1 : Int32) (M : Mem) (Q : Int32 → Mem → Prop) (h : wp_X8_best v1 M Q) : CTi l D cy (wR ad cy) B yX8_best wsX8_best rm_X8_best [.ref (ad 0), .int v1] M Q := by
  intro sz
  refine Met.ofW (cc := cX8_best) (maxL := 2) (ret := some .int) (by decide) rfl ?_
  intro p e s m args below meth c s₁ Bd hml hv
  obtain ⟨hargs, hsz, hP, hK, hD⟩ := hv
  subst hsz
  have hx := Bd.exec
  have hb := Bd.bytes
  have hr := Bd.returns
  have hts := atoms_spec (ws := wsX8_best) Bd.pre
  have hown : s.vm.findClass RX8 = some m.cls := findClass_of_methodNamed Bd.named
  have hlocks := Bd.notSynchronized
  have hC8 : xC wsX8_best 8 RX8 TX8 34 := ⟨by decide +kernel, rfl⟩
  have hl := lv_entry ([.ref (ad 0), .int v1]) (n := 2) (Nat.le_of_ble_eq_true rfl)
  subst hargs
  rw [lg_entry_eq]
  generalize (lg_sl ([.ref (ad 0), .int v1]) ++ List.replicate (2 - (lg_sl ([.ref (ad 0), .int v1])).length) Slot.unset).toArray = ls at hl ⊢
  have hl : lv_has ls 2 [(0, .ref (ad 0)), (1, .int v1)] := hl
  have S : xS D (wR ad cy) B s.heap s.heap [] M := ⟨hP, hD, va_S.rf⟩
  unfold wp_X8_best at h
  refine lv_aload_n hx hb dX8_best_0 rfl (lv_at hl 0 rfl) ?_
  refine lv_iconst (v := 0) hx hb dX8_best_1 (by decide) ?_
  refine x_putI hx hb hts (hC8) tyX8 tyX8_ok nmX8 hown hK S 0 (by decide) rf_0_0 (index := 74) (hts _ (List.mem_of_getElem? (i := 1) rfl)) rfl rfl rfl dX8_best_2 (fun H locs S => ?_)
  refine lv_aload_n hx hb dX8_best_5 rfl (lv_at hl 0 rfl) ?_
  refine x_getI hx hb hts (hC8) hown hK S 8 (by decide) rf_0_8 (index := 151) (hts _ (List.mem_of_getElem? (i := 2) rfl)) dX8_best_6 ?_
  refine lv_if_eq (tgt := 29) hx hb dX8_best_9 (by decide) (fun c9 => ?_) (fun c9 => ?_)
  · replace h := h.1 c9
    refine lv_bipush (v := (-3)) hx hb dX8_best_29 (by decide) ?_
    exact x_iret hx hb hr hlocks S rfl h dX8_best_31
  · replace h := h.2 c9
    refine lv_aload_n hx hb dX8_best_12 rfl (lv_at hl 0 rfl) ?_
    refine lv_aload_n hx hb dX8_best_13 rfl (lv_at hl 0 rfl) ?_
    refine x_getR hx hb hts (hC8) hown hK S 23 (by decide) rf_0_23 (index := 50) (hts _ (List.mem_of_getElem? (i := 3) rfl)) dX8_best_14 ?_
    refine lv_aload_n hx hb dX8_best_17 rfl (lv_at hl 0 rfl) ?_
    refine lv_iload_n hx hb dX8_best_18 rfl (lv_at hl 1 rfl) ?_
    refine x_callVi (As := [.int v1]) ⟨hx, hb, hml, hown, hts⟩ hK S (ct_X8_bestOf l D cy ad B _ _ _ h) ro_0 rfl (cwV 1 hts gX8_best_X8_bestOf rfl rfl rfl (by decide +kernel) ⟨Nat.le_of_ble_eq_true rfl, Nat.le_of_ble_eq_true rfl⟩) rfl hl.1 rfl (Nat.le_of_ble_eq_true rfl) dX8_best_19 ⟨Nat.zero_le _, Nat.zero_le _⟩ (fun r1 M1 H locs h S => ?_)
    refine x_iald hx hb hK S ra_14 h.1 dX8_best_22 ?_
    replace h := h.2
    refine x_callVi (As := [.int (M1.1 14 r1.toNatClampNeg)]) ⟨hx, hb, hml, hown, hts⟩ hK S (ct_X8_sumOf l D cy ad B _ _ _ h) ro_0 rfl (cwV 1 hts gX8_best_X8_sumOf rfl rfl rfl (by decide +kernel) ⟨Nat.le_of_ble_eq_true rfl, Nat.le_of_ble_eq_true rfl⟩) rfl hl.1 rfl (Nat.le_of_ble_eq_true rfl) dX8_best_23 ⟨Nat.zero_le _, Nat.zero_le _⟩ (fun r2 M2 H locs h S => ?_)
    refine lv_goto (tgt := 31) hx hb dX8_best_26 (by decide) ?_
    exact x_iret hx hb hr hlocks S rfl h dX8_best_31
/-! X8_bestRank -/
def wp_X8_bestRank (v1 : Int32) (M : Mem) (Q : Int32 → Mem → Prop) : Prop :=
  ((((upI M 0 0 0).1 0 8) = 0 → Q (-3) (upI M 0 0 0)) ∧ (¬ ((upI M 0 0 0).1 0 8) = 0 → wp_X8_bestOf v1 (upI M 0 0 0) (fun r1 M1 => Q r1 M1)))
theorem wp_X8_bestRank_mono {v1 : Int32} {M : Mem} {Q Q' : Int32 → Mem → Prop} (hQ : ∀ (r : Int32) (M : Mem), Q r M → Q' r M) (h : wp_X8_bestRank v1 M Q) : wp_X8_bestRank v1 M Q' := by
  unfold wp_X8_bestRank at h ⊢
  exact ⟨fun c => let h := h.1 c; hQ _ _ h, fun c => let h := h.2 c; wp_X8_bestOf_mono (fun r1 M1 h => hQ _ _ h) h⟩
abbrev rm_X8_bestRank : Jvm.Room := { frames := 3, cells := 0, slots := 0, locals := 63 }
set_option maxHeartbeats 4000000 in
set_option maxRecDepth 100000 in
theorem ct_X8_bestRank (l : Launch) (D : va_G) (cy : Nat → ClassId) (ad : Nat → Nat) (B : Nat → Prop) (v1 : Int32) (M : Mem) (Q : Int32 → Mem → Prop) (h : wp_X8_bestRank v1 M Q) : CTi l D cy (wR ad cy) B yX8_bestRank wsX8_bestRank rm_X8_bestRank [.ref (ad 0), .int v1] M Q := by
  intro sz
  refine Met.ofW (cc := cX8_bestRank) (maxL := 2) (ret := some .int) (by decide) rfl ?_
  intro p e s m args below meth c s₁ Bd hml hv
  obtain ⟨hargs, hsz, hP, hK, hD⟩ := hv
  subst hsz
  have hx := Bd.exec
  have hb := Bd.bytes
  have hr := Bd.returns
  have hts := atoms_spec (ws := wsX8_bestRank) Bd.pre
  have hown : s.vm.findClass RX8 = some m.cls := findClass_of_methodNamed Bd.named
  have hlocks := Bd.notSynchronized
  have hC8 : xC wsX8_bestRank 8 RX8 TX8 34 := ⟨by decide +kernel, rfl⟩
  have hl := lv_entry ([.ref (ad 0), .int v1]) (n := 2) (Nat.le_of_ble_eq_true rfl)
  subst hargs
  rw [lg_entry_eq]
  generalize (lg_sl ([.ref (ad 0), .int v1]) ++ List.replicate (2 - (lg_sl ([.ref (ad 0), .int v1])).length) Slot.unset).toArray = ls at hl ⊢
  have hl : lv_has ls 2 [(0, .ref (ad 0)), (1, .int v1)] := hl
  have S : xS D (wR ad cy) B s.heap s.heap [] M := ⟨hP, hD, va_S.rf⟩
  unfold wp_X8_bestRank at h
  refine lv_aload_n hx hb dX8_bestRank_0 rfl (lv_at hl 0 rfl) ?_
  refine lv_iconst (v := 0) hx hb dX8_bestRank_1 (by decide) ?_
  refine x_putI hx hb hts (hC8) tyX8 tyX8_ok nmX8 hown hK S 0 (by decide) rf_0_0 (index := 74) (hts _ (List.mem_of_getElem? (i := 1) rfl)) rfl rfl rfl dX8_bestRank_2 (fun H locs S => ?_)
  refine lv_aload_n hx hb dX8_bestRank_5 rfl (lv_at hl 0 rfl) ?_
  refine x_getI hx hb hts (hC8) hown hK S 8 (by decide) rf_0_8 (index := 151) (hts _ (List.mem_of_getElem? (i := 2) rfl)) dX8_bestRank_6 ?_
  refine lv_if_eq (tgt := 20) hx hb dX8_bestRank_9 (by decide) (fun c9 => ?_) (fun c9 => ?_)
  · replace h := h.1 c9
    refine lv_bipush (v := (-3)) hx hb dX8_bestRank_20 (by decide) ?_
    exact x_iret hx hb hr hlocks S rfl h dX8_bestRank_22
  · replace h := h.2 c9
    refine lv_aload_n hx hb dX8_bestRank_12 rfl (lv_at hl 0 rfl) ?_
    refine lv_iload_n hx hb dX8_bestRank_13 rfl (lv_at hl 1 rfl) ?_
    refine x_callVi (As := [.int v1]) ⟨hx, hb, hml, hown, hts⟩ hK S (ct_X8_bestOf l D cy ad B _ _ _ h) ro_0 rfl (cwV 1 hts gX8_bestRank_X8_bestOf rfl rfl rfl (by decide +kernel) ⟨Nat.le_of_ble_eq_true rfl, Nat.le_of_ble_eq_true rfl⟩) rfl hl.1 rfl (Nat.le_of_ble_eq_true rfl) dX8_bestRank_14 ⟨Nat.zero_le _, Nat.zero_le _⟩ (fun r1 M1 H locs h S => ?_)
    refine lv_goto (tgt := 22) hx hb dX8_bestRank_17 (by decide) ?_
    exact x_iret hx hb hr hlocks S rfl h dX8_bestRank_22
/-! X8_measure -/
def blk_X8_measure_0 (v1 : Int32) (Q : Mem → Prop) (P : Nat → Int32 → Int32 → Int32 → Int32 → Int32 → Int32 → Mem → Prop) (v2 : Int32) (v3 : Int32) (v4 : Int32) (v5 : Int32) (v6 : Int32) (v7 : Int32) (M : Mem) : Prop :=
  P 1 0 0 0 0 0 0 M
theorem blk_X8_measure_0_mono {v1 : Int32} {Q Q' : Mem → Prop} {P P' : Nat → Int32 → Int32 → Int32 → Int32 → Int32 → Int32 → Mem → Prop} (hQ : ∀ M : Mem, Q M → Q' M) (hP : ∀ (lab : Nat) (v2 : Int32) (v3 : Int32) (v4 : Int32) (v5 : Int32) (v6 : Int32) (v7 : Int32) (M : Mem), P lab v2 v3 v4 v5 v6 v7 M → P' lab v2 v3 v4 v5 v6 v7 M) (v2 : Int32) (v3 : Int32) (v4 : Int32) (v5 : Int32) (v6 : Int32) (v7 : Int32) (M : Mem) (h : blk_X8_measure_0 v1 Q P v2 v3 v4 v5 v6 v7 M) : blk_X8_measure_0 v1 Q' P' v2 v3 v4 v5 v6 v7 M := by
  unfold blk_X8_measure_0 at h ⊢
  exact hP _ _ _ _ _ _ _ _ h
def blk_X8_measure_1 (v1 : Int32) (Q : Mem → Prop) (P : Nat → Int32 → Int32 → Int32 → Int32 → Int32 → Int32 → Mem → Prop) (v2 : Int32) (v3 : Int32) (v4 : Int32) (v5 : Int32) (v6 : Int32) (v7 : Int32) (M : Mem) : Prop :=
  (((M.1 0 22) ≤ v2 → (vp_in v1 2000 ∧ (vp_in (0 : Int32) 2000 ∧ P 2 1 0 0 0 0 0 (upI (upI M 19 v1.toNatClampNeg 0) 20 (0 : Int32).toNatClampNeg v1)))) ∧ (¬ (M.1 0 22) ≤ v2 → (vp_in v2 2000 ∧ P 1 (v2 + 1) 0 0 0 0 0 (upI M 19 v2.toNatClampNeg (-9)))))
theorem blk_X8_measure_1_mono {v1 : Int32} {Q Q' : Mem → Prop} {P P' : Nat → Int32 → Int32 → Int32 → Int32 → Int32 → Int32 → Mem → Prop} (hQ : ∀ M : Mem, Q M → Q' M) (hP : ∀ (lab : Nat) (v2 : Int32) (v3 : Int32) (v4 : Int32) (v5 : Int32) (v6 : Int32) (v7 : Int32) (M : Mem), P lab v2 v3 v4 v5 v6 v7 M → P' lab v2 v3 v4 v5 v6 v7 M) (v2 : Int32) (v3 : Int32) (v4 : Int32) (v5 : Int32) (v6 : Int32) (v7 : Int32) (M : Mem) (h : blk_X8_measure_1 v1 Q P v2 v3 v4 v5 v6 v7 M) : blk_X8_measure_1 v1 Q' P' v2 v3 v4 v5 v6 v7 M := by
  unfold blk_X8_measure_1 at h ⊢
  exact ⟨fun c => let h := h.1 c; ⟨h.1, let h := h.2; ⟨h.1, let h := h.2; hP _ _ _ _ _ _ _ _ h⟩⟩, fun c => let h := h.2 c; ⟨h.1, let h := h.2; hP _ _ _ _ _ _ _ _ h⟩⟩
def blk_X8_measure_2 (v1 : Int32) (Q : Mem → Prop) (P : Nat → Int32 → Int32 → Int32 → Int32 → Int32 → Int32 → Mem → Prop) (v2 : Int32) (v3 : Int32) (v4 : Int32) (v5 : Int32) (v6 : Int32) (v7 : Int32) (M : Mem) : Prop :=
  ((v2 ≤ v3 → Q M) ∧ (¬ v2 ≤ v3 → (vp_in v3 2000 ∧ (vp_in (M.1 20 v3.toNatClampNeg) 2000 ∧ ∀ x4_1 : Int32, x4_1 = (M.1 14 (M.1 20 v3.toNatClampNeg).toNatClampNeg) → P 3 v2 v3 x4_1 0 0 0 M))))
theorem blk_X8_measure_2_mono {v1 : Int32} {Q Q' : Mem → Prop} {P P' : Nat → Int32 → Int32 → Int32 → Int32 → Int32 → Int32 → Mem → Prop} (hQ : ∀ M : Mem, Q M → Q' M) (hP : ∀ (lab : Nat) (v2 : Int32) (v3 : Int32) (v4 : Int32) (v5 : Int32) (v6 : Int32) (v7 : Int32) (M : Mem), P lab v2 v3 v4 v5 v6 v7 M → P' lab v2 v3 v4 v5 v6 v7 M) (v2 : Int32) (v3 : Int32) (v4 : Int32) (v5 : Int32) (v6 : Int32) (v7 : Int32) (M : Mem) (h : blk_X8_measure_2 v1 Q P v2 v3 v4 v5 v6 v7 M) : blk_X8_measure_2 v1 Q' P' v2 v3 v4 v5 v6 v7 M := by
  unfold blk_X8_measure_2 at h ⊢
  exact ⟨fun c => let h := h.1 c; hQ _ h, fun c => let h := h.2 c; ⟨h.1, let h := h.2; ⟨h.1, let h := h.2; fun x4_1 ex4_1 => let h := h x4_1 ex4_1; hP _ _ _ _ _ _ _ _ h⟩⟩⟩
def blk_X8_measure_3 (v1 : Int32) (Q : Mem → Prop) (P : Nat → Int32 → Int32 → Int32 → Int32 → Int32 → Int32 → Mem → Prop) (v2 : Int32) (v3 : Int32) (v4 : Int32) (v5 : Int32) (v6 : Int32) (v7 : Int32) (M : Mem) : Prop :=
  (((M.1 0 12) ≤ v5 → P 2 v2 (v3 + 1) 0 0 0 0 M) ∧ (¬ (M.1 0 12) ≤ v5 → wp_X8_comes v4 v5 M (fun r2 M2 => ((r2 = (-9) → P 4 v2 v3 v4 v5 0 0 M2) ∧ (¬ r2 = (-9) → wp_X8_rankOf ((v4 &&& (((1 : Int32) <<< (v5 &&& 31)) ^^^ ((-1) : Int32))) ||| ((1 : Int32) <<< (r2 &&& 31))) M2 (fun r3 M3 => (vp_in r3 2000 ∧ ((¬ (M3.1 19 r3.toNatClampNeg) = (-9) → P 4 v2 v3 v4 v5 0 0 M3) ∧ ((M3.1 19 r3.toNatClampNeg) = (-9) → (vp_in v3 2000 ∧ (vp_in (M3.1 20 v3.toNatClampNeg) 2000 ∧ (vp_in r3 2000 ∧ (vp_in v2 2000 ∧ P 4 (v2 + 1) v3 v4 v5 0 0 (upI (upI M3 19 r3.toNatClampNeg ((M3.1 19 (M3.1 20 v3.toNatClampNeg).toNatClampNeg) + 1)) 20 v2.toNatClampNeg r3))))))))))))))
theorem blk_X8_measure_3_mono {v1 : Int32} {Q Q' : Mem → Prop} {P P' : Nat → Int32 → Int32 → Int32 → Int32 → Int32 → Int32 → Mem → Prop} (hQ : ∀ M : Mem, Q M → Q' M) (hP : ∀ (lab : Nat) (v2 : Int32) (v3 : Int32) (v4 : Int32) (v5 : Int32) (v6 : Int32) (v7 : Int32) (M : Mem), P lab v2 v3 v4 v5 v6 v7 M → P' lab v2 v3 v4 v5 v6 v7 M) (v2 : Int32) (v3 : Int32) (v4 : Int32) (v5 : Int32) (v6 : Int32) (v7 : Int32) (M : Mem) (h : blk_X8_measure_3 v1 Q P v2 v3 v4 v5 v6 v7 M) : blk_X8_measure_3 v1 Q' P' v2 v3 v4 v5 v6 v7 M := by
  unfold blk_X8_measure_3 at h ⊢
  exact ⟨fun c => let h := h.1 c; hP _ _ _ _ _ _ _ _ h, fun c => let h := h.2 c; wp_X8_comes_mono (fun r2 M2 h => ⟨fun c => let h := h.1 c; hP _ _ _ _ _ _ _ _ h, fun c => let h := h.2 c; wp_X8_rankOf_mono (fun r3 M3 h => ⟨h.1, let h := h.2; ⟨fun c => let h := h.1 c; hP _ _ _ _ _ _ _ _ h, fun c => let h := h.2 c; ⟨h.1, let h := h.2; ⟨h.1, let h := h.2; ⟨h.1, let h := h.2; ⟨h.1, let h := h.2; hP _ _ _ _ _ _ _ _ h⟩⟩⟩⟩⟩⟩) h⟩) h⟩
def blk_X8_measure_4 (v1 : Int32) (Q : Mem → Prop) (P : Nat → Int32 → Int32 → Int32 → Int32 → Int32 → Int32 → Mem → Prop) (v2 : Int32) (v3 : Int32) (v4 : Int32) (v5 : Int32) (v6 : Int32) (v7 : Int32) (M : Mem) : Prop :=
  P 3 v2 v3 v4 (v5 + 1) 0 0 M
theorem blk_X8_measure_4_mono {v1 : Int32} {Q Q' : Mem → Prop} {P P' : Nat → Int32 → Int32 → Int32 → Int32 → Int32 → Int32 → Mem → Prop} (hQ : ∀ M : Mem, Q M → Q' M) (hP : ∀ (lab : Nat) (v2 : Int32) (v3 : Int32) (v4 : Int32) (v5 : Int32) (v6 : Int32) (v7 : Int32) (M : Mem), P lab v2 v3 v4 v5 v6 v7 M → P' lab v2 v3 v4 v5 v6 v7 M) (v2 : Int32) (v3 : Int32) (v4 : Int32) (v5 : Int32) (v6 : Int32) (v7 : Int32) (M : Mem) (h : blk_X8_measure_4 v1 Q P v2 v3 v4 v5 v6 v7 M) : blk_X8_measure_4 v1 Q' P' v2 v3 v4 v5 v6 v7 M := by
  unfold blk_X8_measure_4 at h ⊢
  exact hP _ _ _ _ _ _ _ _ h
def blk_X8_measure (v1 : Int32) (Q : Mem → Prop) (P : Nat → Int32 → Int32 → Int32 → Int32 → Int32 → Int32 → Mem → Prop) : Nat → Int32 → Int32 → Int32 → Int32 → Int32 → Int32 → Mem → Prop := fun lab v2 v3 v4 v5 v6 v7 M => match lab with
  | 0 => blk_X8_measure_0 v1 Q P v2 v3 v4 v5 v6 v7 M
  | 1 => blk_X8_measure_1 v1 Q P v2 v3 v4 v5 v6 v7 M
  | 2 => blk_X8_measure_2 v1 Q P v2 v3 v4 v5 v6 v7 M
  | 3 => blk_X8_measure_3 v1 Q P v2 v3 v4 v5 v6 v7 M
  | 4 => blk_X8_measure_4 v1 Q P v2 v3 v4 v5 v6 v7 M
  | _ => False
theorem blk_X8_measure_mono {v1 : Int32} {Q Q' : Mem → Prop} {P P' : Nat → Int32 → Int32 → Int32 → Int32 → Int32 → Int32 → Mem → Prop} (hQ : ∀ M : Mem, Q M → Q' M) (hP : ∀ (lab : Nat) (v2 : Int32) (v3 : Int32) (v4 : Int32) (v5 : Int32) (v6 : Int32) (v7 : Int32) (M : Mem), P lab v2 v3 v4 v5 v6 v7 M → P' lab v2 v3 v4 v5 v6 v7 M) : ∀ (lab : Nat) (v2 : Int32) (v3 : Int32) (v4 : Int32) (v5 : Int32) (v6 : Int32) (v7 : Int32) (M : Mem), blk_X8_measure v1 Q P lab v2 v3 v4 v5 v6 v7 M → blk_X8_measure v1 Q' P' lab v2 v3 v4 v5 v6 v7 M := fun lab v2 v3 v4 v5 v6 v7 M h => match lab, h with
  | 0, h => blk_X8_measure_0_mono (v1 := v1) hQ hP v2 v3 v4 v5 v6 v7 M h
  | 1, h => blk_X8_measure_1_mono (v1 := v1) hQ hP v2 v3 v4 v5 v6 v7 M h
  | 2, h => blk_X8_measure_2_mono (v1 := v1) hQ hP v2 v3 v4 v5 v6 v7 M h
  | 3, h => blk_X8_measure_3_mono (v1 := v1) hQ hP v2 v3 v4 v5 v6 v7 M h
  | 4, h => blk_X8_measure_4_mono (v1 := v1) hQ hP v2 v3 v4 v5 v6 v7 M h
  | _ + 5, h => False.elim h
def at_X8_measure (v1 : Int32) (Q : Mem → Prop) : Nat → Int32 → Int32 → Int32 → Int32 → Int32 → Int32 → Mem → Prop := fun lab v2 v3 v4 v5 v6 v7 M => ∀ P : Nat → Int32 → Int32 → Int32 → Int32 → Int32 → Int32 → Mem → Prop, (∀ (lab : Nat) (v2 : Int32) (v3 : Int32) (v4 : Int32) (v5 : Int32) (v6 : Int32) (v7 : Int32) (M : Mem), blk_X8_measure v1 Q P lab v2 v3 v4 v5 v6 v7 M → P lab v2 v3 v4 v5 v6 v7 M) → P lab v2 v3 v4 v5 v6 v7 M
theorem at_X8_measure_fold {v1 : Int32} {Q : Mem → Prop} {lab : Nat} {v2 : Int32} {v3 : Int32} {v4 : Int32} {v5 : Int32} {v6 : Int32} {v7 : Int32} {M : Mem} (h : blk_X8_measure v1 Q (at_X8_measure v1 Q) lab v2 v3 v4 v5 v6 v7 M) : at_X8_measure v1 Q lab v2 v3 v4 v5 v6 v7 M := fun P hP => hP _ _ _ _ _ _ _ _ (blk_X8_measure_mono (fun _ h => h) (fun _ _ _ _ _ _ _ _ h => h P hP) _ _ _ _ _ _ _ _ h)
theorem at_X8_measure_mono {v1 : Int32} {Q Q' : Mem → Prop} (hQ : ∀ M : Mem, Q M → Q' M) {lab : Nat} {v2 : Int32} {v3 : Int32} {v4 : Int32} {v5 : Int32} {v6 : Int32} {v7 : Int32} {M : Mem} (h : at_X8_measure v1 Q lab v2 v3 v4 v5 v6 v7 M) : at_X8_measure v1 Q' lab v2 v3 v4 v5 v6 v7 M := fun P hP => h P (fun lab v2 v3 v4 v5 v6 v7 M hb => hP _ _ _ _ _ _ _ _ (blk_X8_measure_mono hQ (fun _ _ _ _ _ _ _ _ h => h) _ _ _ _ _ _ _ _ hb))
def wp_X8_measure (v1 : Int32) (M : Mem) (Q : Mem → Prop) : Prop := at_X8_measure v1 Q 0 0 0 0 0 0 0 M
theorem wp_X8_measure_mono {v1 : Int32} {M : Mem} {Q Q' : Mem → Prop} (hQ : ∀ M : Mem, Q M → Q' M) (h : wp_X8_measure v1 M Q) : wp_X8_measure v1 M Q' := at_X8_measure_mono hQ h
def pcl_X8_measure : Nat → Nat := fun lab => match lab with
  | 0 => 0
  | 1 => 2
  | 2 => 42
  | 3 => 63
  | 4 => 152
  | _ => 0
def lvl_X8_measure (ad : Nat → Nat) (v1 : Int32) : Nat → Int32 → Int32 → Int32 → Int32 → Int32 → Int32 → List (Nat × Value) := fun lab v2 v3 v4 v5 v6 v7 => match lab with
  | 0 => [(0, .ref (ad 0)), (1, .int v1)]
  | 1 => [(0, .ref (ad 0)), (1, .int v1), (2, .int v2)]
  | 2 => [(0, .ref (ad 0)), (2, .int v2), (3, .int v3)]
  | 3 => [(0, .ref (ad 0)), (2, .int v2), (3, .int v3), (4, .int v4), (5, .int v5)]
  | 4 => [(0, .ref (ad 0)), (2, .int v2), (3, .int v3), (4, .int v4), (5, .int v5)]
  | _ => []
abbrev rm_X8_measure : Jvm.Room := { frames := 5, cells := 0, slots := 0, locals := 118 }
set_option maxHeartbeats 4000000 in
set_option maxRecDepth 100000 in
theorem ct_X8_measure (l : Launch) (D : va_G) (cy : Nat → ClassId) (ad : Nat → Nat) (B : Nat → Prop) (v1 : Int32) (M : Mem) (Q : Mem → Prop) (h : wp_X8_measure v1 M Q) : CTv l D cy (wR ad cy) B yX8_measure wsX8_measure rm_X8_measure [.ref (ad 0), .int v1] M Q := by
  intro sz
  refine Met.ofW (cc := cX8_measure) (maxL := 8) (ret := none) (by decide) rfl ?_
  intro p e s m args below meth c s₁ Bd hml hv
  obtain ⟨hargs, hsz, hP, hK, hD⟩ := hv
  subst hsz
  have hx := Bd.exec
  have hb := Bd.bytes
  have hr := Bd.returns
  have hts := atoms_spec (ws := wsX8_measure) Bd.pre
  have hown : s.vm.findClass RX8 = some m.cls := findClass_of_methodNamed Bd.named
  have hlocks := Bd.notSynchronized
  have hC8 : xC wsX8_measure 8 RX8 TX8 34 := ⟨by decide +kernel, rfl⟩
  have key : ∀ (P : Nat → Int32 → Int32 → Int32 → Int32 → Int32 → Int32 → Mem → Prop), (∀ (lab : Nat) (v2 : Int32) (v3 : Int32) (v4 : Int32) (v5 : Int32) (v6 : Int32) (v7 : Int32) (M : Mem), P lab v2 v3 v4 v5 v6 v7 M → ∀ (H : Heap) (locs : List Loc) (ls : Array Slot), xS D (wR ad cy) B s.heap H locs M → lv_has ls 8 (lvl_X8_measure ad v1 lab v2 v3 v4 v5 v6 v7 ) → W p l e (headSpec wsX8_measure rm_X8_measure).room s m args below meth c H locs 0 0 (MQ below (va_Qv (S := Mem) Q (xB D (wR ad cy) B) (xA B s.heap.size)) args s 0 0 (xA B s.heap.size)) (F0 m (pcl_X8_measure lab) ls [])) → ∀ (lab : Nat) (v2 : Int32) (v3 : Int32) (v4 : Int32) (v5 : Int32) (v6 : Int32) (v7 : Int32) (M : Mem), blk_X8_measure v1 Q P lab v2 v3 v4 v5 v6 v7 M → ∀ (H : Heap) (locs : List Loc) (ls : Array Slot), xS D (wR ad cy) B s.heap H locs M → lv_has ls 8 (lvl_X8_measure ad v1 lab v2 v3 v4 v5 v6 v7 ) → W p l e (headSpec wsX8_measure rm_X8_measure).room s m args below meth c H locs 0 0 (MQ below (va_Qv (S := Mem) Q (xB D (wR ad cy) B) (xA B s.heap.size)) args s 0 0 (xA B s.heap.size)) (F0 m (pcl_X8_measure lab) ls []) := by
    intro P hJ lab v2 v3 v4 v5 v6 v7 M h H locs ls S hl
    match lab, h, hl with
    | 0, h, hl =>
      have hl : lv_has ls 8 [(0, .ref (ad 0)), (1, .int v1)] := hl
      have h : blk_X8_measure_0 v1 Q P v2 v3 v4 v5 v6 v7 M := h
      unfold blk_X8_measure_0 at h
      refine W.eq (g2 := F0 m 0 ls []) rfl ?_
      refine lv_iconst (v := 0) hx hb dX8_measure_0 (by decide) ?_
      refine lv_istore_n (lv' := [(2, .int 0), (0, .ref (ad 0)), (1, .int v1)]) hx hb dX8_measure_1 rfl hl (by decide) rfl (fun ls hl => ?_)
      exact hJ _ _ _ _ _ _ _ _ h _ _ _ S (lv_sub hl [1, 2, 0] rfl)
    | 1, h, hl =>
      have hl : lv_has ls 8 [(0, .ref (ad 0)), (1, .int v1), (2, .int v2)] := hl
      have h : blk_X8_measure_1 v1 Q P v2 v3 v4 v5 v6 v7 M := h
      unfold blk_X8_measure_1 at h
      refine W.eq (g2 := F0 m 2 ls []) rfl ?_
      refine lv_iload_n hx hb dX8_measure_2 rfl (lv_at hl 2 rfl) ?_
      refine lv_aload_n hx hb dX8_measure_3 rfl (lv_at hl 0 rfl) ?_
      refine x_getI hx hb hts (hC8) hown hK S 22 (by decide) rf_0_22 (index := 127) (hts _ (List.mem_of_getElem? (i := 1) rfl)) dX8_measure_4 ?_
      refine lv_icmp_ge (tgt := 24) hx hb dX8_measure_7 (by decide) (fun c7 => ?_) (fun c7 => ?_)
      · replace h := h.1 c7
        refine lv_aload_n hx hb dX8_measure_24 rfl (lv_at hl 0 rfl) ?_
        refine x_getR hx hb hts (hC8) hown hK S 31 (by decide) rf_0_31 (index := 65) (hts _ (List.mem_of_getElem? (i := 2) rfl)) dX8_measure_25 ?_
        refine lv_iload_n hx hb dX8_measure_28 rfl (lv_at hl 1 rfl) ?_
        refine lv_iconst (v := 0) hx hb dX8_measure_29 (by decide) ?_
        refine x_iast hx hb hK S ra_19 h.1 dX8_measure_30 (fun H locs S => ?_)
        replace h := h.2
        refine lv_aload_n hx hb dX8_measure_31 rfl (lv_at hl 0 rfl) ?_
        refine x_getR hx hb hts (hC8) hown hK S 32 (by decide) rf_0_32 (index := 68) (hts _ (List.mem_of_getElem? (i := 3) rfl)) dX8_measure_32 ?_
        refine lv_iconst (v := 0) hx hb dX8_measure_35 (by decide) ?_
        refine lv_iload_n hx hb dX8_measure_36 rfl (lv_at hl 1 rfl) ?_
        refine x_iast hx hb hK S ra_20 h.1 dX8_measure_37 (fun H locs S => ?_)
        replace h := h.2
        refine lv_iconst (v := 1) hx hb dX8_measure_38 (by decide) ?_
        refine lv_istore_n (lv' := [(2, .int 1), (0, .ref (ad 0)), (1, .int v1)]) hx hb dX8_measure_39 rfl hl (by decide) rfl (fun ls hl => ?_)
        refine lv_iconst (v := 0) hx hb dX8_measure_40 (by decide) ?_
        refine lv_istore_n (lv' := [(3, .int 0), (2, .int 1), (0, .ref (ad 0)), (1, .int v1)]) hx hb dX8_measure_41 rfl hl (by decide) rfl (fun ls hl => ?_)
        exact hJ _ _ _ _ _ _ _ _ h _ _ _ S (lv_sub hl [2, 1, 0] rfl)
      · replace h := h.2 c7
        refine lv_aload_n hx hb dX8_measure_10 rfl (lv_at hl 0 rfl) ?_
        refine x_getR hx hb hts (hC8) hown hK S 31 (by decide) rf_0_31 (index := 65) (hts _ (List.mem_of_getElem? (i := 2) rfl)) dX8_measure_11 ?_
        refine lv_iload_n hx hb dX8_measure_14 rfl (lv_at hl 2 rfl) ?_
        refine lv_bipush (v := (-9)) hx hb dX8_measure_15 (by decide) ?_
        refine x_iast hx hb hK S ra_19 h.1 dX8_measure_17 (fun H locs S => ?_)
        replace h := h.2
        refine lv_iinc (v := (v2 + 1)) (lv' := [(2, .int (v2 + 1)), (0, .ref (ad 0)), (1, .int v1)]) hx hb dX8_measure_18 hl (k := 2) rfl rfl (by decide) rfl (fun ls hl => ?_)
        refine lv_goto (tgt := 2) hx hb dX8_measure_21 (by decide) ?_
        exact hJ _ _ _ _ _ _ _ _ h _ _ _ S (lv_sub hl [1, 2, 0] rfl)
    | 2, h, hl =>
      have hl : lv_has ls 8 [(0, .ref (ad 0)), (2, .int v2), (3, .int v3)] := hl
      have h : blk_X8_measure_2 v1 Q P v2 v3 v4 v5 v6 v7 M := h
      unfold blk_X8_measure_2 at h
      refine W.eq (g2 := F0 m 42 ls []) rfl ?_
      refine lv_iload_n hx hb dX8_measure_42 rfl (lv_at hl 2 rfl) ?_
      refine lv_iload_n hx hb dX8_measure_43 rfl (lv_at hl 1 rfl) ?_
      refine lv_icmp_ge (tgt := 164) hx hb dX8_measure_44 (by decide) (fun c44 => ?_) (fun c44 => ?_)
      · replace h := h.1 c44
        exact x_vret hx hb hr hlocks S h dX8_measure_164
      · replace h := h.2 c44
        refine lv_aload_n hx hb dX8_measure_47 rfl (lv_at hl 0 rfl) ?_
        refine x_getR hx hb hts (hC8) hown hK S 23 (by decide) rf_0_23 (index := 50) (hts _ (List.mem_of_getElem? (i := 4) rfl)) dX8_measure_48 ?_
        refine lv_aload_n hx hb dX8_measure_51 rfl (lv_at hl 0 rfl) ?_
        refine x_getR hx hb hts (hC8) hown hK S 32 (by decide) rf_0_32 (index := 68) (hts _ (List.mem_of_getElem? (i := 3) rfl)) dX8_measure_52 ?_
        refine lv_iload_n hx hb dX8_measure_55 rfl (lv_at hl 2 rfl) ?_
        refine x_iald hx hb hK S ra_20 h.1 dX8_measure_56 ?_
        replace h := h.2
        refine x_iald hx hb hK S ra_14 h.1 dX8_measure_57 ?_
        replace h := h.2
        refine lv_topi (fun x4_1 ex4_1 => ?_)
        replace h := h x4_1 ex4_1
        refine lv_istore (lv' := [(4, .int x4_1), (0, .ref (ad 0)), (2, .int v2), (3, .int v3)]) hx hb dX8_measure_58 hl (by decide) rfl (fun ls hl => ?_)
        refine lv_iconst (v := 0) hx hb dX8_measure_60 (by decide) ?_
        refine lv_istore (lv' := [(5, .int 0), (4, .int x4_1), (0, .ref (ad 0)), (2, .int v2), (3, .int v3)]) hx hb dX8_measure_61 hl (by decide) rfl (fun ls hl => ?_)
        exact hJ _ _ _ _ _ _ _ _ h _ _ _ S (lv_sub hl [2, 3, 4, 1, 0] rfl)
    | 3, h, hl =>
      have hl : lv_has ls 8 [(0, .ref (ad 0)), (2, .int v2), (3, .int v3), (4, .int v4), (5, .int v5)] := hl
      have h : blk_X8_measure_3 v1 Q P v2 v3 v4 v5 v6 v7 M := h
      unfold blk_X8_measure_3 at h
      refine W.eq (g2 := F0 m 63 ls []) rfl ?_
      refine lv_iload hx hb dX8_measure_63 (lv_at hl 4 rfl) ?_
      refine lv_aload_n hx hb dX8_measure_65 rfl (lv_at hl 0 rfl) ?_
      refine x_getI hx hb hts (hC8) hown hK S 12 (by decide) rf_0_12 (index := 106) (hts _ (List.mem_of_getElem? (i := 5) rfl)) dX8_measure_66 ?_
      refine lv_icmp_ge (tgt := 158) hx hb dX8_measure_69 (by decide) (fun c69 => ?_) (fun c69 => ?_)
      · replace h := h.1 c69
        refine lv_iinc (v := (v3 + 1)) (lv' := [(3, .int (v3 + 1)), (0, .ref (ad 0)), (2, .int v2), (4, .int v4), (5, .int v5)]) hx hb dX8_measure_158 hl (k := 2) rfl rfl (by decide) rfl (fun ls hl => ?_)
        refine lv_goto (tgt := 42) hx hb dX8_measure_161 (by decide) ?_
        exact hJ _ _ _ _ _ _ _ _ h _ _ _ S (lv_sub hl [1, 2, 0] rfl)
      · replace h := h.2 c69
        refine lv_aload_n hx hb dX8_measure_72 rfl (lv_at hl 0 rfl) ?_
        refine lv_iload hx hb dX8_measure_73 (lv_at hl 3 rfl) ?_
        refine lv_iload hx hb dX8_measure_75 (lv_at hl 4 rfl) ?_
        refine x_callVi (As := [.int v4, .int v5]) ⟨hx, hb, hml, hown, hts⟩ hK S (ct_X8_comes l D cy ad B _ _ _ _ h) ro_0 rfl (cwV 2 hts gX8_measure_X8_comes rfl rfl rfl (by decide +kernel) ⟨Nat.le_of_ble_eq_true rfl, Nat.le_of_ble_eq_true rfl⟩) rfl hl.1 rfl (Nat.le_of_ble_eq_true rfl) dX8_measure_77 ⟨Nat.zero_le _, Nat.zero_le _⟩ (fun r2 M2 H locs h S => ?_)
        refine lv_istore (lv' := [(6, .int r2), (0, .ref (ad 0)), (2, .int v2), (3, .int v3), (4, .int v4), (5, .int v5)]) hx hb dX8_measure_80 hl (by decide) rfl (fun ls hl => ?_)
        refine lv_iload hx hb dX8_measure_82 (lv_at hl 0 rfl) ?_
        refine lv_bipush (v := (-9)) hx hb dX8_measure_84 (by decide) ?_
        refine lv_icmp_eq (tgt := 152) hx hb dX8_measure_86 (by decide) (fun c86 => ?_) (fun c86 => ?_)
        · replace h := h.1 c86
          exact hJ _ _ _ _ _ _ _ _ h _ _ _ S (lv_sub hl [1, 2, 3, 4, 5] rfl)
        · replace h := h.2 c86
          refine lv_aload_n hx hb dX8_measure_89 rfl (lv_at hl 1 rfl) ?_
          refine lv_iload hx hb dX8_measure_90 (lv_at hl 4 rfl) ?_
          refine lv_iconst (v := 1) hx hb dX8_measure_92 (by decide) ?_
          refine lv_iload hx hb dX8_measure_93 (lv_at hl 5 rfl) ?_
          refine lv_ishl hx hb dX8_measure_95 ?_
          refine lv_iconst (v := (-1)) hx hb dX8_measure_96 (by decide) ?_
          refine lv_ixor hx hb dX8_measure_97 ?_
          refine lv_iand hx hb dX8_measure_98 ?_
          refine lv_iconst (v := 1) hx hb dX8_measure_99 (by decide) ?_
          refine lv_iload hx hb dX8_measure_100 (lv_at hl 0 rfl) ?_
          refine lv_ishl hx hb dX8_measure_102 ?_
          refine lv_ior hx hb dX8_measure_103 ?_
          refine x_callVi (As := [.int ((v4 &&& (((1 : Int32) <<< (v5 &&& 31)) ^^^ ((-1) : Int32))) ||| ((1 : Int32) <<< (r2 &&& 31)))]) ⟨hx, hb, hml, hown, hts⟩ hK S (ct_X8_rankOf l D cy ad B _ _ _ h) ro_0 rfl (cwV 1 hts gX8_measure_X8_rankOf rfl rfl rfl (by decide +kernel) ⟨Nat.le_of_ble_eq_true rfl, Nat.le_of_ble_eq_true rfl⟩) rfl hl.1 rfl (Nat.le_of_ble_eq_true rfl) dX8_measure_104 ⟨Nat.zero_le _, Nat.zero_le _⟩ (fun r3 M3 H locs h S => ?_)
          refine lv_istore (lv' := [(7, .int r3), (6, .int r2), (0, .ref (ad 0)), (2, .int v2), (3, .int v3), (4, .int v4), (5, .int v5)]) hx hb dX8_measure_107 hl (by decide) rfl (fun ls hl => ?_)
          refine lv_aload_n hx hb dX8_measure_109 rfl (lv_at hl 2 rfl) ?_
          refine x_getR hx hb hts (hC8) hown hK S 31 (by decide) rf_0_31 (index := 65) (hts _ (List.mem_of_getElem? (i := 2) rfl)) dX8_measure_110 ?_
          refine lv_iload hx hb dX8_measure_113 (lv_at hl 0 rfl) ?_
          refine x_iald hx hb hK S ra_19 h.1 dX8_measure_115 ?_
          replace h := h.2
          refine lv_bipush (v := (-9)) hx hb dX8_measure_116 (by decide) ?_
          refine lv_icmp_ne (tgt := 152) hx hb dX8_measure_118 (by decide) (fun c118 => ?_) (fun c118 => ?_)
          · replace h := h.1 c118
            exact hJ _ _ _ _ _ _ _ _ h _ _ _ S (lv_sub hl [2, 3, 4, 5, 6] rfl)
          · replace h := h.2 c118
            refine lv_aload_n hx hb dX8_measure_121 rfl (lv_at hl 2 rfl) ?_
            refine x_getR hx hb hts (hC8) hown hK S 31 (by decide) rf_0_31 (index := 65) (hts _ (List.mem_of_getElem? (i := 2) rfl)) dX8_measure_122 ?_
            refine lv_iload hx hb dX8_measure_125 (lv_at hl 0 rfl) ?_
            refine lv_aload_n hx hb dX8_measure_127 rfl (lv_at hl 2 rfl) ?_
            refine x_getR hx hb hts (hC8) hown hK S 31 (by decide) rf_0_31 (index := 65) (hts _ (List.mem_of_getElem? (i := 2) rfl)) dX8_measure_128 ?_
            refine lv_aload_n hx hb dX8_measure_131 rfl (lv_at hl 2 rfl) ?_
            refine x_getR hx hb hts (hC8) hown hK S 32 (by decide) rf_0_32 (index := 68) (hts _ (List.mem_of_getElem? (i := 3) rfl)) dX8_measure_132 ?_
            refine lv_iload_n hx hb dX8_measure_135 rfl (lv_at hl 4 rfl) ?_
            refine x_iald hx hb hK S ra_20 h.1 dX8_measure_136 ?_
            replace h := h.2
            refine x_iald hx hb hK S ra_19 h.1 dX8_measure_137 ?_
            replace h := h.2
            refine lv_iconst (v := 1) hx hb dX8_measure_138 (by decide) ?_
            refine lv_iadd hx hb dX8_measure_139 ?_
            refine x_iast hx hb hK S ra_19 h.1 dX8_measure_140 (fun H locs S => ?_)
            replace h := h.2
            refine lv_aload_n hx hb dX8_measure_141 rfl (lv_at hl 2 rfl) ?_
            refine x_getR hx hb hts (hC8) hown hK S 32 (by decide) rf_0_32 (index := 68) (hts _ (List.mem_of_getElem? (i := 3) rfl)) dX8_measure_142 ?_
            refine lv_iload_n hx hb dX8_measure_145 rfl (lv_at hl 3 rfl) ?_
            refine lv_iload hx hb dX8_measure_146 (lv_at hl 0 rfl) ?_
            refine x_iast hx hb hK S ra_20 h.1 dX8_measure_148 (fun H locs S => ?_)
            replace h := h.2
            refine lv_iinc (v := (v2 + 1)) (lv' := [(2, .int (v2 + 1)), (7, .int r3), (6, .int r2), (0, .ref (ad 0)), (3, .int v3), (4, .int v4), (5, .int v5)]) hx hb dX8_measure_149 hl (k := 3) rfl rfl (by decide) rfl (fun ls hl => ?_)
            exact hJ _ _ _ _ _ _ _ _ h _ _ _ S (lv_sub hl [3, 0, 4, 5, 6] rfl)
    | 4, h, hl =>
      have hl : lv_has ls 8 [(0, .ref (ad 0)), (2, .int v2), (3, .int v3), (4, .int v4), (5, .int v5)] := hl
      have h : blk_X8_measure_4 v1 Q P v2 v3 v4 v5 v6 v7 M := h
      unfold blk_X8_measure_4 at h
      refine W.eq (g2 := F0 m 152 ls []) rfl ?_
      refine lv_iinc (v := (v5 + 1)) (lv' := [(5, .int (v5 + 1)), (0, .ref (ad 0)), (2, .int v2), (3, .int v3), (4, .int v4)]) hx hb dX8_measure_152 hl (k := 4) rfl rfl (by decide) rfl (fun ls hl => ?_)
      refine lv_goto (tgt := 63) hx hb dX8_measure_155 (by decide) ?_
      exact hJ _ _ _ _ _ _ _ _ h _ _ _ S (lv_sub hl [1, 2, 3, 4, 0] rfl)
    | _ + 5, h, hl => exact h.elim
  have hl := lv_entry ([.ref (ad 0), .int v1]) (n := 8) (Nat.le_of_ble_eq_true rfl)
  subst hargs
  rw [lg_entry_eq]
  generalize (lg_sl ([.ref (ad 0), .int v1]) ++ List.replicate (8 - (lg_sl ([.ref (ad 0), .int v1])).length) Slot.unset).toArray = ls at hl ⊢
  exact h _ (key _ (fun _ _ _ _ _ _ _ _ h => h)) s.heap [] ls ⟨hP, hD, va_S.rf⟩ hl
