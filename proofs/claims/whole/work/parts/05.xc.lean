/-! X4_isBetween -/
def wp_X4_isBetween (v1 : Int32) (v2 : Int32) (v3 : Int32) (M : Mem) (Q : Int32 → Mem → Prop) : Prop :=
  (vp_in v2 8 ∧ (vp_in v1 8 ∧ (vp_in v3 8 ∧ (vp_in v1 8 ∧ (vp_in v2 8 ∧ (vp_in v1 8 ∧ (vp_in v3 8 ∧ (vp_in v1 8 ∧ ∀ x4_1 : Int32, x4_1 = ((((M.1 15 v2.toNatClampNeg) - (M.1 15 v1.toNatClampNeg)) * ((M.1 15 v3.toNatClampNeg) - (M.1 15 v1.toNatClampNeg))) + (((M.1 16 v2.toNatClampNeg) - (M.1 16 v1.toNatClampNeg)) * ((M.1 16 v3.toNatClampNeg) - (M.1 16 v1.toNatClampNeg)))) → wp_X4_side v2 v3 v1 M (fun r2 M2 => ((¬ r2 = 0 → Q 0 M2) ∧ (r2 = 0 → ((0 ≤ x4_1 → Q 0 M2) ∧ (¬ 0 ≤ x4_1 → Q 1 M2)))))))))))))
theorem wp_X4_isBetween_mono {v1 : Int32} {v2 : Int32} {v3 : Int32} {M : Mem} {Q Q' : Int32 → Mem → Prop} (hQ : ∀ (r : Int32) (M : Mem), Q r M → Q' r M) (h : wp_X4_isBetween v1 v2 v3 M Q) : wp_X4_isBetween v1 v2 v3 M Q' := by
  unfold wp_X4_isBetween at h ⊢
  exact ⟨h.1, let h := h.2; ⟨h.1, let h := h.2; ⟨h.1, let h := h.2; ⟨h.1, let h := h.2; ⟨h.1, let h := h.2; ⟨h.1, let h := h.2; ⟨h.1, let h := h.2; ⟨h.1, let h := h.2; fun x4_1 ex4_1 => let h := h x4_1 ex4_1; wp_X4_side_mono (fun r2 M2 h => ⟨fun c => let h := h.1 c; hQ _ _ h, fun c => let h := h.2 c; ⟨fun c => let h := h.1 c; hQ _ _ h, fun c => let h := h.2 c; hQ _ _ h⟩⟩) h⟩⟩⟩⟩⟩⟩⟩⟩
abbrev rm_X4_isBetween : Jvm.Room := { frames := 2, cells := 0, slots := 0, locals := 40 }
set_option maxHeartbeats 4000000 in
set_option maxRecDepth 100000 in
theorem ct_X4_isBetween (l : Launch) (D : va_G) (cy : Nat → ClassId) (ad : Nat → Nat) (B : Nat → Prop) (v1 : Int32) (v2 : Int32) (v3 : Int32) (M : Mem) (Q : Int32 → Mem → Prop) (h : wp_X4_isBetween v1 v2 v3 M Q) : CTi l D cy (wX ad cy) B yX4_isBetween wsX4_isBetween rm_X4_isBetween [.ref (ad 14), .int v1, .int v2, .int v3] M Q := by
  intro sz
  refine Met.ofW (cc := cX4_isBetween) (maxL := 5) (ret := some .boolean) (by decide) rfl ?_
  intro p e s m args below meth c s₁ Bd hml hv
  obtain ⟨hargs, hsz, hP, hK, hD⟩ := hv
  subst hsz
  have hx := Bd.exec
  have hb := Bd.bytes
  have hr := Bd.returns
  have hts := atoms_spec (ws := wsX4_isBetween) Bd.pre
  have hown : s.vm.findClass RX4 = some m.cls := findClass_of_methodNamed Bd.named
  have hlocks := Bd.notSynchronized
  have hC4 : xC wsX4_isBetween 4 RX4 TX4 3 := ⟨by decide +kernel, rfl⟩
  have hl := lv_entry ([.ref (ad 14), .int v1, .int v2, .int v3]) (n := 5) (Nat.le_of_ble_eq_true rfl)
  subst hargs
  rw [lg_entry_eq]
  generalize (lg_sl ([.ref (ad 14), .int v1, .int v2, .int v3]) ++ List.replicate (5 - (lg_sl ([.ref (ad 14), .int v1, .int v2, .int v3])).length) Slot.unset).toArray = ls at hl ⊢
  have hl : lv_has ls 5 [(0, .ref (ad 14)), (1, .int v1), (2, .int v2), (3, .int v3)] := hl
  have S : xS D (wX ad cy) B s.heap s.heap [] M := ⟨hP, hD, va_S.rf⟩
  unfold wp_X4_isBetween at h
  refine lv_aload_n hx hb dX4_isBetween_0 rfl (lv_at hl 0 rfl) ?_
  refine x_getR hx hb hts (hC4) hown hK S 0 (by decide) xf_14_0 (index := 9) (hts _ (List.mem_of_getElem? (i := 1) rfl)) dX4_isBetween_1 ?_
  refine lv_iload_n hx hb dX4_isBetween_4 rfl (lv_at hl 2 rfl) ?_
  refine x_iald hx hb hK S xa_15 h.1 dX4_isBetween_5 ?_
  replace h := h.2
  refine lv_aload_n hx hb dX4_isBetween_6 rfl (lv_at hl 0 rfl) ?_
  refine x_getR hx hb hts (hC4) hown hK S 0 (by decide) xf_14_0 (index := 9) (hts _ (List.mem_of_getElem? (i := 1) rfl)) dX4_isBetween_7 ?_
  refine lv_iload_n hx hb dX4_isBetween_10 rfl (lv_at hl 1 rfl) ?_
  refine x_iald hx hb hK S xa_15 h.1 dX4_isBetween_11 ?_
  replace h := h.2
  refine lv_isub hx hb dX4_isBetween_12 ?_
  refine lv_aload_n hx hb dX4_isBetween_13 rfl (lv_at hl 0 rfl) ?_
  refine x_getR hx hb hts (hC4) hown hK S 0 (by decide) xf_14_0 (index := 9) (hts _ (List.mem_of_getElem? (i := 1) rfl)) dX4_isBetween_14 ?_
  refine lv_iload_n hx hb dX4_isBetween_17 rfl (lv_at hl 3 rfl) ?_
  refine x_iald hx hb hK S xa_15 h.1 dX4_isBetween_18 ?_
  replace h := h.2
  refine lv_aload_n hx hb dX4_isBetween_19 rfl (lv_at hl 0 rfl) ?_
  refine x_getR hx hb hts (hC4) hown hK S 0 (by decide) xf_14_0 (index := 9) (hts _ (List.mem_of_getElem? (i := 1) rfl)) dX4_isBetween_20 ?_
  refine lv_iload_n hx hb dX4_isBetween_23 rfl (lv_at hl 1 rfl) ?_
  refine x_iald hx hb hK S xa_15 h.1 dX4_isBetween_24 ?_
  replace h := h.2
  refine lv_isub hx hb dX4_isBetween_25 ?_
  refine lv_imul hx hb dX4_isBetween_26 ?_
  refine lv_aload_n hx hb dX4_isBetween_27 rfl (lv_at hl 0 rfl) ?_
  refine x_getR hx hb hts (hC4) hown hK S 1 (by decide) xf_14_1 (index := 15) (hts _ (List.mem_of_getElem? (i := 2) rfl)) dX4_isBetween_28 ?_
  refine lv_iload_n hx hb dX4_isBetween_31 rfl (lv_at hl 2 rfl) ?_
  refine x_iald hx hb hK S xa_16 h.1 dX4_isBetween_32 ?_
  replace h := h.2
  refine lv_aload_n hx hb dX4_isBetween_33 rfl (lv_at hl 0 rfl) ?_
  refine x_getR hx hb hts (hC4) hown hK S 1 (by decide) xf_14_1 (index := 15) (hts _ (List.mem_of_getElem? (i := 2) rfl)) dX4_isBetween_34 ?_
  refine lv_iload_n hx hb dX4_isBetween_37 rfl (lv_at hl 1 rfl) ?_
  refine x_iald hx hb hK S xa_16 h.1 dX4_isBetween_38 ?_
  replace h := h.2
  refine lv_isub hx hb dX4_isBetween_39 ?_
  refine lv_aload_n hx hb dX4_isBetween_40 rfl (lv_at hl 0 rfl) ?_
  refine x_getR hx hb hts (hC4) hown hK S 1 (by decide) xf_14_1 (index := 15) (hts _ (List.mem_of_getElem? (i := 2) rfl)) dX4_isBetween_41 ?_
  refine lv_iload_n hx hb dX4_isBetween_44 rfl (lv_at hl 3 rfl) ?_
  refine x_iald hx hb hK S xa_16 h.1 dX4_isBetween_45 ?_
  replace h := h.2
  refine lv_aload_n hx hb dX4_isBetween_46 rfl (lv_at hl 0 rfl) ?_
  refine x_getR hx hb hts (hC4) hown hK S 1 (by decide) xf_14_1 (index := 15) (hts _ (List.mem_of_getElem? (i := 2) rfl)) dX4_isBetween_47 ?_
  refine lv_iload_n hx hb dX4_isBetween_50 rfl (lv_at hl 1 rfl) ?_
  refine x_iald hx hb hK S xa_16 h.1 dX4_isBetween_51 ?_
  replace h := h.2
  refine lv_isub hx hb dX4_isBetween_52 ?_
  refine lv_imul hx hb dX4_isBetween_53 ?_
  refine lv_iadd hx hb dX4_isBetween_54 ?_
  refine lv_topi (fun x4_1 ex4_1 => ?_)
  replace h := h x4_1 ex4_1
  refine lv_istore (lv' := [(4, .int x4_1), (0, .ref (ad 14)), (1, .int v1), (2, .int v2), (3, .int v3)]) hx hb dX4_isBetween_55 hl (by decide) rfl (fun ls hl => ?_)
  refine lv_aload_n hx hb dX4_isBetween_57 rfl (lv_at hl 1 rfl) ?_
  refine lv_iload_n hx hb dX4_isBetween_58 rfl (lv_at hl 3 rfl) ?_
  refine lv_iload_n hx hb dX4_isBetween_59 rfl (lv_at hl 4 rfl) ?_
  refine lv_iload_n hx hb dX4_isBetween_60 rfl (lv_at hl 2 rfl) ?_
  refine x_callVi (As := [.int v2, .int v3, .int v1]) ⟨hx, hb, hml, hown, hts⟩ hK S (ct_X4_side l D cy ad B _ _ _ _ _ h) xo_14 rfl (cwV 3 hts gX4_isBetween_X4_side rfl rfl rfl (by decide +kernel) ⟨Nat.le_of_ble_eq_true rfl, Nat.le_of_ble_eq_true rfl⟩) rfl hl.1 rfl (Nat.le_of_ble_eq_true rfl) dX4_isBetween_61 ⟨Nat.zero_le _, Nat.zero_le _⟩ (fun r2 M2 H locs h S => ?_)
  refine lv_if_ne (tgt := 76) hx hb dX4_isBetween_64 (by decide) (fun c64 => ?_) (fun c64 => ?_)
  · replace h := h.1 c64
    refine lv_iconst (v := 0) hx hb dX4_isBetween_76 (by decide) ?_
    exact x_iret hx hb hr hlocks S rfl h dX4_isBetween_77
  · replace h := h.2 c64
    refine lv_iload hx hb dX4_isBetween_67 (lv_at hl 0 rfl) ?_
    refine lv_if_ge (tgt := 76) hx hb dX4_isBetween_69 (by decide) (fun c69 => ?_) (fun c69 => ?_)
    · replace h := h.1 c69
      refine lv_iconst (v := 0) hx hb dX4_isBetween_76 (by decide) ?_
      exact x_iret hx hb hr hlocks S rfl h dX4_isBetween_77
    · replace h := h.2 c69
      refine lv_iconst (v := 1) hx hb dX4_isBetween_72 (by decide) ?_
      refine lv_goto (tgt := 77) hx hb dX4_isBetween_73 (by decide) ?_
      exact x_iret hx hb hr hlocks S rfl h dX4_isBetween_77
/-! X2_isOpen -/
def blk_X2_isOpen_0 (v1 : Int32) (v2 : Int32) (Q : Int32 → Mem → Prop) (P : Nat → Int32 → Mem → Prop) (v3 : Int32) (M : Mem) : Prop :=
  P 1 0 M
theorem blk_X2_isOpen_0_mono {v1 : Int32} {v2 : Int32} {Q Q' : Int32 → Mem → Prop} {P P' : Nat → Int32 → Mem → Prop} (hQ : ∀ (r : Int32) (M : Mem), Q r M → Q' r M) (hP : ∀ (lab : Nat) (v3 : Int32) (M : Mem), P lab v3 M → P' lab v3 M) (v3 : Int32) (M : Mem) (h : blk_X2_isOpen_0 v1 v2 Q P v3 M) : blk_X2_isOpen_0 v1 v2 Q' P' v3 M := by
  unfold blk_X2_isOpen_0 at h ⊢
  exact hP _ _ _ h
def blk_X2_isOpen_1 (v1 : Int32) (v2 : Int32) (Q : Int32 → Mem → Prop) (P : Nat → Int32 → Mem → Prop) (v3 : Int32) (M : Mem) : Prop :=
  (((M.1 14 2) ≤ v3 → Q 1 M) ∧ (¬ (M.1 14 2) ≤ v3 → wp_X4_isBetween v3 v1 v2 M (fun r1 M1 => ((r1 = 0 → P 1 (v3 + 1) M1) ∧ (¬ r1 = 0 → Q 0 M1)))))
theorem blk_X2_isOpen_1_mono {v1 : Int32} {v2 : Int32} {Q Q' : Int32 → Mem → Prop} {P P' : Nat → Int32 → Mem → Prop} (hQ : ∀ (r : Int32) (M : Mem), Q r M → Q' r M) (hP : ∀ (lab : Nat) (v3 : Int32) (M : Mem), P lab v3 M → P' lab v3 M) (v3 : Int32) (M : Mem) (h : blk_X2_isOpen_1 v1 v2 Q P v3 M) : blk_X2_isOpen_1 v1 v2 Q' P' v3 M := by
  unfold blk_X2_isOpen_1 at h ⊢
  exact ⟨fun c => let h := h.1 c; hQ _ _ h, fun c => let h := h.2 c; wp_X4_isBetween_mono (fun r1 M1 h => ⟨fun c => let h := h.1 c; hP _ _ _ h, fun c => let h := h.2 c; hQ _ _ h⟩) h⟩
def blk_X2_isOpen (v1 : Int32) (v2 : Int32) (Q : Int32 → Mem → Prop) (P : Nat → Int32 → Mem → Prop) : Nat → Int32 → Mem → Prop := fun lab v3 M => match lab with
  | 0 => blk_X2_isOpen_0 v1 v2 Q P v3 M
  | 1 => blk_X2_isOpen_1 v1 v2 Q P v3 M
  | _ => False
theorem blk_X2_isOpen_mono {v1 : Int32} {v2 : Int32} {Q Q' : Int32 → Mem → Prop} {P P' : Nat → Int32 → Mem → Prop} (hQ : ∀ (r : Int32) (M : Mem), Q r M → Q' r M) (hP : ∀ (lab : Nat) (v3 : Int32) (M : Mem), P lab v3 M → P' lab v3 M) : ∀ (lab : Nat) (v3 : Int32) (M : Mem), blk_X2_isOpen v1 v2 Q P lab v3 M → blk_X2_isOpen v1 v2 Q' P' lab v3 M := fun lab v3 M h => match lab, h with
  | 0, h => blk_X2_isOpen_0_mono (v1 := v1) (v2 := v2) hQ hP v3 M h
  | 1, h => blk_X2_isOpen_1_mono (v1 := v1) (v2 := v2) hQ hP v3 M h
  | _ + 2, h => False.elim h
def at_X2_isOpen (v1 : Int32) (v2 : Int32) (Q : Int32 → Mem → Prop) : Nat → Int32 → Mem → Prop := fun lab v3 M => ∀ P : Nat → Int32 → Mem → Prop, (∀ (lab : Nat) (v3 : Int32) (M : Mem), blk_X2_isOpen v1 v2 Q P lab v3 M → P lab v3 M) → P lab v3 M
theorem at_X2_isOpen_fold {v1 : Int32} {v2 : Int32} {Q : Int32 → Mem → Prop} {lab : Nat} {v3 : Int32} {M : Mem} (h : blk_X2_isOpen v1 v2 Q (at_X2_isOpen v1 v2 Q) lab v3 M) : at_X2_isOpen v1 v2 Q lab v3 M := fun P hP => hP _ _ _ (blk_X2_isOpen_mono (fun _ _ h => h) (fun _ _ _ h => h P hP) _ _ _ h)
theorem at_X2_isOpen_mono {v1 : Int32} {v2 : Int32} {Q Q' : Int32 → Mem → Prop} (hQ : ∀ (r : Int32) (M : Mem), Q r M → Q' r M) {lab : Nat} {v3 : Int32} {M : Mem} (h : at_X2_isOpen v1 v2 Q lab v3 M) : at_X2_isOpen v1 v2 Q' lab v3 M := fun P hP => h P (fun lab v3 M hb => hP _ _ _ (blk_X2_isOpen_mono hQ (fun _ _ _ h => h) _ _ _ hb))
def wp_X2_isOpen (v1 : Int32) (v2 : Int32) (M : Mem) (Q : Int32 → Mem → Prop) : Prop := at_X2_isOpen v1 v2 Q 0 0 M
theorem wp_X2_isOpen_mono {v1 : Int32} {v2 : Int32} {M : Mem} {Q Q' : Int32 → Mem → Prop} (hQ : ∀ (r : Int32) (M : Mem), Q r M → Q' r M) (h : wp_X2_isOpen v1 v2 M Q) : wp_X2_isOpen v1 v2 M Q' := at_X2_isOpen_mono hQ h
def pcl_X2_isOpen : Nat → Nat := fun lab => match lab with
  | 0 => 0
  | 1 => 2
  | _ => 0
def lvl_X2_isOpen (ad : Nat → Nat) (v1 : Int32) (v2 : Int32) : Nat → Int32 → List (Nat × Value) := fun lab v3 => match lab with
  | 0 => [(0, .ref (ad 13)), (1, .int v1), (2, .int v2)]
  | 1 => [(0, .ref (ad 13)), (1, .int v1), (2, .int v2), (3, .int v3)]
  | _ => []
abbrev rm_X2_isOpen : Jvm.Room := { frames := 3, cells := 0, slots := 0, locals := 64 }
set_option maxHeartbeats 4000000 in
set_option maxRecDepth 100000 in
theorem ct_X2_isOpen (l : Launch) (D : va_G) (cy : Nat → ClassId) (ad : Nat → Nat) (B : Nat → Prop) (v1 : Int32) (v2 : Int32) (M : Mem) (Q : Int32 → Mem → Prop) (h : wp_X2_isOpen v1 v2 M Q) : CTi l D cy (wX ad cy) B yX2_isOpen wsX2_isOpen rm_X2_isOpen [.ref (ad 13), .int v1, .int v2] M Q := by
  intro sz
  refine Met.ofW (cc := cX2_isOpen) (maxL := 4) (ret := some .boolean) (by decide) rfl ?_
  intro p e s m args below meth c s₁ Bd hml hv
  obtain ⟨hargs, hsz, hP, hK, hD⟩ := hv
  subst hsz
  have hx := Bd.exec
  have hb := Bd.bytes
  have hr := Bd.returns
  have hts := atoms_spec (ws := wsX2_isOpen) Bd.pre
  have hown : s.vm.findClass RX2 = some m.cls := findClass_of_methodNamed Bd.named
  have hlocks := Bd.notSynchronized
  have hC2 : xC wsX2_isOpen 2 RX2 TX2 8 := ⟨by decide +kernel, rfl⟩
  have hC4 : xC wsX2_isOpen 4 RX4 TX4 3 := ⟨by decide +kernel, rfl⟩
  have key : ∀ (P : Nat → Int32 → Mem → Prop), (∀ (lab : Nat) (v3 : Int32) (M : Mem), P lab v3 M → ∀ (H : Heap) (locs : List Loc) (ls : Array Slot), xS D (wX ad cy) B s.heap H locs M → lv_has ls 4 (lvl_X2_isOpen ad v1 v2 lab v3 ) → W p l e (headSpec wsX2_isOpen rm_X2_isOpen).room s m args below meth c H locs 0 0 (MQ below (va_Qi (S := Mem) Q (xB D (wX ad cy) B) (xA B s.heap.size)) args s 0 0 (xA B s.heap.size)) (F0 m (pcl_X2_isOpen lab) ls [])) → ∀ (lab : Nat) (v3 : Int32) (M : Mem), blk_X2_isOpen v1 v2 Q P lab v3 M → ∀ (H : Heap) (locs : List Loc) (ls : Array Slot), xS D (wX ad cy) B s.heap H locs M → lv_has ls 4 (lvl_X2_isOpen ad v1 v2 lab v3 ) → W p l e (headSpec wsX2_isOpen rm_X2_isOpen).room s m args below meth c H locs 0 0 (MQ below (va_Qi (S := Mem) Q (xB D (wX ad cy) B) (xA B s.heap.size)) args s 0 0 (xA B s.heap.size)) (F0 m (pcl_X2_isOpen lab) ls []) := by
    intro P hJ lab v3 M h H locs ls S hl
    match lab, h, hl with
    | 0, h, hl =>
      have hl : lv_has ls 4 [(0, .ref (ad 13)), (1, .int v1), (2, .int v2)] := hl
      have h : blk_X2_isOpen_0 v1 v2 Q P v3 M := h
      unfold blk_X2_isOpen_0 at h
      refine W.eq (g2 := F0 m 0 ls []) rfl ?_
      refine lv_iconst (v := 0) hx hb dX2_isOpen_0 (by decide) ?_
      refine lv_istore_n (lv' := [(3, .int 0), (0, .ref (ad 13)), (1, .int v1), (2, .int v2)]) hx hb dX2_isOpen_1 rfl hl (by decide) rfl (fun ls hl => ?_)
      exact hJ _ _ _ h _ _ _ S (lv_sub hl [1, 2, 3, 0] rfl)
    | 1, h, hl =>
      have hl : lv_has ls 4 [(0, .ref (ad 13)), (1, .int v1), (2, .int v2), (3, .int v3)] := hl
      have h : blk_X2_isOpen_1 v1 v2 Q P v3 M := h
      unfold blk_X2_isOpen_1 at h
      refine W.eq (g2 := F0 m 2 ls []) rfl ?_
      refine lv_iload_n hx hb dX2_isOpen_2 rfl (lv_at hl 3 rfl) ?_
      refine lv_aload_n hx hb dX2_isOpen_3 rfl (lv_at hl 0 rfl) ?_
      refine x_getR hx hb hts (hC2) hown hK S 0 (by decide) xf_13_0 (index := 12) (hts _ (List.mem_of_getElem? (i := 1) rfl)) dX2_isOpen_4 ?_
      refine x_getI hx hb hts (hC4) hown hK S 2 (by decide) xf_14_2 (index := 50) (hts _ (List.mem_of_getElem? (i := 2) rfl)) dX2_isOpen_7 ?_
      refine lv_icmp_ge (tgt := 34) hx hb dX2_isOpen_10 (by decide) (fun c10 => ?_) (fun c10 => ?_)
      · replace h := h.1 c10
        refine lv_iconst (v := 1) hx hb dX2_isOpen_34 (by decide) ?_
        exact x_iret hx hb hr hlocks S rfl h dX2_isOpen_35
      · replace h := h.2 c10
        refine lv_aload_n hx hb dX2_isOpen_13 rfl (lv_at hl 0 rfl) ?_
        refine x_getR hx hb hts (hC2) hown hK S 0 (by decide) xf_13_0 (index := 12) (hts _ (List.mem_of_getElem? (i := 1) rfl)) dX2_isOpen_14 ?_
        refine lv_iload_n hx hb dX2_isOpen_17 rfl (lv_at hl 3 rfl) ?_
        refine lv_iload_n hx hb dX2_isOpen_18 rfl (lv_at hl 1 rfl) ?_
        refine lv_iload_n hx hb dX2_isOpen_19 rfl (lv_at hl 2 rfl) ?_
        refine x_callVi (As := [.int v3, .int v1, .int v2]) ⟨hx, hb, hml, hown, hts⟩ hK S (ct_X4_isBetween l D cy ad B _ _ _ _ _ h) xo_14 rfl (cwV 3 hts gX2_isOpen_X4_isBetween rfl rfl rfl (by decide +kernel) ⟨Nat.le_of_ble_eq_true rfl, Nat.le_of_ble_eq_true rfl⟩) rfl hl.1 rfl (Nat.le_of_ble_eq_true rfl) dX2_isOpen_20 ⟨Nat.zero_le _, Nat.zero_le _⟩ (fun r1 M1 H locs h S => ?_)
        refine lv_if_eq (tgt := 28) hx hb dX2_isOpen_23 (by decide) (fun c23 => ?_) (fun c23 => ?_)
        · replace h := h.1 c23
          refine lv_iinc (v := (v3 + 1)) (lv' := [(3, .int (v3 + 1)), (0, .ref (ad 13)), (1, .int v1), (2, .int v2)]) hx hb dX2_isOpen_28 hl (k := 3) rfl rfl (by decide) rfl (fun ls hl => ?_)
          refine lv_goto (tgt := 2) hx hb dX2_isOpen_31 (by decide) ?_
          exact hJ _ _ _ h _ _ _ S (lv_sub hl [1, 2, 3, 0] rfl)
        · replace h := h.2 c23
          refine lv_iconst (v := 0) hx hb dX2_isOpen_26 (by decide) ?_
          exact x_iret hx hb hr hlocks S rfl h dX2_isOpen_27
    | _ + 2, h, hl => exact h.elim
  have hl := lv_entry ([.ref (ad 13), .int v1, .int v2]) (n := 4) (Nat.le_of_ble_eq_true rfl)
  subst hargs
  rw [lg_entry_eq]
  generalize (lg_sl ([.ref (ad 13), .int v1, .int v2]) ++ List.replicate (4 - (lg_sl ([.ref (ad 13), .int v1, .int v2])).length) Slot.unset).toArray = ls at hl ⊢
  exact h _ (key _ (fun _ _ _ h => h)) s.heap [] ls ⟨hP, hD, va_S.rf⟩ hl
/-! X2_addFence -/
def wp_X2_addFence (v1 : Int32) (v2 : Int32) (M : Mem) (Q : Int32 → Mem → Prop) : Prop :=
  (vp_in (M.1 13 4) 28 ∧ (vp_in ((upI M 17 (M.1 13 4).toNatClampNeg v1).1 13 4) 28 ∧ Q (((upI (upI (upI M 17 (M.1 13 4).toNatClampNeg v1) 18 ((upI M 17 (M.1 13 4).toNatClampNeg v1).1 13 4).toNatClampNeg v2) 13 4 (((upI (upI M 17 (M.1 13 4).toNatClampNeg v1) 18 ((upI M 17 (M.1 13 4).toNatClampNeg v1).1 13 4).toNatClampNeg v2).1 13 4) + 1)).1 13 4) - 1) (upI (upI (upI M 17 (M.1 13 4).toNatClampNeg v1) 18 ((upI M 17 (M.1 13 4).toNatClampNeg v1).1 13 4).toNatClampNeg v2) 13 4 (((upI (upI M 17 (M.1 13 4).toNatClampNeg v1) 18 ((upI M 17 (M.1 13 4).toNatClampNeg v1).1 13 4).toNatClampNeg v2).1 13 4) + 1))))
theorem wp_X2_addFence_mono {v1 : Int32} {v2 : Int32} {M : Mem} {Q Q' : Int32 → Mem → Prop} (hQ : ∀ (r : Int32) (M : Mem), Q r M → Q' r M) (h : wp_X2_addFence v1 v2 M Q) : wp_X2_addFence v1 v2 M Q' := by
  unfold wp_X2_addFence at h ⊢
  exact ⟨h.1, let h := h.2; ⟨h.1, let h := h.2; hQ _ _ h⟩⟩
abbrev rm_X2_addFence : Jvm.Room := { frames := 1, cells := 0, slots := 0, locals := 14 }
set_option maxHeartbeats 4000000 in
set_option maxRecDepth 100000 in
theorem ct_X2_addFence (l : Launch) (D : va_G) (cy : Nat → ClassId) (ad : Nat → Nat) (B : Nat → Prop) (v1 : Int32) (v2 : Int32) (M : Mem) (Q : Int32 → Mem → Prop) (h : wp_X2_addFence v1 v2 M Q) : CTi l D cy (wX ad cy) B yX2_addFence wsX2_addFence rm_X2_addFence [.ref (ad 13), .int v1, .int v2] M Q := by
  intro sz
  refine Met.ofW (cc := cX2_addFence) (maxL := 3) (ret := some .int) (by decide) rfl ?_
  intro p e s m args below meth c s₁ Bd hml hv
  obtain ⟨hargs, hsz, hP, hK, hD⟩ := hv
  subst hsz
  have hx := Bd.exec
  have hb := Bd.bytes
  have hr := Bd.returns
  have hts := atoms_spec (ws := wsX2_addFence) Bd.pre
  have hown : s.vm.findClass RX2 = some m.cls := findClass_of_methodNamed Bd.named
  have hlocks := Bd.notSynchronized
  have hC2 : xC wsX2_addFence 2 RX2 TX2 8 := ⟨by decide +kernel, rfl⟩
  have hl := lv_entry ([.ref (ad 13), .int v1, .int v2]) (n := 3) (Nat.le_of_ble_eq_true rfl)
  subst hargs
  rw [lg_entry_eq]
  generalize (lg_sl ([.ref (ad 13), .int v1, .int v2]) ++ List.replicate (3 - (lg_sl ([.ref (ad 13), .int v1, .int v2])).length) Slot.unset).toArray = ls at hl ⊢
  have hl : lv_has ls 3 [(0, .ref (ad 13)), (1, .int v1), (2, .int v2)] := hl
  have S : xS D (wX ad cy) B s.heap s.heap [] M := ⟨hP, hD, va_S.rf⟩
  unfold wp_X2_addFence at h
  refine lv_aload_n hx hb dX2_addFence_0 rfl (lv_at hl 0 rfl) ?_
  refine x_getR hx hb hts (hC2) hown hK S 1 (by decide) xf_13_1 (index := 18) (hts _ (List.mem_of_getElem? (i := 1) rfl)) dX2_addFence_1 ?_
  refine lv_aload_n hx hb dX2_addFence_4 rfl (lv_at hl 0 rfl) ?_
  refine x_getI hx hb hts (hC2) hown hK S 4 (by decide) xf_13_4 (index := 54) (hts _ (List.mem_of_getElem? (i := 2) rfl)) dX2_addFence_5 ?_
  refine lv_iload_n hx hb dX2_addFence_8 rfl (lv_at hl 1 rfl) ?_
  refine x_iast hx hb hK S xa_17 h.1 dX2_addFence_9 (fun H locs S => ?_)
  replace h := h.2
  refine lv_aload_n hx hb dX2_addFence_10 rfl (lv_at hl 0 rfl) ?_
  refine x_getR hx hb hts (hC2) hown hK S 2 (by decide) xf_13_2 (index := 22) (hts _ (List.mem_of_getElem? (i := 3) rfl)) dX2_addFence_11 ?_
  refine lv_aload_n hx hb dX2_addFence_14 rfl (lv_at hl 0 rfl) ?_
  refine x_getI hx hb hts (hC2) hown hK S 4 (by decide) xf_13_4 (index := 54) (hts _ (List.mem_of_getElem? (i := 2) rfl)) dX2_addFence_15 ?_
  refine lv_iload_n hx hb dX2_addFence_18 rfl (lv_at hl 2 rfl) ?_
  refine x_iast hx hb hK S xa_18 h.1 dX2_addFence_19 (fun H locs S => ?_)
  replace h := h.2
  refine lv_aload_n hx hb dX2_addFence_20 rfl (lv_at hl 0 rfl) ?_
  refine lv_dup hx hb dX2_addFence_21 rfl ?_
  refine x_getI hx hb hts (hC2) hown hK S 4 (by decide) xf_13_4 (index := 54) (hts _ (List.mem_of_getElem? (i := 2) rfl)) dX2_addFence_22 ?_
  refine lv_iconst (v := 1) hx hb dX2_addFence_25 (by decide) ?_
  refine lv_iadd hx hb dX2_addFence_26 ?_
  refine x_putI hx hb hts (hC2) tyX2 tyX2_ok nmX2 hown hK S 4 (by decide) xf_13_4 (index := 54) (hts _ (List.mem_of_getElem? (i := 2) rfl)) rfl rfl rfl dX2_addFence_27 (fun H locs S => ?_)
  refine lv_aload_n hx hb dX2_addFence_30 rfl (lv_at hl 0 rfl) ?_
  refine x_getI hx hb hts (hC2) hown hK S 4 (by decide) xf_13_4 (index := 54) (hts _ (List.mem_of_getElem? (i := 2) rfl)) dX2_addFence_31 ?_
  refine lv_iconst (v := 1) hx hb dX2_addFence_34 (by decide) ?_
  refine lv_isub hx hb dX2_addFence_35 ?_
  exact x_iret hx hb hr hlocks S rfl h dX2_addFence_36
/-! X2_numberFences -/
def blk_X2_numberFences_0 (Q : Mem → Prop) (P : Nat → Int32 → Int32 → Int32 → Mem → Prop) (v1 : Int32) (v2 : Int32) (v3 : Int32) (M : Mem) : Prop :=
  P 1 0 0 0 (upI M 13 4 0)
theorem blk_X2_numberFences_0_mono {Q Q' : Mem → Prop} {P P' : Nat → Int32 → Int32 → Int32 → Mem → Prop} (hQ : ∀ M : Mem, Q M → Q' M) (hP : ∀ (lab : Nat) (v1 : Int32) (v2 : Int32) (v3 : Int32) (M : Mem), P lab v1 v2 v3 M → P' lab v1 v2 v3 M) (v1 : Int32) (v2 : Int32) (v3 : Int32) (M : Mem) (h : blk_X2_numberFences_0 Q P v1 v2 v3 M) : blk_X2_numberFences_0 Q' P' v1 v2 v3 M := by
  unfold blk_X2_numberFences_0 at h ⊢
  exact hP _ _ _ _ _ h
def blk_X2_numberFences_1 (Q : Mem → Prop) (P : Nat → Int32 → Int32 → Int32 → Mem → Prop) (v1 : Int32) (v2 : Int32) (v3 : Int32) (M : Mem) : Prop :=
  (((M.1 14 2) ≤ v1 → Q M) ∧ (¬ (M.1 14 2) ≤ v1 → (vp_in ((v1 * 8) + v1) 64 ∧ P 2 v1 (v1 + 1) 0 (upI M 20 ((v1 * 8) + v1).toNatClampNeg (-9)))))
theorem blk_X2_numberFences_1_mono {Q Q' : Mem → Prop} {P P' : Nat → Int32 → Int32 → Int32 → Mem → Prop} (hQ : ∀ M : Mem, Q M → Q' M) (hP : ∀ (lab : Nat) (v1 : Int32) (v2 : Int32) (v3 : Int32) (M : Mem), P lab v1 v2 v3 M → P' lab v1 v2 v3 M) (v1 : Int32) (v2 : Int32) (v3 : Int32) (M : Mem) (h : blk_X2_numberFences_1 Q P v1 v2 v3 M) : blk_X2_numberFences_1 Q' P' v1 v2 v3 M := by
  unfold blk_X2_numberFences_1 at h ⊢
  exact ⟨fun c => let h := h.1 c; hQ _ h, fun c => let h := h.2 c; ⟨h.1, let h := h.2; hP _ _ _ _ _ h⟩⟩
def blk_X2_numberFences_2 (Q : Mem → Prop) (P : Nat → Int32 → Int32 → Int32 → Mem → Prop) (v1 : Int32) (v2 : Int32) (v3 : Int32) (M : Mem) : Prop :=
  (((M.1 14 2) ≤ v2 → P 1 (v1 + 1) 0 0 M) ∧ (¬ (M.1 14 2) ≤ v2 → wp_X2_isOpen v1 v2 M (fun r1 M1 => ((r1 = 0 → P 3 v1 v2 (-9) M1) ∧ (¬ r1 = 0 → wp_X2_addFence v1 v2 M1 (fun r2 M2 => P 3 v1 v2 r2 M2))))))
theorem blk_X2_numberFences_2_mono {Q Q' : Mem → Prop} {P P' : Nat → Int32 → Int32 → Int32 → Mem → Prop} (hQ : ∀ M : Mem, Q M → Q' M) (hP : ∀ (lab : Nat) (v1 : Int32) (v2 : Int32) (v3 : Int32) (M : Mem), P lab v1 v2 v3 M → P' lab v1 v2 v3 M) (v1 : Int32) (v2 : Int32) (v3 : Int32) (M : Mem) (h : blk_X2_numberFences_2 Q P v1 v2 v3 M) : blk_X2_numberFences_2 Q' P' v1 v2 v3 M := by
  unfold blk_X2_numberFences_2 at h ⊢
  exact ⟨fun c => let h := h.1 c; hP _ _ _ _ _ h, fun c => let h := h.2 c; wp_X2_isOpen_mono (fun r1 M1 h => ⟨fun c => let h := h.1 c; hP _ _ _ _ _ h, fun c => let h := h.2 c; wp_X2_addFence_mono (fun r2 M2 h => hP _ _ _ _ _ h) h⟩) h⟩
def blk_X2_numberFences_3 (Q : Mem → Prop) (P : Nat → Int32 → Int32 → Int32 → Mem → Prop) (v1 : Int32) (v2 : Int32) (v3 : Int32) (M : Mem) : Prop :=
  (vp_in ((v1 * 8) + v2) 64 ∧ (vp_in ((v2 * 8) + v1) 64 ∧ P 2 v1 (v2 + 1) 0 (upI (upI M 20 ((v1 * 8) + v2).toNatClampNeg v3) 20 ((v2 * 8) + v1).toNatClampNeg v3)))
theorem blk_X2_numberFences_3_mono {Q Q' : Mem → Prop} {P P' : Nat → Int32 → Int32 → Int32 → Mem → Prop} (hQ : ∀ M : Mem, Q M → Q' M) (hP : ∀ (lab : Nat) (v1 : Int32) (v2 : Int32) (v3 : Int32) (M : Mem), P lab v1 v2 v3 M → P' lab v1 v2 v3 M) (v1 : Int32) (v2 : Int32) (v3 : Int32) (M : Mem) (h : blk_X2_numberFences_3 Q P v1 v2 v3 M) : blk_X2_numberFences_3 Q' P' v1 v2 v3 M := by
  unfold blk_X2_numberFences_3 at h ⊢
  exact ⟨h.1, let h := h.2; ⟨h.1, let h := h.2; hP _ _ _ _ _ h⟩⟩
def blk_X2_numberFences (Q : Mem → Prop) (P : Nat → Int32 → Int32 → Int32 → Mem → Prop) : Nat → Int32 → Int32 → Int32 → Mem → Prop := fun lab v1 v2 v3 M => match lab with
  | 0 => blk_X2_numberFences_0 Q P v1 v2 v3 M
  | 1 => blk_X2_numberFences_1 Q P v1 v2 v3 M
  | 2 => blk_X2_numberFences_2 Q P v1 v2 v3 M
  | 3 => blk_X2_numberFences_3 Q P v1 v2 v3 M
  | _ => False
theorem blk_X2_numberFences_mono {Q Q' : Mem → Prop} {P P' : Nat → Int32 → Int32 → Int32 → Mem → Prop} (hQ : ∀ M : Mem, Q M → Q' M) (hP : ∀ (lab : Nat) (v1 : Int32) (v2 : Int32) (v3 : Int32) (M : Mem), P lab v1 v2 v3 M → P' lab v1 v2 v3 M) : ∀ (lab : Nat) (v1 : Int32) (v2 : Int32) (v3 : Int32) (M : Mem), blk_X2_numberFences Q P lab v1 v2 v3 M → blk_X2_numberFences Q' P' lab v1 v2 v3 M := fun lab v1 v2 v3 M h => match lab, h with
  | 0, h => blk_X2_numberFences_0_mono hQ hP v1 v2 v3 M h
  | 1, h => blk_X2_numberFences_1_mono hQ hP v1 v2 v3 M h
  | 2, h => blk_X2_numberFences_2_mono hQ hP v1 v2 v3 M h
  | 3, h => blk_X2_numberFences_3_mono hQ hP v1 v2 v3 M h
  | _ + 4, h => False.elim h
def at_X2_numberFences (Q : Mem → Prop) : Nat → Int32 → Int32 → Int32 → Mem → Prop := fun lab v1 v2 v3 M => ∀ P : Nat → Int32 → Int32 → Int32 → Mem → Prop, (∀ (lab : Nat) (v1 : Int32) (v2 : Int32) (v3 : Int32) (M : Mem), blk_X2_numberFences Q P lab v1 v2 v3 M → P lab v1 v2 v3 M) → P lab v1 v2 v3 M
theorem at_X2_numberFences_fold {Q : Mem → Prop} {lab : Nat} {v1 : Int32} {v2 : Int32} {v3 : Int32} {M : Mem} (h : blk_X2_numberFences Q (at_X2_numberFences Q) lab v1 v2 v3 M) : at_X2_numberFences Q lab v1 v2 v3 M := fun P hP => hP _ _ _ _ _ (blk_X2_numberFences_mono (fun _ h => h) (fun _ _ _ _ _ h => h P hP) _ _ _ _ _ h)
theorem at_X2_numberFences_mono {Q Q' : Mem → Prop} (hQ : ∀ M : Mem, Q M → Q' M) {lab : Nat} {v1 : Int32} {v2 : Int32} {v3 : Int32} {M : Mem} (h : at_X2_numberFences Q lab v1 v2 v3 M) : at_X2_numberFences Q' lab v1 v2 v3 M := fun P hP => h P (fun lab v1 v2 v3 M hb => hP _ _ _ _ _ (blk_X2_numberFences_mono hQ (fun _ _ _ _ _ h => h) _ _ _ _ _ hb))
def wp_X2_numberFences (M : Mem) (Q : Mem → Prop) : Prop := at_X2_numberFences Q 0 0 0 0 M
theorem wp_X2_numberFences_mono {M : Mem} {Q Q' : Mem → Prop} (hQ : ∀ M : Mem, Q M → Q' M) (h : wp_X2_numberFences M Q) : wp_X2_numberFences M Q' := at_X2_numberFences_mono hQ h
def pcl_X2_numberFences : Nat → Nat := fun lab => match lab with
  | 0 => 0
  | 1 => 7
  | 2 => 35
  | 3 => 67
  | _ => 0
def lvl_X2_numberFences (ad : Nat → Nat) : Nat → Int32 → Int32 → Int32 → List (Nat × Value) := fun lab v1 v2 v3 => match lab with
  | 0 => [(0, .ref (ad 13))]
  | 1 => [(0, .ref (ad 13)), (1, .int v1)]
  | 2 => [(0, .ref (ad 13)), (1, .int v1), (2, .int v2)]
  | 3 => [(0, .ref (ad 13)), (1, .int v1), (2, .int v2), (3, .int v3)]
  | _ => []
abbrev rm_X2_numberFences : Jvm.Room := { frames := 4, cells := 0, slots := 0, locals := 87 }
set_option maxHeartbeats 4000000 in
set_option maxRecDepth 100000 in
theorem ct_X2_numberFences (l : Launch) (D : va_G) (cy : Nat → ClassId) (ad : Nat → Nat) (B : Nat → Prop) (M : Mem) (Q : Mem → Prop) (h : wp_X2_numberFences M Q) : CTv l D cy (wX ad cy) B yX2_numberFences wsX2_numberFences rm_X2_numberFences [.ref (ad 13)] M Q := by
  intro sz
  refine Met.ofW (cc := cX2_numberFences) (maxL := 4) (ret := none) (by decide) rfl ?_
  intro p e s m args below meth c s₁ Bd hml hv
  obtain ⟨hargs, hsz, hP, hK, hD⟩ := hv
  subst hsz
  have hx := Bd.exec
  have hb := Bd.bytes
  have hr := Bd.returns
  have hts := atoms_spec (ws := wsX2_numberFences) Bd.pre
  have hown : s.vm.findClass RX2 = some m.cls := findClass_of_methodNamed Bd.named
  have hlocks := Bd.notSynchronized
  have hC2 : xC wsX2_numberFences 2 RX2 TX2 8 := ⟨by decide +kernel, rfl⟩
  have hC4 : xC wsX2_numberFences 4 RX4 TX4 3 := ⟨by decide +kernel, rfl⟩
  have key : ∀ (P : Nat → Int32 → Int32 → Int32 → Mem → Prop), (∀ (lab : Nat) (v1 : Int32) (v2 : Int32) (v3 : Int32) (M : Mem), P lab v1 v2 v3 M → ∀ (H : Heap) (locs : List Loc) (ls : Array Slot), xS D (wX ad cy) B s.heap H locs M → lv_has ls 4 (lvl_X2_numberFences ad lab v1 v2 v3 ) → W p l e (headSpec wsX2_numberFences rm_X2_numberFences).room s m args below meth c H locs 0 0 (MQ below (va_Qv (S := Mem) Q (xB D (wX ad cy) B) (xA B s.heap.size)) args s 0 0 (xA B s.heap.size)) (F0 m (pcl_X2_numberFences lab) ls [])) → ∀ (lab : Nat) (v1 : Int32) (v2 : Int32) (v3 : Int32) (M : Mem), blk_X2_numberFences Q P lab v1 v2 v3 M → ∀ (H : Heap) (locs : List Loc) (ls : Array Slot), xS D (wX ad cy) B s.heap H locs M → lv_has ls 4 (lvl_X2_numberFences ad lab v1 v2 v3 ) → W p l e (headSpec wsX2_numberFences rm_X2_numberFences).room s m args below meth c H locs 0 0 (MQ below (va_Qv (S := Mem) Q (xB D (wX ad cy) B) (xA B s.heap.size)) args s 0 0 (xA B s.heap.size)) (F0 m (pcl_X2_numberFences lab) ls []) := by
    intro P hJ lab v1 v2 v3 M h H locs ls S hl
    match lab, h, hl with
    | 0, h, hl =>
      have hl : lv_has ls 4 [(0, .ref (ad 13))] := hl
      have h : blk_X2_numberFences_0 Q P v1 v2 v3 M := h
      unfold blk_X2_numberFences_0 at h
      refine W.eq (g2 := F0 m 0 ls []) rfl ?_
      refine lv_aload_n hx hb dX2_numberFences_0 rfl (lv_at hl 0 rfl) ?_
      refine lv_iconst (v := 0) hx hb dX2_numberFences_1 (by decide) ?_
      refine x_putI hx hb hts (hC2) tyX2 tyX2_ok nmX2 hown hK S 4 (by decide) xf_13_4 (index := 54) (hts _ (List.mem_of_getElem? (i := 1) rfl)) rfl rfl rfl dX2_numberFences_2 (fun H locs S => ?_)
      refine lv_iconst (v := 0) hx hb dX2_numberFences_5 (by decide) ?_
      refine lv_istore_n (lv' := [(1, .int 0), (0, .ref (ad 13))]) hx hb dX2_numberFences_6 rfl hl (by decide) rfl (fun ls hl => ?_)
      exact hJ _ _ _ _ _ h _ _ _ S (lv_sub hl [1, 0] rfl)
    | 1, h, hl =>
      have hl : lv_has ls 4 [(0, .ref (ad 13)), (1, .int v1)] := hl
      have h : blk_X2_numberFences_1 Q P v1 v2 v3 M := h
      unfold blk_X2_numberFences_1 at h
      refine W.eq (g2 := F0 m 7 ls []) rfl ?_
      refine lv_iload_n hx hb dX2_numberFences_7 rfl (lv_at hl 1 rfl) ?_
      refine lv_aload_n hx hb dX2_numberFences_8 rfl (lv_at hl 0 rfl) ?_
      refine x_getR hx hb hts (hC2) hown hK S 0 (by decide) xf_13_0 (index := 12) (hts _ (List.mem_of_getElem? (i := 2) rfl)) dX2_numberFences_9 ?_
      refine x_getI hx hb hts (hC4) hown hK S 2 (by decide) xf_14_2 (index := 50) (hts _ (List.mem_of_getElem? (i := 3) rfl)) dX2_numberFences_12 ?_
      refine lv_icmp_ge (tgt := 103) hx hb dX2_numberFences_15 (by decide) (fun c15 => ?_) (fun c15 => ?_)
      · replace h := h.1 c15
        exact x_vret hx hb hr hlocks S h dX2_numberFences_103
      · replace h := h.2 c15
        refine lv_aload_n hx hb dX2_numberFences_18 rfl (lv_at hl 0 rfl) ?_
        refine x_getR hx hb hts (hC2) hown hK S 6 (by decide) xf_13_6 (index := 28) (hts _ (List.mem_of_getElem? (i := 4) rfl)) dX2_numberFences_19 ?_
        refine lv_iload_n hx hb dX2_numberFences_22 rfl (lv_at hl 1 rfl) ?_
        refine lv_bipush (v := 8) hx hb dX2_numberFences_23 (by decide) ?_
        refine lv_imul hx hb dX2_numberFences_25 ?_
        refine lv_iload_n hx hb dX2_numberFences_26 rfl (lv_at hl 1 rfl) ?_
        refine lv_iadd hx hb dX2_numberFences_27 ?_
        refine lv_bipush (v := (-9)) hx hb dX2_numberFences_28 (by decide) ?_
        refine x_iast hx hb hK S xa_20 h.1 dX2_numberFences_30 (fun H locs S => ?_)
        replace h := h.2
        refine lv_iload_n hx hb dX2_numberFences_31 rfl (lv_at hl 1 rfl) ?_
        refine lv_iconst (v := 1) hx hb dX2_numberFences_32 (by decide) ?_
        refine lv_iadd hx hb dX2_numberFences_33 ?_
        refine lv_istore_n (lv' := [(2, .int (v1 + 1)), (0, .ref (ad 13)), (1, .int v1)]) hx hb dX2_numberFences_34 rfl hl (by decide) rfl (fun ls hl => ?_)
        exact hJ _ _ _ _ _ h _ _ _ S (lv_sub hl [1, 2, 0] rfl)
    | 2, h, hl =>
      have hl : lv_has ls 4 [(0, .ref (ad 13)), (1, .int v1), (2, .int v2)] := hl
      have h : blk_X2_numberFences_2 Q P v1 v2 v3 M := h
      unfold blk_X2_numberFences_2 at h
      refine W.eq (g2 := F0 m 35 ls []) rfl ?_
      refine lv_iload_n hx hb dX2_numberFences_35 rfl (lv_at hl 2 rfl) ?_
      refine lv_aload_n hx hb dX2_numberFences_36 rfl (lv_at hl 0 rfl) ?_
      refine x_getR hx hb hts (hC2) hown hK S 0 (by decide) xf_13_0 (index := 12) (hts _ (List.mem_of_getElem? (i := 2) rfl)) dX2_numberFences_37 ?_
      refine x_getI hx hb hts (hC4) hown hK S 2 (by decide) xf_14_2 (index := 50) (hts _ (List.mem_of_getElem? (i := 3) rfl)) dX2_numberFences_40 ?_
      refine lv_icmp_ge (tgt := 97) hx hb dX2_numberFences_43 (by decide) (fun c43 => ?_) (fun c43 => ?_)
      · replace h := h.1 c43
        refine lv_iinc (v := (v1 + 1)) (lv' := [(1, .int (v1 + 1)), (0, .ref (ad 13)), (2, .int v2)]) hx hb dX2_numberFences_97 hl (k := 1) rfl rfl (by decide) rfl (fun ls hl => ?_)
        refine lv_goto (tgt := 7) hx hb dX2_numberFences_100 (by decide) ?_
        exact hJ _ _ _ _ _ h _ _ _ S (lv_sub hl [1, 0] rfl)
      · replace h := h.2 c43
        refine lv_aload_n hx hb dX2_numberFences_46 rfl (lv_at hl 0 rfl) ?_
        refine lv_iload_n hx hb dX2_numberFences_47 rfl (lv_at hl 1 rfl) ?_
        refine lv_iload_n hx hb dX2_numberFences_48 rfl (lv_at hl 2 rfl) ?_
        refine x_callVi (As := [.int v1, .int v2]) ⟨hx, hb, hml, hown, hts⟩ hK S (ct_X2_isOpen l D cy ad B _ _ _ _ h) xo_13 rfl (cwV 2 hts gX2_numberFences_X2_isOpen rfl rfl rfl (by decide +kernel) ⟨Nat.le_of_ble_eq_true rfl, Nat.le_of_ble_eq_true rfl⟩) rfl hl.1 rfl (Nat.le_of_ble_eq_true rfl) dX2_numberFences_49 ⟨Nat.zero_le _, Nat.zero_le _⟩ (fun r1 M1 H locs h S => ?_)
        refine lv_if_eq (tgt := 64) hx hb dX2_numberFences_52 (by decide) (fun c52 => ?_) (fun c52 => ?_)
        · replace h := h.1 c52
          refine lv_bipush (v := (-9)) hx hb dX2_numberFences_64 (by decide) ?_
          refine lv_istore_n (lv' := [(3, .int (-9)), (0, .ref (ad 13)), (1, .int v1), (2, .int v2)]) hx hb dX2_numberFences_66 rfl hl (by decide) rfl (fun ls hl => ?_)
          exact hJ _ _ _ _ _ h _ _ _ S (lv_sub hl [1, 2, 3, 0] rfl)
        · replace h := h.2 c52
          refine lv_aload_n hx hb dX2_numberFences_55 rfl (lv_at hl 0 rfl) ?_
          refine lv_iload_n hx hb dX2_numberFences_56 rfl (lv_at hl 1 rfl) ?_
          refine lv_iload_n hx hb dX2_numberFences_57 rfl (lv_at hl 2 rfl) ?_
          refine x_callVi (As := [.int v1, .int v2]) ⟨hx, hb, hml, hown, hts⟩ hK S (ct_X2_addFence l D cy ad B _ _ _ _ h) xo_13 rfl (cwV 2 hts gX2_numberFences_X2_addFence rfl rfl rfl (by decide +kernel) ⟨Nat.le_of_ble_eq_true rfl, Nat.le_of_ble_eq_true rfl⟩) rfl hl.1 rfl (Nat.le_of_ble_eq_true rfl) dX2_numberFences_58 ⟨Nat.zero_le _, Nat.zero_le _⟩ (fun r2 M2 H locs h S => ?_)
          refine lv_goto (tgt := 66) hx hb dX2_numberFences_61 (by decide) ?_
          refine lv_istore_n (lv' := [(3, .int r2), (0, .ref (ad 13)), (1, .int v1), (2, .int v2)]) hx hb dX2_numberFences_66 rfl hl (by decide) rfl (fun ls hl => ?_)
          exact hJ _ _ _ _ _ h _ _ _ S (lv_sub hl [1, 2, 3, 0] rfl)
    | 3, h, hl =>
      have hl : lv_has ls 4 [(0, .ref (ad 13)), (1, .int v1), (2, .int v2), (3, .int v3)] := hl
      have h : blk_X2_numberFences_3 Q P v1 v2 v3 M := h
      unfold blk_X2_numberFences_3 at h
      refine W.eq (g2 := F0 m 67 ls []) rfl ?_
      refine lv_aload_n hx hb dX2_numberFences_67 rfl (lv_at hl 0 rfl) ?_
      refine x_getR hx hb hts (hC2) hown hK S 6 (by decide) xf_13_6 (index := 28) (hts _ (List.mem_of_getElem? (i := 4) rfl)) dX2_numberFences_68 ?_
      refine lv_iload_n hx hb dX2_numberFences_71 rfl (lv_at hl 1 rfl) ?_
      refine lv_bipush (v := 8) hx hb dX2_numberFences_72 (by decide) ?_
      refine lv_imul hx hb dX2_numberFences_74 ?_
      refine lv_iload_n hx hb dX2_numberFences_75 rfl (lv_at hl 2 rfl) ?_
      refine lv_iadd hx hb dX2_numberFences_76 ?_
      refine lv_iload_n hx hb dX2_numberFences_77 rfl (lv_at hl 3 rfl) ?_
      refine x_iast hx hb hK S xa_20 h.1 dX2_numberFences_78 (fun H locs S => ?_)
      replace h := h.2
      refine lv_aload_n hx hb dX2_numberFences_79 rfl (lv_at hl 0 rfl) ?_
      refine x_getR hx hb hts (hC2) hown hK S 6 (by decide) xf_13_6 (index := 28) (hts _ (List.mem_of_getElem? (i := 4) rfl)) dX2_numberFences_80 ?_
      refine lv_iload_n hx hb dX2_numberFences_83 rfl (lv_at hl 2 rfl) ?_
      refine lv_bipush (v := 8) hx hb dX2_numberFences_84 (by decide) ?_
      refine lv_imul hx hb dX2_numberFences_86 ?_
      refine lv_iload_n hx hb dX2_numberFences_87 rfl (lv_at hl 1 rfl) ?_
      refine lv_iadd hx hb dX2_numberFences_88 ?_
      refine lv_iload_n hx hb dX2_numberFences_89 rfl (lv_at hl 3 rfl) ?_
      refine x_iast hx hb hK S xa_20 h.1 dX2_numberFences_90 (fun H locs S => ?_)
      replace h := h.2
      refine lv_iinc (v := (v2 + 1)) (lv' := [(2, .int (v2 + 1)), (0, .ref (ad 13)), (1, .int v1), (3, .int v3)]) hx hb dX2_numberFences_91 hl (k := 2) rfl rfl (by decide) rfl (fun ls hl => ?_)
      refine lv_goto (tgt := 35) hx hb dX2_numberFences_94 (by decide) ?_
      exact hJ _ _ _ _ _ h _ _ _ S (lv_sub hl [1, 2, 0] rfl)
    | _ + 4, h, hl => exact h.elim
  have hl := lv_entry ([.ref (ad 13)]) (n := 4) (Nat.le_of_ble_eq_true rfl)
  subst hargs
  rw [lg_entry_eq]
  generalize (lg_sl ([.ref (ad 13)]) ++ List.replicate (4 - (lg_sl ([.ref (ad 13)])).length) Slot.unset).toArray = ls at hl ⊢
  exact h _ (key _ (fun _ _ _ _ _ h => h)) s.heap [] ls ⟨hP, hD, va_S.rf⟩ hl
/-! X4_areParted -/
def wp_X4_areParted (v1 : Int32) (v2 : Int32) (v3 : Int32) (v4 : Int32) (M : Mem) (Q : Int32 → Mem → Prop) : Prop :=
  wp_X4_side v3 v4 v1 M (fun r1 M1 => wp_X4_side v3 v4 v2 M1 (fun r2 M2 => ((0 ≤ (r1 * r2) → Q 0 M2) ∧ (¬ 0 ≤ (r1 * r2) → Q 1 M2))))
theorem wp_X4_areParted_mono {v1 : Int32} {v2 : Int32} {v3 : Int32} {v4 : Int32} {M : Mem} {Q Q' : Int32 → Mem → Prop} (hQ : ∀ (r : Int32) (M : Mem), Q r M → Q' r M) (h : wp_X4_areParted v1 v2 v3 v4 M Q) : wp_X4_areParted v1 v2 v3 v4 M Q' := by
  unfold wp_X4_areParted at h ⊢
  exact wp_X4_side_mono (fun r1 M1 h => wp_X4_side_mono (fun r2 M2 h => ⟨fun c => let h := h.1 c; hQ _ _ h, fun c => let h := h.2 c; hQ _ _ h⟩) h) h
abbrev rm_X4_areParted : Jvm.Room := { frames := 2, cells := 0, slots := 0, locals := 40 }
set_option maxHeartbeats 4000000 in
set_option maxRecDepth 100000 in
theorem ct_X4_areParted (l : Launch) (D : va_G) (cy : Nat → ClassId) (ad : Nat → Nat) (B : Nat → Prop) (v1 : Int32) (v2 : Int32) (v3 : Int32) (v4 : Int32) (M : Mem) (Q : Int32 → Mem → Prop) (h : wp_X4_areParted v1 v2 v3 v4 M Q) : CTi l D cy (wX ad cy) B yX4_areParted wsX4_areParted rm_X4_areParted [.ref (ad 14), .int v1, .int v2, .int v3, .int v4] M Q := by
  intro sz
  refine Met.ofW (cc := cX4_areParted) (maxL := 5) (ret := some .boolean) (by decide) rfl ?_
  intro p e s m args below meth c s₁ Bd hml hv
  obtain ⟨hargs, hsz, hP, hK, hD⟩ := hv
  subst hsz
  have hx := Bd.exec
  have hb := Bd.bytes
  have hr := Bd.returns
  have hts := atoms_spec (ws := wsX4_areParted) Bd.pre
  have hown : s.vm.findClass RX4 = some m.cls := findClass_of_methodNamed Bd.named
  have hlocks := Bd.notSynchronized
  have hl := lv_entry ([.ref (ad 14), .int v1, .int v2, .int v3, .int v4]) (n := 5) (Nat.le_of_ble_eq_true rfl)
  subst hargs
  rw [lg_entry_eq]
  generalize (lg_sl ([.ref (ad 14), .int v1, .int v2, .int v3, .int v4]) ++ List.replicate (5 - (lg_sl ([.ref (ad 14), .int v1, .int v2, .int v3, .int v4])).length) Slot.unset).toArray = ls at hl ⊢
  have hl : lv_has ls 5 [(0, .ref (ad 14)), (1, .int v1), (2, .int v2), (3, .int v3), (4, .int v4)] := hl
  have S : xS D (wX ad cy) B s.heap s.heap [] M := ⟨hP, hD, va_S.rf⟩
  unfold wp_X4_areParted at h
  refine lv_aload_n hx hb dX4_areParted_0 rfl (lv_at hl 0 rfl) ?_
  refine lv_iload_n hx hb dX4_areParted_1 rfl (lv_at hl 3 rfl) ?_
  refine lv_iload hx hb dX4_areParted_2 (lv_at hl 4 rfl) ?_
  refine lv_iload_n hx hb dX4_areParted_4 rfl (lv_at hl 1 rfl) ?_
  refine x_callVi (As := [.int v3, .int v4, .int v1]) ⟨hx, hb, hml, hown, hts⟩ hK S (ct_X4_side l D cy ad B _ _ _ _ _ h) xo_14 rfl (cwV 3 hts gX4_areParted_X4_side rfl rfl rfl (by decide +kernel) ⟨Nat.le_of_ble_eq_true rfl, Nat.le_of_ble_eq_true rfl⟩) rfl hl.1 rfl (Nat.le_of_ble_eq_true rfl) dX4_areParted_5 ⟨Nat.zero_le _, Nat.zero_le _⟩ (fun r1 M1 H locs h S => ?_)
  refine lv_aload_n hx hb dX4_areParted_8 rfl (lv_at hl 0 rfl) ?_
  refine lv_iload_n hx hb dX4_areParted_9 rfl (lv_at hl 3 rfl) ?_
  refine lv_iload hx hb dX4_areParted_10 (lv_at hl 4 rfl) ?_
  refine lv_iload_n hx hb dX4_areParted_12 rfl (lv_at hl 2 rfl) ?_
  refine x_callVi (As := [.int v3, .int v4, .int v2]) ⟨hx, hb, hml, hown, hts⟩ hK S (ct_X4_side l D cy ad B _ _ _ _ _ h) xo_14 rfl (cwV 3 hts gX4_areParted_X4_side rfl rfl rfl (by decide +kernel) ⟨Nat.le_of_ble_eq_true rfl, Nat.le_of_ble_eq_true rfl⟩) rfl hl.1 rfl (Nat.le_of_ble_eq_true rfl) dX4_areParted_13 ⟨Nat.zero_le _, Nat.zero_le _⟩ (fun r2 M2 H locs h S => ?_)
  refine lv_imul hx hb dX4_areParted_16 ?_
  refine lv_if_ge (tgt := 24) hx hb dX4_areParted_17 (by decide) (fun c17 => ?_) (fun c17 => ?_)
  · replace h := h.1 c17
    refine lv_iconst (v := 0) hx hb dX4_areParted_24 (by decide) ?_
    exact x_iret hx hb hr hlocks S rfl h dX4_areParted_25
  · replace h := h.2 c17
    refine lv_iconst (v := 1) hx hb dX4_areParted_20 (by decide) ?_
    refine lv_goto (tgt := 25) hx hb dX4_areParted_21 (by decide) ?_
    exact x_iret hx hb hr hlocks S rfl h dX4_areParted_25
/-! X2_doCross -/
def wp_X2_doCross (v1 : Int32) (v2 : Int32) (M : Mem) (Q : Int32 → Mem → Prop) : Prop :=
  (vp_in v1 28 ∧ (vp_in v1 28 ∧ (vp_in v2 28 ∧ (vp_in v2 28 ∧ wp_X4_areParted (M.1 17 v1.toNatClampNeg) (M.1 18 v1.toNatClampNeg) (M.1 17 v2.toNatClampNeg) (M.1 18 v2.toNatClampNeg) M (fun r1 M1 => ((r1 = 0 → Q 0 M1) ∧ (¬ r1 = 0 → (vp_in v2 28 ∧ (vp_in v2 28 ∧ (vp_in v1 28 ∧ (vp_in v1 28 ∧ wp_X4_areParted (M1.1 17 v2.toNatClampNeg) (M1.1 18 v2.toNatClampNeg) (M1.1 17 v1.toNatClampNeg) (M1.1 18 v1.toNatClampNeg) M1 (fun r2 M2 => ((r2 = 0 → Q 0 M2) ∧ (¬ r2 = 0 → Q 1 M2))))))))))))))
theorem wp_X2_doCross_mono {v1 : Int32} {v2 : Int32} {M : Mem} {Q Q' : Int32 → Mem → Prop} (hQ : ∀ (r : Int32) (M : Mem), Q r M → Q' r M) (h : wp_X2_doCross v1 v2 M Q) : wp_X2_doCross v1 v2 M Q' := by
  unfold wp_X2_doCross at h ⊢
  exact ⟨h.1, let h := h.2; ⟨h.1, let h := h.2; ⟨h.1, let h := h.2; ⟨h.1, let h := h.2; wp_X4_areParted_mono (fun r1 M1 h => ⟨fun c => let h := h.1 c; hQ _ _ h, fun c => let h := h.2 c; ⟨h.1, let h := h.2; ⟨h.1, let h := h.2; ⟨h.1, let h := h.2; ⟨h.1, let h := h.2; wp_X4_areParted_mono (fun r2 M2 h => ⟨fun c => let h := h.1 c; hQ _ _ h, fun c => let h := h.2 c; hQ _ _ h⟩) h⟩⟩⟩⟩⟩) h⟩⟩⟩⟩
abbrev rm_X2_doCross : Jvm.Room := { frames := 3, cells := 0, slots := 0, locals := 64 }
set_option maxHeartbeats 4000000 in
set_option maxRecDepth 100000 in
theorem ct_X2_doCross (l : Launch) (D : va_G) (cy : Nat → ClassId) (ad : Nat → Nat) (B : Nat → Prop) (v1 : Int32) (v2 : Int32) (M : Mem) (Q : Int32 → Mem → Prop) (h : wp_X2_doCross v1 v2 M Q) : CTi l D cy (wX ad cy) B yX2_doCross wsX2_doCross rm_X2_doCross [.ref (ad 13), .int v1, .int v2] M Q := by
  intro sz
  refine Met.ofW (cc := cX2_doCross) (maxL := 3) (ret := some .boolean) (by decide) rfl ?_
  intro p e s m args below meth c s₁ Bd hml hv
  obtain ⟨hargs, hsz, hP, hK, hD⟩ := hv
  subst hsz
  have hx := Bd.exec
  have hb := Bd.bytes
  have hr := Bd.returns
  have hts := atoms_spec (ws := wsX2_doCross) Bd.pre
  have hown : s.vm.findClass RX2 = some m.cls := findClass_of_methodNamed Bd.named
  have hlocks := Bd.notSynchronized
  have hC2 : xC wsX2_doCross 2 RX2 TX2 8 := ⟨by decide +kernel, rfl⟩
  have hl := lv_entry ([.ref (ad 13), .int v1, .int v2]) (n := 3) (Nat.le_of_ble_eq_true rfl)
  subst hargs
  rw [lg_entry_eq]
  generalize (lg_sl ([.ref (ad 13), .int v1, .int v2]) ++ List.replicate (3 - (lg_sl ([.ref (ad 13), .int v1, .int v2])).length) Slot.unset).toArray = ls at hl ⊢
  have hl : lv_has ls 3 [(0, .ref (ad 13)), (1, .int v1), (2, .int v2)] := hl
  have S : xS D (wX ad cy) B s.heap s.heap [] M := ⟨hP, hD, va_S.rf⟩
  unfold wp_X2_doCross at h
  refine lv_aload_n hx hb dX2_doCross_0 rfl (lv_at hl 0 rfl) ?_
  refine x_getR hx hb hts (hC2) hown hK S 0 (by decide) xf_13_0 (index := 12) (hts _ (List.mem_of_getElem? (i := 1) rfl)) dX2_doCross_1 ?_
  refine lv_aload_n hx hb dX2_doCross_4 rfl (lv_at hl 0 rfl) ?_
  refine x_getR hx hb hts (hC2) hown hK S 1 (by decide) xf_13_1 (index := 18) (hts _ (List.mem_of_getElem? (i := 2) rfl)) dX2_doCross_5 ?_
  refine lv_iload_n hx hb dX2_doCross_8 rfl (lv_at hl 1 rfl) ?_
  refine x_iald hx hb hK S xa_17 h.1 dX2_doCross_9 ?_
  replace h := h.2
  refine lv_aload_n hx hb dX2_doCross_10 rfl (lv_at hl 0 rfl) ?_
  refine x_getR hx hb hts (hC2) hown hK S 2 (by decide) xf_13_2 (index := 22) (hts _ (List.mem_of_getElem? (i := 3) rfl)) dX2_doCross_11 ?_
  refine lv_iload_n hx hb dX2_doCross_14 rfl (lv_at hl 1 rfl) ?_
  refine x_iald hx hb hK S xa_18 h.1 dX2_doCross_15 ?_
  replace h := h.2
  refine lv_aload_n hx hb dX2_doCross_16 rfl (lv_at hl 0 rfl) ?_
  refine x_getR hx hb hts (hC2) hown hK S 1 (by decide) xf_13_1 (index := 18) (hts _ (List.mem_of_getElem? (i := 2) rfl)) dX2_doCross_17 ?_
  refine lv_iload_n hx hb dX2_doCross_20 rfl (lv_at hl 2 rfl) ?_
  refine x_iald hx hb hK S xa_17 h.1 dX2_doCross_21 ?_
  replace h := h.2
  refine lv_aload_n hx hb dX2_doCross_22 rfl (lv_at hl 0 rfl) ?_
  refine x_getR hx hb hts (hC2) hown hK S 2 (by decide) xf_13_2 (index := 22) (hts _ (List.mem_of_getElem? (i := 3) rfl)) dX2_doCross_23 ?_
  refine lv_iload_n hx hb dX2_doCross_26 rfl (lv_at hl 2 rfl) ?_
  refine x_iald hx hb hK S xa_18 h.1 dX2_doCross_27 ?_
  replace h := h.2
  refine x_callVi (As := [.int (M.1 17 v1.toNatClampNeg), .int (M.1 18 v1.toNatClampNeg), .int (M.1 17 v2.toNatClampNeg), .int (M.1 18 v2.toNatClampNeg)]) ⟨hx, hb, hml, hown, hts⟩ hK S (ct_X4_areParted l D cy ad B _ _ _ _ _ _ h) xo_14 rfl (cwV 4 hts gX2_doCross_X4_areParted rfl rfl rfl (by decide +kernel) ⟨Nat.le_of_ble_eq_true rfl, Nat.le_of_ble_eq_true rfl⟩) rfl hl.1 rfl (Nat.le_of_ble_eq_true rfl) dX2_doCross_28 ⟨Nat.zero_le _, Nat.zero_le _⟩ (fun r1 M1 H locs h S => ?_)
  refine lv_if_eq (tgt := 72) hx hb dX2_doCross_31 (by decide) (fun c31 => ?_) (fun c31 => ?_)
  · replace h := h.1 c31
    refine lv_iconst (v := 0) hx hb dX2_doCross_72 (by decide) ?_
    exact x_iret hx hb hr hlocks S rfl h dX2_doCross_73
  · replace h := h.2 c31
    refine lv_aload_n hx hb dX2_doCross_34 rfl (lv_at hl 0 rfl) ?_
    refine x_getR hx hb hts (hC2) hown hK S 0 (by decide) xf_13_0 (index := 12) (hts _ (List.mem_of_getElem? (i := 1) rfl)) dX2_doCross_35 ?_
    refine lv_aload_n hx hb dX2_doCross_38 rfl (lv_at hl 0 rfl) ?_
    refine x_getR hx hb hts (hC2) hown hK S 1 (by decide) xf_13_1 (index := 18) (hts _ (List.mem_of_getElem? (i := 2) rfl)) dX2_doCross_39 ?_
    refine lv_iload_n hx hb dX2_doCross_42 rfl (lv_at hl 2 rfl) ?_
    refine x_iald hx hb hK S xa_17 h.1 dX2_doCross_43 ?_
    replace h := h.2
    refine lv_aload_n hx hb dX2_doCross_44 rfl (lv_at hl 0 rfl) ?_
    refine x_getR hx hb hts (hC2) hown hK S 2 (by decide) xf_13_2 (index := 22) (hts _ (List.mem_of_getElem? (i := 3) rfl)) dX2_doCross_45 ?_
    refine lv_iload_n hx hb dX2_doCross_48 rfl (lv_at hl 2 rfl) ?_
    refine x_iald hx hb hK S xa_18 h.1 dX2_doCross_49 ?_
    replace h := h.2
    refine lv_aload_n hx hb dX2_doCross_50 rfl (lv_at hl 0 rfl) ?_
    refine x_getR hx hb hts (hC2) hown hK S 1 (by decide) xf_13_1 (index := 18) (hts _ (List.mem_of_getElem? (i := 2) rfl)) dX2_doCross_51 ?_
    refine lv_iload_n hx hb dX2_doCross_54 rfl (lv_at hl 1 rfl) ?_
    refine x_iald hx hb hK S xa_17 h.1 dX2_doCross_55 ?_
    replace h := h.2
    refine lv_aload_n hx hb dX2_doCross_56 rfl (lv_at hl 0 rfl) ?_
    refine x_getR hx hb hts (hC2) hown hK S 2 (by decide) xf_13_2 (index := 22) (hts _ (List.mem_of_getElem? (i := 3) rfl)) dX2_doCross_57 ?_
    refine lv_iload_n hx hb dX2_doCross_60 rfl (lv_at hl 1 rfl) ?_
    refine x_iald hx hb hK S xa_18 h.1 dX2_doCross_61 ?_
    replace h := h.2
    refine x_callVi (As := [.int (M1.1 17 v2.toNatClampNeg), .int (M1.1 18 v2.toNatClampNeg), .int (M1.1 17 v1.toNatClampNeg), .int (M1.1 18 v1.toNatClampNeg)]) ⟨hx, hb, hml, hown, hts⟩ hK S (ct_X4_areParted l D cy ad B _ _ _ _ _ _ h) xo_14 rfl (cwV 4 hts gX2_doCross_X4_areParted rfl rfl rfl (by decide +kernel) ⟨Nat.le_of_ble_eq_true rfl, Nat.le_of_ble_eq_true rfl⟩) rfl hl.1 rfl (Nat.le_of_ble_eq_true rfl) dX2_doCross_62 ⟨Nat.zero_le _, Nat.zero_le _⟩ (fun r2 M2 H locs h S => ?_)
    refine lv_if_eq (tgt := 72) hx hb dX2_doCross_65 (by decide) (fun c65 => ?_) (fun c65 => ?_)
    · replace h := h.1 c65
      refine lv_iconst (v := 0) hx hb dX2_doCross_72 (by decide) ?_
      exact x_iret hx hb hr hlocks S rfl h dX2_doCross_73
    · replace h := h.2 c65
      refine lv_iconst (v := 1) hx hb dX2_doCross_68 (by decide) ?_
      refine lv_goto (tgt := 73) hx hb dX2_doCross_69 (by decide) ?_
      exact x_iret hx hb hr hlocks S rfl h dX2_doCross_73
/-! X2_findCrossings -/
def blk_X2_findCrossings_0 (Q : Mem → Prop) (P : Nat → Int32 → Int32 → Mem → Prop) (v1 : Int32) (v2 : Int32) (M : Mem) : Prop :=
  P 1 0 0 M
theorem blk_X2_findCrossings_0_mono {Q Q' : Mem → Prop} {P P' : Nat → Int32 → Int32 → Mem → Prop} (hQ : ∀ M : Mem, Q M → Q' M) (hP : ∀ (lab : Nat) (v1 : Int32) (v2 : Int32) (M : Mem), P lab v1 v2 M → P' lab v1 v2 M) (v1 : Int32) (v2 : Int32) (M : Mem) (h : blk_X2_findCrossings_0 Q P v1 v2 M) : blk_X2_findCrossings_0 Q' P' v1 v2 M := by
  unfold blk_X2_findCrossings_0 at h ⊢
  exact hP _ _ _ _ h
def blk_X2_findCrossings_1 (Q : Mem → Prop) (P : Nat → Int32 → Int32 → Mem → Prop) (v1 : Int32) (v2 : Int32) (M : Mem) : Prop :=
  (((M.1 13 4) ≤ v1 → Q M) ∧ (¬ (M.1 13 4) ≤ v1 → (vp_in v1 28 ∧ P 2 v1 0 (upI M 19 v1.toNatClampNeg 0))))
theorem blk_X2_findCrossings_1_mono {Q Q' : Mem → Prop} {P P' : Nat → Int32 → Int32 → Mem → Prop} (hQ : ∀ M : Mem, Q M → Q' M) (hP : ∀ (lab : Nat) (v1 : Int32) (v2 : Int32) (M : Mem), P lab v1 v2 M → P' lab v1 v2 M) (v1 : Int32) (v2 : Int32) (M : Mem) (h : blk_X2_findCrossings_1 Q P v1 v2 M) : blk_X2_findCrossings_1 Q' P' v1 v2 M := by
  unfold blk_X2_findCrossings_1 at h ⊢
  exact ⟨fun c => let h := h.1 c; hQ _ h, fun c => let h := h.2 c; ⟨h.1, let h := h.2; hP _ _ _ _ h⟩⟩
def blk_X2_findCrossings_2 (Q : Mem → Prop) (P : Nat → Int32 → Int32 → Mem → Prop) (v1 : Int32) (v2 : Int32) (M : Mem) : Prop :=
  (((M.1 13 4) ≤ v2 → P 1 (v1 + 1) 0 M) ∧ (¬ (M.1 13 4) ≤ v2 → wp_X2_doCross v1 v2 M (fun r1 M1 => ((r1 = 0 → P 3 v1 v2 M1) ∧ (¬ r1 = 0 → (vp_in v1 28 ∧ (vp_in v1 28 ∧ P 3 v1 v2 (upI M1 19 v1.toNatClampNeg ((M1.1 19 v1.toNatClampNeg) ||| ((1 : Int32) <<< (v2 &&& 31)))))))))))
theorem blk_X2_findCrossings_2_mono {Q Q' : Mem → Prop} {P P' : Nat → Int32 → Int32 → Mem → Prop} (hQ : ∀ M : Mem, Q M → Q' M) (hP : ∀ (lab : Nat) (v1 : Int32) (v2 : Int32) (M : Mem), P lab v1 v2 M → P' lab v1 v2 M) (v1 : Int32) (v2 : Int32) (M : Mem) (h : blk_X2_findCrossings_2 Q P v1 v2 M) : blk_X2_findCrossings_2 Q' P' v1 v2 M := by
  unfold blk_X2_findCrossings_2 at h ⊢
  exact ⟨fun c => let h := h.1 c; hP _ _ _ _ h, fun c => let h := h.2 c; wp_X2_doCross_mono (fun r1 M1 h => ⟨fun c => let h := h.1 c; hP _ _ _ _ h, fun c => let h := h.2 c; ⟨h.1, let h := h.2; ⟨h.1, let h := h.2; hP _ _ _ _ h⟩⟩⟩) h⟩
def blk_X2_findCrossings_3 (Q : Mem → Prop) (P : Nat → Int32 → Int32 → Mem → Prop) (v1 : Int32) (v2 : Int32) (M : Mem) : Prop :=
  P 2 v1 (v2 + 1) M
theorem blk_X2_findCrossings_3_mono {Q Q' : Mem → Prop} {P P' : Nat → Int32 → Int32 → Mem → Prop} (hQ : ∀ M : Mem, Q M → Q' M) (hP : ∀ (lab : Nat) (v1 : Int32) (v2 : Int32) (M : Mem), P lab v1 v2 M → P' lab v1 v2 M) (v1 : Int32) (v2 : Int32) (M : Mem) (h : blk_X2_findCrossings_3 Q P v1 v2 M) : blk_X2_findCrossings_3 Q' P' v1 v2 M := by
  unfold blk_X2_findCrossings_3 at h ⊢
  exact hP _ _ _ _ h
def blk_X2_findCrossings (Q : Mem → Prop) (P : Nat → Int32 → Int32 → Mem → Prop) : Nat → Int32 → Int32 → Mem → Prop := fun lab v1 v2 M => match lab with
  | 0 => blk_X2_findCrossings_0 Q P v1 v2 M
  | 1 => blk_X2_findCrossings_1 Q P v1 v2 M
  | 2 => blk_X2_findCrossings_2 Q P v1 v2 M
  | 3 => blk_X2_findCrossings_3 Q P v1 v2 M
  | _ => False
theorem blk_X2_findCrossings_mono {Q Q' : Mem → Prop} {P P' : Nat → Int32 → Int32 → Mem → Prop} (hQ : ∀ M : Mem, Q M → Q' M) (hP : ∀ (lab : Nat) (v1 : Int32) (v2 : Int32) (M : Mem), P lab v1 v2 M → P' lab v1 v2 M) : ∀ (lab : Nat) (v1 : Int32) (v2 : Int32) (M : Mem), blk_X2_findCrossings Q P lab v1 v2 M → blk_X2_findCrossings Q' P' lab v1 v2 M := fun lab v1 v2 M h => match lab, h with
  | 0, h => blk_X2_findCrossings_0_mono hQ hP v1 v2 M h
  | 1, h => blk_X2_findCrossings_1_mono hQ hP v1 v2 M h
  | 2, h => blk_X2_findCrossings_2_mono hQ hP v1 v2 M h
  | 3, h => blk_X2_findCrossings_3_mono hQ hP v1 v2 M h
  | _ + 4, h => False.elim h
def at_X2_findCrossings (Q : Mem → Prop) : Nat → Int32 → Int32 → Mem → Prop := fun lab v1 v2 M => ∀ P : Nat → Int32 → Int32 → Mem → Prop, (∀ (lab : Nat) (v1 : Int32) (v2 : Int32) (M : Mem), blk_X2_findCrossings Q P lab v1 v2 M → P lab v1 v2 M) → P lab v1 v2 M
theorem at_X2_findCrossings_fold {Q : Mem → Prop} {lab : Nat} {v1 : Int32} {v2 : Int32} {M : Mem} (h : blk_X2_findCrossings Q (at_X2_findCrossings Q) lab v1 v2 M) : at_X2_findCrossings Q lab v1 v2 M := fun P hP => hP _ _ _ _ (blk_X2_findCrossings_mono (fun _ h => h) (fun _ _ _ _ h => h P hP) _ _ _ _ h)
theorem at_X2_findCrossings_mono {Q Q' : Mem → Prop} (hQ : ∀ M : Mem, Q M → Q' M) {lab : Nat} {v1 : Int32} {v2 : Int32} {M : Mem} (h : at_X2_findCrossings Q lab v1 v2 M) : at_X2_findCrossings Q' lab v1 v2 M := fun P hP => h P (fun lab v1 v2 M hb => hP _ _ _ _ (blk_X2_findCrossings_mono hQ (fun _ _ _ _ h => h) _ _ _ _ hb))
def wp_X2_findCrossings (M : Mem) (Q : Mem → Prop) : Prop := at_X2_findCrossings Q 0 0 0 M
theorem wp_X2_findCrossings_mono {M : Mem} {Q Q' : Mem → Prop} (hQ : ∀ M : Mem, Q M → Q' M) (h : wp_X2_findCrossings M Q) : wp_X2_findCrossings M Q' := at_X2_findCrossings_mono hQ h
def pcl_X2_findCrossings : Nat → Nat := fun lab => match lab with
  | 0 => 0
  | 1 => 2
  | 2 => 19
  | 3 => 48
  | _ => 0
def lvl_X2_findCrossings (ad : Nat → Nat) : Nat → Int32 → Int32 → List (Nat × Value) := fun lab v1 v2 => match lab with
  | 0 => [(0, .ref (ad 13))]
  | 1 => [(0, .ref (ad 13)), (1, .int v1)]
  | 2 => [(0, .ref (ad 13)), (1, .int v1), (2, .int v2)]
  | 3 => [(0, .ref (ad 13)), (1, .int v1), (2, .int v2)]
  | _ => []
abbrev rm_X2_findCrossings : Jvm.Room := { frames := 4, cells := 0, slots := 0, locals := 86 }
set_option maxHeartbeats 4000000 in
set_option maxRecDepth 100000 in
theorem ct_X2_findCrossings (l : Launch) (D : va_G) (cy : Nat → ClassId) (ad : Nat → Nat) (B : Nat → Prop) (M : Mem) (Q : Mem → Prop) (h : wp_X2_findCrossings M Q) : CTv l D cy (wX ad cy) B yX2_findCrossings wsX2_findCrossings rm_X2_findCrossings [.ref (ad 13)] M Q := by
  intro sz
  refine Met.ofW (cc := cX2_findCrossings) (maxL := 3) (ret := none) (by decide) rfl ?_
  intro p e s m args below meth c s₁ Bd hml hv
  obtain ⟨hargs, hsz, hP, hK, hD⟩ := hv
  subst hsz
  have hx := Bd.exec
  have hb := Bd.bytes
  have hr := Bd.returns
  have hts := atoms_spec (ws := wsX2_findCrossings) Bd.pre
  have hown : s.vm.findClass RX2 = some m.cls := findClass_of_methodNamed Bd.named
  have hlocks := Bd.notSynchronized
  have hC2 : xC wsX2_findCrossings 2 RX2 TX2 8 := ⟨by decide +kernel, rfl⟩
  have key : ∀ (P : Nat → Int32 → Int32 → Mem → Prop), (∀ (lab : Nat) (v1 : Int32) (v2 : Int32) (M : Mem), P lab v1 v2 M → ∀ (H : Heap) (locs : List Loc) (ls : Array Slot), xS D (wX ad cy) B s.heap H locs M → lv_has ls 3 (lvl_X2_findCrossings ad lab v1 v2 ) → W p l e (headSpec wsX2_findCrossings rm_X2_findCrossings).room s m args below meth c H locs 0 0 (MQ below (va_Qv (S := Mem) Q (xB D (wX ad cy) B) (xA B s.heap.size)) args s 0 0 (xA B s.heap.size)) (F0 m (pcl_X2_findCrossings lab) ls [])) → ∀ (lab : Nat) (v1 : Int32) (v2 : Int32) (M : Mem), blk_X2_findCrossings Q P lab v1 v2 M → ∀ (H : Heap) (locs : List Loc) (ls : Array Slot), xS D (wX ad cy) B s.heap H locs M → lv_has ls 3 (lvl_X2_findCrossings ad lab v1 v2 ) → W p l e (headSpec wsX2_findCrossings rm_X2_findCrossings).room s m args below meth c H locs 0 0 (MQ below (va_Qv (S := Mem) Q (xB D (wX ad cy) B) (xA B s.heap.size)) args s 0 0 (xA B s.heap.size)) (F0 m (pcl_X2_findCrossings lab) ls []) := by
    intro P hJ lab v1 v2 M h H locs ls S hl
    match lab, h, hl with
    | 0, h, hl =>
      have hl : lv_has ls 3 [(0, .ref (ad 13))] := hl
      have h : blk_X2_findCrossings_0 Q P v1 v2 M := h
      unfold blk_X2_findCrossings_0 at h
      refine W.eq (g2 := F0 m 0 ls []) rfl ?_
      refine lv_iconst (v := 0) hx hb dX2_findCrossings_0 (by decide) ?_
      refine lv_istore_n (lv' := [(1, .int 0), (0, .ref (ad 13))]) hx hb dX2_findCrossings_1 rfl hl (by decide) rfl (fun ls hl => ?_)
      exact hJ _ _ _ _ h _ _ _ S (lv_sub hl [1, 0] rfl)
    | 1, h, hl =>
      have hl : lv_has ls 3 [(0, .ref (ad 13)), (1, .int v1)] := hl
      have h : blk_X2_findCrossings_1 Q P v1 v2 M := h
      unfold blk_X2_findCrossings_1 at h
      refine W.eq (g2 := F0 m 2 ls []) rfl ?_
      refine lv_iload_n hx hb dX2_findCrossings_2 rfl (lv_at hl 1 rfl) ?_
      refine lv_aload_n hx hb dX2_findCrossings_3 rfl (lv_at hl 0 rfl) ?_
      refine x_getI hx hb hts (hC2) hown hK S 4 (by decide) xf_13_4 (index := 54) (hts _ (List.mem_of_getElem? (i := 1) rfl)) dX2_findCrossings_4 ?_
      refine lv_icmp_ge (tgt := 60) hx hb dX2_findCrossings_7 (by decide) (fun c7 => ?_) (fun c7 => ?_)
      · replace h := h.1 c7
        exact x_vret hx hb hr hlocks S h dX2_findCrossings_60
      · replace h := h.2 c7
        refine lv_aload_n hx hb dX2_findCrossings_10 rfl (lv_at hl 0 rfl) ?_
        refine x_getR hx hb hts (hC2) hown hK S 3 (by decide) xf_13_3 (index := 25) (hts _ (List.mem_of_getElem? (i := 2) rfl)) dX2_findCrossings_11 ?_
        refine lv_iload_n hx hb dX2_findCrossings_14 rfl (lv_at hl 1 rfl) ?_
        refine lv_iconst (v := 0) hx hb dX2_findCrossings_15 (by decide) ?_
        refine x_iast hx hb hK S xa_19 h.1 dX2_findCrossings_16 (fun H locs S => ?_)
        replace h := h.2
        refine lv_iconst (v := 0) hx hb dX2_findCrossings_17 (by decide) ?_
        refine lv_istore_n (lv' := [(2, .int 0), (0, .ref (ad 13)), (1, .int v1)]) hx hb dX2_findCrossings_18 rfl hl (by decide) rfl (fun ls hl => ?_)
        exact hJ _ _ _ _ h _ _ _ S (lv_sub hl [1, 2, 0] rfl)
    | 2, h, hl =>
      have hl : lv_has ls 3 [(0, .ref (ad 13)), (1, .int v1), (2, .int v2)] := hl
      have h : blk_X2_findCrossings_2 Q P v1 v2 M := h
      unfold blk_X2_findCrossings_2 at h
      refine W.eq (g2 := F0 m 19 ls []) rfl ?_
      refine lv_iload_n hx hb dX2_findCrossings_19 rfl (lv_at hl 2 rfl) ?_
      refine lv_aload_n hx hb dX2_findCrossings_20 rfl (lv_at hl 0 rfl) ?_
      refine x_getI hx hb hts (hC2) hown hK S 4 (by decide) xf_13_4 (index := 54) (hts _ (List.mem_of_getElem? (i := 1) rfl)) dX2_findCrossings_21 ?_
      refine lv_icmp_ge (tgt := 54) hx hb dX2_findCrossings_24 (by decide) (fun c24 => ?_) (fun c24 => ?_)
      · replace h := h.1 c24
        refine lv_iinc (v := (v1 + 1)) (lv' := [(1, .int (v1 + 1)), (0, .ref (ad 13)), (2, .int v2)]) hx hb dX2_findCrossings_54 hl (k := 1) rfl rfl (by decide) rfl (fun ls hl => ?_)
        refine lv_goto (tgt := 2) hx hb dX2_findCrossings_57 (by decide) ?_
        exact hJ _ _ _ _ h _ _ _ S (lv_sub hl [1, 0] rfl)
      · replace h := h.2 c24
        refine lv_aload_n hx hb dX2_findCrossings_27 rfl (lv_at hl 0 rfl) ?_
        refine lv_iload_n hx hb dX2_findCrossings_28 rfl (lv_at hl 1 rfl) ?_
        refine lv_iload_n hx hb dX2_findCrossings_29 rfl (lv_at hl 2 rfl) ?_
        refine x_callVi (As := [.int v1, .int v2]) ⟨hx, hb, hml, hown, hts⟩ hK S (ct_X2_doCross l D cy ad B _ _ _ _ h) xo_13 rfl (cwV 2 hts gX2_findCrossings_X2_doCross rfl rfl rfl (by decide +kernel) ⟨Nat.le_of_ble_eq_true rfl, Nat.le_of_ble_eq_true rfl⟩) rfl hl.1 rfl (Nat.le_of_ble_eq_true rfl) dX2_findCrossings_30 ⟨Nat.zero_le _, Nat.zero_le _⟩ (fun r1 M1 H locs h S => ?_)
        refine lv_if_eq (tgt := 48) hx hb dX2_findCrossings_33 (by decide) (fun c33 => ?_) (fun c33 => ?_)
        · replace h := h.1 c33
          exact hJ _ _ _ _ h _ _ _ S (lv_sub hl [0, 1, 2] rfl)
        · replace h := h.2 c33
          refine lv_aload_n hx hb dX2_findCrossings_36 rfl (lv_at hl 0 rfl) ?_
          refine x_getR hx hb hts (hC2) hown hK S 3 (by decide) xf_13_3 (index := 25) (hts _ (List.mem_of_getElem? (i := 2) rfl)) dX2_findCrossings_37 ?_
          refine lv_iload_n hx hb dX2_findCrossings_40 rfl (lv_at hl 1 rfl) ?_
          refine lv_dup2_11 hx hb dX2_findCrossings_41 rfl rfl ?_
          refine x_iald hx hb hK S xa_19 h.1 dX2_findCrossings_42 ?_
          replace h := h.2
          refine lv_iconst (v := 1) hx hb dX2_findCrossings_43 (by decide) ?_
          refine lv_iload_n hx hb dX2_findCrossings_44 rfl (lv_at hl 2 rfl) ?_
          refine lv_ishl hx hb dX2_findCrossings_45 ?_
          refine lv_ior hx hb dX2_findCrossings_46 ?_
          refine x_iast hx hb hK S xa_19 h.1 dX2_findCrossings_47 (fun H locs S => ?_)
          replace h := h.2
          exact hJ _ _ _ _ h _ _ _ S (lv_sub hl [0, 1, 2] rfl)
    | 3, h, hl =>
      have hl : lv_has ls 3 [(0, .ref (ad 13)), (1, .int v1), (2, .int v2)] := hl
      have h : blk_X2_findCrossings_3 Q P v1 v2 M := h
      unfold blk_X2_findCrossings_3 at h
      refine W.eq (g2 := F0 m 48 ls []) rfl ?_
      refine lv_iinc (v := (v2 + 1)) (lv' := [(2, .int (v2 + 1)), (0, .ref (ad 13)), (1, .int v1)]) hx hb dX2_findCrossings_48 hl (k := 2) rfl rfl (by decide) rfl (fun ls hl => ?_)
      refine lv_goto (tgt := 19) hx hb dX2_findCrossings_51 (by decide) ?_
      exact hJ _ _ _ _ h _ _ _ S (lv_sub hl [1, 2, 0] rfl)
    | _ + 4, h, hl => exact h.elim
  have hl := lv_entry ([.ref (ad 13)]) (n := 3) (Nat.le_of_ble_eq_true rfl)
  subst hargs
  rw [lg_entry_eq]
  generalize (lg_sl ([.ref (ad 13)]) ++ List.replicate (3 - (lg_sl ([.ref (ad 13)])).length) Slot.unset).toArray = ls at hl ⊢
  exact h _ (key _ (fun _ _ _ _ h => h)) s.heap [] ls ⟨hP, hD, va_S.rf⟩ hl
/-! X2_isHem -/
def blk_X2_isHem_0 (v1 : Int32) (Q : Int32 → Mem → Prop) (P : Nat → Int32 → Int32 → Int32 → Int32 → Mem → Prop) (v2 : Int32) (v3 : Int32) (v4 : Int32) (v5 : Int32) (M : Mem) : Prop :=
  P 1 0 0 0 0 M
theorem blk_X2_isHem_0_mono {v1 : Int32} {Q Q' : Int32 → Mem → Prop} {P P' : Nat → Int32 → Int32 → Int32 → Int32 → Mem → Prop} (hQ : ∀ (r : Int32) (M : Mem), Q r M → Q' r M) (hP : ∀ (lab : Nat) (v2 : Int32) (v3 : Int32) (v4 : Int32) (v5 : Int32) (M : Mem), P lab v2 v3 v4 v5 M → P' lab v2 v3 v4 v5 M) (v2 : Int32) (v3 : Int32) (v4 : Int32) (v5 : Int32) (M : Mem) (h : blk_X2_isHem_0 v1 Q P v2 v3 v4 v5 M) : blk_X2_isHem_0 v1 Q' P' v2 v3 v4 v5 M := by
  unfold blk_X2_isHem_0 at h ⊢
  exact hP _ _ _ _ _ _ h
def blk_X2_isHem_1 (v1 : Int32) (Q : Int32 → Mem → Prop) (P : Nat → Int32 → Int32 → Int32 → Int32 → Mem → Prop) (v2 : Int32) (v3 : Int32) (v4 : Int32) (v5 : Int32) (M : Mem) : Prop :=
  (((M.1 14 2) ≤ v4 → ((v2 = 0 → P 2 0 0 0 0 M) ∧ (¬ v2 = 0 → ((¬ v3 = 0 → Q 0 M) ∧ (v3 = 0 → P 2 0 0 0 0 M))))) ∧ (¬ (M.1 14 2) ≤ v4 → (vp_in v1 28 ∧ (vp_in v1 28 ∧ wp_X4_side (M.1 17 v1.toNatClampNeg) (M.1 18 v1.toNatClampNeg) v4 M (fun r1 M1 => ((¬ v2 = 0 → P 3 0 v3 v4 r1 M1) ∧ (v2 = 0 → ((r1 ≤ 0 → P 4 0 v3 v4 r1 M1) ∧ (¬ r1 ≤ 0 → P 3 0 v3 v4 r1 M1)))))))))
theorem blk_X2_isHem_1_mono {v1 : Int32} {Q Q' : Int32 → Mem → Prop} {P P' : Nat → Int32 → Int32 → Int32 → Int32 → Mem → Prop} (hQ : ∀ (r : Int32) (M : Mem), Q r M → Q' r M) (hP : ∀ (lab : Nat) (v2 : Int32) (v3 : Int32) (v4 : Int32) (v5 : Int32) (M : Mem), P lab v2 v3 v4 v5 M → P' lab v2 v3 v4 v5 M) (v2 : Int32) (v3 : Int32) (v4 : Int32) (v5 : Int32) (M : Mem) (h : blk_X2_isHem_1 v1 Q P v2 v3 v4 v5 M) : blk_X2_isHem_1 v1 Q' P' v2 v3 v4 v5 M := by
  unfold blk_X2_isHem_1 at h ⊢
  exact ⟨fun c => let h := h.1 c; ⟨fun c => let h := h.1 c; hP _ _ _ _ _ _ h, fun c => let h := h.2 c; ⟨fun c => let h := h.1 c; hQ _ _ h, fun c => let h := h.2 c; hP _ _ _ _ _ _ h⟩⟩, fun c => let h := h.2 c; ⟨h.1, let h := h.2; ⟨h.1, let h := h.2; wp_X4_side_mono (fun r1 M1 h => ⟨fun c => let h := h.1 c; hP _ _ _ _ _ _ h, fun c => let h := h.2 c; ⟨fun c => let h := h.1 c; hP _ _ _ _ _ _ h, fun c => let h := h.2 c; hP _ _ _ _ _ _ h⟩⟩) h⟩⟩⟩
def blk_X2_isHem_2 (v1 : Int32) (Q : Int32 → Mem → Prop) (P : Nat → Int32 → Int32 → Int32 → Int32 → Mem → Prop) (v2 : Int32) (v3 : Int32) (v4 : Int32) (v5 : Int32) (M : Mem) : Prop :=
  Q 1 M
theorem blk_X2_isHem_2_mono {v1 : Int32} {Q Q' : Int32 → Mem → Prop} {P P' : Nat → Int32 → Int32 → Int32 → Int32 → Mem → Prop} (hQ : ∀ (r : Int32) (M : Mem), Q r M → Q' r M) (hP : ∀ (lab : Nat) (v2 : Int32) (v3 : Int32) (v4 : Int32) (v5 : Int32) (M : Mem), P lab v2 v3 v4 v5 M → P' lab v2 v3 v4 v5 M) (v2 : Int32) (v3 : Int32) (v4 : Int32) (v5 : Int32) (M : Mem) (h : blk_X2_isHem_2 v1 Q P v2 v3 v4 v5 M) : blk_X2_isHem_2 v1 Q' P' v2 v3 v4 v5 M := by
  unfold blk_X2_isHem_2 at h ⊢
  exact hQ _ _ h
def blk_X2_isHem_3 (v1 : Int32) (Q : Int32 → Mem → Prop) (P : Nat → Int32 → Int32 → Int32 → Int32 → Mem → Prop) (v2 : Int32) (v3 : Int32) (v4 : Int32) (v5 : Int32) (M : Mem) : Prop :=
  P 4 1 v3 v4 v5 M
theorem blk_X2_isHem_3_mono {v1 : Int32} {Q Q' : Int32 → Mem → Prop} {P P' : Nat → Int32 → Int32 → Int32 → Int32 → Mem → Prop} (hQ : ∀ (r : Int32) (M : Mem), Q r M → Q' r M) (hP : ∀ (lab : Nat) (v2 : Int32) (v3 : Int32) (v4 : Int32) (v5 : Int32) (M : Mem), P lab v2 v3 v4 v5 M → P' lab v2 v3 v4 v5 M) (v2 : Int32) (v3 : Int32) (v4 : Int32) (v5 : Int32) (M : Mem) (h : blk_X2_isHem_3 v1 Q P v2 v3 v4 v5 M) : blk_X2_isHem_3 v1 Q' P' v2 v3 v4 v5 M := by
  unfold blk_X2_isHem_3 at h ⊢
  exact hP _ _ _ _ _ _ h
def blk_X2_isHem_4 (v1 : Int32) (Q : Int32 → Mem → Prop) (P : Nat → Int32 → Int32 → Int32 → Int32 → Mem → Prop) (v2 : Int32) (v3 : Int32) (v4 : Int32) (v5 : Int32) (M : Mem) : Prop :=
  ((¬ v3 = 0 → P 5 v2 0 v4 0 M) ∧ (v3 = 0 → ((0 ≤ v5 → P 6 v2 0 v4 0 M) ∧ (¬ 0 ≤ v5 → P 5 v2 0 v4 0 M))))
theorem blk_X2_isHem_4_mono {v1 : Int32} {Q Q' : Int32 → Mem → Prop} {P P' : Nat → Int32 → Int32 → Int32 → Int32 → Mem → Prop} (hQ : ∀ (r : Int32) (M : Mem), Q r M → Q' r M) (hP : ∀ (lab : Nat) (v2 : Int32) (v3 : Int32) (v4 : Int32) (v5 : Int32) (M : Mem), P lab v2 v3 v4 v5 M → P' lab v2 v3 v4 v5 M) (v2 : Int32) (v3 : Int32) (v4 : Int32) (v5 : Int32) (M : Mem) (h : blk_X2_isHem_4 v1 Q P v2 v3 v4 v5 M) : blk_X2_isHem_4 v1 Q' P' v2 v3 v4 v5 M := by
  unfold blk_X2_isHem_4 at h ⊢
  exact ⟨fun c => let h := h.1 c; hP _ _ _ _ _ _ h, fun c => let h := h.2 c; ⟨fun c => let h := h.1 c; hP _ _ _ _ _ _ h, fun c => let h := h.2 c; hP _ _ _ _ _ _ h⟩⟩
def blk_X2_isHem_5 (v1 : Int32) (Q : Int32 → Mem → Prop) (P : Nat → Int32 → Int32 → Int32 → Int32 → Mem → Prop) (v2 : Int32) (v3 : Int32) (v4 : Int32) (v5 : Int32) (M : Mem) : Prop :=
  P 6 v2 1 v4 0 M
theorem blk_X2_isHem_5_mono {v1 : Int32} {Q Q' : Int32 → Mem → Prop} {P P' : Nat → Int32 → Int32 → Int32 → Int32 → Mem → Prop} (hQ : ∀ (r : Int32) (M : Mem), Q r M → Q' r M) (hP : ∀ (lab : Nat) (v2 : Int32) (v3 : Int32) (v4 : Int32) (v5 : Int32) (M : Mem), P lab v2 v3 v4 v5 M → P' lab v2 v3 v4 v5 M) (v2 : Int32) (v3 : Int32) (v4 : Int32) (v5 : Int32) (M : Mem) (h : blk_X2_isHem_5 v1 Q P v2 v3 v4 v5 M) : blk_X2_isHem_5 v1 Q' P' v2 v3 v4 v5 M := by
  unfold blk_X2_isHem_5 at h ⊢
  exact hP _ _ _ _ _ _ h
def blk_X2_isHem_6 (v1 : Int32) (Q : Int32 → Mem → Prop) (P : Nat → Int32 → Int32 → Int32 → Int32 → Mem → Prop) (v2 : Int32) (v3 : Int32) (v4 : Int32) (v5 : Int32) (M : Mem) : Prop :=
  P 1 v2 v3 (v4 + 1) 0 M
theorem blk_X2_isHem_6_mono {v1 : Int32} {Q Q' : Int32 → Mem → Prop} {P P' : Nat → Int32 → Int32 → Int32 → Int32 → Mem → Prop} (hQ : ∀ (r : Int32) (M : Mem), Q r M → Q' r M) (hP : ∀ (lab : Nat) (v2 : Int32) (v3 : Int32) (v4 : Int32) (v5 : Int32) (M : Mem), P lab v2 v3 v4 v5 M → P' lab v2 v3 v4 v5 M) (v2 : Int32) (v3 : Int32) (v4 : Int32) (v5 : Int32) (M : Mem) (h : blk_X2_isHem_6 v1 Q P v2 v3 v4 v5 M) : blk_X2_isHem_6 v1 Q' P' v2 v3 v4 v5 M := by
  unfold blk_X2_isHem_6 at h ⊢
  exact hP _ _ _ _ _ _ h
def blk_X2_isHem (v1 : Int32) (Q : Int32 → Mem → Prop) (P : Nat → Int32 → Int32 → Int32 → Int32 → Mem → Prop) : Nat → Int32 → Int32 → Int32 → Int32 → Mem → Prop := fun lab v2 v3 v4 v5 M => match lab with
  | 0 => blk_X2_isHem_0 v1 Q P v2 v3 v4 v5 M
  | 1 => blk_X2_isHem_1 v1 Q P v2 v3 v4 v5 M
  | 2 => blk_X2_isHem_2 v1 Q P v2 v3 v4 v5 M
  | 3 => blk_X2_isHem_3 v1 Q P v2 v3 v4 v5 M
  | 4 => blk_X2_isHem_4 v1 Q P v2 v3 v4 v5 M
  | 5 => blk_X2_isHem_5 v1 Q P v2 v3 v4 v5 M
  | 6 => blk_X2_isHem_6 v1 Q P v2 v3 v4 v5 M
  | _ => False
theorem blk_X2_isHem_mono {v1 : Int32} {Q Q' : Int32 → Mem → Prop} {P P' : Nat → Int32 → Int32 → Int32 → Int32 → Mem → Prop} (hQ : ∀ (r : Int32) (M : Mem), Q r M → Q' r M) (hP : ∀ (lab : Nat) (v2 : Int32) (v3 : Int32) (v4 : Int32) (v5 : Int32) (M : Mem), P lab v2 v3 v4 v5 M → P' lab v2 v3 v4 v5 M) : ∀ (lab : Nat) (v2 : Int32) (v3 : Int32) (v4 : Int32) (v5 : Int32) (M : Mem), blk_X2_isHem v1 Q P lab v2 v3 v4 v5 M → blk_X2_isHem v1 Q' P' lab v2 v3 v4 v5 M := fun lab v2 v3 v4 v5 M h => match lab, h with
  | 0, h => blk_X2_isHem_0_mono (v1 := v1) hQ hP v2 v3 v4 v5 M h
  | 1, h => blk_X2_isHem_1_mono (v1 := v1) hQ hP v2 v3 v4 v5 M h
  | 2, h => blk_X2_isHem_2_mono (v1 := v1) hQ hP v2 v3 v4 v5 M h
  | 3, h => blk_X2_isHem_3_mono (v1 := v1) hQ hP v2 v3 v4 v5 M h
  | 4, h => blk_X2_isHem_4_mono (v1 := v1) hQ hP v2 v3 v4 v5 M h
  | 5, h => blk_X2_isHem_5_mono (v1 := v1) hQ hP v2 v3 v4 v5 M h
  | 6, h => blk_X2_isHem_6_mono (v1 := v1) hQ hP v2 v3 v4 v5 M h
  | _ + 7, h => False.elim h
def at_X2_isHem (v1 : Int32) (Q : Int32 → Mem → Prop) : Nat → Int32 → Int32 → Int32 → Int32 → Mem → Prop := fun lab v2 v3 v4 v5 M => ∀ P : Nat → Int32 → Int32 → Int32 → Int32 → Mem → Prop, (∀ (lab : Nat) (v2 : Int32) (v3 : Int32) (v4 : Int32) (v5 : Int32) (M : Mem), blk_X2_isHem v1 Q P lab v2 v3 v4 v5 M → P lab v2 v3 v4 v5 M) → P lab v2 v3 v4 v5 M
theorem at_X2_isHem_fold {v1 : Int32} {Q : Int32 → Mem → Prop} {lab : Nat} {v2 : Int32} {v3 : Int32} {v4 : Int32} {v5 : Int32} {M : Mem} (h : blk_X2_isHem v1 Q (at_X2_isHem v1 Q) lab v2 v3 v4 v5 M) : at_X2_isHem v1 Q lab v2 v3 v4 v5 M := fun P hP => hP _ _ _ _ _ _ (blk_X2_isHem_mono (fun _ _ h => h) (fun _ _ _ _ _ _ h => h P hP) _ _ _ _ _ _ h)
theorem at_X2_isHem_mono {v1 : Int32} {Q Q' : Int32 → Mem → Prop} (hQ : ∀ (r : Int32) (M : Mem), Q r M → Q' r M) {lab : Nat} {v2 : Int32} {v3 : Int32} {v4 : Int32} {v5 : Int32} {M : Mem} (h : at_X2_isHem v1 Q lab v2 v3 v4 v5 M) : at_X2_isHem v1 Q' lab v2 v3 v4 v5 M := fun P hP => h P (fun lab v2 v3 v4 v5 M hb => hP _ _ _ _ _ _ (blk_X2_isHem_mono hQ (fun _ _ _ _ _ _ h => h) _ _ _ _ _ _ hb))
def wp_X2_isHem (v1 : Int32) (M : Mem) (Q : Int32 → Mem → Prop) : Prop := at_X2_isHem v1 Q 0 0 0 0 0 M
theorem wp_X2_isHem_mono {v1 : Int32} {M : Mem} {Q Q' : Int32 → Mem → Prop} (hQ : ∀ (r : Int32) (M : Mem), Q r M → Q' r M) (h : wp_X2_isHem v1 M Q) : wp_X2_isHem v1 M Q' := at_X2_isHem_mono hQ h
def pcl_X2_isHem : Nat → Nat := fun lab => match lab with
  | 0 => 0
  | 1 => 7
  | 2 => 86
  | 3 => 51
  | 4 => 57
  | 5 => 66
  | 6 => 72
  | _ => 0
def lvl_X2_isHem (ad : Nat → Nat) (v1 : Int32) : Nat → Int32 → Int32 → Int32 → Int32 → List (Nat × Value) := fun lab v2 v3 v4 v5 => match lab with
  | 0 => [(0, .ref (ad 13)), (1, .int v1)]
  | 1 => [(0, .ref (ad 13)), (1, .int v1), (2, .int v2), (3, .int v3), (4, .int v4)]
  | 2 => []
  | 3 => [(0, .ref (ad 13)), (1, .int v1), (3, .int v3), (4, .int v4), (5, .int v5)]
  | 4 => [(0, .ref (ad 13)), (1, .int v1), (2, .int v2), (3, .int v3), (4, .int v4), (5, .int v5)]
  | 5 => [(0, .ref (ad 13)), (1, .int v1), (2, .int v2), (4, .int v4)]
  | 6 => [(0, .ref (ad 13)), (1, .int v1), (2, .int v2), (3, .int v3), (4, .int v4)]
  | _ => []
abbrev rm_X2_isHem : Jvm.Room := { frames := 2, cells := 0, slots := 0, locals := 40 }
set_option maxHeartbeats 4000000 in
set_option maxRecDepth 100000 in
theorem ct_X2_isHem (l : Launch) (D : va_G) (cy : Nat → ClassId) (ad : Nat → Nat) (B : Nat → Prop) (v1 : Int32) (M : Mem) (Q : Int32 → Mem → Prop) (h : wp_X2_isHem v1 M Q) : CTi l D cy (wX ad cy) B yX2_isHem wsX2_isHem rm_X2_isHem [.ref (ad 13), .int v1] M Q := by
  intro sz
  refine Met.ofW (cc := cX2_isHem) (maxL := 6) (ret := some .boolean) (by decide) rfl ?_
  intro p e s m args below meth c s₁ Bd hml hv
  obtain ⟨hargs, hsz, hP, hK, hD⟩ := hv
  subst hsz
  have hx := Bd.exec
  have hb := Bd.bytes
  have hr := Bd.returns
  have hts := atoms_spec (ws := wsX2_isHem) Bd.pre
  have hown : s.vm.findClass RX2 = some m.cls := findClass_of_methodNamed Bd.named
  have hlocks := Bd.notSynchronized
  have hC2 : xC wsX2_isHem 2 RX2 TX2 8 := ⟨by decide +kernel, rfl⟩
  have hC4 : xC wsX2_isHem 4 RX4 TX4 3 := ⟨by decide +kernel, rfl⟩
  have key : ∀ (P : Nat → Int32 → Int32 → Int32 → Int32 → Mem → Prop), (∀ (lab : Nat) (v2 : Int32) (v3 : Int32) (v4 : Int32) (v5 : Int32) (M : Mem), P lab v2 v3 v4 v5 M → ∀ (H : Heap) (locs : List Loc) (ls : Array Slot), xS D (wX ad cy) B s.heap H locs M → lv_has ls 6 (lvl_X2_isHem ad v1 lab v2 v3 v4 v5 ) → W p l e (headSpec wsX2_isHem rm_X2_isHem).room s m args below meth c H locs 0 0 (MQ below (va_Qi (S := Mem) Q (xB D (wX ad cy) B) (xA B s.heap.size)) args s 0 0 (xA B s.heap.size)) (F0 m (pcl_X2_isHem lab) ls [])) → ∀ (lab : Nat) (v2 : Int32) (v3 : Int32) (v4 : Int32) (v5 : Int32) (M : Mem), blk_X2_isHem v1 Q P lab v2 v3 v4 v5 M → ∀ (H : Heap) (locs : List Loc) (ls : Array Slot), xS D (wX ad cy) B s.heap H locs M → lv_has ls 6 (lvl_X2_isHem ad v1 lab v2 v3 v4 v5 ) → W p l e (headSpec wsX2_isHem rm_X2_isHem).room s m args below meth c H locs 0 0 (MQ below (va_Qi (S := Mem) Q (xB D (wX ad cy) B) (xA B s.heap.size)) args s 0 0 (xA B s.heap.size)) (F0 m (pcl_X2_isHem lab) ls []) := by
    intro P hJ lab v2 v3 v4 v5 M h H locs ls S hl
    match lab, h, hl with
    | 0, h, hl =>
      have hl : lv_has ls 6 [(0, .ref (ad 13)), (1, .int v1)] := hl
      have h : blk_X2_isHem_0 v1 Q P v2 v3 v4 v5 M := h
      unfold blk_X2_isHem_0 at h
      refine W.eq (g2 := F0 m 0 ls []) rfl ?_
      refine lv_iconst (v := 0) hx hb dX2_isHem_0 (by decide) ?_
      refine lv_istore_n (lv' := [(2, .int 0), (0, .ref (ad 13)), (1, .int v1)]) hx hb dX2_isHem_1 rfl hl (by decide) rfl (fun ls hl => ?_)
      refine lv_iconst (v := 0) hx hb dX2_isHem_2 (by decide) ?_
      refine lv_istore_n (lv' := [(3, .int 0), (2, .int 0), (0, .ref (ad 13)), (1, .int v1)]) hx hb dX2_isHem_3 rfl hl (by decide) rfl (fun ls hl => ?_)
      refine lv_iconst (v := 0) hx hb dX2_isHem_4 (by decide) ?_
      refine lv_istore (lv' := [(4, .int 0), (3, .int 0), (2, .int 0), (0, .ref (ad 13)), (1, .int v1)]) hx hb dX2_isHem_5 hl (by decide) rfl (fun ls hl => ?_)
      exact hJ _ _ _ _ _ _ h _ _ _ S (lv_sub hl [3, 4, 2, 1, 0] rfl)
    | 1, h, hl =>
      have hl : lv_has ls 6 [(0, .ref (ad 13)), (1, .int v1), (2, .int v2), (3, .int v3), (4, .int v4)] := hl
      have h : blk_X2_isHem_1 v1 Q P v2 v3 v4 v5 M := h
      unfold blk_X2_isHem_1 at h
      refine W.eq (g2 := F0 m 7 ls []) rfl ?_
      refine lv_iload hx hb dX2_isHem_7 (lv_at hl 4 rfl) ?_
      refine lv_aload_n hx hb dX2_isHem_9 rfl (lv_at hl 0 rfl) ?_
      refine x_getR hx hb hts (hC2) hown hK S 0 (by decide) xf_13_0 (index := 12) (hts _ (List.mem_of_getElem? (i := 1) rfl)) dX2_isHem_10 ?_
      refine x_getI hx hb hts (hC4) hown hK S 2 (by decide) xf_14_2 (index := 50) (hts _ (List.mem_of_getElem? (i := 2) rfl)) dX2_isHem_13 ?_
      refine lv_icmp_ge (tgt := 78) hx hb dX2_isHem_16 (by decide) (fun c16 => ?_) (fun c16 => ?_)
      · replace h := h.1 c16
        refine lv_iload_n hx hb dX2_isHem_78 rfl (lv_at hl 2 rfl) ?_
        refine lv_if_eq (tgt := 86) hx hb dX2_isHem_79 (by decide) (fun c79 => ?_) (fun c79 => ?_)
        · replace h := h.1 c79
          exact hJ _ _ _ _ _ _ h _ _ _ S (lv_sub hl [] rfl)
        · replace h := h.2 c79
          refine lv_iload_n hx hb dX2_isHem_82 rfl (lv_at hl 3 rfl) ?_
          refine lv_if_ne (tgt := 90) hx hb dX2_isHem_83 (by decide) (fun c83 => ?_) (fun c83 => ?_)
          · replace h := h.1 c83
            refine lv_iconst (v := 0) hx hb dX2_isHem_90 (by decide) ?_
            exact x_iret hx hb hr hlocks S rfl h dX2_isHem_91
          · replace h := h.2 c83
            exact hJ _ _ _ _ _ _ h _ _ _ S (lv_sub hl [] rfl)
      · replace h := h.2 c16
        refine lv_aload_n hx hb dX2_isHem_19 rfl (lv_at hl 0 rfl) ?_
        refine x_getR hx hb hts (hC2) hown hK S 0 (by decide) xf_13_0 (index := 12) (hts _ (List.mem_of_getElem? (i := 1) rfl)) dX2_isHem_20 ?_
        refine lv_aload_n hx hb dX2_isHem_23 rfl (lv_at hl 0 rfl) ?_
        refine x_getR hx hb hts (hC2) hown hK S 1 (by decide) xf_13_1 (index := 18) (hts _ (List.mem_of_getElem? (i := 3) rfl)) dX2_isHem_24 ?_
        refine lv_iload_n hx hb dX2_isHem_27 rfl (lv_at hl 1 rfl) ?_
        refine x_iald hx hb hK S xa_17 h.1 dX2_isHem_28 ?_
        replace h := h.2
        refine lv_aload_n hx hb dX2_isHem_29 rfl (lv_at hl 0 rfl) ?_
        refine x_getR hx hb hts (hC2) hown hK S 2 (by decide) xf_13_2 (index := 22) (hts _ (List.mem_of_getElem? (i := 4) rfl)) dX2_isHem_30 ?_
        refine lv_iload_n hx hb dX2_isHem_33 rfl (lv_at hl 1 rfl) ?_
        refine x_iald hx hb hK S xa_18 h.1 dX2_isHem_34 ?_
        replace h := h.2
        refine lv_iload hx hb dX2_isHem_35 (lv_at hl 4 rfl) ?_
        refine x_callVi (As := [.int (M.1 17 v1.toNatClampNeg), .int (M.1 18 v1.toNatClampNeg), .int v4]) ⟨hx, hb, hml, hown, hts⟩ hK S (ct_X4_side l D cy ad B _ _ _ _ _ h) xo_14 rfl (cwV 3 hts gX2_isHem_X4_side rfl rfl rfl (by decide +kernel) ⟨Nat.le_of_ble_eq_true rfl, Nat.le_of_ble_eq_true rfl⟩) rfl hl.1 rfl (Nat.le_of_ble_eq_true rfl) dX2_isHem_37 ⟨Nat.zero_le _, Nat.zero_le _⟩ (fun r1 M1 H locs h S => ?_)
        refine lv_istore (lv' := [(5, .int r1), (0, .ref (ad 13)), (1, .int v1), (2, .int v2), (3, .int v3), (4, .int v4)]) hx hb dX2_isHem_40 hl (by decide) rfl (fun ls hl => ?_)
        refine lv_iload_n hx hb dX2_isHem_42 rfl (lv_at hl 3 rfl) ?_
        refine lv_if_ne (tgt := 51) hx hb dX2_isHem_43 (by decide) (fun c43 => ?_) (fun c43 => ?_)
        · replace h := h.1 c43
          exact hJ _ _ _ _ _ _ h _ _ _ S (lv_sub hl [1, 2, 4, 5, 0] rfl)
        · replace h := h.2 c43
          refine lv_iload hx hb dX2_isHem_46 (lv_at hl 0 rfl) ?_
          refine lv_if_le (tgt := 55) hx hb dX2_isHem_48 (by decide) (fun c48 => ?_) (fun c48 => ?_)
          · replace h := h.1 c48
            refine lv_iconst (v := 0) hx hb dX2_isHem_55 (by decide) ?_
            refine lv_istore_n (lv' := [(2, .int 0), (5, .int r1), (0, .ref (ad 13)), (1, .int v1), (3, .int v3), (4, .int v4)]) hx hb dX2_isHem_56 rfl hl (by decide) rfl (fun ls hl => ?_)
            exact hJ _ _ _ _ _ _ h _ _ _ S (lv_sub hl [2, 3, 0, 4, 5, 1] rfl)
          · replace h := h.2 c48
            exact hJ _ _ _ _ _ _ h _ _ _ S (lv_sub hl [1, 2, 4, 5, 0] rfl)
    | 2, h, hl =>
      have hl : lv_has ls 6 [] := hl
      have h : blk_X2_isHem_2 v1 Q P v2 v3 v4 v5 M := h
      unfold blk_X2_isHem_2 at h
      refine W.eq (g2 := F0 m 86 ls []) rfl ?_
      refine lv_iconst (v := 1) hx hb dX2_isHem_86 (by decide) ?_
      refine lv_goto (tgt := 91) hx hb dX2_isHem_87 (by decide) ?_
      exact x_iret hx hb hr hlocks S rfl h dX2_isHem_91
    | 3, h, hl =>
      have hl : lv_has ls 6 [(0, .ref (ad 13)), (1, .int v1), (3, .int v3), (4, .int v4), (5, .int v5)] := hl
      have h : blk_X2_isHem_3 v1 Q P v2 v3 v4 v5 M := h
      unfold blk_X2_isHem_3 at h
      refine W.eq (g2 := F0 m 51 ls []) rfl ?_
      refine lv_iconst (v := 1) hx hb dX2_isHem_51 (by decide) ?_
      refine lv_goto (tgt := 56) hx hb dX2_isHem_52 (by decide) ?_
      refine lv_istore_n (lv' := [(2, .int 1), (0, .ref (ad 13)), (1, .int v1), (3, .int v3), (4, .int v4), (5, .int v5)]) hx hb dX2_isHem_56 rfl hl (by decide) rfl (fun ls hl => ?_)
      exact hJ _ _ _ _ _ _ h _ _ _ S (lv_sub hl [1, 2, 0, 3, 4, 5] rfl)
    | 4, h, hl =>
      have hl : lv_has ls 6 [(0, .ref (ad 13)), (1, .int v1), (2, .int v2), (3, .int v3), (4, .int v4), (5, .int v5)] := hl
      have h : blk_X2_isHem_4 v1 Q P v2 v3 v4 v5 M := h
      unfold blk_X2_isHem_4 at h
      refine W.eq (g2 := F0 m 57 ls []) rfl ?_
      refine lv_iload_n hx hb dX2_isHem_57 rfl (lv_at hl 3 rfl) ?_
      refine lv_if_ne (tgt := 66) hx hb dX2_isHem_58 (by decide) (fun c58 => ?_) (fun c58 => ?_)
      · replace h := h.1 c58
        exact hJ _ _ _ _ _ _ h _ _ _ S (lv_sub hl [0, 1, 2, 4] rfl)
      · replace h := h.2 c58
        refine lv_iload hx hb dX2_isHem_61 (lv_at hl 5 rfl) ?_
        refine lv_if_ge (tgt := 70) hx hb dX2_isHem_63 (by decide) (fun c63 => ?_) (fun c63 => ?_)
        · replace h := h.1 c63
          refine lv_iconst (v := 0) hx hb dX2_isHem_70 (by decide) ?_
          refine lv_istore_n (lv' := [(3, .int 0), (0, .ref (ad 13)), (1, .int v1), (2, .int v2), (4, .int v4), (5, .int v5)]) hx hb dX2_isHem_71 rfl hl (by decide) rfl (fun ls hl => ?_)
          exact hJ _ _ _ _ _ _ h _ _ _ S (lv_sub hl [1, 2, 3, 0, 4] rfl)
        · replace h := h.2 c63
          exact hJ _ _ _ _ _ _ h _ _ _ S (lv_sub hl [0, 1, 2, 4] rfl)
    | 5, h, hl =>
      have hl : lv_has ls 6 [(0, .ref (ad 13)), (1, .int v1), (2, .int v2), (4, .int v4)] := hl
      have h : blk_X2_isHem_5 v1 Q P v2 v3 v4 v5 M := h
      unfold blk_X2_isHem_5 at h
      refine W.eq (g2 := F0 m 66 ls []) rfl ?_
      refine lv_iconst (v := 1) hx hb dX2_isHem_66 (by decide) ?_
      refine lv_goto (tgt := 71) hx hb dX2_isHem_67 (by decide) ?_
      refine lv_istore_n (lv' := [(3, .int 1), (0, .ref (ad 13)), (1, .int v1), (2, .int v2), (4, .int v4)]) hx hb dX2_isHem_71 rfl hl (by decide) rfl (fun ls hl => ?_)
      exact hJ _ _ _ _ _ _ h _ _ _ S (lv_sub hl [1, 2, 3, 0, 4] rfl)
    | 6, h, hl =>
      have hl : lv_has ls 6 [(0, .ref (ad 13)), (1, .int v1), (2, .int v2), (3, .int v3), (4, .int v4)] := hl
      have h : blk_X2_isHem_6 v1 Q P v2 v3 v4 v5 M := h
      unfold blk_X2_isHem_6 at h
      refine W.eq (g2 := F0 m 72 ls []) rfl ?_
      refine lv_iinc (v := (v4 + 1)) (lv' := [(4, .int (v4 + 1)), (0, .ref (ad 13)), (1, .int v1), (2, .int v2), (3, .int v3)]) hx hb dX2_isHem_72 hl (k := 4) rfl rfl (by decide) rfl (fun ls hl => ?_)
      refine lv_goto (tgt := 7) hx hb dX2_isHem_75 (by decide) ?_
      exact hJ _ _ _ _ _ _ h _ _ _ S (lv_sub hl [1, 2, 3, 4, 0] rfl)
    | _ + 7, h, hl => exact h.elim
  have hl := lv_entry ([.ref (ad 13), .int v1]) (n := 6) (Nat.le_of_ble_eq_true rfl)
  subst hargs
  rw [lg_entry_eq]
  generalize (lg_sl ([.ref (ad 13), .int v1]) ++ List.replicate (6 - (lg_sl ([.ref (ad 13), .int v1])).length) Slot.unset).toArray = ls at hl ⊢
  exact h _ (key _ (fun _ _ _ _ _ _ h => h)) s.heap [] ls ⟨hP, hD, va_S.rf⟩ hl
/-! X2_findHems -/
def blk_X2_findHems_0 (Q : Mem → Prop) (P : Nat → Int32 → Mem → Prop) (v1 : Int32) (M : Mem) : Prop :=
  P 1 0 (upI M 13 5 0)
theorem blk_X2_findHems_0_mono {Q Q' : Mem → Prop} {P P' : Nat → Int32 → Mem → Prop} (hQ : ∀ M : Mem, Q M → Q' M) (hP : ∀ (lab : Nat) (v1 : Int32) (M : Mem), P lab v1 M → P' lab v1 M) (v1 : Int32) (M : Mem) (h : blk_X2_findHems_0 Q P v1 M) : blk_X2_findHems_0 Q' P' v1 M := by
  unfold blk_X2_findHems_0 at h ⊢
  exact hP _ _ _ h
def blk_X2_findHems_1 (Q : Mem → Prop) (P : Nat → Int32 → Mem → Prop) (v1 : Int32) (M : Mem) : Prop :=
  (((M.1 13 4) ≤ v1 → Q M) ∧ (¬ (M.1 13 4) ≤ v1 → wp_X2_isHem v1 M (fun r1 M1 => ((r1 = 0 → P 2 v1 M1) ∧ (¬ r1 = 0 → P 2 v1 (upI M1 13 5 ((M1.1 13 5) ||| ((1 : Int32) <<< (v1 &&& 31)))))))))
theorem blk_X2_findHems_1_mono {Q Q' : Mem → Prop} {P P' : Nat → Int32 → Mem → Prop} (hQ : ∀ M : Mem, Q M → Q' M) (hP : ∀ (lab : Nat) (v1 : Int32) (M : Mem), P lab v1 M → P' lab v1 M) (v1 : Int32) (M : Mem) (h : blk_X2_findHems_1 Q P v1 M) : blk_X2_findHems_1 Q' P' v1 M := by
  unfold blk_X2_findHems_1 at h ⊢
  exact ⟨fun c => let h := h.1 c; hQ _ h, fun c => let h := h.2 c; wp_X2_isHem_mono (fun r1 M1 h => ⟨fun c => let h := h.1 c; hP _ _ _ h, fun c => let h := h.2 c; hP _ _ _ h⟩) h⟩
def blk_X2_findHems_2 (Q : Mem → Prop) (P : Nat → Int32 → Mem → Prop) (v1 : Int32) (M : Mem) : Prop :=
  P 1 (v1 + 1) M
theorem blk_X2_findHems_2_mono {Q Q' : Mem → Prop} {P P' : Nat → Int32 → Mem → Prop} (hQ : ∀ M : Mem, Q M → Q' M) (hP : ∀ (lab : Nat) (v1 : Int32) (M : Mem), P lab v1 M → P' lab v1 M) (v1 : Int32) (M : Mem) (h : blk_X2_findHems_2 Q P v1 M) : blk_X2_findHems_2 Q' P' v1 M := by
  unfold blk_X2_findHems_2 at h ⊢
  exact hP _ _ _ h
def blk_X2_findHems (Q : Mem → Prop) (P : Nat → Int32 → Mem → Prop) : Nat → Int32 → Mem → Prop := fun lab v1 M => match lab with
  | 0 => blk_X2_findHems_0 Q P v1 M
  | 1 => blk_X2_findHems_1 Q P v1 M
  | 2 => blk_X2_findHems_2 Q P v1 M
  | _ => False
theorem blk_X2_findHems_mono {Q Q' : Mem → Prop} {P P' : Nat → Int32 → Mem → Prop} (hQ : ∀ M : Mem, Q M → Q' M) (hP : ∀ (lab : Nat) (v1 : Int32) (M : Mem), P lab v1 M → P' lab v1 M) : ∀ (lab : Nat) (v1 : Int32) (M : Mem), blk_X2_findHems Q P lab v1 M → blk_X2_findHems Q' P' lab v1 M := fun lab v1 M h => match lab, h with
  | 0, h => blk_X2_findHems_0_mono hQ hP v1 M h
  | 1, h => blk_X2_findHems_1_mono hQ hP v1 M h
  | 2, h => blk_X2_findHems_2_mono hQ hP v1 M h
  | _ + 3, h => False.elim h
def at_X2_findHems (Q : Mem → Prop) : Nat → Int32 → Mem → Prop := fun lab v1 M => ∀ P : Nat → Int32 → Mem → Prop, (∀ (lab : Nat) (v1 : Int32) (M : Mem), blk_X2_findHems Q P lab v1 M → P lab v1 M) → P lab v1 M
theorem at_X2_findHems_fold {Q : Mem → Prop} {lab : Nat} {v1 : Int32} {M : Mem} (h : blk_X2_findHems Q (at_X2_findHems Q) lab v1 M) : at_X2_findHems Q lab v1 M := fun P hP => hP _ _ _ (blk_X2_findHems_mono (fun _ h => h) (fun _ _ _ h => h P hP) _ _ _ h)
theorem at_X2_findHems_mono {Q Q' : Mem → Prop} (hQ : ∀ M : Mem, Q M → Q' M) {lab : Nat} {v1 : Int32} {M : Mem} (h : at_X2_findHems Q lab v1 M) : at_X2_findHems Q' lab v1 M := fun P hP => h P (fun lab v1 M hb => hP _ _ _ (blk_X2_findHems_mono hQ (fun _ _ _ h => h) _ _ _ hb))
def wp_X2_findHems (M : Mem) (Q : Mem → Prop) : Prop := at_X2_findHems Q 0 0 M
theorem wp_X2_findHems_mono {M : Mem} {Q Q' : Mem → Prop} (hQ : ∀ M : Mem, Q M → Q' M) (h : wp_X2_findHems M Q) : wp_X2_findHems M Q' := at_X2_findHems_mono hQ h
def pcl_X2_findHems : Nat → Nat := fun lab => match lab with
  | 0 => 0
  | 1 => 7
  | 2 => 35
  | _ => 0
def lvl_X2_findHems (ad : Nat → Nat) : Nat → Int32 → List (Nat × Value) := fun lab v1 => match lab with
  | 0 => [(0, .ref (ad 13))]
  | 1 => [(0, .ref (ad 13)), (1, .int v1)]
  | 2 => [(0, .ref (ad 13)), (1, .int v1)]
  | _ => []
abbrev rm_X2_findHems : Jvm.Room := { frames := 3, cells := 0, slots := 0, locals := 65 }
set_option maxHeartbeats 4000000 in
set_option maxRecDepth 100000 in
theorem ct_X2_findHems (l : Launch) (D : va_G) (cy : Nat → ClassId) (ad : Nat → Nat) (B : Nat → Prop) (M : Mem) (Q : Mem → Prop) (h : wp_X2_findHems M Q) : CTv l D cy (wX ad cy) B yX2_findHems wsX2_findHems rm_X2_findHems [.ref (ad 13)] M Q := by
  intro sz
  refine Met.ofW (cc := cX2_findHems) (maxL := 2) (ret := none) (by decide) rfl ?_
  intro p e s m args below meth c s₁ Bd hml hv
  obtain ⟨hargs, hsz, hP, hK, hD⟩ := hv
  subst hsz
  have hx := Bd.exec
  have hb := Bd.bytes
  have hr := Bd.returns
  have hts := atoms_spec (ws := wsX2_findHems) Bd.pre
  have hown : s.vm.findClass RX2 = some m.cls := findClass_of_methodNamed Bd.named
  have hlocks := Bd.notSynchronized
  have hC2 : xC wsX2_findHems 2 RX2 TX2 8 := ⟨by decide +kernel, rfl⟩
  have key : ∀ (P : Nat → Int32 → Mem → Prop), (∀ (lab : Nat) (v1 : Int32) (M : Mem), P lab v1 M → ∀ (H : Heap) (locs : List Loc) (ls : Array Slot), xS D (wX ad cy) B s.heap H locs M → lv_has ls 2 (lvl_X2_findHems ad lab v1 ) → W p l e (headSpec wsX2_findHems rm_X2_findHems).room s m args below meth c H locs 0 0 (MQ below (va_Qv (S := Mem) Q (xB D (wX ad cy) B) (xA B s.heap.size)) args s 0 0 (xA B s.heap.size)) (F0 m (pcl_X2_findHems lab) ls [])) → ∀ (lab : Nat) (v1 : Int32) (M : Mem), blk_X2_findHems Q P lab v1 M → ∀ (H : Heap) (locs : List Loc) (ls : Array Slot), xS D (wX ad cy) B s.heap H locs M → lv_has ls 2 (lvl_X2_findHems ad lab v1 ) → W p l e (headSpec wsX2_findHems rm_X2_findHems).room s m args below meth c H locs 0 0 (MQ below (va_Qv (S := Mem) Q (xB D (wX ad cy) B) (xA B s.heap.size)) args s 0 0 (xA B s.heap.size)) (F0 m (pcl_X2_findHems lab) ls []) := by
    intro P hJ lab v1 M h H locs ls S hl
    match lab, h, hl with
    | 0, h, hl =>
      have hl : lv_has ls 2 [(0, .ref (ad 13))] := hl
      have h : blk_X2_findHems_0 Q P v1 M := h
      unfold blk_X2_findHems_0 at h
      refine W.eq (g2 := F0 m 0 ls []) rfl ?_
      refine lv_aload_n hx hb dX2_findHems_0 rfl (lv_at hl 0 rfl) ?_
      refine lv_iconst (v := 0) hx hb dX2_findHems_1 (by decide) ?_
      refine x_putI hx hb hts (hC2) tyX2 tyX2_ok nmX2 hown hK S 5 (by decide) xf_13_5 (index := 65) (hts _ (List.mem_of_getElem? (i := 1) rfl)) rfl rfl rfl dX2_findHems_2 (fun H locs S => ?_)
      refine lv_iconst (v := 0) hx hb dX2_findHems_5 (by decide) ?_
      refine lv_istore_n (lv' := [(1, .int 0), (0, .ref (ad 13))]) hx hb dX2_findHems_6 rfl hl (by decide) rfl (fun ls hl => ?_)
      exact hJ _ _ _ h _ _ _ S (lv_sub hl [1, 0] rfl)
    | 1, h, hl =>
      have hl : lv_has ls 2 [(0, .ref (ad 13)), (1, .int v1)] := hl
      have h : blk_X2_findHems_1 Q P v1 M := h
      unfold blk_X2_findHems_1 at h
      refine W.eq (g2 := F0 m 7 ls []) rfl ?_
      refine lv_iload_n hx hb dX2_findHems_7 rfl (lv_at hl 1 rfl) ?_
      refine lv_aload_n hx hb dX2_findHems_8 rfl (lv_at hl 0 rfl) ?_
      refine x_getI hx hb hts (hC2) hown hK S 4 (by decide) xf_13_4 (index := 54) (hts _ (List.mem_of_getElem? (i := 2) rfl)) dX2_findHems_9 ?_
      refine lv_icmp_ge (tgt := 41) hx hb dX2_findHems_12 (by decide) (fun c12 => ?_) (fun c12 => ?_)
      · replace h := h.1 c12
        exact x_vret hx hb hr hlocks S h dX2_findHems_41
      · replace h := h.2 c12
        refine lv_aload_n hx hb dX2_findHems_15 rfl (lv_at hl 0 rfl) ?_
        refine lv_iload_n hx hb dX2_findHems_16 rfl (lv_at hl 1 rfl) ?_
        refine x_callVi (As := [.int v1]) ⟨hx, hb, hml, hown, hts⟩ hK S (ct_X2_isHem l D cy ad B _ _ _ h) xo_13 rfl (cwV 1 hts gX2_findHems_X2_isHem rfl rfl rfl (by decide +kernel) ⟨Nat.le_of_ble_eq_true rfl, Nat.le_of_ble_eq_true rfl⟩) rfl hl.1 rfl (Nat.le_of_ble_eq_true rfl) dX2_findHems_17 ⟨Nat.zero_le _, Nat.zero_le _⟩ (fun r1 M1 H locs h S => ?_)
        refine lv_if_eq (tgt := 35) hx hb dX2_findHems_20 (by decide) (fun c20 => ?_) (fun c20 => ?_)
        · replace h := h.1 c20
          exact hJ _ _ _ h _ _ _ S (lv_sub hl [0, 1] rfl)
        · replace h := h.2 c20
          refine lv_aload_n hx hb dX2_findHems_23 rfl (lv_at hl 0 rfl) ?_
          refine lv_dup hx hb dX2_findHems_24 rfl ?_
          refine x_getI hx hb hts (hC2) hown hK S 5 (by decide) xf_13_5 (index := 65) (hts _ (List.mem_of_getElem? (i := 1) rfl)) dX2_findHems_25 ?_
          refine lv_iconst (v := 1) hx hb dX2_findHems_28 (by decide) ?_
          refine lv_iload_n hx hb dX2_findHems_29 rfl (lv_at hl 1 rfl) ?_
          refine lv_ishl hx hb dX2_findHems_30 ?_
          refine lv_ior hx hb dX2_findHems_31 ?_
          refine x_putI hx hb hts (hC2) tyX2 tyX2_ok nmX2 hown hK S 5 (by decide) xf_13_5 (index := 65) (hts _ (List.mem_of_getElem? (i := 1) rfl)) rfl rfl rfl dX2_findHems_32 (fun H locs S => ?_)
          exact hJ _ _ _ h _ _ _ S (lv_sub hl [0, 1] rfl)
    | 2, h, hl =>
      have hl : lv_has ls 2 [(0, .ref (ad 13)), (1, .int v1)] := hl
      have h : blk_X2_findHems_2 Q P v1 M := h
      unfold blk_X2_findHems_2 at h
      refine W.eq (g2 := F0 m 35 ls []) rfl ?_
      refine lv_iinc (v := (v1 + 1)) (lv' := [(1, .int (v1 + 1)), (0, .ref (ad 13))]) hx hb dX2_findHems_35 hl (k := 1) rfl rfl (by decide) rfl (fun ls hl => ?_)
      refine lv_goto (tgt := 7) hx hb dX2_findHems_38 (by decide) ?_
      exact hJ _ _ _ h _ _ _ S (lv_sub hl [1, 0] rfl)
    | _ + 3, h, hl => exact h.elim
  have hl := lv_entry ([.ref (ad 13)]) (n := 2) (Nat.le_of_ble_eq_true rfl)
  subst hargs
  rw [lg_entry_eq]
  generalize (lg_sl ([.ref (ad 13)]) ++ List.replicate (2 - (lg_sl ([.ref (ad 13)])).length) Slot.unset).toArray = ls at hl ⊢
  exact h _ (key _ (fun _ _ _ h => h)) s.heap [] ls ⟨hP, hD, va_S.rf⟩ hl
/-! X2_fenceBetween -/
def wp_X2_fenceBetween (v1 : Int32) (v2 : Int32) (M : Mem) (Q : Int32 → Mem → Prop) : Prop :=
  (vp_in ((v1 * 8) + v2) 64 ∧ Q (M.1 20 ((v1 * 8) + v2).toNatClampNeg) M)
theorem wp_X2_fenceBetween_mono {v1 : Int32} {v2 : Int32} {M : Mem} {Q Q' : Int32 → Mem → Prop} (hQ : ∀ (r : Int32) (M : Mem), Q r M → Q' r M) (h : wp_X2_fenceBetween v1 v2 M Q) : wp_X2_fenceBetween v1 v2 M Q' := by
  unfold wp_X2_fenceBetween at h ⊢
  exact ⟨h.1, let h := h.2; hQ _ _ h⟩
abbrev rm_X2_fenceBetween : Jvm.Room := { frames := 1, cells := 0, slots := 0, locals := 14 }
set_option maxHeartbeats 4000000 in
set_option maxRecDepth 100000 in
theorem ct_X2_fenceBetween (l : Launch) (D : va_G) (cy : Nat → ClassId) (ad : Nat → Nat) (B : Nat → Prop) (v1 : Int32) (v2 : Int32) (M : Mem) (Q : Int32 → Mem → Prop) (h : wp_X2_fenceBetween v1 v2 M Q) : CTi l D cy (wX ad cy) B yX2_fenceBetween wsX2_fenceBetween rm_X2_fenceBetween [.ref (ad 13), .int v1, .int v2] M Q := by
  intro sz
  refine Met.ofW (cc := cX2_fenceBetween) (maxL := 3) (ret := some .int) (by decide) rfl ?_
  intro p e s m args below meth c s₁ Bd hml hv
  obtain ⟨hargs, hsz, hP, hK, hD⟩ := hv
  subst hsz
  have hx := Bd.exec
  have hb := Bd.bytes
  have hr := Bd.returns
  have hts := atoms_spec (ws := wsX2_fenceBetween) Bd.pre
  have hown : s.vm.findClass RX2 = some m.cls := findClass_of_methodNamed Bd.named
  have hlocks := Bd.notSynchronized
  have hC2 : xC wsX2_fenceBetween 2 RX2 TX2 8 := ⟨by decide +kernel, rfl⟩
  have hl := lv_entry ([.ref (ad 13), .int v1, .int v2]) (n := 3) (Nat.le_of_ble_eq_true rfl)
  subst hargs
  rw [lg_entry_eq]
  generalize (lg_sl ([.ref (ad 13), .int v1, .int v2]) ++ List.replicate (3 - (lg_sl ([.ref (ad 13), .int v1, .int v2])).length) Slot.unset).toArray = ls at hl ⊢
  have hl : lv_has ls 3 [(0, .ref (ad 13)), (1, .int v1), (2, .int v2)] := hl
  have S : xS D (wX ad cy) B s.heap s.heap [] M := ⟨hP, hD, va_S.rf⟩
  unfold wp_X2_fenceBetween at h
  refine lv_aload_n hx hb dX2_fenceBetween_0 rfl (lv_at hl 0 rfl) ?_
  refine x_getR hx hb hts (hC2) hown hK S 6 (by decide) xf_13_6 (index := 28) (hts _ (List.mem_of_getElem? (i := 1) rfl)) dX2_fenceBetween_1 ?_
  refine lv_iload_n hx hb dX2_fenceBetween_4 rfl (lv_at hl 1 rfl) ?_
  refine lv_bipush (v := 8) hx hb dX2_fenceBetween_5 (by decide) ?_
  refine lv_imul hx hb dX2_fenceBetween_7 ?_
  refine lv_iload_n hx hb dX2_fenceBetween_8 rfl (lv_at hl 2 rfl) ?_
  refine lv_iadd hx hb dX2_fenceBetween_9 ?_
  refine x_iald hx hb hK S xa_20 h.1 dX2_fenceBetween_10 ?_
  replace h := h.2
  exact x_iret hx hb hr hlocks S rfl h dX2_fenceBetween_11
/-! X4_isWithin -/
def wp_X4_isWithin (v1 : Int32) (v2 : Int32) (v3 : Int32) (v4 : Int32) (M : Mem) (Q : Int32 → Mem → Prop) : Prop :=
  wp_X4_side v2 v3 v1 M (fun r1 M1 => ((r1 = 0 → Q 0 M1) ∧ (¬ r1 = 0 → wp_X4_side v3 v4 v1 M1 (fun r2 M2 => ((¬ r1 = r2 → Q 0 M2) ∧ (r1 = r2 → wp_X4_side v4 v2 v1 M2 (fun r3 M3 => ((¬ r1 = r3 → Q 0 M3) ∧ (r1 = r3 → Q 1 M3)))))))))
theorem wp_X4_isWithin_mono {v1 : Int32} {v2 : Int32} {v3 : Int32} {v4 : Int32} {M : Mem} {Q Q' : Int32 → Mem → Prop} (hQ : ∀ (r : Int32) (M : Mem), Q r M → Q' r M) (h : wp_X4_isWithin v1 v2 v3 v4 M Q) : wp_X4_isWithin v1 v2 v3 v4 M Q' := by
  unfold wp_X4_isWithin at h ⊢
  exact wp_X4_side_mono (fun r1 M1 h => ⟨fun c => let h := h.1 c; hQ _ _ h, fun c => let h := h.2 c; wp_X4_side_mono (fun r2 M2 h => ⟨fun c => let h := h.1 c; hQ _ _ h, fun c => let h := h.2 c; wp_X4_side_mono (fun r3 M3 h => ⟨fun c => let h := h.1 c; hQ _ _ h, fun c => let h := h.2 c; hQ _ _ h⟩) h⟩) h⟩) h
abbrev rm_X4_isWithin : Jvm.Room := { frames := 2, cells := 0, slots := 0, locals := 40 }
set_option maxHeartbeats 4000000 in
set_option maxRecDepth 100000 in
theorem ct_X4_isWithin (l : Launch) (D : va_G) (cy : Nat → ClassId) (ad : Nat → Nat) (B : Nat → Prop) (v1 : Int32) (v2 : Int32) (v3 : Int32) (v4 : Int32) (M : Mem) (Q : Int32 → Mem → Prop) (h : wp_X4_isWithin v1 v2 v3 v4 M Q) : CTi l D cy (wX ad cy) B yX4_isWithin wsX4_isWithin rm_X4_isWithin [.ref (ad 14), .int v1, .int v2, .int v3, .int v4] M Q := by
  intro sz
  refine Met.ofW (cc := cX4_isWithin) (maxL := 6) (ret := some .boolean) (by decide) rfl ?_
  intro p e s m args below meth c s₁ Bd hml hv
  obtain ⟨hargs, hsz, hP, hK, hD⟩ := hv
  subst hsz
  have hx := Bd.exec
  have hb := Bd.bytes
  have hr := Bd.returns
  have hts := atoms_spec (ws := wsX4_isWithin) Bd.pre
  have hown : s.vm.findClass RX4 = some m.cls := findClass_of_methodNamed Bd.named
  have hlocks := Bd.notSynchronized
  have hl := lv_entry ([.ref (ad 14), .int v1, .int v2, .int v3, .int v4]) (n := 6) (Nat.le_of_ble_eq_true rfl)
  subst hargs
  rw [lg_entry_eq]
  generalize (lg_sl ([.ref (ad 14), .int v1, .int v2, .int v3, .int v4]) ++ List.replicate (6 - (lg_sl ([.ref (ad 14), .int v1, .int v2, .int v3, .int v4])).length) Slot.unset).toArray = ls at hl ⊢
  have hl : lv_has ls 6 [(0, .ref (ad 14)), (1, .int v1), (2, .int v2), (3, .int v3), (4, .int v4)] := hl
  have S : xS D (wX ad cy) B s.heap s.heap [] M := ⟨hP, hD, va_S.rf⟩
  unfold wp_X4_isWithin at h
  refine lv_aload_n hx hb dX4_isWithin_0 rfl (lv_at hl 0 rfl) ?_
  refine lv_iload_n hx hb dX4_isWithin_1 rfl (lv_at hl 2 rfl) ?_
  refine lv_iload_n hx hb dX4_isWithin_2 rfl (lv_at hl 3 rfl) ?_
  refine lv_iload_n hx hb dX4_isWithin_3 rfl (lv_at hl 1 rfl) ?_
  refine x_callVi (As := [.int v2, .int v3, .int v1]) ⟨hx, hb, hml, hown, hts⟩ hK S (ct_X4_side l D cy ad B _ _ _ _ _ h) xo_14 rfl (cwV 3 hts gX4_isWithin_X4_side rfl rfl rfl (by decide +kernel) ⟨Nat.le_of_ble_eq_true rfl, Nat.le_of_ble_eq_true rfl⟩) rfl hl.1 rfl (Nat.le_of_ble_eq_true rfl) dX4_isWithin_4 ⟨Nat.zero_le _, Nat.zero_le _⟩ (fun r1 M1 H locs h S => ?_)
  refine lv_istore (lv' := [(5, .int r1), (0, .ref (ad 14)), (1, .int v1), (2, .int v2), (3, .int v3), (4, .int v4)]) hx hb dX4_isWithin_7 hl (by decide) rfl (fun ls hl => ?_)
  refine lv_iload hx hb dX4_isWithin_9 (lv_at hl 0 rfl) ?_
  refine lv_if_eq (tgt := 44) hx hb dX4_isWithin_11 (by decide) (fun c11 => ?_) (fun c11 => ?_)
  · replace h := h.1 c11
    refine lv_iconst (v := 0) hx hb dX4_isWithin_44 (by decide) ?_
    exact x_iret hx hb hr hlocks S rfl h dX4_isWithin_45
  · replace h := h.2 c11
    refine lv_iload hx hb dX4_isWithin_14 (lv_at hl 0 rfl) ?_
    refine lv_aload_n hx hb dX4_isWithin_16 rfl (lv_at hl 1 rfl) ?_
    refine lv_iload_n hx hb dX4_isWithin_17 rfl (lv_at hl 4 rfl) ?_
    refine lv_iload hx hb dX4_isWithin_18 (lv_at hl 5 rfl) ?_
    refine lv_iload_n hx hb dX4_isWithin_20 rfl (lv_at hl 2 rfl) ?_
    refine x_callVi (As := [.int v3, .int v4, .int v1]) ⟨hx, hb, hml, hown, hts⟩ hK S (ct_X4_side l D cy ad B _ _ _ _ _ h) xo_14 rfl (cwV 3 hts gX4_isWithin_X4_side rfl rfl rfl (by decide +kernel) ⟨Nat.le_of_ble_eq_true rfl, Nat.le_of_ble_eq_true rfl⟩) rfl hl.1 rfl (Nat.le_of_ble_eq_true rfl) dX4_isWithin_21 ⟨Nat.zero_le _, Nat.zero_le _⟩ (fun r2 M2 H locs h S => ?_)
    refine lv_icmp_ne (tgt := 44) hx hb dX4_isWithin_24 (by decide) (fun c24 => ?_) (fun c24 => ?_)
    · replace h := h.1 c24
      refine lv_iconst (v := 0) hx hb dX4_isWithin_44 (by decide) ?_
      exact x_iret hx hb hr hlocks S rfl h dX4_isWithin_45
    · replace h := h.2 c24
      refine lv_iload hx hb dX4_isWithin_27 (lv_at hl 0 rfl) ?_
      refine lv_aload_n hx hb dX4_isWithin_29 rfl (lv_at hl 1 rfl) ?_
      refine lv_iload hx hb dX4_isWithin_30 (lv_at hl 5 rfl) ?_
      refine lv_iload_n hx hb dX4_isWithin_32 rfl (lv_at hl 3 rfl) ?_
      refine lv_iload_n hx hb dX4_isWithin_33 rfl (lv_at hl 2 rfl) ?_
      refine x_callVi (As := [.int v4, .int v2, .int v1]) ⟨hx, hb, hml, hown, hts⟩ hK S (ct_X4_side l D cy ad B _ _ _ _ _ h) xo_14 rfl (cwV 3 hts gX4_isWithin_X4_side rfl rfl rfl (by decide +kernel) ⟨Nat.le_of_ble_eq_true rfl, Nat.le_of_ble_eq_true rfl⟩) rfl hl.1 rfl (Nat.le_of_ble_eq_true rfl) dX4_isWithin_34 ⟨Nat.zero_le _, Nat.zero_le _⟩ (fun r3 M3 H locs h S => ?_)
      refine lv_icmp_ne (tgt := 44) hx hb dX4_isWithin_37 (by decide) (fun c37 => ?_) (fun c37 => ?_)
      · replace h := h.1 c37
        refine lv_iconst (v := 0) hx hb dX4_isWithin_44 (by decide) ?_
        exact x_iret hx hb hr hlocks S rfl h dX4_isWithin_45
      · replace h := h.2 c37
        refine lv_iconst (v := 1) hx hb dX4_isWithin_40 (by decide) ?_
        refine lv_goto (tgt := 45) hx hb dX4_isWithin_41 (by decide) ?_
        exact x_iret hx hb hr hlocks S rfl h dX4_isWithin_45
/-! X2_sidesOf -/
def blk_X2_sidesOf_0 (v1 : Int32) (v2 : Int32) (Q : Int32 → Mem → Prop) (P : Nat → Int32 → Int32 → Int32 → Int32 → Int32 → Mem → Prop) (v3 : Int32) (v4 : Int32) (v5 : Int32) (v6 : Int32) (v7 : Int32) (M : Mem) : Prop :=
  (vp_in v1 28 ∧ (vp_in v1 28 ∧ wp_X2_fenceBetween (M.1 17 v1.toNatClampNeg) v2 M (fun r1 M1 => wp_X2_fenceBetween (M.1 18 v1.toNatClampNeg) v2 M1 (fun r2 M2 => ((r1 = (-9) → Q 0 M2) ∧ (¬ r1 = (-9) → ((r2 = (-9) → Q 0 M2) ∧ (¬ r2 = (-9) → wp_X4_side (M.1 17 v1.toNatClampNeg) (M.1 18 v1.toNatClampNeg) v2 M2 (fun r3 M3 => ((¬ r3 = 0 → P 1 (M.1 17 v1.toNatClampNeg) (M.1 18 v1.toNatClampNeg) r1 r2 0 M3) ∧ (r3 = 0 → Q 0 M3)))))))))))
theorem blk_X2_sidesOf_0_mono {v1 : Int32} {v2 : Int32} {Q Q' : Int32 → Mem → Prop} {P P' : Nat → Int32 → Int32 → Int32 → Int32 → Int32 → Mem → Prop} (hQ : ∀ (r : Int32) (M : Mem), Q r M → Q' r M) (hP : ∀ (lab : Nat) (v3 : Int32) (v4 : Int32) (v5 : Int32) (v6 : Int32) (v7 : Int32) (M : Mem), P lab v3 v4 v5 v6 v7 M → P' lab v3 v4 v5 v6 v7 M) (v3 : Int32) (v4 : Int32) (v5 : Int32) (v6 : Int32) (v7 : Int32) (M : Mem) (h : blk_X2_sidesOf_0 v1 v2 Q P v3 v4 v5 v6 v7 M) : blk_X2_sidesOf_0 v1 v2 Q' P' v3 v4 v5 v6 v7 M := by
  unfold blk_X2_sidesOf_0 at h ⊢
  exact ⟨h.1, let h := h.2; ⟨h.1, let h := h.2; wp_X2_fenceBetween_mono (fun r1 M1 h => wp_X2_fenceBetween_mono (fun r2 M2 h => ⟨fun c => let h := h.1 c; hQ _ _ h, fun c => let h := h.2 c; ⟨fun c => let h := h.1 c; hQ _ _ h, fun c => let h := h.2 c; wp_X4_side_mono (fun r3 M3 h => ⟨fun c => let h := h.1 c; hP _ _ _ _ _ _ _ h, fun c => let h := h.2 c; hQ _ _ h⟩) h⟩⟩) h) h⟩⟩
def blk_X2_sidesOf_1 (v1 : Int32) (v2 : Int32) (Q : Int32 → Mem → Prop) (P : Nat → Int32 → Int32 → Int32 → Int32 → Int32 → Mem → Prop) (v3 : Int32) (v4 : Int32) (v5 : Int32) (v6 : Int32) (v7 : Int32) (M : Mem) : Prop :=
  (((M.1 14 2) ≤ v7 → Q ((((1 : Int32) <<< (v1 &&& 31)) ||| ((1 : Int32) <<< (v5 &&& 31))) ||| ((1 : Int32) <<< (v6 &&& 31))) M) ∧ (¬ (M.1 14 2) ≤ v7 → wp_X4_isWithin v7 v3 v4 v2 M (fun r4 M4 => ((r4 = 0 → P 1 v3 v4 v5 v6 (v7 + 1) M4) ∧ (¬ r4 = 0 → Q 0 M4)))))
theorem blk_X2_sidesOf_1_mono {v1 : Int32} {v2 : Int32} {Q Q' : Int32 → Mem → Prop} {P P' : Nat → Int32 → Int32 → Int32 → Int32 → Int32 → Mem → Prop} (hQ : ∀ (r : Int32) (M : Mem), Q r M → Q' r M) (hP : ∀ (lab : Nat) (v3 : Int32) (v4 : Int32) (v5 : Int32) (v6 : Int32) (v7 : Int32) (M : Mem), P lab v3 v4 v5 v6 v7 M → P' lab v3 v4 v5 v6 v7 M) (v3 : Int32) (v4 : Int32) (v5 : Int32) (v6 : Int32) (v7 : Int32) (M : Mem) (h : blk_X2_sidesOf_1 v1 v2 Q P v3 v4 v5 v6 v7 M) : blk_X2_sidesOf_1 v1 v2 Q' P' v3 v4 v5 v6 v7 M := by
  unfold blk_X2_sidesOf_1 at h ⊢
  exact ⟨fun c => let h := h.1 c; hQ _ _ h, fun c => let h := h.2 c; wp_X4_isWithin_mono (fun r4 M4 h => ⟨fun c => let h := h.1 c; hP _ _ _ _ _ _ _ h, fun c => let h := h.2 c; hQ _ _ h⟩) h⟩
def blk_X2_sidesOf (v1 : Int32) (v2 : Int32) (Q : Int32 → Mem → Prop) (P : Nat → Int32 → Int32 → Int32 → Int32 → Int32 → Mem → Prop) : Nat → Int32 → Int32 → Int32 → Int32 → Int32 → Mem → Prop := fun lab v3 v4 v5 v6 v7 M => match lab with
  | 0 => blk_X2_sidesOf_0 v1 v2 Q P v3 v4 v5 v6 v7 M
  | 1 => blk_X2_sidesOf_1 v1 v2 Q P v3 v4 v5 v6 v7 M
  | _ => False
theorem blk_X2_sidesOf_mono {v1 : Int32} {v2 : Int32} {Q Q' : Int32 → Mem → Prop} {P P' : Nat → Int32 → Int32 → Int32 → Int32 → Int32 → Mem → Prop} (hQ : ∀ (r : Int32) (M : Mem), Q r M → Q' r M) (hP : ∀ (lab : Nat) (v3 : Int32) (v4 : Int32) (v5 : Int32) (v6 : Int32) (v7 : Int32) (M : Mem), P lab v3 v4 v5 v6 v7 M → P' lab v3 v4 v5 v6 v7 M) : ∀ (lab : Nat) (v3 : Int32) (v4 : Int32) (v5 : Int32) (v6 : Int32) (v7 : Int32) (M : Mem), blk_X2_sidesOf v1 v2 Q P lab v3 v4 v5 v6 v7 M → blk_X2_sidesOf v1 v2 Q' P' lab v3 v4 v5 v6 v7 M := fun lab v3 v4 v5 v6 v7 M h => match lab, h with
  | 0, h => blk_X2_sidesOf_0_mono (v1 := v1) (v2 := v2) hQ hP v3 v4 v5 v6 v7 M h
  | 1, h => blk_X2_sidesOf_1_mono (v1 := v1) (v2 := v2) hQ hP v3 v4 v5 v6 v7 M h
  | _ + 2, h => False.elim h
def at_X2_sidesOf (v1 : Int32) (v2 : Int32) (Q : Int32 → Mem → Prop) : Nat → Int32 → Int32 → Int32 → Int32 → Int32 → Mem → Prop := fun lab v3 v4 v5 v6 v7 M => ∀ P : Nat → Int32 → Int32 → Int32 → Int32 → Int32 → Mem → Prop, (∀ (lab : Nat) (v3 : Int32) (v4 : Int32) (v5 : Int32) (v6 : Int32) (v7 : Int32) (M : Mem), blk_X2_sidesOf v1 v2 Q P lab v3 v4 v5 v6 v7 M → P lab v3 v4 v5 v6 v7 M) → P lab v3 v4 v5 v6 v7 M
theorem at_X2_sidesOf_fold {v1 : Int32} {v2 : Int32} {Q : Int32 → Mem → Prop} {lab : Nat} {v3 : Int32} {v4 : Int32} {v5 : Int32} {v6 : Int32} {v7 : Int32} {M : Mem} (h : blk_X2_sidesOf v1 v2 Q (at_X2_sidesOf v1 v2 Q) lab v3 v4 v5 v6 v7 M) : at_X2_sidesOf v1 v2 Q lab v3 v4 v5 v6 v7 M := fun P hP => hP _ _ _ _ _ _ _ (blk_X2_sidesOf_mono (fun _ _ h => h) (fun _ _ _ _ _ _ _ h => h P hP) _ _ _ _ _ _ _ h)
theorem at_X2_sidesOf_mono {v1 : Int32} {v2 : Int32} {Q Q' : Int32 → Mem → Prop} (hQ : ∀ (r : Int32) (M : Mem), Q r M → Q' r M) {lab : Nat} {v3 : Int32} {v4 : Int32} {v5 : Int32} {v6 : Int32} {v7 : Int32} {M : Mem} (h : at_X2_sidesOf v1 v2 Q lab v3 v4 v5 v6 v7 M) : at_X2_sidesOf v1 v2 Q' lab v3 v4 v5 v6 v7 M := fun P hP => h P (fun lab v3 v4 v5 v6 v7 M hb => hP _ _ _ _ _ _ _ (blk_X2_sidesOf_mono hQ (fun _ _ _ _ _ _ _ h => h) _ _ _ _ _ _ _ hb))
def wp_X2_sidesOf (v1 : Int32) (v2 : Int32) (M : Mem) (Q : Int32 → Mem → Prop) : Prop := at_X2_sidesOf v1 v2 Q 0 0 0 0 0 0 M
theorem wp_X2_sidesOf_mono {v1 : Int32} {v2 : Int32} {M : Mem} {Q Q' : Int32 → Mem → Prop} (hQ : ∀ (r : Int32) (M : Mem), Q r M → Q' r M) (h : wp_X2_sidesOf v1 v2 M Q) : wp_X2_sidesOf v1 v2 M Q' := at_X2_sidesOf_mono hQ h
def pcl_X2_sidesOf : Nat → Nat := fun lab => match lab with
  | 0 => 0
  | 1 => 65
  | _ => 0
def lvl_X2_sidesOf (ad : Nat → Nat) (v1 : Int32) (v2 : Int32) : Nat → Int32 → Int32 → Int32 → Int32 → Int32 → List (Nat × Value) := fun lab v3 v4 v5 v6 v7 => match lab with
  | 0 => [(0, .ref (ad 13)), (1, .int v1), (2, .int v2)]
  | 1 => [(0, .ref (ad 13)), (1, .int v1), (2, .int v2), (3, .int v3), (4, .int v4), (5, .int v5), (6, .int v6), (7, .int v7)]
  | _ => []
abbrev rm_X2_sidesOf : Jvm.Room := { frames := 3, cells := 0, slots := 0, locals := 65 }
set_option maxHeartbeats 4000000 in
set_option maxRecDepth 100000 in
theorem ct_X2_sidesOf (l : Launch) (D : va_G) (cy : Nat → ClassId) (ad : Nat → Nat) (B : Nat → Prop) (v1 : Int32) (v2 : Int32) (M : Mem) (Q : Int32 → Mem → Prop) (h : wp_X2_sidesOf v1 v2 M Q) : CTi l D cy (wX ad cy) B yX2_sidesOf wsX2_sidesOf rm_X2_sidesOf [.ref (ad 13), .int v1, .int v2] M Q := by
  intro sz
  refine Met.ofW (cc := cX2_sidesOf) (maxL := 8) (ret := some .int) (by decide) rfl ?_
  intro p e s m args below meth c s₁ Bd hml hv
  obtain ⟨hargs, hsz, hP, hK, hD⟩ := hv
  subst hsz
  have hx := Bd.exec
  have hb := Bd.bytes
  have hr := Bd.returns
  have hts := atoms_spec (ws := wsX2_sidesOf) Bd.pre
  have hown : s.vm.findClass RX2 = some m.cls := findClass_of_methodNamed Bd.named
  have hlocks := Bd.notSynchronized
  have hC2 : xC wsX2_sidesOf 2 RX2 TX2 8 := ⟨by decide +kernel, rfl⟩
  have hC4 : xC wsX2_sidesOf 4 RX4 TX4 3 := ⟨by decide +kernel, rfl⟩
  have key : ∀ (P : Nat → Int32 → Int32 → Int32 → Int32 → Int32 → Mem → Prop), (∀ (lab : Nat) (v3 : Int32) (v4 : Int32) (v5 : Int32) (v6 : Int32) (v7 : Int32) (M : Mem), P lab v3 v4 v5 v6 v7 M → ∀ (H : Heap) (locs : List Loc) (ls : Array Slot), xS D (wX ad cy) B s.heap H locs M → lv_has ls 8 (lvl_X2_sidesOf ad v1 v2 lab v3 v4 v5 v6 v7 ) → W p l e (headSpec wsX2_sidesOf rm_X2_sidesOf).room s m args below meth c H locs 0 0 (MQ below (va_Qi (S := Mem) Q (xB D (wX ad cy) B) (xA B s.heap.size)) args s 0 0 (xA B s.heap.size)) (F0 m (pcl_X2_sidesOf lab) ls [])) → ∀ (lab : Nat) (v3 : Int32) (v4 : Int32) (v5 : Int32) (v6 : Int32) (v7 : Int32) (M : Mem), blk_X2_sidesOf v1 v2 Q P lab v3 v4 v5 v6 v7 M → ∀ (H : Heap) (locs : List Loc) (ls : Array Slot), xS D (wX ad cy) B s.heap H locs M → lv_has ls 8 (lvl_X2_sidesOf ad v1 v2 lab v3 v4 v5 v6 v7 ) → W p l e (headSpec wsX2_sidesOf rm_X2_sidesOf).room s m args below meth c H locs 0 0 (MQ below (va_Qi (S := Mem) Q (xB D (wX ad cy) B) (xA B s.heap.size)) args s 0 0 (xA B s.heap.size)) (F0 m (pcl_X2_sidesOf lab) ls []) := by
    intro P hJ lab v3 v4 v5 v6 v7 M h H locs ls S hl
    match lab, h, hl with
    | 0, h, hl =>
      have hl : lv_has ls 8 [(0, .ref (ad 13)), (1, .int v1), (2, .int v2)] := hl
      have h : blk_X2_sidesOf_0 v1 v2 Q P v3 v4 v5 v6 v7 M := h
      unfold blk_X2_sidesOf_0 at h
      refine W.eq (g2 := F0 m 0 ls []) rfl ?_
      refine lv_aload_n hx hb dX2_sidesOf_0 rfl (lv_at hl 0 rfl) ?_
      refine x_getR hx hb hts (hC2) hown hK S 1 (by decide) xf_13_1 (index := 18) (hts _ (List.mem_of_getElem? (i := 1) rfl)) dX2_sidesOf_1 ?_
      refine lv_iload_n hx hb dX2_sidesOf_4 rfl (lv_at hl 1 rfl) ?_
      refine x_iald hx hb hK S xa_17 h.1 dX2_sidesOf_5 ?_
      replace h := h.2
      refine lv_istore_n (lv' := [(3, .int (M.1 17 v1.toNatClampNeg)), (0, .ref (ad 13)), (1, .int v1), (2, .int v2)]) hx hb dX2_sidesOf_6 rfl hl (by decide) rfl (fun ls hl => ?_)
      refine lv_aload_n hx hb dX2_sidesOf_7 rfl (lv_at hl 1 rfl) ?_
      refine x_getR hx hb hts (hC2) hown hK S 2 (by decide) xf_13_2 (index := 22) (hts _ (List.mem_of_getElem? (i := 2) rfl)) dX2_sidesOf_8 ?_
      refine lv_iload_n hx hb dX2_sidesOf_11 rfl (lv_at hl 2 rfl) ?_
      refine x_iald hx hb hK S xa_18 h.1 dX2_sidesOf_12 ?_
      replace h := h.2
      refine lv_istore (lv' := [(4, .int (M.1 18 v1.toNatClampNeg)), (3, .int (M.1 17 v1.toNatClampNeg)), (0, .ref (ad 13)), (1, .int v1), (2, .int v2)]) hx hb dX2_sidesOf_13 hl (by decide) rfl (fun ls hl => ?_)
      refine lv_aload_n hx hb dX2_sidesOf_15 rfl (lv_at hl 2 rfl) ?_
      refine lv_iload_n hx hb dX2_sidesOf_16 rfl (lv_at hl 1 rfl) ?_
      refine lv_iload_n hx hb dX2_sidesOf_17 rfl (lv_at hl 4 rfl) ?_
      refine x_callVi (As := [.int (M.1 17 v1.toNatClampNeg), .int v2]) ⟨hx, hb, hml, hown, hts⟩ hK S (ct_X2_fenceBetween l D cy ad B _ _ _ _ h) xo_13 rfl (cwV 2 hts gX2_sidesOf_X2_fenceBetween rfl rfl rfl (by decide +kernel) ⟨Nat.le_of_ble_eq_true rfl, Nat.le_of_ble_eq_true rfl⟩) rfl hl.1 rfl (Nat.le_of_ble_eq_true rfl) dX2_sidesOf_18 ⟨Nat.zero_le _, Nat.zero_le _⟩ (fun r1 M1 H locs h S => ?_)
      refine lv_istore (lv' := [(5, .int r1), (4, .int (M.1 18 v1.toNatClampNeg)), (3, .int (M.1 17 v1.toNatClampNeg)), (0, .ref (ad 13)), (1, .int v1), (2, .int v2)]) hx hb dX2_sidesOf_21 hl (by decide) rfl (fun ls hl => ?_)
      refine lv_aload_n hx hb dX2_sidesOf_23 rfl (lv_at hl 3 rfl) ?_
      refine lv_iload hx hb dX2_sidesOf_24 (lv_at hl 1 rfl) ?_
      refine lv_iload_n hx hb dX2_sidesOf_26 rfl (lv_at hl 5 rfl) ?_
      refine x_callVi (As := [.int (M.1 18 v1.toNatClampNeg), .int v2]) ⟨hx, hb, hml, hown, hts⟩ hK S (ct_X2_fenceBetween l D cy ad B _ _ _ _ h) xo_13 rfl (cwV 2 hts gX2_sidesOf_X2_fenceBetween rfl rfl rfl (by decide +kernel) ⟨Nat.le_of_ble_eq_true rfl, Nat.le_of_ble_eq_true rfl⟩) rfl hl.1 rfl (Nat.le_of_ble_eq_true rfl) dX2_sidesOf_27 ⟨Nat.zero_le _, Nat.zero_le _⟩ (fun r2 M2 H locs h S => ?_)
      refine lv_istore (lv' := [(6, .int r2), (5, .int r1), (4, .int (M.1 18 v1.toNatClampNeg)), (3, .int (M.1 17 v1.toNatClampNeg)), (0, .ref (ad 13)), (1, .int v1), (2, .int v2)]) hx hb dX2_sidesOf_30 hl (by decide) rfl (fun ls hl => ?_)
      refine lv_iload hx hb dX2_sidesOf_32 (lv_at hl 1 rfl) ?_
      refine lv_bipush (v := (-9)) hx hb dX2_sidesOf_34 (by decide) ?_
      refine lv_icmp_eq (tgt := 60) hx hb dX2_sidesOf_36 (by decide) (fun c36 => ?_) (fun c36 => ?_)
      · replace h := h.1 c36
        refine lv_iconst (v := 0) hx hb dX2_sidesOf_60 (by decide) ?_
        exact x_iret hx hb hr hlocks S rfl h dX2_sidesOf_61
      · replace h := h.2 c36
        refine lv_iload hx hb dX2_sidesOf_39 (lv_at hl 0 rfl) ?_
        refine lv_bipush (v := (-9)) hx hb dX2_sidesOf_41 (by decide) ?_
        refine lv_icmp_eq (tgt := 60) hx hb dX2_sidesOf_43 (by decide) (fun c43 => ?_) (fun c43 => ?_)
        · replace h := h.1 c43
          refine lv_iconst (v := 0) hx hb dX2_sidesOf_60 (by decide) ?_
          exact x_iret hx hb hr hlocks S rfl h dX2_sidesOf_61
        · replace h := h.2 c43
          refine lv_aload_n hx hb dX2_sidesOf_46 rfl (lv_at hl 4 rfl) ?_
          refine x_getR hx hb hts (hC2) hown hK S 0 (by decide) xf_13_0 (index := 12) (hts _ (List.mem_of_getElem? (i := 3) rfl)) dX2_sidesOf_47 ?_
          refine lv_iload_n hx hb dX2_sidesOf_50 rfl (lv_at hl 3 rfl) ?_
          refine lv_iload hx hb dX2_sidesOf_51 (lv_at hl 2 rfl) ?_
          refine lv_iload_n hx hb dX2_sidesOf_53 rfl (lv_at hl 6 rfl) ?_
          refine x_callVi (As := [.int (M.1 17 v1.toNatClampNeg), .int (M.1 18 v1.toNatClampNeg), .int v2]) ⟨hx, hb, hml, hown, hts⟩ hK S (ct_X4_side l D cy ad B _ _ _ _ _ h) xo_14 rfl (cwV 3 hts gX2_sidesOf_X4_side rfl rfl rfl (by decide +kernel) ⟨Nat.le_of_ble_eq_true rfl, Nat.le_of_ble_eq_true rfl⟩) rfl hl.1 rfl (Nat.le_of_ble_eq_true rfl) dX2_sidesOf_54 ⟨Nat.zero_le _, Nat.zero_le _⟩ (fun r3 M3 H locs h S => ?_)
          refine lv_if_ne (tgt := 62) hx hb dX2_sidesOf_57 (by decide) (fun c57 => ?_) (fun c57 => ?_)
          · replace h := h.1 c57
            refine lv_iconst (v := 0) hx hb dX2_sidesOf_62 (by decide) ?_
            refine lv_istore (lv' := [(7, .int 0), (6, .int r2), (5, .int r1), (4, .int (M.1 18 v1.toNatClampNeg)), (3, .int (M.1 17 v1.toNatClampNeg)), (0, .ref (ad 13)), (1, .int v1), (2, .int v2)]) hx hb dX2_sidesOf_63 hl (by decide) rfl (fun ls hl => ?_)
            exact hJ _ _ _ _ _ _ _ h _ _ _ S (lv_sub hl [5, 6, 7, 4, 3, 2, 1, 0] rfl)
          · replace h := h.2 c57
            refine lv_iconst (v := 0) hx hb dX2_sidesOf_60 (by decide) ?_
            exact x_iret hx hb hr hlocks S rfl h dX2_sidesOf_61
    | 1, h, hl =>
      have hl : lv_has ls 8 [(0, .ref (ad 13)), (1, .int v1), (2, .int v2), (3, .int v3), (4, .int v4), (5, .int v5), (6, .int v6), (7, .int v7)] := hl
      have h : blk_X2_sidesOf_1 v1 v2 Q P v3 v4 v5 v6 v7 M := h
      unfold blk_X2_sidesOf_1 at h
      refine W.eq (g2 := F0 m 65 ls []) rfl ?_
      refine lv_iload hx hb dX2_sidesOf_65 (lv_at hl 7 rfl) ?_
      refine lv_aload_n hx hb dX2_sidesOf_67 rfl (lv_at hl 0 rfl) ?_
      refine x_getR hx hb hts (hC2) hown hK S 0 (by decide) xf_13_0 (index := 12) (hts _ (List.mem_of_getElem? (i := 3) rfl)) dX2_sidesOf_68 ?_
      refine x_getI hx hb hts (hC4) hown hK S 2 (by decide) xf_14_2 (index := 50) (hts _ (List.mem_of_getElem? (i := 4) rfl)) dX2_sidesOf_71 ?_
      refine lv_icmp_ge (tgt := 101) hx hb dX2_sidesOf_74 (by decide) (fun c74 => ?_) (fun c74 => ?_)
      · replace h := h.1 c74
        refine lv_iconst (v := 1) hx hb dX2_sidesOf_101 (by decide) ?_
        refine lv_iload_n hx hb dX2_sidesOf_102 rfl (lv_at hl 1 rfl) ?_
        refine lv_ishl hx hb dX2_sidesOf_103 ?_
        refine lv_iconst (v := 1) hx hb dX2_sidesOf_104 (by decide) ?_
        refine lv_iload hx hb dX2_sidesOf_105 (lv_at hl 5 rfl) ?_
        refine lv_ishl hx hb dX2_sidesOf_107 ?_
        refine lv_ior hx hb dX2_sidesOf_108 ?_
        refine lv_iconst (v := 1) hx hb dX2_sidesOf_109 (by decide) ?_
        refine lv_iload hx hb dX2_sidesOf_110 (lv_at hl 6 rfl) ?_
        refine lv_ishl hx hb dX2_sidesOf_112 ?_
        refine lv_ior hx hb dX2_sidesOf_113 ?_
        exact x_iret hx hb hr hlocks S rfl h dX2_sidesOf_114
      · replace h := h.2 c74
        refine lv_aload_n hx hb dX2_sidesOf_77 rfl (lv_at hl 0 rfl) ?_
        refine x_getR hx hb hts (hC2) hown hK S 0 (by decide) xf_13_0 (index := 12) (hts _ (List.mem_of_getElem? (i := 3) rfl)) dX2_sidesOf_78 ?_
        refine lv_iload hx hb dX2_sidesOf_81 (lv_at hl 7 rfl) ?_
        refine lv_iload_n hx hb dX2_sidesOf_83 rfl (lv_at hl 3 rfl) ?_
        refine lv_iload hx hb dX2_sidesOf_84 (lv_at hl 4 rfl) ?_
        refine lv_iload_n hx hb dX2_sidesOf_86 rfl (lv_at hl 2 rfl) ?_
        refine x_callVi (As := [.int v7, .int v3, .int v4, .int v2]) ⟨hx, hb, hml, hown, hts⟩ hK S (ct_X4_isWithin l D cy ad B _ _ _ _ _ _ h) xo_14 rfl (cwV 4 hts gX2_sidesOf_X4_isWithin rfl rfl rfl (by decide +kernel) ⟨Nat.le_of_ble_eq_true rfl, Nat.le_of_ble_eq_true rfl⟩) rfl hl.1 rfl (Nat.le_of_ble_eq_true rfl) dX2_sidesOf_87 ⟨Nat.zero_le _, Nat.zero_le _⟩ (fun r4 M4 H locs h S => ?_)
        refine lv_if_eq (tgt := 95) hx hb dX2_sidesOf_90 (by decide) (fun c90 => ?_) (fun c90 => ?_)
        · replace h := h.1 c90
          refine lv_iinc (v := (v7 + 1)) (lv' := [(7, .int (v7 + 1)), (0, .ref (ad 13)), (1, .int v1), (2, .int v2), (3, .int v3), (4, .int v4), (5, .int v5), (6, .int v6)]) hx hb dX2_sidesOf_95 hl (k := 7) rfl rfl (by decide) rfl (fun ls hl => ?_)
          refine lv_goto (tgt := 65) hx hb dX2_sidesOf_98 (by decide) ?_
          exact hJ _ _ _ _ _ _ _ h _ _ _ S (lv_sub hl [1, 2, 3, 4, 5, 6, 7, 0] rfl)
        · replace h := h.2 c90
          refine lv_iconst (v := 0) hx hb dX2_sidesOf_93 (by decide) ?_
          exact x_iret hx hb hr hlocks S rfl h dX2_sidesOf_94
    | _ + 2, h, hl => exact h.elim
  have hl := lv_entry ([.ref (ad 13), .int v1, .int v2]) (n := 8) (Nat.le_of_ble_eq_true rfl)
  subst hargs
  rw [lg_entry_eq]
  generalize (lg_sl ([.ref (ad 13), .int v1, .int v2]) ++ List.replicate (8 - (lg_sl ([.ref (ad 13), .int v1, .int v2])).length) Slot.unset).toArray = ls at hl ⊢
  exact h _ (key _ (fun _ _ _ _ _ _ _ h => h)) s.heap [] ls ⟨hP, hD, va_S.rf⟩ hl
