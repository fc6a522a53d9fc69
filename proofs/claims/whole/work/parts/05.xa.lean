/-! X7_isSheet -/
def wp_X7_isSheet (v0 : Int32) (M : Mem) (Q : Int32 → Mem → Prop) : Prop :=
  ((v0 < 0 → Q 0 M) ∧ (¬ v0 < 0 → ((4 ≤ v0 → Q 0 M) ∧ (¬ 4 ≤ v0 → Q 1 M))))
theorem wp_X7_isSheet_mono {v0 : Int32} {M : Mem} {Q Q' : Int32 → Mem → Prop} (hQ : ∀ (r : Int32) (M : Mem), Q r M → Q' r M) (h : wp_X7_isSheet v0 M Q) : wp_X7_isSheet v0 M Q' := by
  unfold wp_X7_isSheet at h ⊢
  exact ⟨fun c => let h := h.1 c; hQ _ _ h, fun c => let h := h.2 c; ⟨fun c => let h := h.1 c; hQ _ _ h, fun c => let h := h.2 c; hQ _ _ h⟩⟩
abbrev rm_X7_isSheet : Jvm.Room := { frames := 1, cells := 0, slots := 0, locals := 12 }
set_option maxHeartbeats 4000000 in
set_option maxRecDepth 100000 in
theorem ct_X7_isSheet (l : Launch) (D : va_G) (cy : Nat → ClassId) (ad : Nat → Nat) (B : Nat → Prop) (v0 : Int32) (M : Mem) (Q : Int32 → Mem → Prop) (h : wp_X7_isSheet v0 M Q) : CTi l D cy (wX ad cy) B yX7_isSheet wsX7_isSheet rm_X7_isSheet [.int v0] M Q := by
  intro sz
  refine Met.ofW (cc := cX7_isSheet) (maxL := 1) (ret := some .boolean) (by decide) rfl ?_
  intro p e s m args below meth c s₁ Bd hml hv
  obtain ⟨hargs, hsz, hP, hK, hD⟩ := hv
  subst hsz
  have hx := Bd.exec
  have hb := Bd.bytes
  have hr := Bd.returns
  have hts := atoms_spec (ws := wsX7_isSheet) Bd.pre
  have hown : s.vm.findClass RX7 = some m.cls := findClass_of_methodNamed Bd.named
  have hlocks := Bd.notSynchronized
  have hl := lv_entry ([.int v0]) (n := 1) (Nat.le_of_ble_eq_true rfl)
  subst hargs
  rw [lg_entry_eq]
  generalize (lg_sl ([.int v0]) ++ List.replicate (1 - (lg_sl ([.int v0])).length) Slot.unset).toArray = ls at hl ⊢
  have hl : lv_has ls 1 [(0, .int v0)] := hl
  have S : xS D (wX ad cy) B s.heap s.heap [] M := ⟨hP, hD, va_S.rf⟩
  unfold wp_X7_isSheet at h
  refine lv_iload_n hx hb dX7_isSheet_0 rfl (lv_at hl 0 rfl) ?_
  refine lv_if_lt (tgt := 13) hx hb dX7_isSheet_1 (by decide) (fun c1 => ?_) (fun c1 => ?_)
  · replace h := h.1 c1
    refine lv_iconst (v := 0) hx hb dX7_isSheet_13 (by decide) ?_
    exact x_iret hx hb hr hlocks S rfl h dX7_isSheet_14
  · replace h := h.2 c1
    refine lv_iload_n hx hb dX7_isSheet_4 rfl (lv_at hl 0 rfl) ?_
    refine lv_iconst (v := 4) hx hb dX7_isSheet_5 (by decide) ?_
    refine lv_icmp_ge (tgt := 13) hx hb dX7_isSheet_6 (by decide) (fun c6 => ?_) (fun c6 => ?_)
    · replace h := h.1 c6
      refine lv_iconst (v := 0) hx hb dX7_isSheet_13 (by decide) ?_
      exact x_iret hx hb hr hlocks S rfl h dX7_isSheet_14
    · replace h := h.2 c6
      refine lv_iconst (v := 1) hx hb dX7_isSheet_9 (by decide) ?_
      refine lv_goto (tgt := 14) hx hb dX7_isSheet_10 (by decide) ?_
      exact x_iret hx hb hr hlocks S rfl h dX7_isSheet_14
/-! X7_isLane -/
def wp_X7_isLane (v0 : Int32) (M : Mem) (Q : Int32 → Mem → Prop) : Prop :=
  ((v0 < 0 → Q 0 M) ∧ (¬ v0 < 0 → ((3 < v0 → Q 0 M) ∧ (¬ 3 < v0 → Q 1 M))))
theorem wp_X7_isLane_mono {v0 : Int32} {M : Mem} {Q Q' : Int32 → Mem → Prop} (hQ : ∀ (r : Int32) (M : Mem), Q r M → Q' r M) (h : wp_X7_isLane v0 M Q) : wp_X7_isLane v0 M Q' := by
  unfold wp_X7_isLane at h ⊢
  exact ⟨fun c => let h := h.1 c; hQ _ _ h, fun c => let h := h.2 c; ⟨fun c => let h := h.1 c; hQ _ _ h, fun c => let h := h.2 c; hQ _ _ h⟩⟩
abbrev rm_X7_isLane : Jvm.Room := { frames := 1, cells := 0, slots := 0, locals := 12 }
set_option maxHeartbeats 4000000 in
set_option maxRecDepth 100000 in
theorem ct_X7_isLane (l : Launch) (D : va_G) (cy : Nat → ClassId) (ad : Nat → Nat) (B : Nat → Prop) (v0 : Int32) (M : Mem) (Q : Int32 → Mem → Prop) (h : wp_X7_isLane v0 M Q) : CTi l D cy (wX ad cy) B yX7_isLane wsX7_isLane rm_X7_isLane [.int v0] M Q := by
  intro sz
  refine Met.ofW (cc := cX7_isLane) (maxL := 1) (ret := some .boolean) (by decide) rfl ?_
  intro p e s m args below meth c s₁ Bd hml hv
  obtain ⟨hargs, hsz, hP, hK, hD⟩ := hv
  subst hsz
  have hx := Bd.exec
  have hb := Bd.bytes
  have hr := Bd.returns
  have hts := atoms_spec (ws := wsX7_isLane) Bd.pre
  have hown : s.vm.findClass RX7 = some m.cls := findClass_of_methodNamed Bd.named
  have hlocks := Bd.notSynchronized
  have hl := lv_entry ([.int v0]) (n := 1) (Nat.le_of_ble_eq_true rfl)
  subst hargs
  rw [lg_entry_eq]
  generalize (lg_sl ([.int v0]) ++ List.replicate (1 - (lg_sl ([.int v0])).length) Slot.unset).toArray = ls at hl ⊢
  have hl : lv_has ls 1 [(0, .int v0)] := hl
  have S : xS D (wX ad cy) B s.heap s.heap [] M := ⟨hP, hD, va_S.rf⟩
  unfold wp_X7_isLane at h
  refine lv_iload_n hx hb dX7_isLane_0 rfl (lv_at hl 0 rfl) ?_
  refine lv_if_lt (tgt := 13) hx hb dX7_isLane_1 (by decide) (fun c1 => ?_) (fun c1 => ?_)
  · replace h := h.1 c1
    refine lv_iconst (v := 0) hx hb dX7_isLane_13 (by decide) ?_
    exact x_iret hx hb hr hlocks S rfl h dX7_isLane_14
  · replace h := h.2 c1
    refine lv_iload_n hx hb dX7_isLane_4 rfl (lv_at hl 0 rfl) ?_
    refine lv_iconst (v := 3) hx hb dX7_isLane_5 (by decide) ?_
    refine lv_icmp_gt (tgt := 13) hx hb dX7_isLane_6 (by decide) (fun c6 => ?_) (fun c6 => ?_)
    · replace h := h.1 c6
      refine lv_iconst (v := 0) hx hb dX7_isLane_13 (by decide) ?_
      exact x_iret hx hb hr hlocks S rfl h dX7_isLane_14
    · replace h := h.2 c6
      refine lv_iconst (v := 1) hx hb dX7_isLane_9 (by decide) ?_
      refine lv_goto (tgt := 14) hx hb dX7_isLane_10 (by decide) ?_
      exact x_iret hx hb hr hlocks S rfl h dX7_isLane_14
/-! X5_become_2 -/
def blk_X5_become_2_0 (v1 : Int32) (v2 : Int32) (Q : Mem → Prop) (P : Nat → Int32 → Mem → Prop) (v3 : Int32) (M : Mem) : Prop :=
  P 1 0 (upI (upI (upI M 2 1 0) 2 2 v1) 2 3 v2)
theorem blk_X5_become_2_0_mono {v1 : Int32} {v2 : Int32} {Q Q' : Mem → Prop} {P P' : Nat → Int32 → Mem → Prop} (hQ : ∀ M : Mem, Q M → Q' M) (hP : ∀ (lab : Nat) (v3 : Int32) (M : Mem), P lab v3 M → P' lab v3 M) (v3 : Int32) (M : Mem) (h : blk_X5_become_2_0 v1 v2 Q P v3 M) : blk_X5_become_2_0 v1 v2 Q' P' v3 M := by
  unfold blk_X5_become_2_0 at h ⊢
  exact hP _ _ _ h
def blk_X5_become_2_1 (v1 : Int32) (v2 : Int32) (Q : Mem → Prop) (P : Nat → Int32 → Mem → Prop) (v3 : Int32) (M : Mem) : Prop :=
  ((20 ≤ v3 → Q M) ∧ (¬ 20 ≤ v3 → (vp_in v3 20 ∧ P 1 (v3 + 1) (upJ M 6 v3.toNatClampNeg (0 : Int64)))))
theorem blk_X5_become_2_1_mono {v1 : Int32} {v2 : Int32} {Q Q' : Mem → Prop} {P P' : Nat → Int32 → Mem → Prop} (hQ : ∀ M : Mem, Q M → Q' M) (hP : ∀ (lab : Nat) (v3 : Int32) (M : Mem), P lab v3 M → P' lab v3 M) (v3 : Int32) (M : Mem) (h : blk_X5_become_2_1 v1 v2 Q P v3 M) : blk_X5_become_2_1 v1 v2 Q' P' v3 M := by
  unfold blk_X5_become_2_1 at h ⊢
  exact ⟨fun c => let h := h.1 c; hQ _ h, fun c => let h := h.2 c; ⟨h.1, let h := h.2; hP _ _ _ h⟩⟩
def blk_X5_become_2 (v1 : Int32) (v2 : Int32) (Q : Mem → Prop) (P : Nat → Int32 → Mem → Prop) : Nat → Int32 → Mem → Prop := fun lab v3 M => match lab with
  | 0 => blk_X5_become_2_0 v1 v2 Q P v3 M
  | 1 => blk_X5_become_2_1 v1 v2 Q P v3 M
  | _ => False
theorem blk_X5_become_2_mono {v1 : Int32} {v2 : Int32} {Q Q' : Mem → Prop} {P P' : Nat → Int32 → Mem → Prop} (hQ : ∀ M : Mem, Q M → Q' M) (hP : ∀ (lab : Nat) (v3 : Int32) (M : Mem), P lab v3 M → P' lab v3 M) : ∀ (lab : Nat) (v3 : Int32) (M : Mem), blk_X5_become_2 v1 v2 Q P lab v3 M → blk_X5_become_2 v1 v2 Q' P' lab v3 M := fun lab v3 M h => match lab, h with
  | 0, h => blk_X5_become_2_0_mono (v1 := v1) (v2 := v2) hQ hP v3 M h
  | 1, h => blk_X5_become_2_1_mono (v1 := v1) (v2 := v2) hQ hP v3 M h
  | _ + 2, h => False.elim h
def at_X5_become_2 (v1 : Int32) (v2 : Int32) (Q : Mem → Prop) : Nat → Int32 → Mem → Prop := fun lab v3 M => ∀ P : Nat → Int32 → Mem → Prop, (∀ (lab : Nat) (v3 : Int32) (M : Mem), blk_X5_become_2 v1 v2 Q P lab v3 M → P lab v3 M) → P lab v3 M
theorem at_X5_become_2_fold {v1 : Int32} {v2 : Int32} {Q : Mem → Prop} {lab : Nat} {v3 : Int32} {M : Mem} (h : blk_X5_become_2 v1 v2 Q (at_X5_become_2 v1 v2 Q) lab v3 M) : at_X5_become_2 v1 v2 Q lab v3 M := fun P hP => hP _ _ _ (blk_X5_become_2_mono (fun _ h => h) (fun _ _ _ h => h P hP) _ _ _ h)
theorem at_X5_become_2_mono {v1 : Int32} {v2 : Int32} {Q Q' : Mem → Prop} (hQ : ∀ M : Mem, Q M → Q' M) {lab : Nat} {v3 : Int32} {M : Mem} (h : at_X5_become_2 v1 v2 Q lab v3 M) : at_X5_become_2 v1 v2 Q' lab v3 M := fun P hP => h P (fun lab v3 M hb => hP _ _ _ (blk_X5_become_2_mono hQ (fun _ _ _ h => h) _ _ _ hb))
def wp_X5_become_2 (v1 : Int32) (v2 : Int32) (M : Mem) (Q : Mem → Prop) : Prop := at_X5_become_2 v1 v2 Q 0 0 M
theorem wp_X5_become_2_mono {v1 : Int32} {v2 : Int32} {M : Mem} {Q Q' : Mem → Prop} (hQ : ∀ M : Mem, Q M → Q' M) (h : wp_X5_become_2 v1 v2 M Q) : wp_X5_become_2 v1 v2 M Q' := at_X5_become_2_mono hQ h
def pcl_X5_become_2 : Nat → Nat := fun lab => match lab with
  | 0 => 0
  | 1 => 17
  | _ => 0
def lvl_X5_become_2 (ad : Nat → Nat) (v1 : Int32) (v2 : Int32) : Nat → Int32 → List (Nat × Value) := fun lab v3 => match lab with
  | 0 => [(0, .ref (ad 2)), (1, .int v1), (2, .int v2)]
  | 1 => [(0, .ref (ad 2)), (3, .int v3)]
  | _ => []
abbrev rm_X5_become_2 : Jvm.Room := { frames := 1, cells := 0, slots := 0, locals := 15 }
set_option maxHeartbeats 4000000 in
set_option maxRecDepth 100000 in
theorem ct_X5_become_2 (l : Launch) (D : va_G) (cy : Nat → ClassId) (ad : Nat → Nat) (B : Nat → Prop) (v1 : Int32) (v2 : Int32) (M : Mem) (Q : Mem → Prop) (h : wp_X5_become_2 v1 v2 M Q) : CTv l D cy (wX ad cy) B yX5_become wsX5_become rm_X5_become_2 [.ref (ad 2), .int v1, .int v2] M Q := by
  intro sz
  refine Met.ofW (cc := cX5_become) (maxL := 4) (ret := none) (by decide) rfl ?_
  intro p e s m args below meth c s₁ Bd hml hv
  obtain ⟨hargs, hsz, hP, hK, hD⟩ := hv
  subst hsz
  have hx := Bd.exec
  have hb := Bd.bytes
  have hr := Bd.returns
  have hts := atoms_spec (ws := wsX5_become) Bd.pre
  have hown : s.vm.findClass RX5 = some m.cls := findClass_of_methodNamed Bd.named
  have hlocks := Bd.notSynchronized
  have hC5 : xC wsX5_become 5 RX5 TX5 4 := ⟨by decide +kernel, rfl⟩
  have key : ∀ (P : Nat → Int32 → Mem → Prop), (∀ (lab : Nat) (v3 : Int32) (M : Mem), P lab v3 M → ∀ (H : Heap) (locs : List Loc) (ls : Array Slot), xS D (wX ad cy) B s.heap H locs M → lv_has ls 4 (lvl_X5_become_2 ad v1 v2 lab v3 ) → W p l e (headSpec wsX5_become rm_X5_become_2).room s m args below meth c H locs 0 0 (MQ below (va_Qv (S := Mem) Q (xB D (wX ad cy) B) (xA B s.heap.size)) args s 0 0 (xA B s.heap.size)) (F0 m (pcl_X5_become_2 lab) ls [])) → ∀ (lab : Nat) (v3 : Int32) (M : Mem), blk_X5_become_2 v1 v2 Q P lab v3 M → ∀ (H : Heap) (locs : List Loc) (ls : Array Slot), xS D (wX ad cy) B s.heap H locs M → lv_has ls 4 (lvl_X5_become_2 ad v1 v2 lab v3 ) → W p l e (headSpec wsX5_become rm_X5_become_2).room s m args below meth c H locs 0 0 (MQ below (va_Qv (S := Mem) Q (xB D (wX ad cy) B) (xA B s.heap.size)) args s 0 0 (xA B s.heap.size)) (F0 m (pcl_X5_become_2 lab) ls []) := by
    intro P hJ lab v3 M h H locs ls S hl
    match lab, h, hl with
    | 0, h, hl =>
      have hl : lv_has ls 4 [(0, .ref (ad 2)), (1, .int v1), (2, .int v2)] := hl
      have h : blk_X5_become_2_0 v1 v2 Q P v3 M := h
      unfold blk_X5_become_2_0 at h
      refine W.eq (g2 := F0 m 0 ls []) rfl ?_
      refine lv_aload_n hx hb dX5_become_0 rfl (lv_at hl 0 rfl) ?_
      refine lv_iconst (v := 0) hx hb dX5_become_1 (by decide) ?_
      refine x_putI hx hb hts (hC5) tyX5 tyX5_ok nmX5 hown hK S 1 (by decide) xf_2_1 (index := 15) (hts _ (List.mem_of_getElem? (i := 1) rfl)) rfl rfl rfl dX5_become_2 (fun H locs S => ?_)
      refine lv_aload_n hx hb dX5_become_5 rfl (lv_at hl 0 rfl) ?_
      refine lv_iload_n hx hb dX5_become_6 rfl (lv_at hl 1 rfl) ?_
      refine x_putI hx hb hts (hC5) tyX5 tyX5_ok nmX5 hown hK S 2 (by decide) xf_2_2 (index := 19) (hts _ (List.mem_of_getElem? (i := 2) rfl)) rfl rfl rfl dX5_become_7 (fun H locs S => ?_)
      refine lv_aload_n hx hb dX5_become_10 rfl (lv_at hl 0 rfl) ?_
      refine lv_iload_n hx hb dX5_become_11 rfl (lv_at hl 2 rfl) ?_
      refine x_putI hx hb hts (hC5) tyX5 tyX5_ok nmX5 hown hK S 3 (by decide) xf_2_3 (index := 23) (hts _ (List.mem_of_getElem? (i := 3) rfl)) rfl rfl rfl dX5_become_12 (fun H locs S => ?_)
      refine lv_iconst (v := 0) hx hb dX5_become_15 (by decide) ?_
      refine lv_istore_n (lv' := [(3, .int 0), (0, .ref (ad 2)), (1, .int v1), (2, .int v2)]) hx hb dX5_become_16 rfl hl (by decide) rfl (fun ls hl => ?_)
      exact hJ _ _ _ h _ _ _ S (lv_sub hl [1, 0] rfl)
    | 1, h, hl =>
      have hl : lv_has ls 4 [(0, .ref (ad 2)), (3, .int v3)] := hl
      have h : blk_X5_become_2_1 v1 v2 Q P v3 M := h
      unfold blk_X5_become_2_1 at h
      refine W.eq (g2 := F0 m 17 ls []) rfl ?_
      refine lv_iload_n hx hb dX5_become_17 rfl (lv_at hl 1 rfl) ?_
      refine lv_bipush (v := 20) hx hb dX5_become_18 (by decide) ?_
      refine lv_icmp_ge (tgt := 36) hx hb dX5_become_20 (by decide) (fun c20 => ?_) (fun c20 => ?_)
      · replace h := h.1 c20
        exact x_vret hx hb hr hlocks S h dX5_become_36
      · replace h := h.2 c20
        refine lv_aload_n hx hb dX5_become_23 rfl (lv_at hl 0 rfl) ?_
        refine x_getR hx hb hts (hC5) hown hK S 0 (by decide) xf_2_0 (index := 9) (hts _ (List.mem_of_getElem? (i := 4) rfl)) dX5_become_24 ?_
        refine lv_iload_n hx hb dX5_become_27 rfl (lv_at hl 1 rfl) ?_
        refine lv_lconst (v := 0) hx hb dX5_become_28 rfl ?_
        refine x_last hx hb hK S xa_6 h.1 dX5_become_29 (fun H locs S => ?_)
        replace h := h.2
        refine lv_iinc (v := (v3 + 1)) (lv' := [(3, .int (v3 + 1)), (0, .ref (ad 2))]) hx hb dX5_become_30 hl (k := 1) rfl rfl (by decide) rfl (fun ls hl => ?_)
        refine lv_goto (tgt := 17) hx hb dX5_become_33 (by decide) ?_
        exact hJ _ _ _ h _ _ _ S (lv_sub hl [1, 0] rfl)
    | _ + 2, h, hl => exact h.elim
  have hl := lv_entry ([.ref (ad 2), .int v1, .int v2]) (n := 4) (Nat.le_of_ble_eq_true rfl)
  subst hargs
  rw [lg_entry_eq]
  generalize (lg_sl ([.ref (ad 2), .int v1, .int v2]) ++ List.replicate (4 - (lg_sl ([.ref (ad 2), .int v1, .int v2])).length) Slot.unset).toArray = ls at hl ⊢
  exact h _ (key _ (fun _ _ _ h => h)) s.heap [] ls ⟨hP, hD, va_S.rf⟩ hl
/-! X5_become_3 -/
def blk_X5_become_3_0 (v1 : Int32) (v2 : Int32) (Q : Mem → Prop) (P : Nat → Int32 → Mem → Prop) (v3 : Int32) (M : Mem) : Prop :=
  P 1 0 (upI (upI (upI M 3 1 0) 3 2 v1) 3 3 v2)
theorem blk_X5_become_3_0_mono {v1 : Int32} {v2 : Int32} {Q Q' : Mem → Prop} {P P' : Nat → Int32 → Mem → Prop} (hQ : ∀ M : Mem, Q M → Q' M) (hP : ∀ (lab : Nat) (v3 : Int32) (M : Mem), P lab v3 M → P' lab v3 M) (v3 : Int32) (M : Mem) (h : blk_X5_become_3_0 v1 v2 Q P v3 M) : blk_X5_become_3_0 v1 v2 Q' P' v3 M := by
  unfold blk_X5_become_3_0 at h ⊢
  exact hP _ _ _ h
def blk_X5_become_3_1 (v1 : Int32) (v2 : Int32) (Q : Mem → Prop) (P : Nat → Int32 → Mem → Prop) (v3 : Int32) (M : Mem) : Prop :=
  ((20 ≤ v3 → Q M) ∧ (¬ 20 ≤ v3 → (vp_in v3 20 ∧ P 1 (v3 + 1) (upJ M 7 v3.toNatClampNeg (0 : Int64)))))
theorem blk_X5_become_3_1_mono {v1 : Int32} {v2 : Int32} {Q Q' : Mem → Prop} {P P' : Nat → Int32 → Mem → Prop} (hQ : ∀ M : Mem, Q M → Q' M) (hP : ∀ (lab : Nat) (v3 : Int32) (M : Mem), P lab v3 M → P' lab v3 M) (v3 : Int32) (M : Mem) (h : blk_X5_become_3_1 v1 v2 Q P v3 M) : blk_X5_become_3_1 v1 v2 Q' P' v3 M := by
  unfold blk_X5_become_3_1 at h ⊢
  exact ⟨fun c => let h := h.1 c; hQ _ h, fun c => let h := h.2 c; ⟨h.1, let h := h.2; hP _ _ _ h⟩⟩
def blk_X5_become_3 (v1 : Int32) (v2 : Int32) (Q : Mem → Prop) (P : Nat → Int32 → Mem → Prop) : Nat → Int32 → Mem → Prop := fun lab v3 M => match lab with
  | 0 => blk_X5_become_3_0 v1 v2 Q P v3 M
  | 1 => blk_X5_become_3_1 v1 v2 Q P v3 M
  | _ => False
theorem blk_X5_become_3_mono {v1 : Int32} {v2 : Int32} {Q Q' : Mem → Prop} {P P' : Nat → Int32 → Mem → Prop} (hQ : ∀ M : Mem, Q M → Q' M) (hP : ∀ (lab : Nat) (v3 : Int32) (M : Mem), P lab v3 M → P' lab v3 M) : ∀ (lab : Nat) (v3 : Int32) (M : Mem), blk_X5_become_3 v1 v2 Q P lab v3 M → blk_X5_become_3 v1 v2 Q' P' lab v3 M := fun lab v3 M h => match lab, h with
  | 0, h => blk_X5_become_3_0_mono (v1 := v1) (v2 := v2) hQ hP v3 M h
  | 1, h => blk_X5_become_3_1_mono (v1 := v1) (v2 := v2) hQ hP v3 M h
  | _ + 2, h => False.elim h
def at_X5_become_3 (v1 : Int32) (v2 : Int32) (Q : Mem → Prop) : Nat → Int32 → Mem → Prop := fun lab v3 M => ∀ P : Nat → Int32 → Mem → Prop, (∀ (lab : Nat) (v3 : Int32) (M : Mem), blk_X5_become_3 v1 v2 Q P lab v3 M → P lab v3 M) → P lab v3 M
theorem at_X5_become_3_fold {v1 : Int32} {v2 : Int32} {Q : Mem → Prop} {lab : Nat} {v3 : Int32} {M : Mem} (h : blk_X5_become_3 v1 v2 Q (at_X5_become_3 v1 v2 Q) lab v3 M) : at_X5_become_3 v1 v2 Q lab v3 M := fun P hP => hP _ _ _ (blk_X5_become_3_mono (fun _ h => h) (fun _ _ _ h => h P hP) _ _ _ h)
theorem at_X5_become_3_mono {v1 : Int32} {v2 : Int32} {Q Q' : Mem → Prop} (hQ : ∀ M : Mem, Q M → Q' M) {lab : Nat} {v3 : Int32} {M : Mem} (h : at_X5_become_3 v1 v2 Q lab v3 M) : at_X5_become_3 v1 v2 Q' lab v3 M := fun P hP => h P (fun lab v3 M hb => hP _ _ _ (blk_X5_become_3_mono hQ (fun _ _ _ h => h) _ _ _ hb))
def wp_X5_become_3 (v1 : Int32) (v2 : Int32) (M : Mem) (Q : Mem → Prop) : Prop := at_X5_become_3 v1 v2 Q 0 0 M
theorem wp_X5_become_3_mono {v1 : Int32} {v2 : Int32} {M : Mem} {Q Q' : Mem → Prop} (hQ : ∀ M : Mem, Q M → Q' M) (h : wp_X5_become_3 v1 v2 M Q) : wp_X5_become_3 v1 v2 M Q' := at_X5_become_3_mono hQ h
def pcl_X5_become_3 : Nat → Nat := fun lab => match lab with
  | 0 => 0
  | 1 => 17
  | _ => 0
def lvl_X5_become_3 (ad : Nat → Nat) (v1 : Int32) (v2 : Int32) : Nat → Int32 → List (Nat × Value) := fun lab v3 => match lab with
  | 0 => [(0, .ref (ad 3)), (1, .int v1), (2, .int v2)]
  | 1 => [(0, .ref (ad 3)), (3, .int v3)]
  | _ => []
abbrev rm_X5_become_3 : Jvm.Room := { frames := 1, cells := 0, slots := 0, locals := 15 }
set_option maxHeartbeats 4000000 in
set_option maxRecDepth 100000 in
theorem ct_X5_become_3 (l : Launch) (D : va_G) (cy : Nat → ClassId) (ad : Nat → Nat) (B : Nat → Prop) (v1 : Int32) (v2 : Int32) (M : Mem) (Q : Mem → Prop) (h : wp_X5_become_3 v1 v2 M Q) : CTv l D cy (wX ad cy) B yX5_become wsX5_become rm_X5_become_3 [.ref (ad 3), .int v1, .int v2] M Q := by
  intro sz
  refine Met.ofW (cc := cX5_become) (maxL := 4) (ret := none) (by decide) rfl ?_
  intro p e s m args below meth c s₁ Bd hml hv
  obtain ⟨hargs, hsz, hP, hK, hD⟩ := hv
  subst hsz
  have hx := Bd.exec
  have hb := Bd.bytes
  have hr := Bd.returns
  have hts := atoms_spec (ws := wsX5_become) Bd.pre
  have hown : s.vm.findClass RX5 = some m.cls := findClass_of_methodNamed Bd.named
  have hlocks := Bd.notSynchronized
  have hC5 : xC wsX5_become 5 RX5 TX5 4 := ⟨by decide +kernel, rfl⟩
  have key : ∀ (P : Nat → Int32 → Mem → Prop), (∀ (lab : Nat) (v3 : Int32) (M : Mem), P lab v3 M → ∀ (H : Heap) (locs : List Loc) (ls : Array Slot), xS D (wX ad cy) B s.heap H locs M → lv_has ls 4 (lvl_X5_become_3 ad v1 v2 lab v3 ) → W p l e (headSpec wsX5_become rm_X5_become_3).room s m args below meth c H locs 0 0 (MQ below (va_Qv (S := Mem) Q (xB D (wX ad cy) B) (xA B s.heap.size)) args s 0 0 (xA B s.heap.size)) (F0 m (pcl_X5_become_3 lab) ls [])) → ∀ (lab : Nat) (v3 : Int32) (M : Mem), blk_X5_become_3 v1 v2 Q P lab v3 M → ∀ (H : Heap) (locs : List Loc) (ls : Array Slot), xS D (wX ad cy) B s.heap H locs M → lv_has ls 4 (lvl_X5_become_3 ad v1 v2 lab v3 ) → W p l e (headSpec wsX5_become rm_X5_become_3).room s m args below meth c H locs 0 0 (MQ below (va_Qv (S := Mem) Q (xB D (wX ad cy) B) (xA B s.heap.size)) args s 0 0 (xA B s.heap.size)) (F0 m (pcl_X5_become_3 lab) ls []) := by
    intro P hJ lab v3 M h H locs ls S hl
    match lab, h, hl with
    | 0, h, hl =>
      have hl : lv_has ls 4 [(0, .ref (ad 3)), (1, .int v1), (2, .int v2)] := hl
      have h : blk_X5_become_3_0 v1 v2 Q P v3 M := h
      unfold blk_X5_become_3_0 at h
      refine W.eq (g2 := F0 m 0 ls []) rfl ?_
      refine lv_aload_n hx hb dX5_become_0 rfl (lv_at hl 0 rfl) ?_
      refine lv_iconst (v := 0) hx hb dX5_become_1 (by decide) ?_
      refine x_putI hx hb hts (hC5) tyX5 tyX5_ok nmX5 hown hK S 1 (by decide) xf_3_1 (index := 15) (hts _ (List.mem_of_getElem? (i := 1) rfl)) rfl rfl rfl dX5_become_2 (fun H locs S => ?_)
      refine lv_aload_n hx hb dX5_become_5 rfl (lv_at hl 0 rfl) ?_
      refine lv_iload_n hx hb dX5_become_6 rfl (lv_at hl 1 rfl) ?_
      refine x_putI hx hb hts (hC5) tyX5 tyX5_ok nmX5 hown hK S 2 (by decide) xf_3_2 (index := 19) (hts _ (List.mem_of_getElem? (i := 2) rfl)) rfl rfl rfl dX5_become_7 (fun H locs S => ?_)
      refine lv_aload_n hx hb dX5_become_10 rfl (lv_at hl 0 rfl) ?_
      refine lv_iload_n hx hb dX5_become_11 rfl (lv_at hl 2 rfl) ?_
      refine x_putI hx hb hts (hC5) tyX5 tyX5_ok nmX5 hown hK S 3 (by decide) xf_3_3 (index := 23) (hts _ (List.mem_of_getElem? (i := 3) rfl)) rfl rfl rfl dX5_become_12 (fun H locs S => ?_)
      refine lv_iconst (v := 0) hx hb dX5_become_15 (by decide) ?_
      refine lv_istore_n (lv' := [(3, .int 0), (0, .ref (ad 3)), (1, .int v1), (2, .int v2)]) hx hb dX5_become_16 rfl hl (by decide) rfl (fun ls hl => ?_)
      exact hJ _ _ _ h _ _ _ S (lv_sub hl [1, 0] rfl)
    | 1, h, hl =>
      have hl : lv_has ls 4 [(0, .ref (ad 3)), (3, .int v3)] := hl
      have h : blk_X5_become_3_1 v1 v2 Q P v3 M := h
      unfold blk_X5_become_3_1 at h
      refine W.eq (g2 := F0 m 17 ls []) rfl ?_
      refine lv_iload_n hx hb dX5_become_17 rfl (lv_at hl 1 rfl) ?_
      refine lv_bipush (v := 20) hx hb dX5_become_18 (by decide) ?_
      refine lv_icmp_ge (tgt := 36) hx hb dX5_become_20 (by decide) (fun c20 => ?_) (fun c20 => ?_)
      · replace h := h.1 c20
        exact x_vret hx hb hr hlocks S h dX5_become_36
      · replace h := h.2 c20
        refine lv_aload_n hx hb dX5_become_23 rfl (lv_at hl 0 rfl) ?_
        refine x_getR hx hb hts (hC5) hown hK S 0 (by decide) xf_3_0 (index := 9) (hts _ (List.mem_of_getElem? (i := 4) rfl)) dX5_become_24 ?_
        refine lv_iload_n hx hb dX5_become_27 rfl (lv_at hl 1 rfl) ?_
        refine lv_lconst (v := 0) hx hb dX5_become_28 rfl ?_
        refine x_last hx hb hK S xa_7 h.1 dX5_become_29 (fun H locs S => ?_)
        replace h := h.2
        refine lv_iinc (v := (v3 + 1)) (lv' := [(3, .int (v3 + 1)), (0, .ref (ad 3))]) hx hb dX5_become_30 hl (k := 1) rfl rfl (by decide) rfl (fun ls hl => ?_)
        refine lv_goto (tgt := 17) hx hb dX5_become_33 (by decide) ?_
        exact hJ _ _ _ h _ _ _ S (lv_sub hl [1, 0] rfl)
    | _ + 2, h, hl => exact h.elim
  have hl := lv_entry ([.ref (ad 3), .int v1, .int v2]) (n := 4) (Nat.le_of_ble_eq_true rfl)
  subst hargs
  rw [lg_entry_eq]
  generalize (lg_sl ([.ref (ad 3), .int v1, .int v2]) ++ List.replicate (4 - (lg_sl ([.ref (ad 3), .int v1, .int v2])).length) Slot.unset).toArray = ls at hl ⊢
  exact h _ (key _ (fun _ _ _ h => h)) s.heap [] ls ⟨hP, hD, va_S.rf⟩ hl
/-! X5_become_4 -/
def blk_X5_become_4_0 (v1 : Int32) (v2 : Int32) (Q : Mem → Prop) (P : Nat → Int32 → Mem → Prop) (v3 : Int32) (M : Mem) : Prop :=
  P 1 0 (upI (upI (upI M 4 1 0) 4 2 v1) 4 3 v2)
theorem blk_X5_become_4_0_mono {v1 : Int32} {v2 : Int32} {Q Q' : Mem → Prop} {P P' : Nat → Int32 → Mem → Prop} (hQ : ∀ M : Mem, Q M → Q' M) (hP : ∀ (lab : Nat) (v3 : Int32) (M : Mem), P lab v3 M → P' lab v3 M) (v3 : Int32) (M : Mem) (h : blk_X5_become_4_0 v1 v2 Q P v3 M) : blk_X5_become_4_0 v1 v2 Q' P' v3 M := by
  unfold blk_X5_become_4_0 at h ⊢
  exact hP _ _ _ h
def blk_X5_become_4_1 (v1 : Int32) (v2 : Int32) (Q : Mem → Prop) (P : Nat → Int32 → Mem → Prop) (v3 : Int32) (M : Mem) : Prop :=
  ((20 ≤ v3 → Q M) ∧ (¬ 20 ≤ v3 → (vp_in v3 20 ∧ P 1 (v3 + 1) (upJ M 8 v3.toNatClampNeg (0 : Int64)))))
theorem blk_X5_become_4_1_mono {v1 : Int32} {v2 : Int32} {Q Q' : Mem → Prop} {P P' : Nat → Int32 → Mem → Prop} (hQ : ∀ M : Mem, Q M → Q' M) (hP : ∀ (lab : Nat) (v3 : Int32) (M : Mem), P lab v3 M → P' lab v3 M) (v3 : Int32) (M : Mem) (h : blk_X5_become_4_1 v1 v2 Q P v3 M) : blk_X5_become_4_1 v1 v2 Q' P' v3 M := by
  unfold blk_X5_become_4_1 at h ⊢
  exact ⟨fun c => let h := h.1 c; hQ _ h, fun c => let h := h.2 c; ⟨h.1, let h := h.2; hP _ _ _ h⟩⟩
def blk_X5_become_4 (v1 : Int32) (v2 : Int32) (Q : Mem → Prop) (P : Nat → Int32 → Mem → Prop) : Nat → Int32 → Mem → Prop := fun lab v3 M => match lab with
  | 0 => blk_X5_become_4_0 v1 v2 Q P v3 M
  | 1 => blk_X5_become_4_1 v1 v2 Q P v3 M
  | _ => False
theorem blk_X5_become_4_mono {v1 : Int32} {v2 : Int32} {Q Q' : Mem → Prop} {P P' : Nat → Int32 → Mem → Prop} (hQ : ∀ M : Mem, Q M → Q' M) (hP : ∀ (lab : Nat) (v3 : Int32) (M : Mem), P lab v3 M → P' lab v3 M) : ∀ (lab : Nat) (v3 : Int32) (M : Mem), blk_X5_become_4 v1 v2 Q P lab v3 M → blk_X5_become_4 v1 v2 Q' P' lab v3 M := fun lab v3 M h => match lab, h with
  | 0, h => blk_X5_become_4_0_mono (v1 := v1) (v2 := v2) hQ hP v3 M h
  | 1, h => blk_X5_become_4_1_mono (v1 := v1) (v2 := v2) hQ hP v3 M h
  | _ + 2, h => False.elim h
def at_X5_become_4 (v1 : Int32) (v2 : Int32) (Q : Mem → Prop) : Nat → Int32 → Mem → Prop := fun lab v3 M => ∀ P : Nat → Int32 → Mem → Prop, (∀ (lab : Nat) (v3 : Int32) (M : Mem), blk_X5_become_4 v1 v2 Q P lab v3 M → P lab v3 M) → P lab v3 M
theorem at_X5_become_4_fold {v1 : Int32} {v2 : Int32} {Q : Mem → Prop} {lab : Nat} {v3 : Int32} {M : Mem} (h : blk_X5_become_4 v1 v2 Q (at_X5_become_4 v1 v2 Q) lab v3 M) : at_X5_become_4 v1 v2 Q lab v3 M := fun P hP => hP _ _ _ (blk_X5_become_4_mono (fun _ h => h) (fun _ _ _ h => h P hP) _ _ _ h)
theorem at_X5_become_4_mono {v1 : Int32} {v2 : Int32} {Q Q' : Mem → Prop} (hQ : ∀ M : Mem, Q M → Q' M) {lab : Nat} {v3 : Int32} {M : Mem} (h : at_X5_become_4 v1 v2 Q lab v3 M) : at_X5_become_4 v1 v2 Q' lab v3 M := fun P hP => h P (fun lab v3 M hb => hP _ _ _ (blk_X5_become_4_mono hQ (fun _ _ _ h => h) _ _ _ hb))
def wp_X5_become_4 (v1 : Int32) (v2 : Int32) (M : Mem) (Q : Mem → Prop) : Prop := at_X5_become_4 v1 v2 Q 0 0 M
theorem wp_X5_become_4_mono {v1 : Int32} {v2 : Int32} {M : Mem} {Q Q' : Mem → Prop} (hQ : ∀ M : Mem, Q M → Q' M) (h : wp_X5_become_4 v1 v2 M Q) : wp_X5_become_4 v1 v2 M Q' := at_X5_become_4_mono hQ h
def pcl_X5_become_4 : Nat → Nat := fun lab => match lab with
  | 0 => 0
  | 1 => 17
  | _ => 0
def lvl_X5_become_4 (ad : Nat → Nat) (v1 : Int32) (v2 : Int32) : Nat → Int32 → List (Nat × Value) := fun lab v3 => match lab with
  | 0 => [(0, .ref (ad 4)), (1, .int v1), (2, .int v2)]
  | 1 => [(0, .ref (ad 4)), (3, .int v3)]
  | _ => []
abbrev rm_X5_become_4 : Jvm.Room := { frames := 1, cells := 0, slots := 0, locals := 15 }
set_option maxHeartbeats 4000000 in
set_option maxRecDepth 100000 in
theorem ct_X5_become_4 (l : Launch) (D : va_G) (cy : Nat → ClassId) (ad : Nat → Nat) (B : Nat → Prop) (v1 : Int32) (v2 : Int32) (M : Mem) (Q : Mem → Prop) (h : wp_X5_become_4 v1 v2 M Q) : CTv l D cy (wX ad cy) B yX5_become wsX5_become rm_X5_become_4 [.ref (ad 4), .int v1, .int v2] M Q := by
  intro sz
  refine Met.ofW (cc := cX5_become) (maxL := 4) (ret := none) (by decide) rfl ?_
  intro p e s m args below meth c s₁ Bd hml hv
  obtain ⟨hargs, hsz, hP, hK, hD⟩ := hv
  subst hsz
  have hx := Bd.exec
  have hb := Bd.bytes
  have hr := Bd.returns
  have hts := atoms_spec (ws := wsX5_become) Bd.pre
  have hown : s.vm.findClass RX5 = some m.cls := findClass_of_methodNamed Bd.named
  have hlocks := Bd.notSynchronized
  have hC5 : xC wsX5_become 5 RX5 TX5 4 := ⟨by decide +kernel, rfl⟩
  have key : ∀ (P : Nat → Int32 → Mem → Prop), (∀ (lab : Nat) (v3 : Int32) (M : Mem), P lab v3 M → ∀ (H : Heap) (locs : List Loc) (ls : Array Slot), xS D (wX ad cy) B s.heap H locs M → lv_has ls 4 (lvl_X5_become_4 ad v1 v2 lab v3 ) → W p l e (headSpec wsX5_become rm_X5_become_4).room s m args below meth c H locs 0 0 (MQ below (va_Qv (S := Mem) Q (xB D (wX ad cy) B) (xA B s.heap.size)) args s 0 0 (xA B s.heap.size)) (F0 m (pcl_X5_become_4 lab) ls [])) → ∀ (lab : Nat) (v3 : Int32) (M : Mem), blk_X5_become_4 v1 v2 Q P lab v3 M → ∀ (H : Heap) (locs : List Loc) (ls : Array Slot), xS D (wX ad cy) B s.heap H locs M → lv_has ls 4 (lvl_X5_become_4 ad v1 v2 lab v3 ) → W p l e (headSpec wsX5_become rm_X5_become_4).room s m args below meth c H locs 0 0 (MQ below (va_Qv (S := Mem) Q (xB D (wX ad cy) B) (xA B s.heap.size)) args s 0 0 (xA B s.heap.size)) (F0 m (pcl_X5_become_4 lab) ls []) := by
    intro P hJ lab v3 M h H locs ls S hl
    match lab, h, hl with
    | 0, h, hl =>
      have hl : lv_has ls 4 [(0, .ref (ad 4)), (1, .int v1), (2, .int v2)] := hl
      have h : blk_X5_become_4_0 v1 v2 Q P v3 M := h
      unfold blk_X5_become_4_0 at h
      refine W.eq (g2 := F0 m 0 ls []) rfl ?_
      refine lv_aload_n hx hb dX5_become_0 rfl (lv_at hl 0 rfl) ?_
      refine lv_iconst (v := 0) hx hb dX5_become_1 (by decide) ?_
      refine x_putI hx hb hts (hC5) tyX5 tyX5_ok nmX5 hown hK S 1 (by decide) xf_4_1 (index := 15) (hts _ (List.mem_of_getElem? (i := 1) rfl)) rfl rfl rfl dX5_become_2 (fun H locs S => ?_)
      refine lv_aload_n hx hb dX5_become_5 rfl (lv_at hl 0 rfl) ?_
      refine lv_iload_n hx hb dX5_become_6 rfl (lv_at hl 1 rfl) ?_
      refine x_putI hx hb hts (hC5) tyX5 tyX5_ok nmX5 hown hK S 2 (by decide) xf_4_2 (index := 19) (hts _ (List.mem_of_getElem? (i := 2) rfl)) rfl rfl rfl dX5_become_7 (fun H locs S => ?_)
      refine lv_aload_n hx hb dX5_become_10 rfl (lv_at hl 0 rfl) ?_
      refine lv_iload_n hx hb dX5_become_11 rfl (lv_at hl 2 rfl) ?_
      refine x_putI hx hb hts (hC5) tyX5 tyX5_ok nmX5 hown hK S 3 (by decide) xf_4_3 (index := 23) (hts _ (List.mem_of_getElem? (i := 3) rfl)) rfl rfl rfl dX5_become_12 (fun H locs S => ?_)
      refine lv_iconst (v := 0) hx hb dX5_become_15 (by decide) ?_
      refine lv_istore_n (lv' := [(3, .int 0), (0, .ref (ad 4)), (1, .int v1), (2, .int v2)]) hx hb dX5_become_16 rfl hl (by decide) rfl (fun ls hl => ?_)
      exact hJ _ _ _ h _ _ _ S (lv_sub hl [1, 0] rfl)
    | 1, h, hl =>
      have hl : lv_has ls 4 [(0, .ref (ad 4)), (3, .int v3)] := hl
      have h : blk_X5_become_4_1 v1 v2 Q P v3 M := h
      unfold blk_X5_become_4_1 at h
      refine W.eq (g2 := F0 m 17 ls []) rfl ?_
      refine lv_iload_n hx hb dX5_become_17 rfl (lv_at hl 1 rfl) ?_
      refine lv_bipush (v := 20) hx hb dX5_become_18 (by decide) ?_
      refine lv_icmp_ge (tgt := 36) hx hb dX5_become_20 (by decide) (fun c20 => ?_) (fun c20 => ?_)
      · replace h := h.1 c20
        exact x_vret hx hb hr hlocks S h dX5_become_36
      · replace h := h.2 c20
        refine lv_aload_n hx hb dX5_become_23 rfl (lv_at hl 0 rfl) ?_
        refine x_getR hx hb hts (hC5) hown hK S 0 (by decide) xf_4_0 (index := 9) (hts _ (List.mem_of_getElem? (i := 4) rfl)) dX5_become_24 ?_
        refine lv_iload_n hx hb dX5_become_27 rfl (lv_at hl 1 rfl) ?_
        refine lv_lconst (v := 0) hx hb dX5_become_28 rfl ?_
        refine x_last hx hb hK S xa_8 h.1 dX5_become_29 (fun H locs S => ?_)
        replace h := h.2
        refine lv_iinc (v := (v3 + 1)) (lv' := [(3, .int (v3 + 1)), (0, .ref (ad 4))]) hx hb dX5_become_30 hl (k := 1) rfl rfl (by decide) rfl (fun ls hl => ?_)
        refine lv_goto (tgt := 17) hx hb dX5_become_33 (by decide) ?_
        exact hJ _ _ _ h _ _ _ S (lv_sub hl [1, 0] rfl)
    | _ + 2, h, hl => exact h.elim
  have hl := lv_entry ([.ref (ad 4), .int v1, .int v2]) (n := 4) (Nat.le_of_ble_eq_true rfl)
  subst hargs
  rw [lg_entry_eq]
  generalize (lg_sl ([.ref (ad 4), .int v1, .int v2]) ++ List.replicate (4 - (lg_sl ([.ref (ad 4), .int v1, .int v2])).length) Slot.unset).toArray = ls at hl ⊢
  exact h _ (key _ (fun _ _ _ h => h)) s.heap [] ls ⟨hP, hD, va_S.rf⟩ hl
/-! X5_become_5 -/
def blk_X5_become_5_0 (v1 : Int32) (v2 : Int32) (Q : Mem → Prop) (P : Nat → Int32 → Mem → Prop) (v3 : Int32) (M : Mem) : Prop :=
  P 1 0 (upI (upI (upI M 5 1 0) 5 2 v1) 5 3 v2)
theorem blk_X5_become_5_0_mono {v1 : Int32} {v2 : Int32} {Q Q' : Mem → Prop} {P P' : Nat → Int32 → Mem → Prop} (hQ : ∀ M : Mem, Q M → Q' M) (hP : ∀ (lab : Nat) (v3 : Int32) (M : Mem), P lab v3 M → P' lab v3 M) (v3 : Int32) (M : Mem) (h : blk_X5_become_5_0 v1 v2 Q P v3 M) : blk_X5_become_5_0 v1 v2 Q' P' v3 M := by
  unfold blk_X5_become_5_0 at h ⊢
  exact hP _ _ _ h
def blk_X5_become_5_1 (v1 : Int32) (v2 : Int32) (Q : Mem → Prop) (P : Nat → Int32 → Mem → Prop) (v3 : Int32) (M : Mem) : Prop :=
  ((20 ≤ v3 → Q M) ∧ (¬ 20 ≤ v3 → (vp_in v3 20 ∧ P 1 (v3 + 1) (upJ M 9 v3.toNatClampNeg (0 : Int64)))))
theorem blk_X5_become_5_1_mono {v1 : Int32} {v2 : Int32} {Q Q' : Mem → Prop} {P P' : Nat → Int32 → Mem → Prop} (hQ : ∀ M : Mem, Q M → Q' M) (hP : ∀ (lab : Nat) (v3 : Int32) (M : Mem), P lab v3 M → P' lab v3 M) (v3 : Int32) (M : Mem) (h : blk_X5_become_5_1 v1 v2 Q P v3 M) : blk_X5_become_5_1 v1 v2 Q' P' v3 M := by
  unfold blk_X5_become_5_1 at h ⊢
  exact ⟨fun c => let h := h.1 c; hQ _ h, fun c => let h := h.2 c; ⟨h.1, let h := h.2; hP _ _ _ h⟩⟩
def blk_X5_become_5 (v1 : Int32) (v2 : Int32) (Q : Mem → Prop) (P : Nat → Int32 → Mem → Prop) : Nat → Int32 → Mem → Prop := fun lab v3 M => match lab with
  | 0 => blk_X5_become_5_0 v1 v2 Q P v3 M
  | 1 => blk_X5_become_5_1 v1 v2 Q P v3 M
  | _ => False
theorem blk_X5_become_5_mono {v1 : Int32} {v2 : Int32} {Q Q' : Mem → Prop} {P P' : Nat → Int32 → Mem → Prop} (hQ : ∀ M : Mem, Q M → Q' M) (hP : ∀ (lab : Nat) (v3 : Int32) (M : Mem), P lab v3 M → P' lab v3 M) : ∀ (lab : Nat) (v3 : Int32) (M : Mem), blk_X5_become_5 v1 v2 Q P lab v3 M → blk_X5_become_5 v1 v2 Q' P' lab v3 M := fun lab v3 M h => match lab, h with
  | 0, h => blk_X5_become_5_0_mono (v1 := v1) (v2 := v2) hQ hP v3 M h
  | 1, h => blk_X5_become_5_1_mono (v1 := v1) (v2 := v2) hQ hP v3 M h
  | _ + 2, h => False.elim h
def at_X5_become_5 (v1 : Int32) (v2 : Int32) (Q : Mem → Prop) : Nat → Int32 → Mem → Prop := fun lab v3 M => ∀ P : Nat → Int32 → Mem → Prop, (∀ (lab : Nat) (v3 : Int32) (M : Mem), blk_X5_become_5 v1 v2 Q P lab v3 M → P lab v3 M) → P lab v3 M
theorem at_X5_become_5_fold {v1 : Int32} {v2 : Int32} {Q : Mem → Prop} {lab : Nat} {v3 : Int32} {M : Mem} (h : blk_X5_become_5 v1 v2 Q (at_X5_become_5 v1 v2 Q) lab v3 M) : at_X5_become_5 v1 v2 Q lab v3 M := fun P hP => hP _ _ _ (blk_X5_become_5_mono (fun _ h => h) (fun _ _ _ h => h P hP) _ _ _ h)
theorem at_X5_become_5_mono {v1 : Int32} {v2 : Int32} {Q Q' : Mem → Prop} (hQ : ∀ M : Mem, Q M → Q' M) {lab : Nat} {v3 : Int32} {M : Mem} (h : at_X5_become_5 v1 v2 Q lab v3 M) : at_X5_become_5 v1 v2 Q' lab v3 M := fun P hP => h P (fun lab v3 M hb => hP _ _ _ (blk_X5_become_5_mono hQ (fun _ _ _ h => h) _ _ _ hb))
def wp_X5_become_5 (v1 : Int32) (v2 : Int32) (M : Mem) (Q : Mem → Prop) : Prop := at_X5_become_5 v1 v2 Q 0 0 M
theorem wp_X5_become_5_mono {v1 : Int32} {v2 : Int32} {M : Mem} {Q Q' : Mem → Prop} (hQ : ∀ M : Mem, Q M → Q' M) (h : wp_X5_become_5 v1 v2 M Q) : wp_X5_become_5 v1 v2 M Q' := at_X5_become_5_mono hQ h
def pcl_X5_become_5 : Nat → Nat := fun lab => match lab with
  | 0 => 0
  | 1 => 17
  | _ => 0
def lvl_X5_become_5 (ad : Nat → Nat) (v1 : Int32) (v2 : Int32) : Nat → Int32 → List (Nat × Value) := fun lab v3 => match lab with
  | 0 => [(0, .ref (ad 5)), (1, .int v1), (2, .int v2)]
  | 1 => [(0, .ref (ad 5)), (3, .int v3)]
  | _ => []
abbrev rm_X5_become_5 : Jvm.Room := { frames := 1, cells := 0, slots := 0, locals := 15 }
set_option maxHeartbeats 4000000 in
set_option maxRecDepth 100000 in
theorem ct_X5_become_5 (l : Launch) (D : va_G) (cy : Nat → ClassId) (ad : Nat → Nat) (B : Nat → Prop) (v1 : Int32) (v2 : Int32) (M : Mem) (Q : Mem → Prop) (h : wp_X5_become_5 v1 v2 M Q) : CTv l D cy (wX ad cy) B yX5_become wsX5_become rm_X5_become_5 [.ref (ad 5), .int v1, .int v2] M Q := by
  intro sz
  refine Met.ofW (cc := cX5_become) (maxL := 4) (ret := none) (by decide) rfl ?_
  intro p e s m args below meth c s₁ Bd hml hv
  obtain ⟨hargs, hsz, hP, hK, hD⟩ := hv
  subst hsz
  have hx := Bd.exec
  have hb := Bd.bytes
  have hr := Bd.returns
  have hts := atoms_spec (ws := wsX5_become) Bd.pre
  have hown : s.vm.findClass RX5 = some m.cls := findClass_of_methodNamed Bd.named
  have hlocks := Bd.notSynchronized
  have hC5 : xC wsX5_become 5 RX5 TX5 4 := ⟨by decide +kernel, rfl⟩
  have key : ∀ (P : Nat → Int32 → Mem → Prop), (∀ (lab : Nat) (v3 : Int32) (M : Mem), P lab v3 M → ∀ (H : Heap) (locs : List Loc) (ls : Array Slot), xS D (wX ad cy) B s.heap H locs M → lv_has ls 4 (lvl_X5_become_5 ad v1 v2 lab v3 ) → W p l e (headSpec wsX5_become rm_X5_become_5).room s m args below meth c H locs 0 0 (MQ below (va_Qv (S := Mem) Q (xB D (wX ad cy) B) (xA B s.heap.size)) args s 0 0 (xA B s.heap.size)) (F0 m (pcl_X5_become_5 lab) ls [])) → ∀ (lab : Nat) (v3 : Int32) (M : Mem), blk_X5_become_5 v1 v2 Q P lab v3 M → ∀ (H : Heap) (locs : List Loc) (ls : Array Slot), xS D (wX ad cy) B s.heap H locs M → lv_has ls 4 (lvl_X5_become_5 ad v1 v2 lab v3 ) → W p l e (headSpec wsX5_become rm_X5_become_5).room s m args below meth c H locs 0 0 (MQ below (va_Qv (S := Mem) Q (xB D (wX ad cy) B) (xA B s.heap.size)) args s 0 0 (xA B s.heap.size)) (F0 m (pcl_X5_become_5 lab) ls []) := by
    intro P hJ lab v3 M h H locs ls S hl
    match lab, h, hl with
    | 0, h, hl =>
      have hl : lv_has ls 4 [(0, .ref (ad 5)), (1, .int v1), (2, .int v2)] := hl
      have h : blk_X5_become_5_0 v1 v2 Q P v3 M := h
      unfold blk_X5_become_5_0 at h
      refine W.eq (g2 := F0 m 0 ls []) rfl ?_
      refine lv_aload_n hx hb dX5_become_0 rfl (lv_at hl 0 rfl) ?_
      refine lv_iconst (v := 0) hx hb dX5_become_1 (by decide) ?_
      refine x_putI hx hb hts (hC5) tyX5 tyX5_ok nmX5 hown hK S 1 (by decide) xf_5_1 (index := 15) (hts _ (List.mem_of_getElem? (i := 1) rfl)) rfl rfl rfl dX5_become_2 (fun H locs S => ?_)
      refine lv_aload_n hx hb dX5_become_5 rfl (lv_at hl 0 rfl) ?_
      refine lv_iload_n hx hb dX5_become_6 rfl (lv_at hl 1 rfl) ?_
      refine x_putI hx hb hts (hC5) tyX5 tyX5_ok nmX5 hown hK S 2 (by decide) xf_5_2 (index := 19) (hts _ (List.mem_of_getElem? (i := 2) rfl)) rfl rfl rfl dX5_become_7 (fun H locs S => ?_)
      refine lv_aload_n hx hb dX5_become_10 rfl (lv_at hl 0 rfl) ?_
      refine lv_iload_n hx hb dX5_become_11 rfl (lv_at hl 2 rfl) ?_
      refine x_putI hx hb hts (hC5) tyX5 tyX5_ok nmX5 hown hK S 3 (by decide) xf_5_3 (index := 23) (hts _ (List.mem_of_getElem? (i := 3) rfl)) rfl rfl rfl dX5_become_12 (fun H locs S => ?_)
      refine lv_iconst (v := 0) hx hb dX5_become_15 (by decide) ?_
      refine lv_istore_n (lv' := [(3, .int 0), (0, .ref (ad 5)), (1, .int v1), (2, .int v2)]) hx hb dX5_become_16 rfl hl (by decide) rfl (fun ls hl => ?_)
      exact hJ _ _ _ h _ _ _ S (lv_sub hl [1, 0] rfl)
    | 1, h, hl =>
      have hl : lv_has ls 4 [(0, .ref (ad 5)), (3, .int v3)] := hl
      have h : blk_X5_become_5_1 v1 v2 Q P v3 M := h
      unfold blk_X5_become_5_1 at h
      refine W.eq (g2 := F0 m 17 ls []) rfl ?_
      refine lv_iload_n hx hb dX5_become_17 rfl (lv_at hl 1 rfl) ?_
      refine lv_bipush (v := 20) hx hb dX5_become_18 (by decide) ?_
      refine lv_icmp_ge (tgt := 36) hx hb dX5_become_20 (by decide) (fun c20 => ?_) (fun c20 => ?_)
      · replace h := h.1 c20
        exact x_vret hx hb hr hlocks S h dX5_become_36
      · replace h := h.2 c20
        refine lv_aload_n hx hb dX5_become_23 rfl (lv_at hl 0 rfl) ?_
        refine x_getR hx hb hts (hC5) hown hK S 0 (by decide) xf_5_0 (index := 9) (hts _ (List.mem_of_getElem? (i := 4) rfl)) dX5_become_24 ?_
        refine lv_iload_n hx hb dX5_become_27 rfl (lv_at hl 1 rfl) ?_
        refine lv_lconst (v := 0) hx hb dX5_become_28 rfl ?_
        refine x_last hx hb hK S xa_9 h.1 dX5_become_29 (fun H locs S => ?_)
        replace h := h.2
        refine lv_iinc (v := (v3 + 1)) (lv' := [(3, .int (v3 + 1)), (0, .ref (ad 5))]) hx hb dX5_become_30 hl (k := 1) rfl rfl (by decide) rfl (fun ls hl => ?_)
        refine lv_goto (tgt := 17) hx hb dX5_become_33 (by decide) ?_
        exact hJ _ _ _ h _ _ _ S (lv_sub hl [1, 0] rfl)
    | _ + 2, h, hl => exact h.elim
  have hl := lv_entry ([.ref (ad 5), .int v1, .int v2]) (n := 4) (Nat.le_of_ble_eq_true rfl)
  subst hargs
  rw [lg_entry_eq]
  generalize (lg_sl ([.ref (ad 5), .int v1, .int v2]) ++ List.replicate (4 - (lg_sl ([.ref (ad 5), .int v1, .int v2])).length) Slot.unset).toArray = ls at hl ⊢
  exact h _ (key _ (fun _ _ _ h => h)) s.heap [] ls ⟨hP, hD, va_S.rf⟩ hl
/-! X7_found -/
def wp_X7_found (v1 : Int32) (M : Mem) (Q : Int32 → Mem → Prop) : Prop :=
  Q v1 (upI M 0 10 ((M.1 0 10) + 1))
theorem wp_X7_found_mono {v1 : Int32} {M : Mem} {Q Q' : Int32 → Mem → Prop} (hQ : ∀ (r : Int32) (M : Mem), Q r M → Q' r M) (h : wp_X7_found v1 M Q) : wp_X7_found v1 M Q' := by
  unfold wp_X7_found at h ⊢
  exact hQ _ _ h
abbrev rm_X7_found : Jvm.Room := { frames := 1, cells := 0, slots := 0, locals := 13 }
set_option maxHeartbeats 4000000 in
set_option maxRecDepth 100000 in
theorem ct_X7_found (l : Launch) (D : va_G) (cy : Nat → ClassId) (ad : Nat → Nat) (B : Nat → Prop) (v1 : Int32) (M : Mem) (Q : Int32 → Mem → Prop) (h : wp_X7_found v1 M Q) : CTi l D cy (wX ad cy) B yX7_found wsX7_found rm_X7_found [.ref (ad 0), .int v1] M Q := by
  intro sz
  refine Met.ofW (cc := cX7_found) (maxL := 2) (ret := some .int) (by decide) rfl ?_
  intro p e s m args below meth c s₁ Bd hml hv
  obtain ⟨hargs, hsz, hP, hK, hD⟩ := hv
  subst hsz
  have hx := Bd.exec
  have hb := Bd.bytes
  have hr := Bd.returns
  have hts := atoms_spec (ws := wsX7_found) Bd.pre
  have hown : s.vm.findClass RX7 = some m.cls := findClass_of_methodNamed Bd.named
  have hlocks := Bd.notSynchronized
  have hC7 : xC wsX7_found 7 RX7 TX7 11 := ⟨by decide +kernel, rfl⟩
  have hl := lv_entry ([.ref (ad 0), .int v1]) (n := 2) (Nat.le_of_ble_eq_true rfl)
  subst hargs
  rw [lg_entry_eq]
  generalize (lg_sl ([.ref (ad 0), .int v1]) ++ List.replicate (2 - (lg_sl ([.ref (ad 0), .int v1])).length) Slot.unset).toArray = ls at hl ⊢
  have hl : lv_has ls 2 [(0, .ref (ad 0)), (1, .int v1)] := hl
  have S : xS D (wX ad cy) B s.heap s.heap [] M := ⟨hP, hD, va_S.rf⟩
  unfold wp_X7_found at h
  refine lv_aload_n hx hb dX7_found_0 rfl (lv_at hl 0 rfl) ?_
  refine lv_dup hx hb dX7_found_1 rfl ?_
  refine x_getI hx hb hts (hC7) hown hK S 10 (by decide) xf_0_10 (index := 245) (hts _ (List.mem_of_getElem? (i := 1) rfl)) dX7_found_2 ?_
  refine lv_iconst (v := 1) hx hb dX7_found_5 (by decide) ?_
  refine lv_iadd hx hb dX7_found_6 ?_
  refine x_putI hx hb hts (hC7) tyX7 tyX7_ok nmX7 hown hK S 10 (by decide) xf_0_10 (index := 245) (hts _ (List.mem_of_getElem? (i := 1) rfl)) rfl rfl rfl dX7_found_7 (fun H locs S => ?_)
  refine lv_iload_n hx hb dX7_found_10 rfl (lv_at hl 1 rfl) ?_
  exact x_iret hx hb hr hlocks S rfl h dX7_found_11
/-! X7_sheet -/
def wp_X7_sheet (v1 : Int32) (v2 : Int32) (v3 : Int32) (M : Mem) (Q : Int32 → Mem → Prop) : Prop :=
  wp_X7_isSheet v1 M (fun r1 M1 => ((¬ r1 = 0 → wp_X7_isLane v2 M1 (fun r2 M2 => ((r2 = 0 → Q (-2) M2) ∧ (¬ r2 = 0 → ((v3 ≤ 20 → ((0 ≤ v3 → (vp_in v1 4 ∧ (v1.toNatClampNeg = 0 → wp_X5_become_2 v2 v3 M2 (fun M3 => Q v3 M3)) ∧ (v1.toNatClampNeg = 1 → wp_X5_become_3 v2 v3 M2 (fun M4 => Q v3 M4)) ∧ (v1.toNatClampNeg = 2 → wp_X5_become_4 v2 v3 M2 (fun M5 => Q v3 M5)) ∧ (v1.toNatClampNeg = 3 → wp_X5_become_5 v2 v3 M2 (fun M6 => Q v3 M6)))) ∧ (¬ 0 ≤ v3 → wp_X7_found (-14) M2 (fun r7 M7 => Q r7 M7)))) ∧ (¬ v3 ≤ 20 → Q (-2) M2)))))) ∧ (r1 = 0 → wp_X7_found (-12) M1 (fun r8 M8 => Q r8 M8))))
theorem wp_X7_sheet_mono {v1 : Int32} {v2 : Int32} {v3 : Int32} {M : Mem} {Q Q' : Int32 → Mem → Prop} (hQ : ∀ (r : Int32) (M : Mem), Q r M → Q' r M) (h : wp_X7_sheet v1 v2 v3 M Q) : wp_X7_sheet v1 v2 v3 M Q' := by
  unfold wp_X7_sheet at h ⊢
  exact wp_X7_isSheet_mono (fun r1 M1 h => ⟨fun c => let h := h.1 c; wp_X7_isLane_mono (fun r2 M2 h => ⟨fun c => let h := h.1 c; hQ _ _ h, fun c => let h := h.2 c; ⟨fun c => let h := h.1 c; ⟨fun c => let h := h.1 c; ⟨h.1, let h := h.2; ⟨fun c => let h := h.1 c; wp_X5_become_2_mono (fun M3 h => hQ _ _ h) h, fun c => let h := h.2.1 c; wp_X5_become_3_mono (fun M4 h => hQ _ _ h) h, fun c => let h := h.2.2.1 c; wp_X5_become_4_mono (fun M5 h => hQ _ _ h) h, fun c => let h := h.2.2.2 c; wp_X5_become_5_mono (fun M6 h => hQ _ _ h) h⟩⟩, fun c => let h := h.2 c; wp_X7_found_mono (fun r7 M7 h => hQ _ _ h) h⟩, fun c => let h := h.2 c; hQ _ _ h⟩⟩) h, fun c => let h := h.2 c; wp_X7_found_mono (fun r8 M8 h => hQ _ _ h) h⟩) h
abbrev rm_X7_sheet : Jvm.Room := { frames := 2, cells := 0, slots := 0, locals := 38 }
set_option maxHeartbeats 4000000 in
set_option maxRecDepth 100000 in
theorem ct_X7_sheet (l : Launch) (D : va_G) (cy : Nat → ClassId) (ad : Nat → Nat) (B : Nat → Prop) (v1 : Int32) (v2 : Int32) (v3 : Int32) (M : Mem) (Q : Int32 → Mem → Prop) (h : wp_X7_sheet v1 v2 v3 M Q) : CTi l D cy (wX ad cy) B yX7_sheet wsX7_sheet rm_X7_sheet [.ref (ad 0), .int v1, .int v2, .int v3] M Q := by
  intro sz
  refine Met.ofW (cc := cX7_sheet) (maxL := 4) (ret := some .int) (by decide) rfl ?_
  intro p e s m args below meth c s₁ Bd hml hv
  obtain ⟨hargs, hsz, hP, hK, hD⟩ := hv
  subst hsz
  have hx := Bd.exec
  have hb := Bd.bytes
  have hr := Bd.returns
  have hts := atoms_spec (ws := wsX7_sheet) Bd.pre
  have hown : s.vm.findClass RX7 = some m.cls := findClass_of_methodNamed Bd.named
  have hlocks := Bd.notSynchronized
  have hC7 : xC wsX7_sheet 7 RX7 TX7 11 := ⟨by decide +kernel, rfl⟩
  have hl := lv_entry ([.ref (ad 0), .int v1, .int v2, .int v3]) (n := 4) (Nat.le_of_ble_eq_true rfl)
  subst hargs
  rw [lg_entry_eq]
  generalize (lg_sl ([.ref (ad 0), .int v1, .int v2, .int v3]) ++ List.replicate (4 - (lg_sl ([.ref (ad 0), .int v1, .int v2, .int v3])).length) Slot.unset).toArray = ls at hl ⊢
  have hl : lv_has ls 4 [(0, .ref (ad 0)), (1, .int v1), (2, .int v2), (3, .int v3)] := hl
  have S : xS D (wX ad cy) B s.heap s.heap [] M := ⟨hP, hD, va_S.rf⟩
  unfold wp_X7_sheet at h
  refine lv_iload_n hx hb dX7_sheet_0 rfl (lv_at hl 1 rfl) ?_
  refine x_callSi (As := [.int v1]) ⟨hx, hb, hml, hown, hts⟩ hK S (ct_X7_isSheet l D cy ad B _ _ _ h) (va_cwS 1 hts gX7_sheet_X7_isSheet rfl rfl rfl (by decide +kernel) ⟨Nat.le_of_ble_eq_true rfl, Nat.le_of_ble_eq_true rfl⟩) rfl hl.1 rfl (Nat.le_of_ble_eq_true rfl) dX7_sheet_1 ⟨Nat.zero_le _, Nat.zero_le _⟩ (fun r1 M1 H locs h S => ?_)
  refine lv_if_ne (tgt := 14) hx hb dX7_sheet_4 (by decide) (fun c4 => ?_) (fun c4 => ?_)
  · replace h := h.1 c4
    refine lv_iload_n hx hb dX7_sheet_14 rfl (lv_at hl 2 rfl) ?_
    refine x_callSi (As := [.int v2]) ⟨hx, hb, hml, hown, hts⟩ hK S (ct_X7_isLane l D cy ad B _ _ _ h) (va_cwS 1 hts gX7_sheet_X7_isLane rfl rfl rfl (by decide +kernel) ⟨Nat.le_of_ble_eq_true rfl, Nat.le_of_ble_eq_true rfl⟩) rfl hl.1 rfl (Nat.le_of_ble_eq_true rfl) dX7_sheet_15 ⟨Nat.zero_le _, Nat.zero_le _⟩ (fun r2 M2 H locs h S => ?_)
    refine lv_if_eq (tgt := 27) hx hb dX7_sheet_18 (by decide) (fun c18 => ?_) (fun c18 => ?_)
    · replace h := h.1 c18
      refine lv_bipush (v := (-2)) hx hb dX7_sheet_27 (by decide) ?_
      exact x_iret hx hb hr hlocks S rfl h dX7_sheet_29
    · replace h := h.2 c18
      refine lv_iload_n hx hb dX7_sheet_21 rfl (lv_at hl 3 rfl) ?_
      refine lv_bipush (v := 20) hx hb dX7_sheet_22 (by decide) ?_
      refine lv_icmp_le (tgt := 30) hx hb dX7_sheet_24 (by decide) (fun c24 => ?_) (fun c24 => ?_)
      · replace h := h.1 c24
        refine lv_iload_n hx hb dX7_sheet_30 rfl (lv_at hl 3 rfl) ?_
        refine lv_if_ge (tgt := 41) hx hb dX7_sheet_31 (by decide) (fun c31 => ?_) (fun c31 => ?_)
        · replace h := h.1 c31
          refine lv_aload_n hx hb dX7_sheet_41 rfl (lv_at hl 0 rfl) ?_
          refine x_getR hx hb hts (hC7) hown hK S 0 (by decide) xf_0_0 (index := 11) (hts _ (List.mem_of_getElem? (i := 1) rfl)) dX7_sheet_42 ?_
          refine lv_iload_n hx hb dX7_sheet_45 rfl (lv_at hl 1 rfl) ?_
          have hk := x_in4 h.1
          have hin := h.1
          replace h := h.2
          rcases hk with hk | hk | hk | hk
          · replace h := h.1 hk
            refine x_aald hx hb hK S xa_1 hin hk rfl dX7_sheet_46 ?_
            refine lv_iload_n hx hb dX7_sheet_47 rfl (lv_at hl 2 rfl) ?_
            refine lv_iload_n hx hb dX7_sheet_48 rfl (lv_at hl 3 rfl) ?_
            refine x_callVv (As := [.int v2, .int v3]) ⟨hx, hb, hml, hown, hts⟩ hK S (ct_X5_become_2 l D cy ad B _ _ _ _ h) xo_2 rfl (cwV 2 hts gX7_sheet_X5_become rfl rfl rfl (by decide +kernel) ⟨Nat.le_of_ble_eq_true rfl, Nat.le_of_ble_eq_true rfl⟩) rfl hl.1 rfl (Nat.le_of_ble_eq_true rfl) dX7_sheet_49 ⟨Nat.zero_le _, Nat.zero_le _⟩ (fun M3 H locs h S => ?_)
            refine lv_iload_n hx hb dX7_sheet_52 rfl (lv_at hl 3 rfl) ?_
            exact x_iret hx hb hr hlocks S rfl h dX7_sheet_53
          · replace h := h.2.1 hk
            refine x_aald hx hb hK S xa_1 hin hk rfl dX7_sheet_46 ?_
            refine lv_iload_n hx hb dX7_sheet_47 rfl (lv_at hl 2 rfl) ?_
            refine lv_iload_n hx hb dX7_sheet_48 rfl (lv_at hl 3 rfl) ?_
            refine x_callVv (As := [.int v2, .int v3]) ⟨hx, hb, hml, hown, hts⟩ hK S (ct_X5_become_3 l D cy ad B _ _ _ _ h) xo_3 rfl (cwV 2 hts gX7_sheet_X5_become rfl rfl rfl (by decide +kernel) ⟨Nat.le_of_ble_eq_true rfl, Nat.le_of_ble_eq_true rfl⟩) rfl hl.1 rfl (Nat.le_of_ble_eq_true rfl) dX7_sheet_49 ⟨Nat.zero_le _, Nat.zero_le _⟩ (fun M4 H locs h S => ?_)
            refine lv_iload_n hx hb dX7_sheet_52 rfl (lv_at hl 3 rfl) ?_
            exact x_iret hx hb hr hlocks S rfl h dX7_sheet_53
          · replace h := h.2.2.1 hk
            refine x_aald hx hb hK S xa_1 hin hk rfl dX7_sheet_46 ?_
            refine lv_iload_n hx hb dX7_sheet_47 rfl (lv_at hl 2 rfl) ?_
            refine lv_iload_n hx hb dX7_sheet_48 rfl (lv_at hl 3 rfl) ?_
            refine x_callVv (As := [.int v2, .int v3]) ⟨hx, hb, hml, hown, hts⟩ hK S (ct_X5_become_4 l D cy ad B _ _ _ _ h) xo_4 rfl (cwV 2 hts gX7_sheet_X5_become rfl rfl rfl (by decide +kernel) ⟨Nat.le_of_ble_eq_true rfl, Nat.le_of_ble_eq_true rfl⟩) rfl hl.1 rfl (Nat.le_of_ble_eq_true rfl) dX7_sheet_49 ⟨Nat.zero_le _, Nat.zero_le _⟩ (fun M5 H locs h S => ?_)
            refine lv_iload_n hx hb dX7_sheet_52 rfl (lv_at hl 3 rfl) ?_
            exact x_iret hx hb hr hlocks S rfl h dX7_sheet_53
          · replace h := h.2.2.2 hk
            refine x_aald hx hb hK S xa_1 hin hk rfl dX7_sheet_46 ?_
            refine lv_iload_n hx hb dX7_sheet_47 rfl (lv_at hl 2 rfl) ?_
            refine lv_iload_n hx hb dX7_sheet_48 rfl (lv_at hl 3 rfl) ?_
            refine x_callVv (As := [.int v2, .int v3]) ⟨hx, hb, hml, hown, hts⟩ hK S (ct_X5_become_5 l D cy ad B _ _ _ _ h) xo_5 rfl (cwV 2 hts gX7_sheet_X5_become rfl rfl rfl (by decide +kernel) ⟨Nat.le_of_ble_eq_true rfl, Nat.le_of_ble_eq_true rfl⟩) rfl hl.1 rfl (Nat.le_of_ble_eq_true rfl) dX7_sheet_49 ⟨Nat.zero_le _, Nat.zero_le _⟩ (fun M6 H locs h S => ?_)
            refine lv_iload_n hx hb dX7_sheet_52 rfl (lv_at hl 3 rfl) ?_
            exact x_iret hx hb hr hlocks S rfl h dX7_sheet_53
        · replace h := h.2 c31
          refine lv_aload_n hx hb dX7_sheet_34 rfl (lv_at hl 0 rfl) ?_
          refine lv_bipush (v := (-14)) hx hb dX7_sheet_35 (by decide) ?_
          refine x_callVi (As := [.int (-14)]) ⟨hx, hb, hml, hown, hts⟩ hK S (ct_X7_found l D cy ad B _ _ _ h) xo_0 rfl (cwV 1 hts gX7_sheet_X7_found rfl rfl rfl (by decide +kernel) ⟨Nat.le_of_ble_eq_true rfl, Nat.le_of_ble_eq_true rfl⟩) rfl hl.1 rfl (Nat.le_of_ble_eq_true rfl) dX7_sheet_37 ⟨Nat.zero_le _, Nat.zero_le _⟩ (fun r7 M7 H locs h S => ?_)
          exact x_iret hx hb hr hlocks S rfl h dX7_sheet_40
      · replace h := h.2 c24
        refine lv_bipush (v := (-2)) hx hb dX7_sheet_27 (by decide) ?_
        exact x_iret hx hb hr hlocks S rfl h dX7_sheet_29
  · replace h := h.2 c4
    refine lv_aload_n hx hb dX7_sheet_7 rfl (lv_at hl 0 rfl) ?_
    refine lv_bipush (v := (-12)) hx hb dX7_sheet_8 (by decide) ?_
    refine x_callVi (As := [.int (-12)]) ⟨hx, hb, hml, hown, hts⟩ hK S (ct_X7_found l D cy ad B _ _ _ h) xo_0 rfl (cwV 1 hts gX7_sheet_X7_found rfl rfl rfl (by decide +kernel) ⟨Nat.le_of_ble_eq_true rfl, Nat.le_of_ble_eq_true rfl⟩) rfl hl.1 rfl (Nat.le_of_ble_eq_true rfl) dX7_sheet_10 ⟨Nat.zero_le _, Nat.zero_le _⟩ (fun r8 M8 H locs h S => ?_)
    exact x_iret hx hb hr hlocks S rfl h dX7_sheet_13
/-! X7_tear -/
def blk_X7_tear_0 (v1 : Int32) (Q : Int32 → Mem → Prop) (P : Nat → Int32 → Mem → Prop) (v2 : Int32) (M : Mem) : Prop :=
  wp_X7_isSheet v1 M (fun r1 M1 => ((¬ r1 = 0 → (vp_in v1 4 ∧ (v1.toNatClampNeg = 0 → (((M1.1 2 1) = 0 → P 1 0 M1) ∧ (¬ (M1.1 2 1) = 0 → P 1 1 M1))) ∧ (v1.toNatClampNeg = 1 → (((M1.1 3 1) = 0 → P 1 0 M1) ∧ (¬ (M1.1 3 1) = 0 → P 1 1 M1))) ∧ (v1.toNatClampNeg = 2 → (((M1.1 4 1) = 0 → P 1 0 M1) ∧ (¬ (M1.1 4 1) = 0 → P 1 1 M1))) ∧ (v1.toNatClampNeg = 3 → (((M1.1 5 1) = 0 → P 1 0 M1) ∧ (¬ (M1.1 5 1) = 0 → P 1 1 M1))))) ∧ (r1 = 0 → wp_X7_found (-12) M1 (fun r2 M2 => Q r2 M2))))
theorem blk_X7_tear_0_mono {v1 : Int32} {Q Q' : Int32 → Mem → Prop} {P P' : Nat → Int32 → Mem → Prop} (hQ : ∀ (r : Int32) (M : Mem), Q r M → Q' r M) (hP : ∀ (lab : Nat) (v2 : Int32) (M : Mem), P lab v2 M → P' lab v2 M) (v2 : Int32) (M : Mem) (h : blk_X7_tear_0 v1 Q P v2 M) : blk_X7_tear_0 v1 Q' P' v2 M := by
  unfold blk_X7_tear_0 at h ⊢
  exact wp_X7_isSheet_mono (fun r1 M1 h => ⟨fun c => let h := h.1 c; ⟨h.1, let h := h.2; ⟨fun c => let h := h.1 c; ⟨fun c => let h := h.1 c; hP _ _ _ h, fun c => let h := h.2 c; hP _ _ _ h⟩, fun c => let h := h.2.1 c; ⟨fun c => let h := h.1 c; hP _ _ _ h, fun c => let h := h.2 c; hP _ _ _ h⟩, fun c => let h := h.2.2.1 c; ⟨fun c => let h := h.1 c; hP _ _ _ h, fun c => let h := h.2 c; hP _ _ _ h⟩, fun c => let h := h.2.2.2 c; ⟨fun c => let h := h.1 c; hP _ _ _ h, fun c => let h := h.2 c; hP _ _ _ h⟩⟩⟩, fun c => let h := h.2 c; wp_X7_found_mono (fun r2 M2 h => hQ _ _ h) h⟩) h
def blk_X7_tear_1 (v1 : Int32) (Q : Int32 → Mem → Prop) (P : Nat → Int32 → Mem → Prop) (v2 : Int32) (M : Mem) : Prop :=
  (vp_in v1 4 ∧ (v1.toNatClampNeg = 0 → Q v2 (upI M 2 1 1)) ∧ (v1.toNatClampNeg = 1 → Q v2 (upI M 3 1 1)) ∧ (v1.toNatClampNeg = 2 → Q v2 (upI M 4 1 1)) ∧ (v1.toNatClampNeg = 3 → Q v2 (upI M 5 1 1)))
theorem blk_X7_tear_1_mono {v1 : Int32} {Q Q' : Int32 → Mem → Prop} {P P' : Nat → Int32 → Mem → Prop} (hQ : ∀ (r : Int32) (M : Mem), Q r M → Q' r M) (hP : ∀ (lab : Nat) (v2 : Int32) (M : Mem), P lab v2 M → P' lab v2 M) (v2 : Int32) (M : Mem) (h : blk_X7_tear_1 v1 Q P v2 M) : blk_X7_tear_1 v1 Q' P' v2 M := by
  unfold blk_X7_tear_1 at h ⊢
  exact ⟨h.1, let h := h.2; ⟨fun c => let h := h.1 c; hQ _ _ h, fun c => let h := h.2.1 c; hQ _ _ h, fun c => let h := h.2.2.1 c; hQ _ _ h, fun c => let h := h.2.2.2 c; hQ _ _ h⟩⟩
def blk_X7_tear (v1 : Int32) (Q : Int32 → Mem → Prop) (P : Nat → Int32 → Mem → Prop) : Nat → Int32 → Mem → Prop := fun lab v2 M => match lab with
  | 0 => blk_X7_tear_0 v1 Q P v2 M
  | 1 => blk_X7_tear_1 v1 Q P v2 M
  | _ => False
theorem blk_X7_tear_mono {v1 : Int32} {Q Q' : Int32 → Mem → Prop} {P P' : Nat → Int32 → Mem → Prop} (hQ : ∀ (r : Int32) (M : Mem), Q r M → Q' r M) (hP : ∀ (lab : Nat) (v2 : Int32) (M : Mem), P lab v2 M → P' lab v2 M) : ∀ (lab : Nat) (v2 : Int32) (M : Mem), blk_X7_tear v1 Q P lab v2 M → blk_X7_tear v1 Q' P' lab v2 M := fun lab v2 M h => match lab, h with
  | 0, h => blk_X7_tear_0_mono (v1 := v1) hQ hP v2 M h
  | 1, h => blk_X7_tear_1_mono (v1 := v1) hQ hP v2 M h
  | _ + 2, h => False.elim h
def at_X7_tear (v1 : Int32) (Q : Int32 → Mem → Prop) : Nat → Int32 → Mem → Prop := fun lab v2 M => ∀ P : Nat → Int32 → Mem → Prop, (∀ (lab : Nat) (v2 : Int32) (M : Mem), blk_X7_tear v1 Q P lab v2 M → P lab v2 M) → P lab v2 M
theorem at_X7_tear_fold {v1 : Int32} {Q : Int32 → Mem → Prop} {lab : Nat} {v2 : Int32} {M : Mem} (h : blk_X7_tear v1 Q (at_X7_tear v1 Q) lab v2 M) : at_X7_tear v1 Q lab v2 M := fun P hP => hP _ _ _ (blk_X7_tear_mono (fun _ _ h => h) (fun _ _ _ h => h P hP) _ _ _ h)
theorem at_X7_tear_mono {v1 : Int32} {Q Q' : Int32 → Mem → Prop} (hQ : ∀ (r : Int32) (M : Mem), Q r M → Q' r M) {lab : Nat} {v2 : Int32} {M : Mem} (h : at_X7_tear v1 Q lab v2 M) : at_X7_tear v1 Q' lab v2 M := fun P hP => h P (fun lab v2 M hb => hP _ _ _ (blk_X7_tear_mono hQ (fun _ _ _ h => h) _ _ _ hb))
def wp_X7_tear (v1 : Int32) (M : Mem) (Q : Int32 → Mem → Prop) : Prop := at_X7_tear v1 Q 0 0 M
theorem wp_X7_tear_mono {v1 : Int32} {M : Mem} {Q Q' : Int32 → Mem → Prop} (hQ : ∀ (r : Int32) (M : Mem), Q r M → Q' r M) (h : wp_X7_tear v1 M Q) : wp_X7_tear v1 M Q' := at_X7_tear_mono hQ h
def pcl_X7_tear : Nat → Nat := fun lab => match lab with
  | 0 => 0
  | 1 => 32
  | _ => 0
def lvl_X7_tear (ad : Nat → Nat) (v1 : Int32) : Nat → Int32 → List (Nat × Value) := fun lab v2 => match lab with
  | 0 => [(0, .ref (ad 0)), (1, .int v1)]
  | 1 => [(0, .ref (ad 0)), (1, .int v1), (2, .int v2)]
  | _ => []
abbrev rm_X7_tear : Jvm.Room := { frames := 2, cells := 0, slots := 0, locals := 34 }
set_option maxHeartbeats 4000000 in
set_option maxRecDepth 100000 in
theorem ct_X7_tear (l : Launch) (D : va_G) (cy : Nat → ClassId) (ad : Nat → Nat) (B : Nat → Prop) (v1 : Int32) (M : Mem) (Q : Int32 → Mem → Prop) (h : wp_X7_tear v1 M Q) : CTi l D cy (wX ad cy) B yX7_tear wsX7_tear rm_X7_tear [.ref (ad 0), .int v1] M Q := by
  intro sz
  refine Met.ofW (cc := cX7_tear) (maxL := 3) (ret := some .int) (by decide) rfl ?_
  intro p e s m args below meth c s₁ Bd hml hv
  obtain ⟨hargs, hsz, hP, hK, hD⟩ := hv
  subst hsz
  have hx := Bd.exec
  have hb := Bd.bytes
  have hr := Bd.returns
  have hts := atoms_spec (ws := wsX7_tear) Bd.pre
  have hown : s.vm.findClass RX7 = some m.cls := findClass_of_methodNamed Bd.named
  have hlocks := Bd.notSynchronized
  have hC5 : xC wsX7_tear 5 RX5 TX5 4 := ⟨by decide +kernel, rfl⟩
  have hC7 : xC wsX7_tear 7 RX7 TX7 11 := ⟨by decide +kernel, rfl⟩
  have key : ∀ (P : Nat → Int32 → Mem → Prop), (∀ (lab : Nat) (v2 : Int32) (M : Mem), P lab v2 M → ∀ (H : Heap) (locs : List Loc) (ls : Array Slot), xS D (wX ad cy) B s.heap H locs M → lv_has ls 3 (lvl_X7_tear ad v1 lab v2 ) → W p l e (headSpec wsX7_tear rm_X7_tear).room s m args below meth c H locs 0 0 (MQ below (va_Qi (S := Mem) Q (xB D (wX ad cy) B) (xA B s.heap.size)) args s 0 0 (xA B s.heap.size)) (F0 m (pcl_X7_tear lab) ls [])) → ∀ (lab : Nat) (v2 : Int32) (M : Mem), blk_X7_tear v1 Q P lab v2 M → ∀ (H : Heap) (locs : List Loc) (ls : Array Slot), xS D (wX ad cy) B s.heap H locs M → lv_has ls 3 (lvl_X7_tear ad v1 lab v2 ) → W p l e (headSpec wsX7_tear rm_X7_tear).room s m args below meth c H locs 0 0 (MQ below (va_Qi (S := Mem) Q (xB D (wX ad cy) B) (xA B s.heap.size)) args s 0 0 (xA B s.heap.size)) (F0 m (pcl_X7_tear lab) ls []) := by
    intro P hJ lab v2 M h H locs ls S hl
    match lab, h, hl with
    | 0, h, hl =>
      have hl : lv_has ls 3 [(0, .ref (ad 0)), (1, .int v1)] := hl
      have h : blk_X7_tear_0 v1 Q P v2 M := h
      unfold blk_X7_tear_0 at h
      refine W.eq (g2 := F0 m 0 ls []) rfl ?_
      refine lv_iload_n hx hb dX7_tear_0 rfl (lv_at hl 1 rfl) ?_
      refine x_callSi (As := [.int v1]) ⟨hx, hb, hml, hown, hts⟩ hK S (ct_X7_isSheet l D cy ad B _ _ _ h) (va_cwS 1 hts gX7_tear_X7_isSheet rfl rfl rfl (by decide +kernel) ⟨Nat.le_of_ble_eq_true rfl, Nat.le_of_ble_eq_true rfl⟩) rfl hl.1 rfl (Nat.le_of_ble_eq_true rfl) dX7_tear_1 ⟨Nat.zero_le _, Nat.zero_le _⟩ (fun r1 M1 H locs h S => ?_)
      refine lv_if_ne (tgt := 14) hx hb dX7_tear_4 (by decide) (fun c4 => ?_) (fun c4 => ?_)
      · replace h := h.1 c4
        refine lv_aload_n hx hb dX7_tear_14 rfl (lv_at hl 0 rfl) ?_
        refine x_getR hx hb hts (hC7) hown hK S 0 (by decide) xf_0_0 (index := 11) (hts _ (List.mem_of_getElem? (i := 1) rfl)) dX7_tear_15 ?_
        refine lv_iload_n hx hb dX7_tear_18 rfl (lv_at hl 1 rfl) ?_
        have hk := x_in4 h.1
        have hin := h.1
        replace h := h.2
        rcases hk with hk | hk | hk | hk
        · replace h := h.1 hk
          refine x_aald hx hb hK S xa_1 hin hk rfl dX7_tear_19 ?_
          refine x_getI hx hb hts (hC5) hown hK S 1 (by decide) xf_2_1 (index := 77) (hts _ (List.mem_of_getElem? (i := 2) rfl)) dX7_tear_20 ?_
          refine lv_if_eq (tgt := 30) hx hb dX7_tear_23 (by decide) (fun c23 => ?_) (fun c23 => ?_)
          · replace h := h.1 c23
            refine lv_iconst (v := 0) hx hb dX7_tear_30 (by decide) ?_
            refine lv_istore_n (lv' := [(2, .int 0), (0, .ref (ad 0)), (1, .int v1)]) hx hb dX7_tear_31 rfl hl (by decide) rfl (fun ls hl => ?_)
            exact hJ _ _ _ h _ _ _ S (lv_sub hl [1, 2, 0] rfl)
          · replace h := h.2 c23
            refine lv_iconst (v := 1) hx hb dX7_tear_26 (by decide) ?_
            refine lv_goto (tgt := 31) hx hb dX7_tear_27 (by decide) ?_
            refine lv_istore_n (lv' := [(2, .int 1), (0, .ref (ad 0)), (1, .int v1)]) hx hb dX7_tear_31 rfl hl (by decide) rfl (fun ls hl => ?_)
            exact hJ _ _ _ h _ _ _ S (lv_sub hl [1, 2, 0] rfl)
        · replace h := h.2.1 hk
          refine x_aald hx hb hK S xa_1 hin hk rfl dX7_tear_19 ?_
          refine x_getI hx hb hts (hC5) hown hK S 1 (by decide) xf_3_1 (index := 77) (hts _ (List.mem_of_getElem? (i := 2) rfl)) dX7_tear_20 ?_
          refine lv_if_eq (tgt := 30) hx hb dX7_tear_23 (by decide) (fun c23 => ?_) (fun c23 => ?_)
          · replace h := h.1 c23
            refine lv_iconst (v := 0) hx hb dX7_tear_30 (by decide) ?_
            refine lv_istore_n (lv' := [(2, .int 0), (0, .ref (ad 0)), (1, .int v1)]) hx hb dX7_tear_31 rfl hl (by decide) rfl (fun ls hl => ?_)
            exact hJ _ _ _ h _ _ _ S (lv_sub hl [1, 2, 0] rfl)
          · replace h := h.2 c23
            refine lv_iconst (v := 1) hx hb dX7_tear_26 (by decide) ?_
            refine lv_goto (tgt := 31) hx hb dX7_tear_27 (by decide) ?_
            refine lv_istore_n (lv' := [(2, .int 1), (0, .ref (ad 0)), (1, .int v1)]) hx hb dX7_tear_31 rfl hl (by decide) rfl (fun ls hl => ?_)
            exact hJ _ _ _ h _ _ _ S (lv_sub hl [1, 2, 0] rfl)
        · replace h := h.2.2.1 hk
          refine x_aald hx hb hK S xa_1 hin hk rfl dX7_tear_19 ?_
          refine x_getI hx hb hts (hC5) hown hK S 1 (by decide) xf_4_1 (index := 77) (hts _ (List.mem_of_getElem? (i := 2) rfl)) dX7_tear_20 ?_
          refine lv_if_eq (tgt := 30) hx hb dX7_tear_23 (by decide) (fun c23 => ?_) (fun c23 => ?_)
          · replace h := h.1 c23
            refine lv_iconst (v := 0) hx hb dX7_tear_30 (by decide) ?_
            refine lv_istore_n (lv' := [(2, .int 0), (0, .ref (ad 0)), (1, .int v1)]) hx hb dX7_tear_31 rfl hl (by decide) rfl (fun ls hl => ?_)
            exact hJ _ _ _ h _ _ _ S (lv_sub hl [1, 2, 0] rfl)
          · replace h := h.2 c23
            refine lv_iconst (v := 1) hx hb dX7_tear_26 (by decide) ?_
            refine lv_goto (tgt := 31) hx hb dX7_tear_27 (by decide) ?_
            refine lv_istore_n (lv' := [(2, .int 1), (0, .ref (ad 0)), (1, .int v1)]) hx hb dX7_tear_31 rfl hl (by decide) rfl (fun ls hl => ?_)
            exact hJ _ _ _ h _ _ _ S (lv_sub hl [1, 2, 0] rfl)
        · replace h := h.2.2.2 hk
          refine x_aald hx hb hK S xa_1 hin hk rfl dX7_tear_19 ?_
          refine x_getI hx hb hts (hC5) hown hK S 1 (by decide) xf_5_1 (index := 77) (hts _ (List.mem_of_getElem? (i := 2) rfl)) dX7_tear_20 ?_
          refine lv_if_eq (tgt := 30) hx hb dX7_tear_23 (by decide) (fun c23 => ?_) (fun c23 => ?_)
          · replace h := h.1 c23
            refine lv_iconst (v := 0) hx hb dX7_tear_30 (by decide) ?_
            refine lv_istore_n (lv' := [(2, .int 0), (0, .ref (ad 0)), (1, .int v1)]) hx hb dX7_tear_31 rfl hl (by decide) rfl (fun ls hl => ?_)
            exact hJ _ _ _ h _ _ _ S (lv_sub hl [1, 2, 0] rfl)
          · replace h := h.2 c23
            refine lv_iconst (v := 1) hx hb dX7_tear_26 (by decide) ?_
            refine lv_goto (tgt := 31) hx hb dX7_tear_27 (by decide) ?_
            refine lv_istore_n (lv' := [(2, .int 1), (0, .ref (ad 0)), (1, .int v1)]) hx hb dX7_tear_31 rfl hl (by decide) rfl (fun ls hl => ?_)
            exact hJ _ _ _ h _ _ _ S (lv_sub hl [1, 2, 0] rfl)
      · replace h := h.2 c4
        refine lv_aload_n hx hb dX7_tear_7 rfl (lv_at hl 0 rfl) ?_
        refine lv_bipush (v := (-12)) hx hb dX7_tear_8 (by decide) ?_
        refine x_callVi (As := [.int (-12)]) ⟨hx, hb, hml, hown, hts⟩ hK S (ct_X7_found l D cy ad B _ _ _ h) xo_0 rfl (cwV 1 hts gX7_tear_X7_found rfl rfl rfl (by decide +kernel) ⟨Nat.le_of_ble_eq_true rfl, Nat.le_of_ble_eq_true rfl⟩) rfl hl.1 rfl (Nat.le_of_ble_eq_true rfl) dX7_tear_10 ⟨Nat.zero_le _, Nat.zero_le _⟩ (fun r2 M2 H locs h S => ?_)
        exact x_iret hx hb hr hlocks S rfl h dX7_tear_13
    | 1, h, hl =>
      have hl : lv_has ls 3 [(0, .ref (ad 0)), (1, .int v1), (2, .int v2)] := hl
      have h : blk_X7_tear_1 v1 Q P v2 M := h
      unfold blk_X7_tear_1 at h
      refine W.eq (g2 := F0 m 32 ls []) rfl ?_
      refine lv_aload_n hx hb dX7_tear_32 rfl (lv_at hl 0 rfl) ?_
      refine x_getR hx hb hts (hC7) hown hK S 0 (by decide) xf_0_0 (index := 11) (hts _ (List.mem_of_getElem? (i := 1) rfl)) dX7_tear_33 ?_
      refine lv_iload_n hx hb dX7_tear_36 rfl (lv_at hl 1 rfl) ?_
      have hk := x_in4 h.1
      have hin := h.1
      replace h := h.2
      rcases hk with hk | hk | hk | hk
      · replace h := h.1 hk
        refine x_aald hx hb hK S xa_1 hin hk rfl dX7_tear_37 ?_
        refine lv_iconst (v := 1) hx hb dX7_tear_38 (by decide) ?_
        refine x_putI hx hb hts (hC5) tyX5 tyX5_ok nmX5 hown hK S 1 (by decide) xf_2_1 (index := 77) (hts _ (List.mem_of_getElem? (i := 2) rfl)) rfl rfl rfl dX7_tear_39 (fun H locs S => ?_)
        refine lv_iload_n hx hb dX7_tear_42 rfl (lv_at hl 2 rfl) ?_
        exact x_iret hx hb hr hlocks S rfl h dX7_tear_43
      · replace h := h.2.1 hk
        refine x_aald hx hb hK S xa_1 hin hk rfl dX7_tear_37 ?_
        refine lv_iconst (v := 1) hx hb dX7_tear_38 (by decide) ?_
        refine x_putI hx hb hts (hC5) tyX5 tyX5_ok nmX5 hown hK S 1 (by decide) xf_3_1 (index := 77) (hts _ (List.mem_of_getElem? (i := 2) rfl)) rfl rfl rfl dX7_tear_39 (fun H locs S => ?_)
        refine lv_iload_n hx hb dX7_tear_42 rfl (lv_at hl 2 rfl) ?_
        exact x_iret hx hb hr hlocks S rfl h dX7_tear_43
      · replace h := h.2.2.1 hk
        refine x_aald hx hb hK S xa_1 hin hk rfl dX7_tear_37 ?_
        refine lv_iconst (v := 1) hx hb dX7_tear_38 (by decide) ?_
        refine x_putI hx hb hts (hC5) tyX5 tyX5_ok nmX5 hown hK S 1 (by decide) xf_4_1 (index := 77) (hts _ (List.mem_of_getElem? (i := 2) rfl)) rfl rfl rfl dX7_tear_39 (fun H locs S => ?_)
        refine lv_iload_n hx hb dX7_tear_42 rfl (lv_at hl 2 rfl) ?_
        exact x_iret hx hb hr hlocks S rfl h dX7_tear_43
      · replace h := h.2.2.2 hk
        refine x_aald hx hb hK S xa_1 hin hk rfl dX7_tear_37 ?_
        refine lv_iconst (v := 1) hx hb dX7_tear_38 (by decide) ?_
        refine x_putI hx hb hts (hC5) tyX5 tyX5_ok nmX5 hown hK S 1 (by decide) xf_5_1 (index := 77) (hts _ (List.mem_of_getElem? (i := 2) rfl)) rfl rfl rfl dX7_tear_39 (fun H locs S => ?_)
        refine lv_iload_n hx hb dX7_tear_42 rfl (lv_at hl 2 rfl) ?_
        exact x_iret hx hb hr hlocks S rfl h dX7_tear_43
    | _ + 2, h, hl => exact h.elim
  have hl := lv_entry ([.ref (ad 0), .int v1]) (n := 3) (Nat.le_of_ble_eq_true rfl)
  subst hargs
  rw [lg_entry_eq]
  generalize (lg_sl ([.ref (ad 0), .int v1]) ++ List.replicate (3 - (lg_sl ([.ref (ad 0), .int v1])).length) Slot.unset).toArray = ls at hl ⊢
  exact h _ (key _ (fun _ _ _ h => h)) s.heap [] ls ⟨hP, hD, va_S.rf⟩ hl
/-! X5_hasPlace_2 -/
def wp_X5_hasPlace_2 (v1 : Int32) (M : Mem) (Q : Int32 → Mem → Prop) : Prop :=
  ((v1 < 0 → Q 0 M) ∧ (¬ v1 < 0 → (((M.1 2 3) ≤ v1 → Q 0 M) ∧ (¬ (M.1 2 3) ≤ v1 → Q 1 M))))
theorem wp_X5_hasPlace_2_mono {v1 : Int32} {M : Mem} {Q Q' : Int32 → Mem → Prop} (hQ : ∀ (r : Int32) (M : Mem), Q r M → Q' r M) (h : wp_X5_hasPlace_2 v1 M Q) : wp_X5_hasPlace_2 v1 M Q' := by
  unfold wp_X5_hasPlace_2 at h ⊢
  exact ⟨fun c => let h := h.1 c; hQ _ _ h, fun c => let h := h.2 c; ⟨fun c => let h := h.1 c; hQ _ _ h, fun c => let h := h.2 c; hQ _ _ h⟩⟩
abbrev rm_X5_hasPlace_2 : Jvm.Room := { frames := 1, cells := 0, slots := 0, locals := 13 }
set_option maxHeartbeats 4000000 in
set_option maxRecDepth 100000 in
theorem ct_X5_hasPlace_2 (l : Launch) (D : va_G) (cy : Nat → ClassId) (ad : Nat → Nat) (B : Nat → Prop) (v1 : Int32) (M : Mem) (Q : Int32 → Mem → Prop) (h : wp_X5_hasPlace_2 v1 M Q) : CTi l D cy (wX ad cy) B yX5_hasPlace wsX5_hasPlace rm_X5_hasPlace_2 [.ref (ad 2), .int v1] M Q := by
  intro sz
  refine Met.ofW (cc := cX5_hasPlace) (maxL := 2) (ret := some .boolean) (by decide) rfl ?_
  intro p e s m args below meth c s₁ Bd hml hv
  obtain ⟨hargs, hsz, hP, hK, hD⟩ := hv
  subst hsz
  have hx := Bd.exec
  have hb := Bd.bytes
  have hr := Bd.returns
  have hts := atoms_spec (ws := wsX5_hasPlace) Bd.pre
  have hown : s.vm.findClass RX5 = some m.cls := findClass_of_methodNamed Bd.named
  have hlocks := Bd.notSynchronized
  have hC5 : xC wsX5_hasPlace 5 RX5 TX5 4 := ⟨by decide +kernel, rfl⟩
  have hl := lv_entry ([.ref (ad 2), .int v1]) (n := 2) (Nat.le_of_ble_eq_true rfl)
  subst hargs
  rw [lg_entry_eq]
  generalize (lg_sl ([.ref (ad 2), .int v1]) ++ List.replicate (2 - (lg_sl ([.ref (ad 2), .int v1])).length) Slot.unset).toArray = ls at hl ⊢
  have hl : lv_has ls 2 [(0, .ref (ad 2)), (1, .int v1)] := hl
  have S : xS D (wX ad cy) B s.heap s.heap [] M := ⟨hP, hD, va_S.rf⟩
  unfold wp_X5_hasPlace_2 at h
  refine lv_iload_n hx hb dX5_hasPlace_0 rfl (lv_at hl 1 rfl) ?_
  refine lv_if_lt (tgt := 16) hx hb dX5_hasPlace_1 (by decide) (fun c1 => ?_) (fun c1 => ?_)
  · replace h := h.1 c1
    refine lv_iconst (v := 0) hx hb dX5_hasPlace_16 (by decide) ?_
    exact x_iret hx hb hr hlocks S rfl h dX5_hasPlace_17
  · replace h := h.2 c1
    refine lv_iload_n hx hb dX5_hasPlace_4 rfl (lv_at hl 1 rfl) ?_
    refine lv_aload_n hx hb dX5_hasPlace_5 rfl (lv_at hl 0 rfl) ?_
    refine x_getI hx hb hts (hC5) hown hK S 3 (by decide) xf_2_3 (index := 23) (hts _ (List.mem_of_getElem? (i := 1) rfl)) dX5_hasPlace_6 ?_
    refine lv_icmp_ge (tgt := 16) hx hb dX5_hasPlace_9 (by decide) (fun c9 => ?_) (fun c9 => ?_)
    · replace h := h.1 c9
      refine lv_iconst (v := 0) hx hb dX5_hasPlace_16 (by decide) ?_
      exact x_iret hx hb hr hlocks S rfl h dX5_hasPlace_17
    · replace h := h.2 c9
      refine lv_iconst (v := 1) hx hb dX5_hasPlace_12 (by decide) ?_
      refine lv_goto (tgt := 17) hx hb dX5_hasPlace_13 (by decide) ?_
      exact x_iret hx hb hr hlocks S rfl h dX5_hasPlace_17
/-! X5_lowestBits_2 -/
def wp_X5_lowestBits_2 (v1 : Int64) (M : Mem) (Q : Int64 → Mem → Prop) : Prop :=
  ((((M.1 2 2) : Int32).toInt < 0 ∨ 2 < ((M.1 2 2) : Int32).toInt → Q v1 M) ∧ (((M.1 2 2) : Int32).toInt = 0 → Q v1.toInt32.toInt8.toInt32.toInt64 M) ∧ (((M.1 2 2) : Int32).toInt = 1 → Q v1.toInt32.toInt16.toInt32.toInt64 M) ∧ (((M.1 2 2) : Int32).toInt = 2 → Q v1.toInt32.toInt64 M))
theorem wp_X5_lowestBits_2_mono {v1 : Int64} {M : Mem} {Q Q' : Int64 → Mem → Prop} (hQ : ∀ (r : Int64) (M : Mem), Q r M → Q' r M) (h : wp_X5_lowestBits_2 v1 M Q) : wp_X5_lowestBits_2 v1 M Q' := by
  unfold wp_X5_lowestBits_2 at h ⊢
  exact ⟨fun c => let h := h.1 c; hQ _ _ h, fun c => let h := h.2.1 c; hQ _ _ h, fun c => let h := h.2.2.1 c; hQ _ _ h, fun c => let h := h.2.2.2 c; hQ _ _ h⟩
abbrev rm_X5_lowestBits_2 : Jvm.Room := { frames := 1, cells := 0, slots := 0, locals := 14 }
set_option maxHeartbeats 4000000 in
set_option maxRecDepth 100000 in
theorem ct_X5_lowestBits_2 (l : Launch) (D : va_G) (cy : Nat → ClassId) (ad : Nat → Nat) (B : Nat → Prop) (v1 : Int64) (M : Mem) (Q : Int64 → Mem → Prop) (h : wp_X5_lowestBits_2 v1 M Q) : CTl l D cy (wX ad cy) B yX5_lowestBits wsX5_lowestBits rm_X5_lowestBits_2 [.ref (ad 2), .long v1] M Q := by
  intro sz
  refine Met.ofW (cc := cX5_lowestBits) (maxL := 3) (ret := some .long) (by decide) rfl ?_
  intro p e s m args below meth c s₁ Bd hml hv
  obtain ⟨hargs, hsz, hP, hK, hD⟩ := hv
  subst hsz
  have hx := Bd.exec
  have hb := Bd.bytes
  have hr := Bd.returns
  have hts := atoms_spec (ws := wsX5_lowestBits) Bd.pre
  have hown : s.vm.findClass RX5 = some m.cls := findClass_of_methodNamed Bd.named
  have hlocks := Bd.notSynchronized
  have hC5 : xC wsX5_lowestBits 5 RX5 TX5 4 := ⟨by decide +kernel, rfl⟩
  have hl := lv_entry ([.ref (ad 2), .long v1]) (n := 3) (Nat.le_of_ble_eq_true rfl)
  subst hargs
  rw [lg_entry_eq]
  generalize (lg_sl ([.ref (ad 2), .long v1]) ++ List.replicate (3 - (lg_sl ([.ref (ad 2), .long v1])).length) Slot.unset).toArray = ls at hl ⊢
  have hl : lv_has ls 3 [(0, .ref (ad 2)), (1, .long v1)] := hl
  have S : xS D (wX ad cy) B s.heap s.heap [] M := ⟨hP, hD, va_S.rf⟩
  unfold wp_X5_lowestBits_2 at h
  refine lv_aload_n hx hb dX5_lowestBits_0 rfl (lv_at hl 0 rfl) ?_
  refine x_getI hx hb hts (hC5) hown hK S 2 (by decide) xf_2_2 (index := 19) (hts _ (List.mem_of_getElem? (i := 1) rfl)) dX5_lowestBits_1 ?_
  by_cases hlo : ((M.1 2 2) : Int32).toInt < 0
  · refine lv_tableOut (tgt := 46) hx hb dX5_lowestBits_4 (Or.inl hlo) (by decide) ?_
    replace h := h.1 (Or.inl hlo)
    refine lv_lload_n hx hb dX5_lowestBits_46 rfl (lv_at hl 1 rfl) ?_
    exact x_lret hx hb hr hlocks S h dX5_lowestBits_47
  by_cases hhi : 2 < ((M.1 2 2) : Int32).toInt
  · refine lv_tableOut (tgt := 46) hx hb dX5_lowestBits_4 (Or.inr hhi) (by decide) ?_
    replace h := h.1 (Or.inr hhi)
    refine lv_lload_n hx hb dX5_lowestBits_46 rfl (lv_at hl 1 rfl) ?_
    exact x_lret hx hb hr hlocks S h dX5_lowestBits_47
  replace h := h.2
  have hk : ((M.1 2 2) : Int32).toInt = 0 ∨ ((M.1 2 2) : Int32).toInt = 1 ∨ ((M.1 2 2) : Int32).toInt = 2 := by omega
  rcases hk with hk | hk | hk
  · refine lv_tableIn (off := 28) (tgt := 32) hx hb dX5_lowestBits_4 hlo hhi (by rw [hk]; rfl) (by decide) ?_
    replace h := h.1 hk
    refine lv_lload_n hx hb dX5_lowestBits_32 rfl (lv_at hl 1 rfl) ?_
    refine lv_l2i (v := v1.toInt32) hx hb dX5_lowestBits_33 rfl ?_
    refine lv_i2b (v := v1.toInt32.toInt8.toInt32) hx hb dX5_lowestBits_34 rfl ?_
    refine lv_i2l (v := v1.toInt32.toInt8.toInt32.toInt64) hx hb dX5_lowestBits_35 rfl ?_
    exact x_lret hx hb hr hlocks S h dX5_lowestBits_36
  · refine lv_tableIn (off := 33) (tgt := 37) hx hb dX5_lowestBits_4 hlo hhi (by rw [hk]; rfl) (by decide) ?_
    replace h := h.2.1 hk
    refine lv_lload_n hx hb dX5_lowestBits_37 rfl (lv_at hl 1 rfl) ?_
    refine lv_l2i (v := v1.toInt32) hx hb dX5_lowestBits_38 rfl ?_
    refine lv_i2s (v := v1.toInt32.toInt16.toInt32) hx hb dX5_lowestBits_39 rfl ?_
    refine lv_i2l (v := v1.toInt32.toInt16.toInt32.toInt64) hx hb dX5_lowestBits_40 rfl ?_
    exact x_lret hx hb hr hlocks S h dX5_lowestBits_41
  · refine lv_tableIn (off := 38) (tgt := 42) hx hb dX5_lowestBits_4 hlo hhi (by rw [hk]; rfl) (by decide) ?_
    replace h := h.2.2 hk
    refine lv_lload_n hx hb dX5_lowestBits_42 rfl (lv_at hl 1 rfl) ?_
    refine lv_l2i (v := v1.toInt32) hx hb dX5_lowestBits_43 rfl ?_
    refine lv_i2l (v := v1.toInt32.toInt64) hx hb dX5_lowestBits_44 rfl ?_
    exact x_lret hx hb hr hlocks S h dX5_lowestBits_45
/-! X5_hasPlace_3 -/
def wp_X5_hasPlace_3 (v1 : Int32) (M : Mem) (Q : Int32 → Mem → Prop) : Prop :=
  ((v1 < 0 → Q 0 M) ∧ (¬ v1 < 0 → (((M.1 3 3) ≤ v1 → Q 0 M) ∧ (¬ (M.1 3 3) ≤ v1 → Q 1 M))))
theorem wp_X5_hasPlace_3_mono {v1 : Int32} {M : Mem} {Q Q' : Int32 → Mem → Prop} (hQ : ∀ (r : Int32) (M : Mem), Q r M → Q' r M) (h : wp_X5_hasPlace_3 v1 M Q) : wp_X5_hasPlace_3 v1 M Q' := by
  unfold wp_X5_hasPlace_3 at h ⊢
  exact ⟨fun c => let h := h.1 c; hQ _ _ h, fun c => let h := h.2 c; ⟨fun c => let h := h.1 c; hQ _ _ h, fun c => let h := h.2 c; hQ _ _ h⟩⟩
abbrev rm_X5_hasPlace_3 : Jvm.Room := { frames := 1, cells := 0, slots := 0, locals := 13 }
set_option maxHeartbeats 4000000 in
set_option maxRecDepth 100000 in
theorem ct_X5_hasPlace_3 (l : Launch) (D : va_G) (cy : Nat → ClassId) (ad : Nat → Nat) (B : Nat → Prop) (v1 : Int32) (M : Mem) (Q : Int32 → Mem → Prop) (h : wp_X5_hasPlace_3 v1 M Q) : CTi l D cy (wX ad cy) B yX5_hasPlace wsX5_hasPlace rm_X5_hasPlace_3 [.ref (ad 3), .int v1] M Q := by
  intro sz
  refine Met.ofW (cc := cX5_hasPlace) (maxL := 2) (ret := some .boolean) (by decide) rfl ?_
  intro p e s m args below meth c s₁ Bd hml hv
  obtain ⟨hargs, hsz, hP, hK, hD⟩ := hv
  subst hsz
  have hx := Bd.exec
  have hb := Bd.bytes
  have hr := Bd.returns
  have hts := atoms_spec (ws := wsX5_hasPlace) Bd.pre
  have hown : s.vm.findClass RX5 = some m.cls := findClass_of_methodNamed Bd.named
  have hlocks := Bd.notSynchronized
  have hC5 : xC wsX5_hasPlace 5 RX5 TX5 4 := ⟨by decide +kernel, rfl⟩
  have hl := lv_entry ([.ref (ad 3), .int v1]) (n := 2) (Nat.le_of_ble_eq_true rfl)
  subst hargs
  rw [lg_entry_eq]
  generalize (lg_sl ([.ref (ad 3), .int v1]) ++ List.replicate (2 - (lg_sl ([.ref (ad 3), .int v1])).length) Slot.unset).toArray = ls at hl ⊢
  have hl : lv_has ls 2 [(0, .ref (ad 3)), (1, .int v1)] := hl
  have S : xS D (wX ad cy) B s.heap s.heap [] M := ⟨hP, hD, va_S.rf⟩
  unfold wp_X5_hasPlace_3 at h
  refine lv_iload_n hx hb dX5_hasPlace_0 rfl (lv_at hl 1 rfl) ?_
  refine lv_if_lt (tgt := 16) hx hb dX5_hasPlace_1 (by decide) (fun c1 => ?_) (fun c1 => ?_)
  · replace h := h.1 c1
    refine lv_iconst (v := 0) hx hb dX5_hasPlace_16 (by decide) ?_
    exact x_iret hx hb hr hlocks S rfl h dX5_hasPlace_17
  · replace h := h.2 c1
    refine lv_iload_n hx hb dX5_hasPlace_4 rfl (lv_at hl 1 rfl) ?_
    refine lv_aload_n hx hb dX5_hasPlace_5 rfl (lv_at hl 0 rfl) ?_
    refine x_getI hx hb hts (hC5) hown hK S 3 (by decide) xf_3_3 (index := 23) (hts _ (List.mem_of_getElem? (i := 1) rfl)) dX5_hasPlace_6 ?_
    refine lv_icmp_ge (tgt := 16) hx hb dX5_hasPlace_9 (by decide) (fun c9 => ?_) (fun c9 => ?_)
    · replace h := h.1 c9
      refine lv_iconst (v := 0) hx hb dX5_hasPlace_16 (by decide) ?_
      exact x_iret hx hb hr hlocks S rfl h dX5_hasPlace_17
    · replace h := h.2 c9
      refine lv_iconst (v := 1) hx hb dX5_hasPlace_12 (by decide) ?_
      refine lv_goto (tgt := 17) hx hb dX5_hasPlace_13 (by decide) ?_
      exact x_iret hx hb hr hlocks S rfl h dX5_hasPlace_17
/-! X5_lowestBits_3 -/
def wp_X5_lowestBits_3 (v1 : Int64) (M : Mem) (Q : Int64 → Mem → Prop) : Prop :=
  ((((M.1 3 2) : Int32).toInt < 0 ∨ 2 < ((M.1 3 2) : Int32).toInt → Q v1 M) ∧ (((M.1 3 2) : Int32).toInt = 0 → Q v1.toInt32.toInt8.toInt32.toInt64 M) ∧ (((M.1 3 2) : Int32).toInt = 1 → Q v1.toInt32.toInt16.toInt32.toInt64 M) ∧ (((M.1 3 2) : Int32).toInt = 2 → Q v1.toInt32.toInt64 M))
theorem wp_X5_lowestBits_3_mono {v1 : Int64} {M : Mem} {Q Q' : Int64 → Mem → Prop} (hQ : ∀ (r : Int64) (M : Mem), Q r M → Q' r M) (h : wp_X5_lowestBits_3 v1 M Q) : wp_X5_lowestBits_3 v1 M Q' := by
  unfold wp_X5_lowestBits_3 at h ⊢
  exact ⟨fun c => let h := h.1 c; hQ _ _ h, fun c => let h := h.2.1 c; hQ _ _ h, fun c => let h := h.2.2.1 c; hQ _ _ h, fun c => let h := h.2.2.2 c; hQ _ _ h⟩
abbrev rm_X5_lowestBits_3 : Jvm.Room := { frames := 1, cells := 0, slots := 0, locals := 14 }
set_option maxHeartbeats 4000000 in
set_option maxRecDepth 100000 in
theorem ct_X5_lowestBits_3 (l : Launch) (D : va_G) (cy : Nat → ClassId) (ad : Nat → Nat) (B : Nat → Prop) (v1 : Int64) (M : Mem) (Q : Int64 → Mem → Prop) (h : wp_X5_lowestBits_3 v1 M Q) : CTl l D cy (wX ad cy) B yX5_lowestBits wsX5_lowestBits rm_X5_lowestBits_3 [.ref (ad 3), .long v1] M Q := by
  intro sz
  refine Met.ofW (cc := cX5_lowestBits) (maxL := 3) (ret := some .long) (by decide) rfl ?_
  intro p e s m args below meth c s₁ Bd hml hv
  obtain ⟨hargs, hsz, hP, hK, hD⟩ := hv
  subst hsz
  have hx := Bd.exec
  have hb := Bd.bytes
  have hr := Bd.returns
  have hts := atoms_spec (ws := wsX5_lowestBits) Bd.pre
  have hown : s.vm.findClass RX5 = some m.cls := findClass_of_methodNamed Bd.named
  have hlocks := Bd.notSynchronized
  have hC5 : xC wsX5_lowestBits 5 RX5 TX5 4 := ⟨by decide +kernel, rfl⟩
  have hl := lv_entry ([.ref (ad 3), .long v1]) (n := 3) (Nat.le_of_ble_eq_true rfl)
  subst hargs
  rw [lg_entry_eq]
  generalize (lg_sl ([.ref (ad 3), .long v1]) ++ List.replicate (3 - (lg_sl ([.ref (ad 3), .long v1])).length) Slot.unset).toArray = ls at hl ⊢
  have hl : lv_has ls 3 [(0, .ref (ad 3)), (1, .long v1)] := hl
  have S : xS D (wX ad cy) B s.heap s.heap [] M := ⟨hP, hD, va_S.rf⟩
  unfold wp_X5_lowestBits_3 at h
  refine lv_aload_n hx hb dX5_lowestBits_0 rfl (lv_at hl 0 rfl) ?_
  refine x_getI hx hb hts (hC5) hown hK S 2 (by decide) xf_3_2 (index := 19) (hts _ (List.mem_of_getElem? (i := 1) rfl)) dX5_lowestBits_1 ?_
  by_cases hlo : ((M.1 3 2) : Int32).toInt < 0
  · refine lv_tableOut (tgt := 46) hx hb dX5_lowestBits_4 (Or.inl hlo) (by decide) ?_
    replace h := h.1 (Or.inl hlo)
    refine lv_lload_n hx hb dX5_lowestBits_46 rfl (lv_at hl 1 rfl) ?_
    exact x_lret hx hb hr hlocks S h dX5_lowestBits_47
  by_cases hhi : 2 < ((M.1 3 2) : Int32).toInt
  · refine lv_tableOut (tgt := 46) hx hb dX5_lowestBits_4 (Or.inr hhi) (by decide) ?_
    replace h := h.1 (Or.inr hhi)
    refine lv_lload_n hx hb dX5_lowestBits_46 rfl (lv_at hl 1 rfl) ?_
    exact x_lret hx hb hr hlocks S h dX5_lowestBits_47
  replace h := h.2
  have hk : ((M.1 3 2) : Int32).toInt = 0 ∨ ((M.1 3 2) : Int32).toInt = 1 ∨ ((M.1 3 2) : Int32).toInt = 2 := by omega
  rcases hk with hk | hk | hk
  · refine lv_tableIn (off := 28) (tgt := 32) hx hb dX5_lowestBits_4 hlo hhi (by rw [hk]; rfl) (by decide) ?_
    replace h := h.1 hk
    refine lv_lload_n hx hb dX5_lowestBits_32 rfl (lv_at hl 1 rfl) ?_
    refine lv_l2i (v := v1.toInt32) hx hb dX5_lowestBits_33 rfl ?_
    refine lv_i2b (v := v1.toInt32.toInt8.toInt32) hx hb dX5_lowestBits_34 rfl ?_
    refine lv_i2l (v := v1.toInt32.toInt8.toInt32.toInt64) hx hb dX5_lowestBits_35 rfl ?_
    exact x_lret hx hb hr hlocks S h dX5_lowestBits_36
  · refine lv_tableIn (off := 33) (tgt := 37) hx hb dX5_lowestBits_4 hlo hhi (by rw [hk]; rfl) (by decide) ?_
    replace h := h.2.1 hk
    refine lv_lload_n hx hb dX5_lowestBits_37 rfl (lv_at hl 1 rfl) ?_
    refine lv_l2i (v := v1.toInt32) hx hb dX5_lowestBits_38 rfl ?_
    refine lv_i2s (v := v1.toInt32.toInt16.toInt32) hx hb dX5_lowestBits_39 rfl ?_
    refine lv_i2l (v := v1.toInt32.toInt16.toInt32.toInt64) hx hb dX5_lowestBits_40 rfl ?_
    exact x_lret hx hb hr hlocks S h dX5_lowestBits_41
  · refine lv_tableIn (off := 38) (tgt := 42) hx hb dX5_lowestBits_4 hlo hhi (by rw [hk]; rfl) (by decide) ?_
    replace h := h.2.2 hk
    refine lv_lload_n hx hb dX5_lowestBits_42 rfl (lv_at hl 1 rfl) ?_
    refine lv_l2i (v := v1.toInt32) hx hb dX5_lowestBits_43 rfl ?_
    refine lv_i2l (v := v1.toInt32.toInt64) hx hb dX5_lowestBits_44 rfl ?_
    exact x_lret hx hb hr hlocks S h dX5_lowestBits_45
/-! X5_hasPlace_4 -/
def wp_X5_hasPlace_4 (v1 : Int32) (M : Mem) (Q : Int32 → Mem → Prop) : Prop :=
  ((v1 < 0 → Q 0 M) ∧ (¬ v1 < 0 → (((M.1 4 3) ≤ v1 → Q 0 M) ∧ (¬ (M.1 4 3) ≤ v1 → Q 1 M))))
theorem wp_X5_hasPlace_4_mono {v1 : Int32} {M : Mem} {Q Q' : Int32 → Mem → Prop} (hQ : ∀ (r : Int32) (M : Mem), Q r M → Q' r M) (h : wp_X5_hasPlace_4 v1 M Q) : wp_X5_hasPlace_4 v1 M Q' := by
  unfold wp_X5_hasPlace_4 at h ⊢
  exact ⟨fun c => let h := h.1 c; hQ _ _ h, fun c => let h := h.2 c; ⟨fun c => let h := h.1 c; hQ _ _ h, fun c => let h := h.2 c; hQ _ _ h⟩⟩
abbrev rm_X5_hasPlace_4 : Jvm.Room := { frames := 1, cells := 0, slots := 0, locals := 13 }
set_option maxHeartbeats 4000000 in
set_option maxRecDepth 100000 in
theorem ct_X5_hasPlace_4 (l : Launch) (D : va_G) (cy : Nat → ClassId) (ad : Nat → Nat) (B : Nat → Prop) (v1 : Int32) (M : Mem) (Q : Int32 → Mem → Prop) (h : wp_X5_hasPlace_4 v1 M Q) : CTi l D cy (wX ad cy) B yX5_hasPlace wsX5_hasPlace rm_X5_hasPlace_4 [.ref (ad 4), .int v1] M Q := by
  intro sz
  refine Met.ofW (cc := cX5_hasPlace) (maxL := 2) (ret := some .boolean) (by decide) rfl ?_
  intro p e s m args below meth c s₁ Bd hml hv
  obtain ⟨hargs, hsz, hP, hK, hD⟩ := hv
  subst hsz
  have hx := Bd.exec
  have hb := Bd.bytes
  have hr := Bd.returns
  have hts := atoms_spec (ws := wsX5_hasPlace) Bd.pre
  have hown : s.vm.findClass RX5 = some m.cls := findClass_of_methodNamed Bd.named
  have hlocks := Bd.notSynchronized
  have hC5 : xC wsX5_hasPlace 5 RX5 TX5 4 := ⟨by decide +kernel, rfl⟩
  have hl := lv_entry ([.ref (ad 4), .int v1]) (n := 2) (Nat.le_of_ble_eq_true rfl)
  subst hargs
  rw [lg_entry_eq]
  generalize (lg_sl ([.ref (ad 4), .int v1]) ++ List.replicate (2 - (lg_sl ([.ref (ad 4), .int v1])).length) Slot.unset).toArray = ls at hl ⊢
  have hl : lv_has ls 2 [(0, .ref (ad 4)), (1, .int v1)] := hl
  have S : xS D (wX ad cy) B s.heap s.heap [] M := ⟨hP, hD, va_S.rf⟩
  unfold wp_X5_hasPlace_4 at h
  refine lv_iload_n hx hb dX5_hasPlace_0 rfl (lv_at hl 1 rfl) ?_
  refine lv_if_lt (tgt := 16) hx hb dX5_hasPlace_1 (by decide) (fun c1 => ?_) (fun c1 => ?_)
  · replace h := h.1 c1
    refine lv_iconst (v := 0) hx hb dX5_hasPlace_16 (by decide) ?_
    exact x_iret hx hb hr hlocks S rfl h dX5_hasPlace_17
  · replace h := h.2 c1
    refine lv_iload_n hx hb dX5_hasPlace_4 rfl (lv_at hl 1 rfl) ?_
    refine lv_aload_n hx hb dX5_hasPlace_5 rfl (lv_at hl 0 rfl) ?_
    refine x_getI hx hb hts (hC5) hown hK S 3 (by decide) xf_4_3 (index := 23) (hts _ (List.mem_of_getElem? (i := 1) rfl)) dX5_hasPlace_6 ?_
    refine lv_icmp_ge (tgt := 16) hx hb dX5_hasPlace_9 (by decide) (fun c9 => ?_) (fun c9 => ?_)
    · replace h := h.1 c9
      refine lv_iconst (v := 0) hx hb dX5_hasPlace_16 (by decide) ?_
      exact x_iret hx hb hr hlocks S rfl h dX5_hasPlace_17
    · replace h := h.2 c9
      refine lv_iconst (v := 1) hx hb dX5_hasPlace_12 (by decide) ?_
      refine lv_goto (tgt := 17) hx hb dX5_hasPlace_13 (by decide) ?_
      exact x_iret hx hb hr hlocks S rfl h dX5_hasPlace_17
/-! X5_lowestBits_4 -/
def wp_X5_lowestBits_4 (v1 : Int64) (M : Mem) (Q : Int64 → Mem → Prop) : Prop :=
  ((((M.1 4 2) : Int32).toInt < 0 ∨ 2 < ((M.1 4 2) : Int32).toInt → Q v1 M) ∧ (((M.1 4 2) : Int32).toInt = 0 → Q v1.toInt32.toInt8.toInt32.toInt64 M) ∧ (((M.1 4 2) : Int32).toInt = 1 → Q v1.toInt32.toInt16.toInt32.toInt64 M) ∧ (((M.1 4 2) : Int32).toInt = 2 → Q v1.toInt32.toInt64 M))
theorem wp_X5_lowestBits_4_mono {v1 : Int64} {M : Mem} {Q Q' : Int64 → Mem → Prop} (hQ : ∀ (r : Int64) (M : Mem), Q r M → Q' r M) (h : wp_X5_lowestBits_4 v1 M Q) : wp_X5_lowestBits_4 v1 M Q' := by
  unfold wp_X5_lowestBits_4 at h ⊢
  exact ⟨fun c => let h := h.1 c; hQ _ _ h, fun c => let h := h.2.1 c; hQ _ _ h, fun c => let h := h.2.2.1 c; hQ _ _ h, fun c => let h := h.2.2.2 c; hQ _ _ h⟩
abbrev rm_X5_lowestBits_4 : Jvm.Room := { frames := 1, cells := 0, slots := 0, locals := 14 }
set_option maxHeartbeats 4000000 in
set_option maxRecDepth 100000 in
theorem ct_X5_lowestBits_4 (l : Launch) (D : va_G) (cy : Nat → ClassId) (ad : Nat → Nat) (B : Nat → Prop) (v1 : Int64) (M : Mem) (Q : Int64 → Mem → Prop) (h : wp_X5_lowestBits_4 v1 M Q) : CTl l D cy (wX ad cy) B yX5_lowestBits wsX5_lowestBits rm_X5_lowestBits_4 [.ref (ad 4), .long v1] M Q := by
  intro sz
  refine Met.ofW (cc := cX5_lowestBits) (maxL := 3) (ret := some .long) (by decide) rfl ?_
  intro p e s m args below meth c s₁ Bd hml hv
  obtain ⟨hargs, hsz, hP, hK, hD⟩ := hv
  subst hsz
  have hx := Bd.exec
  have hb := Bd.bytes
  have hr := Bd.returns
  have hts := atoms_spec (ws := wsX5_lowestBits) Bd.pre
  have hown : s.vm.findClass RX5 = some m.cls := findClass_of_methodNamed Bd.named
  have hlocks := Bd.notSynchronized
  have hC5 : xC wsX5_lowestBits 5 RX5 TX5 4 := ⟨by decide +kernel, rfl⟩
  have hl := lv_entry ([.ref (ad 4), .long v1]) (n := 3) (Nat.le_of_ble_eq_true rfl)
  subst hargs
  rw [lg_entry_eq]
  generalize (lg_sl ([.ref (ad 4), .long v1]) ++ List.replicate (3 - (lg_sl ([.ref (ad 4), .long v1])).length) Slot.unset).toArray = ls at hl ⊢
  have hl : lv_has ls 3 [(0, .ref (ad 4)), (1, .long v1)] := hl
  have S : xS D (wX ad cy) B s.heap s.heap [] M := ⟨hP, hD, va_S.rf⟩
  unfold wp_X5_lowestBits_4 at h
  refine lv_aload_n hx hb dX5_lowestBits_0 rfl (lv_at hl 0 rfl) ?_
  refine x_getI hx hb hts (hC5) hown hK S 2 (by decide) xf_4_2 (index := 19) (hts _ (List.mem_of_getElem? (i := 1) rfl)) dX5_lowestBits_1 ?_
  by_cases hlo : ((M.1 4 2) : Int32).toInt < 0
  · refine lv_tableOut (tgt := 46) hx hb dX5_lowestBits_4 (Or.inl hlo) (by decide) ?_
    replace h := h.1 (Or.inl hlo)
    refine lv_lload_n hx hb dX5_lowestBits_46 rfl (lv_at hl 1 rfl) ?_
    exact x_lret hx hb hr hlocks S h dX5_lowestBits_47
  by_cases hhi : 2 < ((M.1 4 2) : Int32).toInt
  · refine lv_tableOut (tgt := 46) hx hb dX5_lowestBits_4 (Or.inr hhi) (by decide) ?_
    replace h := h.1 (Or.inr hhi)
    refine lv_lload_n hx hb dX5_lowestBits_46 rfl (lv_at hl 1 rfl) ?_
    exact x_lret hx hb hr hlocks S h dX5_lowestBits_47
  replace h := h.2
  have hk : ((M.1 4 2) : Int32).toInt = 0 ∨ ((M.1 4 2) : Int32).toInt = 1 ∨ ((M.1 4 2) : Int32).toInt = 2 := by omega
  rcases hk with hk | hk | hk
  · refine lv_tableIn (off := 28) (tgt := 32) hx hb dX5_lowestBits_4 hlo hhi (by rw [hk]; rfl) (by decide) ?_
    replace h := h.1 hk
    refine lv_lload_n hx hb dX5_lowestBits_32 rfl (lv_at hl 1 rfl) ?_
    refine lv_l2i (v := v1.toInt32) hx hb dX5_lowestBits_33 rfl ?_
    refine lv_i2b (v := v1.toInt32.toInt8.toInt32) hx hb dX5_lowestBits_34 rfl ?_
    refine lv_i2l (v := v1.toInt32.toInt8.toInt32.toInt64) hx hb dX5_lowestBits_35 rfl ?_
    exact x_lret hx hb hr hlocks S h dX5_lowestBits_36
  · refine lv_tableIn (off := 33) (tgt := 37) hx hb dX5_lowestBits_4 hlo hhi (by rw [hk]; rfl) (by decide) ?_
    replace h := h.2.1 hk
    refine lv_lload_n hx hb dX5_lowestBits_37 rfl (lv_at hl 1 rfl) ?_
    refine lv_l2i (v := v1.toInt32) hx hb dX5_lowestBits_38 rfl ?_
    refine lv_i2s (v := v1.toInt32.toInt16.toInt32) hx hb dX5_lowestBits_39 rfl ?_
    refine lv_i2l (v := v1.toInt32.toInt16.toInt32.toInt64) hx hb dX5_lowestBits_40 rfl ?_
    exact x_lret hx hb hr hlocks S h dX5_lowestBits_41
  · refine lv_tableIn (off := 38) (tgt := 42) hx hb dX5_lowestBits_4 hlo hhi (by rw [hk]; rfl) (by decide) ?_
    replace h := h.2.2 hk
    refine lv_lload_n hx hb dX5_lowestBits_42 rfl (lv_at hl 1 rfl) ?_
    refine lv_l2i (v := v1.toInt32) hx hb dX5_lowestBits_43 rfl ?_
    refine lv_i2l (v := v1.toInt32.toInt64) hx hb dX5_lowestBits_44 rfl ?_
    exact x_lret hx hb hr hlocks S h dX5_lowestBits_45
/-! X5_hasPlace_5 -/
def wp_X5_hasPlace_5 (v1 : Int32) (M : Mem) (Q : Int32 → Mem → Prop) : Prop :=
  ((v1 < 0 → Q 0 M) ∧ (¬ v1 < 0 → (((M.1 5 3) ≤ v1 → Q 0 M) ∧ (¬ (M.1 5 3) ≤ v1 → Q 1 M))))
theorem wp_X5_hasPlace_5_mono {v1 : Int32} {M : Mem} {Q Q' : Int32 → Mem → Prop} (hQ : ∀ (r : Int32) (M : Mem), Q r M → Q' r M) (h : wp_X5_hasPlace_5 v1 M Q) : wp_X5_hasPlace_5 v1 M Q' := by
  unfold wp_X5_hasPlace_5 at h ⊢
  exact ⟨fun c => let h := h.1 c; hQ _ _ h, fun c => let h := h.2 c; ⟨fun c => let h := h.1 c; hQ _ _ h, fun c => let h := h.2 c; hQ _ _ h⟩⟩
abbrev rm_X5_hasPlace_5 : Jvm.Room := { frames := 1, cells := 0, slots := 0, locals := 13 }
set_option maxHeartbeats 4000000 in
set_option maxRecDepth 100000 in
theorem ct_X5_hasPlace_5 (l : Launch) (D : va_G) (cy : Nat → ClassId) (ad : Nat → Nat) (B : Nat → Prop) (v1 : Int32) (M : Mem) (Q : Int32 → Mem → Prop) (h : wp_X5_hasPlace_5 v1 M Q) : CTi l D cy (wX ad cy) B yX5_hasPlace wsX5_hasPlace rm_X5_hasPlace_5 [.ref (ad 5), .int v1] M Q := by
  intro sz
  refine Met.ofW (cc := cX5_hasPlace) (maxL := 2) (ret := some .boolean) (by decide) rfl ?_
  intro p e s m args below meth c s₁ Bd hml hv
  obtain ⟨hargs, hsz, hP, hK, hD⟩ := hv
  subst hsz
  have hx := Bd.exec
  have hb := Bd.bytes
  have hr := Bd.returns
  have hts := atoms_spec (ws := wsX5_hasPlace) Bd.pre
  have hown : s.vm.findClass RX5 = some m.cls := findClass_of_methodNamed Bd.named
  have hlocks := Bd.notSynchronized
  have hC5 : xC wsX5_hasPlace 5 RX5 TX5 4 := ⟨by decide +kernel, rfl⟩
  have hl := lv_entry ([.ref (ad 5), .int v1]) (n := 2) (Nat.le_of_ble_eq_true rfl)
  subst hargs
  rw [lg_entry_eq]
  generalize (lg_sl ([.ref (ad 5), .int v1]) ++ List.replicate (2 - (lg_sl ([.ref (ad 5), .int v1])).length) Slot.unset).toArray = ls at hl ⊢
  have hl : lv_has ls 2 [(0, .ref (ad 5)), (1, .int v1)] := hl
  have S : xS D (wX ad cy) B s.heap s.heap [] M := ⟨hP, hD, va_S.rf⟩
  unfold wp_X5_hasPlace_5 at h
  refine lv_iload_n hx hb dX5_hasPlace_0 rfl (lv_at hl 1 rfl) ?_
  refine lv_if_lt (tgt := 16) hx hb dX5_hasPlace_1 (by decide) (fun c1 => ?_) (fun c1 => ?_)
  · replace h := h.1 c1
    refine lv_iconst (v := 0) hx hb dX5_hasPlace_16 (by decide) ?_
    exact x_iret hx hb hr hlocks S rfl h dX5_hasPlace_17
  · replace h := h.2 c1
    refine lv_iload_n hx hb dX5_hasPlace_4 rfl (lv_at hl 1 rfl) ?_
    refine lv_aload_n hx hb dX5_hasPlace_5 rfl (lv_at hl 0 rfl) ?_
    refine x_getI hx hb hts (hC5) hown hK S 3 (by decide) xf_5_3 (index := 23) (hts _ (List.mem_of_getElem? (i := 1) rfl)) dX5_hasPlace_6 ?_
    refine lv_icmp_ge (tgt := 16) hx hb dX5_hasPlace_9 (by decide) (fun c9 => ?_) (fun c9 => ?_)
    · replace h := h.1 c9
      refine lv_iconst (v := 0) hx hb dX5_hasPlace_16 (by decide) ?_
      exact x_iret hx hb hr hlocks S rfl h dX5_hasPlace_17
    · replace h := h.2 c9
      refine lv_iconst (v := 1) hx hb dX5_hasPlace_12 (by decide) ?_
      refine lv_goto (tgt := 17) hx hb dX5_hasPlace_13 (by decide) ?_
      exact x_iret hx hb hr hlocks S rfl h dX5_hasPlace_17
/-! X5_lowestBits_5 -/
def wp_X5_lowestBits_5 (v1 : Int64) (M : Mem) (Q : Int64 → Mem → Prop) : Prop :=
  ((((M.1 5 2) : Int32).toInt < 0 ∨ 2 < ((M.1 5 2) : Int32).toInt → Q v1 M) ∧ (((M.1 5 2) : Int32).toInt = 0 → Q v1.toInt32.toInt8.toInt32.toInt64 M) ∧ (((M.1 5 2) : Int32).toInt = 1 → Q v1.toInt32.toInt16.toInt32.toInt64 M) ∧ (((M.1 5 2) : Int32).toInt = 2 → Q v1.toInt32.toInt64 M))
theorem wp_X5_lowestBits_5_mono {v1 : Int64} {M : Mem} {Q Q' : Int64 → Mem → Prop} (hQ : ∀ (r : Int64) (M : Mem), Q r M → Q' r M) (h : wp_X5_lowestBits_5 v1 M Q) : wp_X5_lowestBits_5 v1 M Q' := by
  unfold wp_X5_lowestBits_5 at h ⊢
  exact ⟨fun c => let h := h.1 c; hQ _ _ h, fun c => let h := h.2.1 c; hQ _ _ h, fun c => let h := h.2.2.1 c; hQ _ _ h, fun c => let h := h.2.2.2 c; hQ _ _ h⟩
abbrev rm_X5_lowestBits_5 : Jvm.Room := { frames := 1, cells := 0, slots := 0, locals := 14 }
set_option maxHeartbeats 4000000 in
set_option maxRecDepth 100000 in
theorem ct_X5_lowestBits_5 (l : Launch) (D : va_G) (cy : Nat → ClassId) (ad : Nat → Nat) (B : Nat → Prop) (v1 : Int64) (M : Mem) (Q : Int64 → Mem → Prop) (h : wp_X5_lowestBits_5 v1 M Q) : CTl l D cy (wX ad cy) B yX5_lowestBits wsX5_lowestBits rm_X5_lowestBits_5 [.ref (ad 5), .long v1] M Q := by
  intro sz
  refine Met.ofW (cc := cX5_lowestBits) (maxL := 3) (ret := some .long) (by decide) rfl ?_
  intro p e s m args below meth c s₁ Bd hml hv
  obtain ⟨hargs, hsz, hP, hK, hD⟩ := hv
  subst hsz
  have hx := Bd.exec
  have hb := Bd.bytes
  have hr := Bd.returns
  have hts := atoms_spec (ws := wsX5_lowestBits) Bd.pre
  have hown : s.vm.findClass RX5 = some m.cls := findClass_of_methodNamed Bd.named
  have hlocks := Bd.notSynchronized
  have hC5 : xC wsX5_lowestBits 5 RX5 TX5 4 := ⟨by decide +kernel, rfl⟩
  have hl := lv_entry ([.ref (ad 5), .long v1]) (n := 3) (Nat.le_of_ble_eq_true rfl)
  subst hargs
  rw [lg_entry_eq]
  generalize (lg_sl ([.ref (ad 5), .long v1]) ++ List.replicate (3 - (lg_sl ([.ref (ad 5), .long v1])).length) Slot.unset).toArray = ls at hl ⊢
  have hl : lv_has ls 3 [(0, .ref (ad 5)), (1, .long v1)] := hl
  have S : xS D (wX ad cy) B s.heap s.heap [] M := ⟨hP, hD, va_S.rf⟩
  unfold wp_X5_lowestBits_5 at h
  refine lv_aload_n hx hb dX5_lowestBits_0 rfl (lv_at hl 0 rfl) ?_
  refine x_getI hx hb hts (hC5) hown hK S 2 (by decide) xf_5_2 (index := 19) (hts _ (List.mem_of_getElem? (i := 1) rfl)) dX5_lowestBits_1 ?_
  by_cases hlo : ((M.1 5 2) : Int32).toInt < 0
  · refine lv_tableOut (tgt := 46) hx hb dX5_lowestBits_4 (Or.inl hlo) (by decide) ?_
    replace h := h.1 (Or.inl hlo)
    refine lv_lload_n hx hb dX5_lowestBits_46 rfl (lv_at hl 1 rfl) ?_
    exact x_lret hx hb hr hlocks S h dX5_lowestBits_47
  by_cases hhi : 2 < ((M.1 5 2) : Int32).toInt
  · refine lv_tableOut (tgt := 46) hx hb dX5_lowestBits_4 (Or.inr hhi) (by decide) ?_
    replace h := h.1 (Or.inr hhi)
    refine lv_lload_n hx hb dX5_lowestBits_46 rfl (lv_at hl 1 rfl) ?_
    exact x_lret hx hb hr hlocks S h dX5_lowestBits_47
  replace h := h.2
  have hk : ((M.1 5 2) : Int32).toInt = 0 ∨ ((M.1 5 2) : Int32).toInt = 1 ∨ ((M.1 5 2) : Int32).toInt = 2 := by omega
  rcases hk with hk | hk | hk
  · refine lv_tableIn (off := 28) (tgt := 32) hx hb dX5_lowestBits_4 hlo hhi (by rw [hk]; rfl) (by decide) ?_
    replace h := h.1 hk
    refine lv_lload_n hx hb dX5_lowestBits_32 rfl (lv_at hl 1 rfl) ?_
    refine lv_l2i (v := v1.toInt32) hx hb dX5_lowestBits_33 rfl ?_
    refine lv_i2b (v := v1.toInt32.toInt8.toInt32) hx hb dX5_lowestBits_34 rfl ?_
    refine lv_i2l (v := v1.toInt32.toInt8.toInt32.toInt64) hx hb dX5_lowestBits_35 rfl ?_
    exact x_lret hx hb hr hlocks S h dX5_lowestBits_36
  · refine lv_tableIn (off := 33) (tgt := 37) hx hb dX5_lowestBits_4 hlo hhi (by rw [hk]; rfl) (by decide) ?_
    replace h := h.2.1 hk
    refine lv_lload_n hx hb dX5_lowestBits_37 rfl (lv_at hl 1 rfl) ?_
    refine lv_l2i (v := v1.toInt32) hx hb dX5_lowestBits_38 rfl ?_
    refine lv_i2s (v := v1.toInt32.toInt16.toInt32) hx hb dX5_lowestBits_39 rfl ?_
    refine lv_i2l (v := v1.toInt32.toInt16.toInt32.toInt64) hx hb dX5_lowestBits_40 rfl ?_
    exact x_lret hx hb hr hlocks S h dX5_lowestBits_41
  · refine lv_tableIn (off := 38) (tgt := 42) hx hb dX5_lowestBits_4 hlo hhi (by rw [hk]; rfl) (by decide) ?_
    replace h := h.2.2 hk
    refine lv_lload_n hx hb dX5_lowestBits_42 rfl (lv_at hl 1 rfl) ?_
    refine lv_l2i (v := v1.toInt32) hx hb dX5_lowestBits_43 rfl ?_
    refine lv_i2l (v := v1.toInt32.toInt64) hx hb dX5_lowestBits_44 rfl ?_
    exact x_lret hx hb hr hlocks S h dX5_lowestBits_45
/-! X7_put -/
def wp_X7_put (v1 : Int32) (v2 : Int32) (v3 : Int64) (M : Mem) (Q : Int32 → Mem → Prop) : Prop :=
  wp_X7_isSheet v1 M (fun r1 M1 => ((¬ r1 = 0 → (vp_in v1 4 ∧ (v1.toNatClampNeg = 0 → (((M1.1 2 1) = 0 → wp_X5_hasPlace_2 v2 M1 (fun r2 M2 => ((¬ r2 = 0 → wp_X5_lowestBits_2 v3 M2 (fun r3 M3 => (vp_in v2 20 ∧ Q 1 (upJ M3 6 v2.toNatClampNeg r3)))) ∧ (r2 = 0 → wp_X7_found (-12) M2 (fun r4 M4 => Q r4 M4))))) ∧ (¬ (M1.1 2 1) = 0 → wp_X7_found (-11) M1 (fun r5 M5 => Q r5 M5)))) ∧ (v1.toNatClampNeg = 1 → (((M1.1 3 1) = 0 → wp_X5_hasPlace_3 v2 M1 (fun r6 M6 => ((¬ r6 = 0 → wp_X5_lowestBits_3 v3 M6 (fun r7 M7 => (vp_in v2 20 ∧ Q 1 (upJ M7 7 v2.toNatClampNeg r7)))) ∧ (r6 = 0 → wp_X7_found (-12) M6 (fun r8 M8 => Q r8 M8))))) ∧ (¬ (M1.1 3 1) = 0 → wp_X7_found (-11) M1 (fun r9 M9 => Q r9 M9)))) ∧ (v1.toNatClampNeg = 2 → (((M1.1 4 1) = 0 → wp_X5_hasPlace_4 v2 M1 (fun r10 M10 => ((¬ r10 = 0 → wp_X5_lowestBits_4 v3 M10 (fun r11 M11 => (vp_in v2 20 ∧ Q 1 (upJ M11 8 v2.toNatClampNeg r11)))) ∧ (r10 = 0 → wp_X7_found (-12) M10 (fun r12 M12 => Q r12 M12))))) ∧ (¬ (M1.1 4 1) = 0 → wp_X7_found (-11) M1 (fun r13 M13 => Q r13 M13)))) ∧ (v1.toNatClampNeg = 3 → (((M1.1 5 1) = 0 → wp_X5_hasPlace_5 v2 M1 (fun r14 M14 => ((¬ r14 = 0 → wp_X5_lowestBits_5 v3 M14 (fun r15 M15 => (vp_in v2 20 ∧ Q 1 (upJ M15 9 v2.toNatClampNeg r15)))) ∧ (r14 = 0 → wp_X7_found (-12) M14 (fun r16 M16 => Q r16 M16))))) ∧ (¬ (M1.1 5 1) = 0 → wp_X7_found (-11) M1 (fun r17 M17 => Q r17 M17)))))) ∧ (r1 = 0 → wp_X7_found (-12) M1 (fun r18 M18 => Q r18 M18))))
theorem wp_X7_put_mono {v1 : Int32} {v2 : Int32} {v3 : Int64} {M : Mem} {Q Q' : Int32 → Mem → Prop} (hQ : ∀ (r : Int32) (M : Mem), Q r M → Q' r M) (h : wp_X7_put v1 v2 v3 M Q) : wp_X7_put v1 v2 v3 M Q' := by
  unfold wp_X7_put at h ⊢
  exact wp_X7_isSheet_mono (fun r1 M1 h => ⟨fun c => let h := h.1 c; ⟨h.1, let h := h.2; ⟨fun c => let h := h.1 c; ⟨fun c => let h := h.1 c; wp_X5_hasPlace_2_mono (fun r2 M2 h => ⟨fun c => let h := h.1 c; wp_X5_lowestBits_2_mono (fun r3 M3 h => ⟨h.1, let h := h.2; hQ _ _ h⟩) h, fun c => let h := h.2 c; wp_X7_found_mono (fun r4 M4 h => hQ _ _ h) h⟩) h, fun c => let h := h.2 c; wp_X7_found_mono (fun r5 M5 h => hQ _ _ h) h⟩, fun c => let h := h.2.1 c; ⟨fun c => let h := h.1 c; wp_X5_hasPlace_3_mono (fun r6 M6 h => ⟨fun c => let h := h.1 c; wp_X5_lowestBits_3_mono (fun r7 M7 h => ⟨h.1, let h := h.2; hQ _ _ h⟩) h, fun c => let h := h.2 c; wp_X7_found_mono (fun r8 M8 h => hQ _ _ h) h⟩) h, fun c => let h := h.2 c; wp_X7_found_mono (fun r9 M9 h => hQ _ _ h) h⟩, fun c => let h := h.2.2.1 c; ⟨fun c => let h := h.1 c; wp_X5_hasPlace_4_mono (fun r10 M10 h => ⟨fun c => let h := h.1 c; wp_X5_lowestBits_4_mono (fun r11 M11 h => ⟨h.1, let h := h.2; hQ _ _ h⟩) h, fun c => let h := h.2 c; wp_X7_found_mono (fun r12 M12 h => hQ _ _ h) h⟩) h, fun c => let h := h.2 c; wp_X7_found_mono (fun r13 M13 h => hQ _ _ h) h⟩, fun c => let h := h.2.2.2 c; ⟨fun c => let h := h.1 c; wp_X5_hasPlace_5_mono (fun r14 M14 h => ⟨fun c => let h := h.1 c; wp_X5_lowestBits_5_mono (fun r15 M15 h => ⟨h.1, let h := h.2; hQ _ _ h⟩) h, fun c => let h := h.2 c; wp_X7_found_mono (fun r16 M16 h => hQ _ _ h) h⟩) h, fun c => let h := h.2 c; wp_X7_found_mono (fun r17 M17 h => hQ _ _ h) h⟩⟩⟩, fun c => let h := h.2 c; wp_X7_found_mono (fun r18 M18 h => hQ _ _ h) h⟩) h
abbrev rm_X7_put : Jvm.Room := { frames := 2, cells := 0, slots := 0, locals := 36 }
set_option maxHeartbeats 4000000 in
set_option maxRecDepth 100000 in
theorem ct_X7_put (l : Launch) (D : va_G) (cy : Nat → ClassId) (ad : Nat → Nat) (B : Nat → Prop) (v1 : Int32) (v2 : Int32) (v3 : Int64) (M : Mem) (Q : Int32 → Mem → Prop) (h : wp_X7_put v1 v2 v3 M Q) : CTi l D cy (wX ad cy) B yX7_put wsX7_put rm_X7_put [.ref (ad 0), .int v1, .int v2, .long v3] M Q := by
  intro sz
  refine Met.ofW (cc := cX7_put) (maxL := 6) (ret := some .int) (by decide) rfl ?_
  intro p e s m args below meth c s₁ Bd hml hv
  obtain ⟨hargs, hsz, hP, hK, hD⟩ := hv
  subst hsz
  have hx := Bd.exec
  have hb := Bd.bytes
  have hr := Bd.returns
  have hts := atoms_spec (ws := wsX7_put) Bd.pre
  have hown : s.vm.findClass RX7 = some m.cls := findClass_of_methodNamed Bd.named
  have hlocks := Bd.notSynchronized
  have hC5 : xC wsX7_put 5 RX5 TX5 4 := ⟨by decide +kernel, rfl⟩
  have hC7 : xC wsX7_put 7 RX7 TX7 11 := ⟨by decide +kernel, rfl⟩
  have hl := lv_entry ([.ref (ad 0), .int v1, .int v2, .long v3]) (n := 6) (Nat.le_of_ble_eq_true rfl)
  subst hargs
  rw [lg_entry_eq]
  generalize (lg_sl ([.ref (ad 0), .int v1, .int v2, .long v3]) ++ List.replicate (6 - (lg_sl ([.ref (ad 0), .int v1, .int v2, .long v3])).length) Slot.unset).toArray = ls at hl ⊢
  have hl : lv_has ls 6 [(0, .ref (ad 0)), (1, .int v1), (2, .int v2), (3, .long v3)] := hl
  have S : xS D (wX ad cy) B s.heap s.heap [] M := ⟨hP, hD, va_S.rf⟩
  unfold wp_X7_put at h
  refine lv_iload_n hx hb dX7_put_0 rfl (lv_at hl 1 rfl) ?_
  refine x_callSi (As := [.int v1]) ⟨hx, hb, hml, hown, hts⟩ hK S (ct_X7_isSheet l D cy ad B _ _ _ h) (va_cwS 1 hts gX7_put_X7_isSheet rfl rfl rfl (by decide +kernel) ⟨Nat.le_of_ble_eq_true rfl, Nat.le_of_ble_eq_true rfl⟩) rfl hl.1 rfl (Nat.le_of_ble_eq_true rfl) dX7_put_1 ⟨Nat.zero_le _, Nat.zero_le _⟩ (fun r1 M1 H locs h S => ?_)
  refine lv_if_ne (tgt := 14) hx hb dX7_put_4 (by decide) (fun c4 => ?_) (fun c4 => ?_)
  · replace h := h.1 c4
    refine lv_aload_n hx hb dX7_put_14 rfl (lv_at hl 0 rfl) ?_
    refine x_getR hx hb hts (hC7) hown hK S 0 (by decide) xf_0_0 (index := 11) (hts _ (List.mem_of_getElem? (i := 1) rfl)) dX7_put_15 ?_
    refine lv_iload_n hx hb dX7_put_18 rfl (lv_at hl 1 rfl) ?_
    have hk := x_in4 h.1
    have hin := h.1
    replace h := h.2
    rcases hk with hk | hk | hk | hk
    · replace h := h.1 hk
      refine x_aald hx hb hK S xa_1 hin hk rfl dX7_put_19 ?_
      refine lv_astore (lv' := [(5, .ref (ad 2)), (0, .ref (ad 0)), (1, .int v1), (2, .int v2), (3, .long v3)]) hx hb dX7_put_20 hl (by decide) rfl (fun ls hl => ?_)
      refine lv_aload hx hb dX7_put_22 (lv_at hl 0 rfl) ?_
      refine x_getI hx hb hts (hC5) hown hK S 1 (by decide) xf_2_1 (index := 77) (hts _ (List.mem_of_getElem? (i := 2) rfl)) dX7_put_24 ?_
      refine lv_if_eq (tgt := 37) hx hb dX7_put_27 (by decide) (fun c27 => ?_) (fun c27 => ?_)
      · replace h := h.1 c27
        refine lv_aload hx hb dX7_put_37 (lv_at hl 0 rfl) ?_
        refine lv_iload_n hx hb dX7_put_39 rfl (lv_at hl 3 rfl) ?_
        refine x_callVi (As := [.int v2]) ⟨hx, hb, hml, hown, hts⟩ hK S (ct_X5_hasPlace_2 l D cy ad B _ _ _ h) xo_2 rfl (cwV 1 hts gX7_put_X5_hasPlace rfl rfl rfl (by decide +kernel) ⟨Nat.le_of_ble_eq_true rfl, Nat.le_of_ble_eq_true rfl⟩) rfl hl.1 rfl (Nat.le_of_ble_eq_true rfl) dX7_put_40 ⟨Nat.zero_le _, Nat.zero_le _⟩ (fun r2 M2 H locs h S => ?_)
        refine lv_if_ne (tgt := 53) hx hb dX7_put_43 (by decide) (fun c43 => ?_) (fun c43 => ?_)
        · replace h := h.1 c43
          refine lv_aload hx hb dX7_put_53 (lv_at hl 0 rfl) ?_
          refine x_getR hx hb hts (hC5) hown hK S 0 (by decide) xf_2_0 (index := 84) (hts _ (List.mem_of_getElem? (i := 3) rfl)) dX7_put_55 ?_
          refine lv_iload_n hx hb dX7_put_58 rfl (lv_at hl 3 rfl) ?_
          refine lv_aload hx hb dX7_put_59 (lv_at hl 0 rfl) ?_
          refine lv_lload_n hx hb dX7_put_61 rfl (lv_at hl 4 rfl) ?_
          refine x_callVl (As := [.long v3]) ⟨hx, hb, hml, hown, hts⟩ hK S (ct_X5_lowestBits_2 l D cy ad B _ _ _ h) xo_2 rfl (cwV 1 hts gX7_put_X5_lowestBits rfl rfl rfl (by decide +kernel) ⟨Nat.le_of_ble_eq_true rfl, Nat.le_of_ble_eq_true rfl⟩) rfl hl.1 rfl (Nat.le_of_ble_eq_true rfl) dX7_put_62 ⟨Nat.zero_le _, Nat.zero_le _⟩ (fun r3 M3 H locs h S => ?_)
          refine x_last hx hb hK S xa_6 h.1 dX7_put_65 (fun H locs S => ?_)
          replace h := h.2
          refine lv_iconst (v := 1) hx hb dX7_put_66 (by decide) ?_
          exact x_iret hx hb hr hlocks S rfl h dX7_put_67
        · replace h := h.2 c43
          refine lv_aload_n hx hb dX7_put_46 rfl (lv_at hl 1 rfl) ?_
          refine lv_bipush (v := (-12)) hx hb dX7_put_47 (by decide) ?_
          refine x_callVi (As := [.int (-12)]) ⟨hx, hb, hml, hown, hts⟩ hK S (ct_X7_found l D cy ad B _ _ _ h) xo_0 rfl (cwV 1 hts gX7_put_X7_found rfl rfl rfl (by decide +kernel) ⟨Nat.le_of_ble_eq_true rfl, Nat.le_of_ble_eq_true rfl⟩) rfl hl.1 rfl (Nat.le_of_ble_eq_true rfl) dX7_put_49 ⟨Nat.zero_le _, Nat.zero_le _⟩ (fun r4 M4 H locs h S => ?_)
          exact x_iret hx hb hr hlocks S rfl h dX7_put_52
      · replace h := h.2 c27
        refine lv_aload_n hx hb dX7_put_30 rfl (lv_at hl 1 rfl) ?_
        refine lv_bipush (v := (-11)) hx hb dX7_put_31 (by decide) ?_
        refine x_callVi (As := [.int (-11)]) ⟨hx, hb, hml, hown, hts⟩ hK S (ct_X7_found l D cy ad B _ _ _ h) xo_0 rfl (cwV 1 hts gX7_put_X7_found rfl rfl rfl (by decide +kernel) ⟨Nat.le_of_ble_eq_true rfl, Nat.le_of_ble_eq_true rfl⟩) rfl hl.1 rfl (Nat.le_of_ble_eq_true rfl) dX7_put_33 ⟨Nat.zero_le _, Nat.zero_le _⟩ (fun r5 M5 H locs h S => ?_)
        exact x_iret hx hb hr hlocks S rfl h dX7_put_36
    · replace h := h.2.1 hk
      refine x_aald hx hb hK S xa_1 hin hk rfl dX7_put_19 ?_
      refine lv_astore (lv' := [(5, .ref (ad 3)), (0, .ref (ad 0)), (1, .int v1), (2, .int v2), (3, .long v3)]) hx hb dX7_put_20 hl (by decide) rfl (fun ls hl => ?_)
      refine lv_aload hx hb dX7_put_22 (lv_at hl 0 rfl) ?_
      refine x_getI hx hb hts (hC5) hown hK S 1 (by decide) xf_3_1 (index := 77) (hts _ (List.mem_of_getElem? (i := 2) rfl)) dX7_put_24 ?_
      refine lv_if_eq (tgt := 37) hx hb dX7_put_27 (by decide) (fun c27 => ?_) (fun c27 => ?_)
      · replace h := h.1 c27
        refine lv_aload hx hb dX7_put_37 (lv_at hl 0 rfl) ?_
        refine lv_iload_n hx hb dX7_put_39 rfl (lv_at hl 3 rfl) ?_
        refine x_callVi (As := [.int v2]) ⟨hx, hb, hml, hown, hts⟩ hK S (ct_X5_hasPlace_3 l D cy ad B _ _ _ h) xo_3 rfl (cwV 1 hts gX7_put_X5_hasPlace rfl rfl rfl (by decide +kernel) ⟨Nat.le_of_ble_eq_true rfl, Nat.le_of_ble_eq_true rfl⟩) rfl hl.1 rfl (Nat.le_of_ble_eq_true rfl) dX7_put_40 ⟨Nat.zero_le _, Nat.zero_le _⟩ (fun r6 M6 H locs h S => ?_)
        refine lv_if_ne (tgt := 53) hx hb dX7_put_43 (by decide) (fun c43 => ?_) (fun c43 => ?_)
        · replace h := h.1 c43
          refine lv_aload hx hb dX7_put_53 (lv_at hl 0 rfl) ?_
          refine x_getR hx hb hts (hC5) hown hK S 0 (by decide) xf_3_0 (index := 84) (hts _ (List.mem_of_getElem? (i := 3) rfl)) dX7_put_55 ?_
          refine lv_iload_n hx hb dX7_put_58 rfl (lv_at hl 3 rfl) ?_
          refine lv_aload hx hb dX7_put_59 (lv_at hl 0 rfl) ?_
          refine lv_lload_n hx hb dX7_put_61 rfl (lv_at hl 4 rfl) ?_
          refine x_callVl (As := [.long v3]) ⟨hx, hb, hml, hown, hts⟩ hK S (ct_X5_lowestBits_3 l D cy ad B _ _ _ h) xo_3 rfl (cwV 1 hts gX7_put_X5_lowestBits rfl rfl rfl (by decide +kernel) ⟨Nat.le_of_ble_eq_true rfl, Nat.le_of_ble_eq_true rfl⟩) rfl hl.1 rfl (Nat.le_of_ble_eq_true rfl) dX7_put_62 ⟨Nat.zero_le _, Nat.zero_le _⟩ (fun r7 M7 H locs h S => ?_)
          refine x_last hx hb hK S xa_7 h.1 dX7_put_65 (fun H locs S => ?_)
          replace h := h.2
          refine lv_iconst (v := 1) hx hb dX7_put_66 (by decide) ?_
          exact x_iret hx hb hr hlocks S rfl h dX7_put_67
        · replace h := h.2 c43
          refine lv_aload_n hx hb dX7_put_46 rfl (lv_at hl 1 rfl) ?_
          refine lv_bipush (v := (-12)) hx hb dX7_put_47 (by decide) ?_
          refine x_callVi (As := [.int (-12)]) ⟨hx, hb, hml, hown, hts⟩ hK S (ct_X7_found l D cy ad B _ _ _ h) xo_0 rfl (cwV 1 hts gX7_put_X7_found rfl rfl rfl (by decide +kernel) ⟨Nat.le_of_ble_eq_true rfl, Nat.le_of_ble_eq_true rfl⟩) rfl hl.1 rfl (Nat.le_of_ble_eq_true rfl) dX7_put_49 ⟨Nat.zero_le _, Nat.zero_le _⟩ (fun r8 M8 H locs h S => ?_)
          exact x_iret hx hb hr hlocks S rfl h dX7_put_52
      · replace h := h.2 c27
        refine lv_aload_n hx hb dX7_put_30 rfl (lv_at hl 1 rfl) ?_
        refine lv_bipush (v := (-11)) hx hb dX7_put_31 (by decide) ?_
        refine x_callVi (As := [.int (-11)]) ⟨hx, hb, hml, hown, hts⟩ hK S (ct_X7_found l D cy ad B _ _ _ h) xo_0 rfl (cwV 1 hts gX7_put_X7_found rfl rfl rfl (by decide +kernel) ⟨Nat.le_of_ble_eq_true rfl, Nat.le_of_ble_eq_true rfl⟩) rfl hl.1 rfl (Nat.le_of_ble_eq_true rfl) dX7_put_33 ⟨Nat.zero_le _, Nat.zero_le _⟩ (fun r9 M9 H locs h S => ?_)
        exact x_iret hx hb hr hlocks S rfl h dX7_put_36
    · replace h := h.2.2.1 hk
      refine x_aald hx hb hK S xa_1 hin hk rfl dX7_put_19 ?_
      refine lv_astore (lv' := [(5, .ref (ad 4)), (0, .ref (ad 0)), (1, .int v1), (2, .int v2), (3, .long v3)]) hx hb dX7_put_20 hl (by decide) rfl (fun ls hl => ?_)
      refine lv_aload hx hb dX7_put_22 (lv_at hl 0 rfl) ?_
      refine x_getI hx hb hts (hC5) hown hK S 1 (by decide) xf_4_1 (index := 77) (hts _ (List.mem_of_getElem? (i := 2) rfl)) dX7_put_24 ?_
      refine lv_if_eq (tgt := 37) hx hb dX7_put_27 (by decide) (fun c27 => ?_) (fun c27 => ?_)
      · replace h := h.1 c27
        refine lv_aload hx hb dX7_put_37 (lv_at hl 0 rfl) ?_
        refine lv_iload_n hx hb dX7_put_39 rfl (lv_at hl 3 rfl) ?_
        refine x_callVi (As := [.int v2]) ⟨hx, hb, hml, hown, hts⟩ hK S (ct_X5_hasPlace_4 l D cy ad B _ _ _ h) xo_4 rfl (cwV 1 hts gX7_put_X5_hasPlace rfl rfl rfl (by decide +kernel) ⟨Nat.le_of_ble_eq_true rfl, Nat.le_of_ble_eq_true rfl⟩) rfl hl.1 rfl (Nat.le_of_ble_eq_true rfl) dX7_put_40 ⟨Nat.zero_le _, Nat.zero_le _⟩ (fun r10 M10 H locs h S => ?_)
        refine lv_if_ne (tgt := 53) hx hb dX7_put_43 (by decide) (fun c43 => ?_) (fun c43 => ?_)
        · replace h := h.1 c43
          refine lv_aload hx hb dX7_put_53 (lv_at hl 0 rfl) ?_
          refine x_getR hx hb hts (hC5) hown hK S 0 (by decide) xf_4_0 (index := 84) (hts _ (List.mem_of_getElem? (i := 3) rfl)) dX7_put_55 ?_
          refine lv_iload_n hx hb dX7_put_58 rfl (lv_at hl 3 rfl) ?_
          refine lv_aload hx hb dX7_put_59 (lv_at hl 0 rfl) ?_
          refine lv_lload_n hx hb dX7_put_61 rfl (lv_at hl 4 rfl) ?_
          refine x_callVl (As := [.long v3]) ⟨hx, hb, hml, hown, hts⟩ hK S (ct_X5_lowestBits_4 l D cy ad B _ _ _ h) xo_4 rfl (cwV 1 hts gX7_put_X5_lowestBits rfl rfl rfl (by decide +kernel) ⟨Nat.le_of_ble_eq_true rfl, Nat.le_of_ble_eq_true rfl⟩) rfl hl.1 rfl (Nat.le_of_ble_eq_true rfl) dX7_put_62 ⟨Nat.zero_le _, Nat.zero_le _⟩ (fun r11 M11 H locs h S => ?_)
          refine x_last hx hb hK S xa_8 h.1 dX7_put_65 (fun H locs S => ?_)
          replace h := h.2
          refine lv_iconst (v := 1) hx hb dX7_put_66 (by decide) ?_
          exact x_iret hx hb hr hlocks S rfl h dX7_put_67
        · replace h := h.2 c43
          refine lv_aload_n hx hb dX7_put_46 rfl (lv_at hl 1 rfl) ?_
          refine lv_bipush (v := (-12)) hx hb dX7_put_47 (by decide) ?_
          refine x_callVi (As := [.int (-12)]) ⟨hx, hb, hml, hown, hts⟩ hK S (ct_X7_found l D cy ad B _ _ _ h) xo_0 rfl (cwV 1 hts gX7_put_X7_found rfl rfl rfl (by decide +kernel) ⟨Nat.le_of_ble_eq_true rfl, Nat.le_of_ble_eq_true rfl⟩) rfl hl.1 rfl (Nat.le_of_ble_eq_true rfl) dX7_put_49 ⟨Nat.zero_le _, Nat.zero_le _⟩ (fun r12 M12 H locs h S => ?_)
          exact x_iret hx hb hr hlocks S rfl h dX7_put_52
      · replace h := h.2 c27
        refine lv_aload_n hx hb dX7_put_30 rfl (lv_at hl 1 rfl) ?_
        refine lv_bipush (v := (-11)) hx hb dX7_put_31 (by decide) ?_
        refine x_callVi (As := [.int (-11)]) ⟨hx, hb, hml, hown, hts⟩ hK S (ct_X7_found l D cy ad B _ _ _ h) xo_0 rfl (cwV 1 hts gX7_put_X7_found rfl rfl rfl (by decide +kernel) ⟨Nat.le_of_ble_eq_true rfl, Nat.le_of_ble_eq_true rfl⟩) rfl hl.1 rfl (Nat.le_of_ble_eq_true rfl) dX7_put_33 ⟨Nat.zero_le _, Nat.zero_le _⟩ (fun r13 M13 H locs h S => ?_)
        exact x_iret hx hb hr hlocks S rfl h dX7_put_36
    · replace h := h.2.2.2 hk
      refine x_aald hx hb hK S xa_1 hin hk rfl dX7_put_19 ?_
      refine lv_astore (lv' := [(5, .ref (ad 5)), (0, .ref (ad 0)), (1, .int v1), (2, .int v2), (3, .long v3)]) hx hb dX7_put_20 hl (by decide) rfl (fun ls hl => ?_)
      refine lv_aload hx hb dX7_put_22 (lv_at hl 0 rfl) ?_
      refine x_getI hx hb hts (hC5) hown hK S 1 (by decide) xf_5_1 (index := 77) (hts _ (List.mem_of_getElem? (i := 2) rfl)) dX7_put_24 ?_
      refine lv_if_eq (tgt := 37) hx hb dX7_put_27 (by decide) (fun c27 => ?_) (fun c27 => ?_)
      · replace h := h.1 c27
        refine lv_aload hx hb dX7_put_37 (lv_at hl 0 rfl) ?_
        refine lv_iload_n hx hb dX7_put_39 rfl (lv_at hl 3 rfl) ?_
        refine x_callVi (As := [.int v2]) ⟨hx, hb, hml, hown, hts⟩ hK S (ct_X5_hasPlace_5 l D cy ad B _ _ _ h) xo_5 rfl (cwV 1 hts gX7_put_X5_hasPlace rfl rfl rfl (by decide +kernel) ⟨Nat.le_of_ble_eq_true rfl, Nat.le_of_ble_eq_true rfl⟩) rfl hl.1 rfl (Nat.le_of_ble_eq_true rfl) dX7_put_40 ⟨Nat.zero_le _, Nat.zero_le _⟩ (fun r14 M14 H locs h S => ?_)
        refine lv_if_ne (tgt := 53) hx hb dX7_put_43 (by decide) (fun c43 => ?_) (fun c43 => ?_)
        · replace h := h.1 c43
          refine lv_aload hx hb dX7_put_53 (lv_at hl 0 rfl) ?_
          refine x_getR hx hb hts (hC5) hown hK S 0 (by decide) xf_5_0 (index := 84) (hts _ (List.mem_of_getElem? (i := 3) rfl)) dX7_put_55 ?_
          refine lv_iload_n hx hb dX7_put_58 rfl (lv_at hl 3 rfl) ?_
          refine lv_aload hx hb dX7_put_59 (lv_at hl 0 rfl) ?_
          refine lv_lload_n hx hb dX7_put_61 rfl (lv_at hl 4 rfl) ?_
          refine x_callVl (As := [.long v3]) ⟨hx, hb, hml, hown, hts⟩ hK S (ct_X5_lowestBits_5 l D cy ad B _ _ _ h) xo_5 rfl (cwV 1 hts gX7_put_X5_lowestBits rfl rfl rfl (by decide +kernel) ⟨Nat.le_of_ble_eq_true rfl, Nat.le_of_ble_eq_true rfl⟩) rfl hl.1 rfl (Nat.le_of_ble_eq_true rfl) dX7_put_62 ⟨Nat.zero_le _, Nat.zero_le _⟩ (fun r15 M15 H locs h S => ?_)
          refine x_last hx hb hK S xa_9 h.1 dX7_put_65 (fun H locs S => ?_)
          replace h := h.2
          refine lv_iconst (v := 1) hx hb dX7_put_66 (by decide) ?_
          exact x_iret hx hb hr hlocks S rfl h dX7_put_67
        · replace h := h.2 c43
          refine lv_aload_n hx hb dX7_put_46 rfl (lv_at hl 1 rfl) ?_
          refine lv_bipush (v := (-12)) hx hb dX7_put_47 (by decide) ?_
          refine x_callVi (As := [.int (-12)]) ⟨hx, hb, hml, hown, hts⟩ hK S (ct_X7_found l D cy ad B _ _ _ h) xo_0 rfl (cwV 1 hts gX7_put_X7_found rfl rfl rfl (by decide +kernel) ⟨Nat.le_of_ble_eq_true rfl, Nat.le_of_ble_eq_true rfl⟩) rfl hl.1 rfl (Nat.le_of_ble_eq_true rfl) dX7_put_49 ⟨Nat.zero_le _, Nat.zero_le _⟩ (fun r16 M16 H locs h S => ?_)
          exact x_iret hx hb hr hlocks S rfl h dX7_put_52
      · replace h := h.2 c27
        refine lv_aload_n hx hb dX7_put_30 rfl (lv_at hl 1 rfl) ?_
        refine lv_bipush (v := (-11)) hx hb dX7_put_31 (by decide) ?_
        refine x_callVi (As := [.int (-11)]) ⟨hx, hb, hml, hown, hts⟩ hK S (ct_X7_found l D cy ad B _ _ _ h) xo_0 rfl (cwV 1 hts gX7_put_X7_found rfl rfl rfl (by decide +kernel) ⟨Nat.le_of_ble_eq_true rfl, Nat.le_of_ble_eq_true rfl⟩) rfl hl.1 rfl (Nat.le_of_ble_eq_true rfl) dX7_put_33 ⟨Nat.zero_le _, Nat.zero_le _⟩ (fun r17 M17 H locs h S => ?_)
        exact x_iret hx hb hr hlocks S rfl h dX7_put_36
  · replace h := h.2 c4
    refine lv_aload_n hx hb dX7_put_7 rfl (lv_at hl 0 rfl) ?_
    refine lv_bipush (v := (-12)) hx hb dX7_put_8 (by decide) ?_
    refine x_callVi (As := [.int (-12)]) ⟨hx, hb, hml, hown, hts⟩ hK S (ct_X7_found l D cy ad B _ _ _ h) xo_0 rfl (cwV 1 hts gX7_put_X7_found rfl rfl rfl (by decide +kernel) ⟨Nat.le_of_ble_eq_true rfl, Nat.le_of_ble_eq_true rfl⟩) rfl hl.1 rfl (Nat.le_of_ble_eq_true rfl) dX7_put_10 ⟨Nat.zero_le _, Nat.zero_le _⟩ (fun r18 M18 H locs h S => ?_)
    exact x_iret hx hb hr hlocks S rfl h dX7_put_13
