/-! X8_apart -/
def wp_X8_apart (v1 : Int32) (M : Mem) (Q : Int32 → Mem → Prop) : Prop :=
  ((¬ ((upI M 0 0 0).1 0 8) = 0 → wp_X8_noRank v1 (upI M 0 0 0) (fun r1 M1 => ((r1 = 0 → wp_X8_measure v1 M1 (fun M2 => wp_X8_rankOf (M2.1 0 24) M2 (fun r3 M3 => (vp_in r3 2000 ∧ Q (M3.1 19 r3.toNatClampNeg) M3)))) ∧ (¬ r1 = 0 → Q (-1) M1)))) ∧ (((upI M 0 0 0).1 0 8) = 0 → Q (-3) (upI M 0 0 0)))
theorem wp_X8_apart_mono {v1 : Int32} {M : Mem} {Q Q' : Int32 → Mem → Prop} (hQ : ∀ (r : Int32) (M : Mem), Q r M → Q' r M) (h : wp_X8_apart v1 M Q) : wp_X8_apart v1 M Q' := by
  unfold wp_X8_apart at h ⊢
  exact ⟨fun c => let h := h.1 c; wp_X8_noRank_mono (fun r1 M1 h => ⟨fun c => let h := h.1 c; wp_X8_measure_mono (fun M2 h => wp_X8_rankOf_mono (fun r3 M3 h => ⟨h.1, let h := h.2; hQ _ _ h⟩) h) h, fun c => let h := h.2 c; hQ _ _ h⟩) h, fun c => let h := h.2 c; hQ _ _ h⟩
abbrev rm_X8_apart : Jvm.Room := { frames := 6, cells := 0, slots := 0, locals := 145 }
set_option maxHeartbeats 4000000 in
set_option maxRecDepth 100000 in
theorem ct_X8_apart (l : Launch) (D : va_G) (cy : Nat → ClassId) (ad : Nat → Nat) (B : Nat → Prop) (v1 : Int32) (M : Mem) (Q : Int32 → Mem → Prop) (h : wp_X8_apart v1 M Q) : CTi l D cy (wR ad cy) B yX8_apart wsX8_apart rm_X8_apart [.ref (ad 0), .int v1] M Q := by
  intro sz
  refine Met.ofW (cc := cX8_apart) (maxL := 2) (ret := some .int) (by decide) rfl ?_
  intro p e s m args below meth c s₁ Bd hml hv
  obtain ⟨hargs, hsz, hP, hK, hD⟩ := hv
  subst hsz
  have hx := Bd.exec
  have hb := Bd.bytes
  have hr := Bd.returns
  have hts := atoms_spec (ws := wsX8_apart) Bd.pre
  have hown : s.vm.findClass RX8 = some m.cls := findClass_of_methodNamed Bd.named
  have hlocks := Bd.notSynchronized
  have hC8 : xC wsX8_apart 8 RX8 TX8 34 := ⟨by decide +kernel, rfl⟩
  have hl := lv_entry ([.ref (ad 0), .int v1]) (n := 2) (Nat.le_of_ble_eq_true rfl)
  subst hargs
  rw [lg_entry_eq]
  generalize (lg_sl ([.ref (ad 0), .int v1]) ++ List.replicate (2 - (lg_sl ([.ref (ad 0), .int v1])).length) Slot.unset).toArray = ls at hl ⊢
  have hl : lv_has ls 2 [(0, .ref (ad 0)), (1, .int v1)] := hl
  have S : xS D (wR ad cy) B s.heap s.heap [] M := ⟨hP, hD, va_S.rf⟩
  unfold wp_X8_apart at h
  refine lv_aload_n hx hb dX8_apart_0 rfl (lv_at hl 0 rfl) ?_
  refine lv_iconst (v := 0) hx hb dX8_apart_1 (by decide) ?_
  refine x_putI hx hb hts (hC8) tyX8 tyX8_ok nmX8 hown hK S 0 (by decide) rf_0_0 (index := 74) (hts _ (List.mem_of_getElem? (i := 1) rfl)) rfl rfl rfl dX8_apart_2 (fun H locs S => ?_)
  refine lv_aload_n hx hb dX8_apart_5 rfl (lv_at hl 0 rfl) ?_
  refine x_getI hx hb hts (hC8) hown hK S 8 (by decide) rf_0_8 (index := 151) (hts _ (List.mem_of_getElem? (i := 2) rfl)) dX8_apart_6 ?_
  refine lv_if_ne (tgt := 15) hx hb dX8_apart_9 (by decide) (fun c9 => ?_) (fun c9 => ?_)
  · replace h := h.1 c9
    refine lv_aload_n hx hb dX8_apart_15 rfl (lv_at hl 0 rfl) ?_
    refine lv_iload_n hx hb dX8_apart_16 rfl (lv_at hl 1 rfl) ?_
    refine x_callVi (As := [.int v1]) ⟨hx, hb, hml, hown, hts⟩ hK S (ct_X8_noRank l D cy ad B _ _ _ h) ro_0 rfl (cwV 1 hts gX8_apart_X8_noRank rfl rfl rfl (by decide +kernel) ⟨Nat.le_of_ble_eq_true rfl, Nat.le_of_ble_eq_true rfl⟩) rfl hl.1 rfl (Nat.le_of_ble_eq_true rfl) dX8_apart_17 ⟨Nat.zero_le _, Nat.zero_le _⟩ (fun r1 M1 H locs h S => ?_)
    refine lv_if_eq (tgt := 25) hx hb dX8_apart_20 (by decide) (fun c20 => ?_) (fun c20 => ?_)
    · replace h := h.1 c20
      refine lv_aload_n hx hb dX8_apart_25 rfl (lv_at hl 0 rfl) ?_
      refine lv_iload_n hx hb dX8_apart_26 rfl (lv_at hl 1 rfl) ?_
      refine x_callVv (As := [.int v1]) ⟨hx, hb, hml, hown, hts⟩ hK S (ct_X8_measure l D cy ad B _ _ _ h) ro_0 rfl (cwV 1 hts gX8_apart_X8_measure rfl rfl rfl (by decide +kernel) ⟨Nat.le_of_ble_eq_true rfl, Nat.le_of_ble_eq_true rfl⟩) rfl hl.1 rfl (Nat.le_of_ble_eq_true rfl) dX8_apart_27 ⟨Nat.zero_le _, Nat.zero_le _⟩ (fun M2 H locs h S => ?_)
      refine lv_aload_n hx hb dX8_apart_30 rfl (lv_at hl 0 rfl) ?_
      refine x_getR hx hb hts (hC8) hown hK S 31 (by decide) rf_0_31 (index := 65) (hts _ (List.mem_of_getElem? (i := 3) rfl)) dX8_apart_31 ?_
      refine lv_aload_n hx hb dX8_apart_34 rfl (lv_at hl 0 rfl) ?_
      refine lv_aload_n hx hb dX8_apart_35 rfl (lv_at hl 0 rfl) ?_
      refine x_getI hx hb hts (hC8) hown hK S 24 (by decide) rf_0_24 (index := 145) (hts _ (List.mem_of_getElem? (i := 4) rfl)) dX8_apart_36 ?_
      refine x_callVi (As := [.int (M2.1 0 24)]) ⟨hx, hb, hml, hown, hts⟩ hK S (ct_X8_rankOf l D cy ad B _ _ _ h) ro_0 rfl (cwV 1 hts gX8_apart_X8_rankOf rfl rfl rfl (by decide +kernel) ⟨Nat.le_of_ble_eq_true rfl, Nat.le_of_ble_eq_true rfl⟩) rfl hl.1 rfl (Nat.le_of_ble_eq_true rfl) dX8_apart_39 ⟨Nat.zero_le _, Nat.zero_le _⟩ (fun r3 M3 H locs h S => ?_)
      refine x_iald hx hb hK S ra_19 h.1 dX8_apart_42 ?_
      replace h := h.2
      exact x_iret hx hb hr hlocks S rfl h dX8_apart_43
    · replace h := h.2 c20
      refine lv_iconst (v := (-1)) hx hb dX8_apart_23 (by decide) ?_
      exact x_iret hx hb hr hlocks S rfl h dX8_apart_24
  · replace h := h.2 c9
    refine lv_bipush (v := (-3)) hx hb dX8_apart_12 (by decide) ?_
    exact x_iret hx hb hr hlocks S rfl h dX8_apart_14
/-! X8_way -/
def blk_X8_way_0 (v1 : Int32) (Q : Int32 → Mem → Prop) (P : Nat → Int32 → Int32 → Int32 → Mem → Prop) (v2 : Int32) (v3 : Int32) (v4 : Int32) (M : Mem) : Prop :=
  ((¬ ((upI M 0 0 0).1 0 8) = 0 → wp_X8_noRank v1 (upI M 0 0 0) (fun r1 M1 => ((r1 = 0 → wp_X8_measure v1 M1 (fun M2 => wp_X8_rankOf (M2.1 0 24) M2 (fun r3 M3 => (vp_in r3 2000 ∧ ((0 < (M3.1 19 r3.toNatClampNeg) → P 1 (M3.1 19 r3.toNatClampNeg) 0 0 M3) ∧ (¬ 0 < (M3.1 19 r3.toNatClampNeg) → Q (-9) M3)))))) ∧ (¬ r1 = 0 → Q (-1) M1)))) ∧ (((upI M 0 0 0).1 0 8) = 0 → Q (-3) (upI M 0 0 0)))
theorem blk_X8_way_0_mono {v1 : Int32} {Q Q' : Int32 → Mem → Prop} {P P' : Nat → Int32 → Int32 → Int32 → Mem → Prop} (hQ : ∀ (r : Int32) (M : Mem), Q r M → Q' r M) (hP : ∀ (lab : Nat) (v2 : Int32) (v3 : Int32) (v4 : Int32) (M : Mem), P lab v2 v3 v4 M → P' lab v2 v3 v4 M) (v2 : Int32) (v3 : Int32) (v4 : Int32) (M : Mem) (h : blk_X8_way_0 v1 Q P v2 v3 v4 M) : blk_X8_way_0 v1 Q' P' v2 v3 v4 M := by
  unfold blk_X8_way_0 at h ⊢
  exact ⟨fun c => let h := h.1 c; wp_X8_noRank_mono (fun r1 M1 h => ⟨fun c => let h := h.1 c; wp_X8_measure_mono (fun M2 h => wp_X8_rankOf_mono (fun r3 M3 h => ⟨h.1, let h := h.2; ⟨fun c => let h := h.1 c; hP _ _ _ _ _ h, fun c => let h := h.2 c; hQ _ _ h⟩⟩) h) h, fun c => let h := h.2 c; hQ _ _ h⟩) h, fun c => let h := h.2 c; hQ _ _ h⟩
def blk_X8_way_1 (v1 : Int32) (Q : Int32 → Mem → Prop) (P : Nat → Int32 → Int32 → Int32 → Mem → Prop) (v2 : Int32) (v3 : Int32) (v4 : Int32) (M : Mem) : Prop :=
  (((M.1 0 12) ≤ v3 → Q (-9) M) ∧ (¬ (M.1 0 12) ≤ v3 → wp_X8_comes (M.1 0 24) v3 M (fun r4 M4 => ((r4 = (-9) → P 2 v2 v3 0 M4) ∧ (¬ r4 = (-9) → wp_X8_rankOf (((M4.1 0 24) &&& (((1 : Int32) <<< (v3 &&& 31)) ^^^ ((-1) : Int32))) ||| ((1 : Int32) <<< (r4 &&& 31))) M4 (fun r5 M5 => (vp_in r5 2000 ∧ ((¬ (M5.1 19 r5.toNatClampNeg) = (v2 - 1) → P 2 v2 v3 0 M5) ∧ ((M5.1 19 r5.toNatClampNeg) = (v2 - 1) → Q v3 M5)))))))))
theorem blk_X8_way_1_mono {v1 : Int32} {Q Q' : Int32 → Mem → Prop} {P P' : Nat → Int32 → Int32 → Int32 → Mem → Prop} (hQ : ∀ (r : Int32) (M : Mem), Q r M → Q' r M) (hP : ∀ (lab : Nat) (v2 : Int32) (v3 : Int32) (v4 : Int32) (M : Mem), P lab v2 v3 v4 M → P' lab v2 v3 v4 M) (v2 : Int32) (v3 : Int32) (v4 : Int32) (M : Mem) (h : blk_X8_way_1 v1 Q P v2 v3 v4 M) : blk_X8_way_1 v1 Q' P' v2 v3 v4 M := by
  unfold blk_X8_way_1 at h ⊢
  exact ⟨fun c => let h := h.1 c; hQ _ _ h, fun c => let h := h.2 c; wp_X8_comes_mono (fun r4 M4 h => ⟨fun c => let h := h.1 c; hP _ _ _ _ _ h, fun c => let h := h.2 c; wp_X8_rankOf_mono (fun r5 M5 h => ⟨h.1, let h := h.2; ⟨fun c => let h := h.1 c; hP _ _ _ _ _ h, fun c => let h := h.2 c; hQ _ _ h⟩⟩) h⟩) h⟩
def blk_X8_way_2 (v1 : Int32) (Q : Int32 → Mem → Prop) (P : Nat → Int32 → Int32 → Int32 → Mem → Prop) (v2 : Int32) (v3 : Int32) (v4 : Int32) (M : Mem) : Prop :=
  P 1 v2 (v3 + 1) 0 M
theorem blk_X8_way_2_mono {v1 : Int32} {Q Q' : Int32 → Mem → Prop} {P P' : Nat → Int32 → Int32 → Int32 → Mem → Prop} (hQ : ∀ (r : Int32) (M : Mem), Q r M → Q' r M) (hP : ∀ (lab : Nat) (v2 : Int32) (v3 : Int32) (v4 : Int32) (M : Mem), P lab v2 v3 v4 M → P' lab v2 v3 v4 M) (v2 : Int32) (v3 : Int32) (v4 : Int32) (M : Mem) (h : blk_X8_way_2 v1 Q P v2 v3 v4 M) : blk_X8_way_2 v1 Q' P' v2 v3 v4 M := by
  unfold blk_X8_way_2 at h ⊢
  exact hP _ _ _ _ _ h
def blk_X8_way (v1 : Int32) (Q : Int32 → Mem → Prop) (P : Nat → Int32 → Int32 → Int32 → Mem → Prop) : Nat → Int32 → Int32 → Int32 → Mem → Prop := fun lab v2 v3 v4 M => match lab with
  | 0 => blk_X8_way_0 v1 Q P v2 v3 v4 M
  | 1 => blk_X8_way_1 v1 Q P v2 v3 v4 M
  | 2 => blk_X8_way_2 v1 Q P v2 v3 v4 M
  | _ => False
theorem blk_X8_way_mono {v1 : Int32} {Q Q' : Int32 → Mem → Prop} {P P' : Nat → Int32 → Int32 → Int32 → Mem → Prop} (hQ : ∀ (r : Int32) (M : Mem), Q r M → Q' r M) (hP : ∀ (lab : Nat) (v2 : Int32) (v3 : Int32) (v4 : Int32) (M : Mem), P lab v2 v3 v4 M → P' lab v2 v3 v4 M) : ∀ (lab : Nat) (v2 : Int32) (v3 : Int32) (v4 : Int32) (M : Mem), blk_X8_way v1 Q P lab v2 v3 v4 M → blk_X8_way v1 Q' P' lab v2 v3 v4 M := fun lab v2 v3 v4 M h => match lab, h with
  | 0, h => blk_X8_way_0_mono (v1 := v1) hQ hP v2 v3 v4 M h
  | 1, h => blk_X8_way_1_mono (v1 := v1) hQ hP v2 v3 v4 M h
  | 2, h => blk_X8_way_2_mono (v1 := v1) hQ hP v2 v3 v4 M h
  | _ + 3, h => False.elim h
def at_X8_way (v1 : Int32) (Q : Int32 → Mem → Prop) : Nat → Int32 → Int32 → Int32 → Mem → Prop := fun lab v2 v3 v4 M => ∀ P : Nat → Int32 → Int32 → Int32 → Mem → Prop, (∀ (lab : Nat) (v2 : Int32) (v3 : Int32) (v4 : Int32) (M : Mem), blk_X8_way v1 Q P lab v2 v3 v4 M → P lab v2 v3 v4 M) → P lab v2 v3 v4 M
theorem at_X8_way_fold {v1 : Int32} {Q : Int32 → Mem → Prop} {lab : Nat} {v2 : Int32} {v3 : Int32} {v4 : Int32} {M : Mem} (h : blk_X8_way v1 Q (at_X8_way v1 Q) lab v2 v3 v4 M) : at_X8_way v1 Q lab v2 v3 v4 M := fun P hP => hP _ _ _ _ _ (blk_X8_way_mono (fun _ _ h => h) (fun _ _ _ _ _ h => h P hP) _ _ _ _ _ h)
theorem at_X8_way_mono {v1 : Int32} {Q Q' : Int32 → Mem → Prop} (hQ : ∀ (r : Int32) (M : Mem), Q r M → Q' r M) {lab : Nat} {v2 : Int32} {v3 : Int32} {v4 : Int32} {M : Mem} (h : at_X8_way v1 Q lab v2 v3 v4 M) : at_X8_way v1 Q' lab v2 v3 v4 M := fun P hP => h P (fun lab v2 v3 v4 M hb => hP _ _ _ _ _ (blk_X8_way_mono hQ (fun _ _ _ _ _ h => h) _ _ _ _ _ hb))
def wp_X8_way (v1 : Int32) (M : Mem) (Q : Int32 → Mem → Prop) : Prop := at_X8_way v1 Q 0 0 0 0 M
theorem wp_X8_way_mono {v1 : Int32} {M : Mem} {Q Q' : Int32 → Mem → Prop} (hQ : ∀ (r : Int32) (M : Mem), Q r M → Q' r M) (h : wp_X8_way v1 M Q) : wp_X8_way v1 M Q' := at_X8_way_mono hQ h
def pcl_X8_way : Nat → Nat := fun lab => match lab with
  | 0 => 0
  | 1 => 53
  | 2 => 111
  | _ => 0
def lvl_X8_way (ad : Nat → Nat) (v1 : Int32) : Nat → Int32 → Int32 → Int32 → List (Nat × Value) := fun lab v2 v3 v4 => match lab with
  | 0 => [(0, .ref (ad 0)), (1, .int v1)]
  | 1 => [(0, .ref (ad 0)), (2, .int v2), (3, .int v3)]
  | 2 => [(0, .ref (ad 0)), (2, .int v2), (3, .int v3)]
  | _ => []
abbrev rm_X8_way : Jvm.Room := { frames := 6, cells := 0, slots := 0, locals := 145 }
set_option maxHeartbeats 4000000 in
set_option maxRecDepth 100000 in
theorem ct_X8_way (l : Launch) (D : va_G) (cy : Nat → ClassId) (ad : Nat → Nat) (B : Nat → Prop) (v1 : Int32) (M : Mem) (Q : Int32 → Mem → Prop) (h : wp_X8_way v1 M Q) : CTi l D cy (wR ad cy) B yX8_way wsX8_way rm_X8_way [.ref (ad 0), .int v1] M Q := by
  intro sz
  refine Met.ofW (cc := cX8_way) (maxL := 5) (ret := some .int) (by decide) rfl ?_
  intro p e s m args below meth c s₁ Bd hml hv
  obtain ⟨hargs, hsz, hP, hK, hD⟩ := hv
  subst hsz
  have hx := Bd.exec
  have hb := Bd.bytes
  have hr := Bd.returns
  have hts := atoms_spec (ws := wsX8_way) Bd.pre
  have hown : s.vm.findClass RX8 = some m.cls := findClass_of_methodNamed Bd.named
  have hlocks := Bd.notSynchronized
  have hC8 : xC wsX8_way 8 RX8 TX8 34 := ⟨by decide +kernel, rfl⟩
  have key : ∀ (P : Nat → Int32 → Int32 → Int32 → Mem → Prop), (∀ (lab : Nat) (v2 : Int32) (v3 : Int32) (v4 : Int32) (M : Mem), P lab v2 v3 v4 M → ∀ (H : Heap) (locs : List Loc) (ls : Array Slot), xS D (wR ad cy) B s.heap H locs M → lv_has ls 5 (lvl_X8_way ad v1 lab v2 v3 v4 ) → W p l e (headSpec wsX8_way rm_X8_way).room s m args below meth c H locs 0 0 (MQ below (va_Qi (S := Mem) Q (xB D (wR ad cy) B) (xA B s.heap.size)) args s 0 0 (xA B s.heap.size)) (F0 m (pcl_X8_way lab) ls [])) → ∀ (lab : Nat) (v2 : Int32) (v3 : Int32) (v4 : Int32) (M : Mem), blk_X8_way v1 Q P lab v2 v3 v4 M → ∀ (H : Heap) (locs : List Loc) (ls : Array Slot), xS D (wR ad cy) B s.heap H locs M → lv_has ls 5 (lvl_X8_way ad v1 lab v2 v3 v4 ) → W p l e (headSpec wsX8_way rm_X8_way).room s m args below meth c H locs 0 0 (MQ below (va_Qi (S := Mem) Q (xB D (wR ad cy) B) (xA B s.heap.size)) args s 0 0 (xA B s.heap.size)) (F0 m (pcl_X8_way lab) ls []) := by
    intro P hJ lab v2 v3 v4 M h H locs ls S hl
    match lab, h, hl with
    | 0, h, hl =>
      have hl : lv_has ls 5 [(0, .ref (ad 0)), (1, .int v1)] := hl
      have h : blk_X8_way_0 v1 Q P v2 v3 v4 M := h
      unfold blk_X8_way_0 at h
      refine W.eq (g2 := F0 m 0 ls []) rfl ?_
      refine lv_aload_n hx hb dX8_way_0 rfl (lv_at hl 0 rfl) ?_
      refine lv_iconst (v := 0) hx hb dX8_way_1 (by decide) ?_
      refine x_putI hx hb hts (hC8) tyX8 tyX8_ok nmX8 hown hK S 0 (by decide) rf_0_0 (index := 74) (hts _ (List.mem_of_getElem? (i := 1) rfl)) rfl rfl rfl dX8_way_2 (fun H locs S => ?_)
      refine lv_aload_n hx hb dX8_way_5 rfl (lv_at hl 0 rfl) ?_
      refine x_getI hx hb hts (hC8) hown hK S 8 (by decide) rf_0_8 (index := 151) (hts _ (List.mem_of_getElem? (i := 2) rfl)) dX8_way_6 ?_
      refine lv_if_ne (tgt := 15) hx hb dX8_way_9 (by decide) (fun c9 => ?_) (fun c9 => ?_)
      · replace h := h.1 c9
        refine lv_aload_n hx hb dX8_way_15 rfl (lv_at hl 0 rfl) ?_
        refine lv_iload_n hx hb dX8_way_16 rfl (lv_at hl 1 rfl) ?_
        refine x_callVi (As := [.int v1]) ⟨hx, hb, hml, hown, hts⟩ hK S (ct_X8_noRank l D cy ad B _ _ _ h) ro_0 rfl (cwV 1 hts gX8_way_X8_noRank rfl rfl rfl (by decide +kernel) ⟨Nat.le_of_ble_eq_true rfl, Nat.le_of_ble_eq_true rfl⟩) rfl hl.1 rfl (Nat.le_of_ble_eq_true rfl) dX8_way_17 ⟨Nat.zero_le _, Nat.zero_le _⟩ (fun r1 M1 H locs h S => ?_)
        refine lv_if_eq (tgt := 25) hx hb dX8_way_20 (by decide) (fun c20 => ?_) (fun c20 => ?_)
        · replace h := h.1 c20
          refine lv_aload_n hx hb dX8_way_25 rfl (lv_at hl 0 rfl) ?_
          refine lv_iload_n hx hb dX8_way_26 rfl (lv_at hl 1 rfl) ?_
          refine x_callVv (As := [.int v1]) ⟨hx, hb, hml, hown, hts⟩ hK S (ct_X8_measure l D cy ad B _ _ _ h) ro_0 rfl (cwV 1 hts gX8_way_X8_measure rfl rfl rfl (by decide +kernel) ⟨Nat.le_of_ble_eq_true rfl, Nat.le_of_ble_eq_true rfl⟩) rfl hl.1 rfl (Nat.le_of_ble_eq_true rfl) dX8_way_27 ⟨Nat.zero_le _, Nat.zero_le _⟩ (fun M2 H locs h S => ?_)
          refine lv_aload_n hx hb dX8_way_30 rfl (lv_at hl 0 rfl) ?_
          refine x_getR hx hb hts (hC8) hown hK S 31 (by decide) rf_0_31 (index := 65) (hts _ (List.mem_of_getElem? (i := 3) rfl)) dX8_way_31 ?_
          refine lv_aload_n hx hb dX8_way_34 rfl (lv_at hl 0 rfl) ?_
          refine lv_aload_n hx hb dX8_way_35 rfl (lv_at hl 0 rfl) ?_
          refine x_getI hx hb hts (hC8) hown hK S 24 (by decide) rf_0_24 (index := 145) (hts _ (List.mem_of_getElem? (i := 4) rfl)) dX8_way_36 ?_
          refine x_callVi (As := [.int (M2.1 0 24)]) ⟨hx, hb, hml, hown, hts⟩ hK S (ct_X8_rankOf l D cy ad B _ _ _ h) ro_0 rfl (cwV 1 hts gX8_way_X8_rankOf rfl rfl rfl (by decide +kernel) ⟨Nat.le_of_ble_eq_true rfl, Nat.le_of_ble_eq_true rfl⟩) rfl hl.1 rfl (Nat.le_of_ble_eq_true rfl) dX8_way_39 ⟨Nat.zero_le _, Nat.zero_le _⟩ (fun r3 M3 H locs h S => ?_)
          refine x_iald hx hb hK S ra_19 h.1 dX8_way_42 ?_
          replace h := h.2
          refine lv_istore_n (lv' := [(2, .int (M3.1 19 r3.toNatClampNeg)), (0, .ref (ad 0)), (1, .int v1)]) hx hb dX8_way_43 rfl hl (by decide) rfl (fun ls hl => ?_)
          refine lv_iload_n hx hb dX8_way_44 rfl (lv_at hl 0 rfl) ?_
          refine lv_if_gt (tgt := 51) hx hb dX8_way_45 (by decide) (fun c45 => ?_) (fun c45 => ?_)
          · replace h := h.1 c45
            refine lv_iconst (v := 0) hx hb dX8_way_51 (by decide) ?_
            refine lv_istore_n (lv' := [(3, .int 0), (2, .int (M3.1 19 r3.toNatClampNeg)), (0, .ref (ad 0)), (1, .int v1)]) hx hb dX8_way_52 rfl hl (by decide) rfl (fun ls hl => ?_)
            exact hJ _ _ _ _ _ h _ _ _ S (lv_sub hl [2, 1, 0] rfl)
          · replace h := h.2 c45
            refine lv_bipush (v := (-9)) hx hb dX8_way_48 (by decide) ?_
            exact x_iret hx hb hr hlocks S rfl h dX8_way_50
        · replace h := h.2 c20
          refine lv_iconst (v := (-1)) hx hb dX8_way_23 (by decide) ?_
          exact x_iret hx hb hr hlocks S rfl h dX8_way_24
      · replace h := h.2 c9
        refine lv_bipush (v := (-3)) hx hb dX8_way_12 (by decide) ?_
        exact x_iret hx hb hr hlocks S rfl h dX8_way_14
    | 1, h, hl =>
      have hl : lv_has ls 5 [(0, .ref (ad 0)), (2, .int v2), (3, .int v3)] := hl
      have h : blk_X8_way_1 v1 Q P v2 v3 v4 M := h
      unfold blk_X8_way_1 at h
      refine W.eq (g2 := F0 m 53 ls []) rfl ?_
      refine lv_iload_n hx hb dX8_way_53 rfl (lv_at hl 2 rfl) ?_
      refine lv_aload_n hx hb dX8_way_54 rfl (lv_at hl 0 rfl) ?_
      refine x_getI hx hb hts (hC8) hown hK S 12 (by decide) rf_0_12 (index := 106) (hts _ (List.mem_of_getElem? (i := 5) rfl)) dX8_way_55 ?_
      refine lv_icmp_ge (tgt := 117) hx hb dX8_way_58 (by decide) (fun c58 => ?_) (fun c58 => ?_)
      · replace h := h.1 c58
        refine lv_bipush (v := (-9)) hx hb dX8_way_117 (by decide) ?_
        exact x_iret hx hb hr hlocks S rfl h dX8_way_119
      · replace h := h.2 c58
        refine lv_aload_n hx hb dX8_way_61 rfl (lv_at hl 0 rfl) ?_
        refine lv_aload_n hx hb dX8_way_62 rfl (lv_at hl 0 rfl) ?_
        refine x_getI hx hb hts (hC8) hown hK S 24 (by decide) rf_0_24 (index := 145) (hts _ (List.mem_of_getElem? (i := 4) rfl)) dX8_way_63 ?_
        refine lv_iload_n hx hb dX8_way_66 rfl (lv_at hl 2 rfl) ?_
        refine x_callVi (As := [.int (M.1 0 24), .int v3]) ⟨hx, hb, hml, hown, hts⟩ hK S (ct_X8_comes l D cy ad B _ _ _ _ h) ro_0 rfl (cwV 2 hts gX8_way_X8_comes rfl rfl rfl (by decide +kernel) ⟨Nat.le_of_ble_eq_true rfl, Nat.le_of_ble_eq_true rfl⟩) rfl hl.1 rfl (Nat.le_of_ble_eq_true rfl) dX8_way_67 ⟨Nat.zero_le _, Nat.zero_le _⟩ (fun r4 M4 H locs h S => ?_)
        refine lv_istore (lv' := [(4, .int r4), (0, .ref (ad 0)), (2, .int v2), (3, .int v3)]) hx hb dX8_way_70 hl (by decide) rfl (fun ls hl => ?_)
        refine lv_iload hx hb dX8_way_72 (lv_at hl 0 rfl) ?_
        refine lv_bipush (v := (-9)) hx hb dX8_way_74 (by decide) ?_
        refine lv_icmp_eq (tgt := 111) hx hb dX8_way_76 (by decide) (fun c76 => ?_) (fun c76 => ?_)
        · replace h := h.1 c76
          exact hJ _ _ _ _ _ h _ _ _ S (lv_sub hl [1, 2, 3] rfl)
        · replace h := h.2 c76
          refine lv_aload_n hx hb dX8_way_79 rfl (lv_at hl 1 rfl) ?_
          refine x_getR hx hb hts (hC8) hown hK S 31 (by decide) rf_0_31 (index := 65) (hts _ (List.mem_of_getElem? (i := 3) rfl)) dX8_way_80 ?_
          refine lv_aload_n hx hb dX8_way_83 rfl (lv_at hl 1 rfl) ?_
          refine lv_aload_n hx hb dX8_way_84 rfl (lv_at hl 1 rfl) ?_
          refine x_getI hx hb hts (hC8) hown hK S 24 (by decide) rf_0_24 (index := 145) (hts _ (List.mem_of_getElem? (i := 4) rfl)) dX8_way_85 ?_
          refine lv_iconst (v := 1) hx hb dX8_way_88 (by decide) ?_
          refine lv_iload_n hx hb dX8_way_89 rfl (lv_at hl 3 rfl) ?_
          refine lv_ishl hx hb dX8_way_90 ?_
          refine lv_iconst (v := (-1)) hx hb dX8_way_91 (by decide) ?_
          refine lv_ixor hx hb dX8_way_92 ?_
          refine lv_iand hx hb dX8_way_93 ?_
          refine lv_iconst (v := 1) hx hb dX8_way_94 (by decide) ?_
          refine lv_iload hx hb dX8_way_95 (lv_at hl 0 rfl) ?_
          refine lv_ishl hx hb dX8_way_97 ?_
          refine lv_ior hx hb dX8_way_98 ?_
          refine x_callVi (As := [.int (((M4.1 0 24) &&& (((1 : Int32) <<< (v3 &&& 31)) ^^^ ((-1) : Int32))) ||| ((1 : Int32) <<< (r4 &&& 31)))]) ⟨hx, hb, hml, hown, hts⟩ hK S (ct_X8_rankOf l D cy ad B _ _ _ h) ro_0 rfl (cwV 1 hts gX8_way_X8_rankOf rfl rfl rfl (by decide +kernel) ⟨Nat.le_of_ble_eq_true rfl, Nat.le_of_ble_eq_true rfl⟩) rfl hl.1 rfl (Nat.le_of_ble_eq_true rfl) dX8_way_99 ⟨Nat.zero_le _, Nat.zero_le _⟩ (fun r5 M5 H locs h S => ?_)
          refine x_iald hx hb hK S ra_19 h.1 dX8_way_102 ?_
          replace h := h.2
          refine lv_iload_n hx hb dX8_way_103 rfl (lv_at hl 2 rfl) ?_
          refine lv_iconst (v := 1) hx hb dX8_way_104 (by decide) ?_
          refine lv_isub hx hb dX8_way_105 ?_
          refine lv_icmp_ne (tgt := 111) hx hb dX8_way_106 (by decide) (fun c106 => ?_) (fun c106 => ?_)
          · replace h := h.1 c106
            exact hJ _ _ _ _ _ h _ _ _ S (lv_sub hl [1, 2, 3] rfl)
          · replace h := h.2 c106
            refine lv_iload_n hx hb dX8_way_109 rfl (lv_at hl 3 rfl) ?_
            exact x_iret hx hb hr hlocks S rfl h dX8_way_110
    | 2, h, hl =>
      have hl : lv_has ls 5 [(0, .ref (ad 0)), (2, .int v2), (3, .int v3)] := hl
      have h : blk_X8_way_2 v1 Q P v2 v3 v4 M := h
      unfold blk_X8_way_2 at h
      refine W.eq (g2 := F0 m 111 ls []) rfl ?_
      refine lv_iinc (v := (v3 + 1)) (lv' := [(3, .int (v3 + 1)), (0, .ref (ad 0)), (2, .int v2)]) hx hb dX8_way_111 hl (k := 2) rfl rfl (by decide) rfl (fun ls hl => ?_)
      refine lv_goto (tgt := 53) hx hb dX8_way_114 (by decide) ?_
      exact hJ _ _ _ _ _ h _ _ _ S (lv_sub hl [1, 2, 0] rfl)
    | _ + 3, h, hl => exact h.elim
  have hl := lv_entry ([.ref (ad 0), .int v1]) (n := 5) (Nat.le_of_ble_eq_true rfl)
  subst hargs
  rw [lg_entry_eq]
  generalize (lg_sl ([.ref (ad 0), .int v1]) ++ List.replicate (5 - (lg_sl ([.ref (ad 0), .int v1])).length) Slot.unset).toArray = ls at hl ⊢
  exact h _ (key _ (fun _ _ _ _ _ h => h)) s.heap [] ls ⟨hP, hD, va_S.rf⟩ hl
/-! X8_far -/
def blk_X8_far_0 (Q : Int32 → Mem → Prop) (P : Nat → Int32 → Int32 → Mem → Prop) (v1 : Int32) (v2 : Int32) (M : Mem) : Prop :=
  ((¬ ((upI M 0 0 0).1 0 8) = 0 → wp_X8_rankOf ((upI M 0 0 0).1 0 24) (upI M 0 0 0) (fun r1 M1 => wp_X8_measure r1 M1 (fun M2 => P 1 0 0 M2))) ∧ (((upI M 0 0 0).1 0 8) = 0 → Q (-3) (upI M 0 0 0)))
theorem blk_X8_far_0_mono {Q Q' : Int32 → Mem → Prop} {P P' : Nat → Int32 → Int32 → Mem → Prop} (hQ : ∀ (r : Int32) (M : Mem), Q r M → Q' r M) (hP : ∀ (lab : Nat) (v1 : Int32) (v2 : Int32) (M : Mem), P lab v1 v2 M → P' lab v1 v2 M) (v1 : Int32) (v2 : Int32) (M : Mem) (h : blk_X8_far_0 Q P v1 v2 M) : blk_X8_far_0 Q' P' v1 v2 M := by
  unfold blk_X8_far_0 at h ⊢
  exact ⟨fun c => let h := h.1 c; wp_X8_rankOf_mono (fun r1 M1 h => wp_X8_measure_mono (fun M2 h => hP _ _ _ _ h) h) h, fun c => let h := h.2 c; hQ _ _ h⟩
def blk_X8_far_1 (Q : Int32 → Mem → Prop) (P : Nat → Int32 → Int32 → Mem → Prop) (v1 : Int32) (v2 : Int32) (M : Mem) : Prop :=
  (((M.1 0 22) ≤ v2 → Q v1 M) ∧ (¬ (M.1 0 22) ≤ v2 → (vp_in v2 2000 ∧ (((M.1 19 v2.toNatClampNeg) ≤ v1 → P 2 v1 v2 M) ∧ (¬ (M.1 19 v2.toNatClampNeg) ≤ v1 → (vp_in v2 2000 ∧ P 2 (M.1 19 v2.toNatClampNeg) v2 M))))))
theorem blk_X8_far_1_mono {Q Q' : Int32 → Mem → Prop} {P P' : Nat → Int32 → Int32 → Mem → Prop} (hQ : ∀ (r : Int32) (M : Mem), Q r M → Q' r M) (hP : ∀ (lab : Nat) (v1 : Int32) (v2 : Int32) (M : Mem), P lab v1 v2 M → P' lab v1 v2 M) (v1 : Int32) (v2 : Int32) (M : Mem) (h : blk_X8_far_1 Q P v1 v2 M) : blk_X8_far_1 Q' P' v1 v2 M := by
  unfold blk_X8_far_1 at h ⊢
  exact ⟨fun c => let h := h.1 c; hQ _ _ h, fun c => let h := h.2 c; ⟨h.1, let h := h.2; ⟨fun c => let h := h.1 c; hP _ _ _ _ h, fun c => let h := h.2 c; ⟨h.1, let h := h.2; hP _ _ _ _ h⟩⟩⟩⟩
def blk_X8_far_2 (Q : Int32 → Mem → Prop) (P : Nat → Int32 → Int32 → Mem → Prop) (v1 : Int32) (v2 : Int32) (M : Mem) : Prop :=
  P 1 v1 (v2 + 1) M
theorem blk_X8_far_2_mono {Q Q' : Int32 → Mem → Prop} {P P' : Nat → Int32 → Int32 → Mem → Prop} (hQ : ∀ (r : Int32) (M : Mem), Q r M → Q' r M) (hP : ∀ (lab : Nat) (v1 : Int32) (v2 : Int32) (M : Mem), P lab v1 v2 M → P' lab v1 v2 M) (v1 : Int32) (v2 : Int32) (M : Mem) (h : blk_X8_far_2 Q P v1 v2 M) : blk_X8_far_2 Q' P' v1 v2 M := by
  unfold blk_X8_far_2 at h ⊢
  exact hP _ _ _ _ h
def blk_X8_far (Q : Int32 → Mem → Prop) (P : Nat → Int32 → Int32 → Mem → Prop) : Nat → Int32 → Int32 → Mem → Prop := fun lab v1 v2 M => match lab with
  | 0 => blk_X8_far_0 Q P v1 v2 M
  | 1 => blk_X8_far_1 Q P v1 v2 M
  | 2 => blk_X8_far_2 Q P v1 v2 M
  | _ => False
theorem blk_X8_far_mono {Q Q' : Int32 → Mem → Prop} {P P' : Nat → Int32 → Int32 → Mem → Prop} (hQ : ∀ (r : Int32) (M : Mem), Q r M → Q' r M) (hP : ∀ (lab : Nat) (v1 : Int32) (v2 : Int32) (M : Mem), P lab v1 v2 M → P' lab v1 v2 M) : ∀ (lab : Nat) (v1 : Int32) (v2 : Int32) (M : Mem), blk_X8_far Q P lab v1 v2 M → blk_X8_far Q' P' lab v1 v2 M := fun lab v1 v2 M h => match lab, h with
  | 0, h => blk_X8_far_0_mono hQ hP v1 v2 M h
  | 1, h => blk_X8_far_1_mono hQ hP v1 v2 M h
  | 2, h => blk_X8_far_2_mono hQ hP v1 v2 M h
  | _ + 3, h => False.elim h
def at_X8_far (Q : Int32 → Mem → Prop) : Nat → Int32 → Int32 → Mem → Prop := fun lab v1 v2 M => ∀ P : Nat → Int32 → Int32 → Mem → Prop, (∀ (lab : Nat) (v1 : Int32) (v2 : Int32) (M : Mem), blk_X8_far Q P lab v1 v2 M → P lab v1 v2 M) → P lab v1 v2 M
theorem at_X8_far_fold {Q : Int32 → Mem → Prop} {lab : Nat} {v1 : Int32} {v2 : Int32} {M : Mem} (h : blk_X8_far Q (at_X8_far Q) lab v1 v2 M) : at_X8_far Q lab v1 v2 M := fun P hP => hP _ _ _ _ (blk_X8_far_mono (fun _ _ h => h) (fun _ _ _ _ h => h P hP) _ _ _ _ h)
theorem at_X8_far_mono {Q Q' : Int32 → Mem → Prop} (hQ : ∀ (r : Int32) (M : Mem), Q r M → Q' r M) {lab : Nat} {v1 : Int32} {v2 : Int32} {M : Mem} (h : at_X8_far Q lab v1 v2 M) : at_X8_far Q' lab v1 v2 M := fun P hP => h P (fun lab v1 v2 M hb => hP _ _ _ _ (blk_X8_far_mono hQ (fun _ _ _ _ h => h) _ _ _ _ hb))
def wp_X8_far (M : Mem) (Q : Int32 → Mem → Prop) : Prop := at_X8_far Q 0 0 0 M
theorem wp_X8_far_mono {M : Mem} {Q Q' : Int32 → Mem → Prop} (hQ : ∀ (r : Int32) (M : Mem), Q r M → Q' r M) (h : wp_X8_far M Q) : wp_X8_far M Q' := at_X8_far_mono hQ h
def pcl_X8_far : Nat → Nat := fun lab => match lab with
  | 0 => 0
  | 1 => 31
  | 2 => 60
  | _ => 0
def lvl_X8_far (ad : Nat → Nat) : Nat → Int32 → Int32 → List (Nat × Value) := fun lab v1 v2 => match lab with
  | 0 => [(0, .ref (ad 0))]
  | 1 => [(0, .ref (ad 0)), (1, .int v1), (2, .int v2)]
  | 2 => [(0, .ref (ad 0)), (1, .int v1), (2, .int v2)]
  | _ => []
abbrev rm_X8_far : Jvm.Room := { frames := 6, cells := 0, slots := 0, locals := 145 }
set_option maxHeartbeats 4000000 in
set_option maxRecDepth 100000 in
theorem ct_X8_far (l : Launch) (D : va_G) (cy : Nat → ClassId) (ad : Nat → Nat) (B : Nat → Prop) (M : Mem) (Q : Int32 → Mem → Prop) (h : wp_X8_far M Q) : CTi l D cy (wR ad cy) B yX8_far wsX8_far rm_X8_far [.ref (ad 0)] M Q := by
  intro sz
  refine Met.ofW (cc := cX8_far) (maxL := 3) (ret := some .int) (by decide) rfl ?_
  intro p e s m args below meth c s₁ Bd hml hv
  obtain ⟨hargs, hsz, hP, hK, hD⟩ := hv
  subst hsz
  have hx := Bd.exec
  have hb := Bd.bytes
  have hr := Bd.returns
  have hts := atoms_spec (ws := wsX8_far) Bd.pre
  have hown : s.vm.findClass RX8 = some m.cls := findClass_of_methodNamed Bd.named
  have hlocks := Bd.notSynchronized
  have hC8 : xC wsX8_far 8 RX8 TX8 34 := ⟨by decide +kernel, rfl⟩
  have key : ∀ (P : Nat → Int32 → Int32 → Mem → Prop), (∀ (lab : Nat) (v1 : Int32) (v2 : Int32) (M : Mem), P lab v1 v2 M → ∀ (H : Heap) (locs : List Loc) (ls : Array Slot), xS D (wR ad cy) B s.heap H locs M → lv_has ls 3 (lvl_X8_far ad lab v1 v2 ) → W p l e (headSpec wsX8_far rm_X8_far).room s m args below meth c H locs 0 0 (MQ below (va_Qi (S := Mem) Q (xB D (wR ad cy) B) (xA B s.heap.size)) args s 0 0 (xA B s.heap.size)) (F0 m (pcl_X8_far lab) ls [])) → ∀ (lab : Nat) (v1 : Int32) (v2 : Int32) (M : Mem), blk_X8_far Q P lab v1 v2 M → ∀ (H : Heap) (locs : List Loc) (ls : Array Slot), xS D (wR ad cy) B s.heap H locs M → lv_has ls 3 (lvl_X8_far ad lab v1 v2 ) → W p l e (headSpec wsX8_far rm_X8_far).room s m args below meth c H locs 0 0 (MQ below (va_Qi (S := Mem) Q (xB D (wR ad cy) B) (xA B s.heap.size)) args s 0 0 (xA B s.heap.size)) (F0 m (pcl_X8_far lab) ls []) := by
    intro P hJ lab v1 v2 M h H locs ls S hl
    match lab, h, hl with
    | 0, h, hl =>
      have hl : lv_has ls 3 [(0, .ref (ad 0))] := hl
      have h : blk_X8_far_0 Q P v1 v2 M := h
      unfold blk_X8_far_0 at h
      refine W.eq (g2 := F0 m 0 ls []) rfl ?_
      refine lv_aload_n hx hb dX8_far_0 rfl (lv_at hl 0 rfl) ?_
      refine lv_iconst (v := 0) hx hb dX8_far_1 (by decide) ?_
      refine x_putI hx hb hts (hC8) tyX8 tyX8_ok nmX8 hown hK S 0 (by decide) rf_0_0 (index := 74) (hts _ (List.mem_of_getElem? (i := 1) rfl)) rfl rfl rfl dX8_far_2 (fun H locs S => ?_)
      refine lv_aload_n hx hb dX8_far_5 rfl (lv_at hl 0 rfl) ?_
      refine x_getI hx hb hts (hC8) hown hK S 8 (by decide) rf_0_8 (index := 151) (hts _ (List.mem_of_getElem? (i := 2) rfl)) dX8_far_6 ?_
      refine lv_if_ne (tgt := 15) hx hb dX8_far_9 (by decide) (fun c9 => ?_) (fun c9 => ?_)
      · replace h := h.1 c9
        refine lv_aload_n hx hb dX8_far_15 rfl (lv_at hl 0 rfl) ?_
        refine lv_aload_n hx hb dX8_far_16 rfl (lv_at hl 0 rfl) ?_
        refine lv_aload_n hx hb dX8_far_17 rfl (lv_at hl 0 rfl) ?_
        refine x_getI hx hb hts (hC8) hown hK S 24 (by decide) rf_0_24 (index := 145) (hts _ (List.mem_of_getElem? (i := 3) rfl)) dX8_far_18 ?_
        refine x_callVi (As := [.int ((upI M 0 0 0).1 0 24)]) ⟨hx, hb, hml, hown, hts⟩ hK S (ct_X8_rankOf l D cy ad B _ _ _ h) ro_0 rfl (cwV 1 hts gX8_far_X8_rankOf rfl rfl rfl (by decide +kernel) ⟨Nat.le_of_ble_eq_true rfl, Nat.le_of_ble_eq_true rfl⟩) rfl hl.1 rfl (Nat.le_of_ble_eq_true rfl) dX8_far_21 ⟨Nat.zero_le _, Nat.zero_le _⟩ (fun r1 M1 H locs h S => ?_)
        refine x_callVv (As := [.int r1]) ⟨hx, hb, hml, hown, hts⟩ hK S (ct_X8_measure l D cy ad B _ _ _ h) ro_0 rfl (cwV 1 hts gX8_far_X8_measure rfl rfl rfl (by decide +kernel) ⟨Nat.le_of_ble_eq_true rfl, Nat.le_of_ble_eq_true rfl⟩) rfl hl.1 rfl (Nat.le_of_ble_eq_true rfl) dX8_far_24 ⟨Nat.zero_le _, Nat.zero_le _⟩ (fun M2 H locs h S => ?_)
        refine lv_iconst (v := 0) hx hb dX8_far_27 (by decide) ?_
        refine lv_istore_n (lv' := [(1, .int 0), (0, .ref (ad 0))]) hx hb dX8_far_28 rfl hl (by decide) rfl (fun ls hl => ?_)
        refine lv_iconst (v := 0) hx hb dX8_far_29 (by decide) ?_
        refine lv_istore_n (lv' := [(2, .int 0), (1, .int 0), (0, .ref (ad 0))]) hx hb dX8_far_30 rfl hl (by decide) rfl (fun ls hl => ?_)
        exact hJ _ _ _ _ h _ _ _ S (lv_sub hl [2, 1, 0] rfl)
      · replace h := h.2 c9
        refine lv_bipush (v := (-3)) hx hb dX8_far_12 (by decide) ?_
        exact x_iret hx hb hr hlocks S rfl h dX8_far_14
    | 1, h, hl =>
      have hl : lv_has ls 3 [(0, .ref (ad 0)), (1, .int v1), (2, .int v2)] := hl
      have h : blk_X8_far_1 Q P v1 v2 M := h
      unfold blk_X8_far_1 at h
      refine W.eq (g2 := F0 m 31 ls []) rfl ?_
      refine lv_iload_n hx hb dX8_far_31 rfl (lv_at hl 2 rfl) ?_
      refine lv_aload_n hx hb dX8_far_32 rfl (lv_at hl 0 rfl) ?_
      refine x_getI hx hb hts (hC8) hown hK S 22 (by decide) rf_0_22 (index := 127) (hts _ (List.mem_of_getElem? (i := 4) rfl)) dX8_far_33 ?_
      refine lv_icmp_ge (tgt := 66) hx hb dX8_far_36 (by decide) (fun c36 => ?_) (fun c36 => ?_)
      · replace h := h.1 c36
        refine lv_iload_n hx hb dX8_far_66 rfl (lv_at hl 1 rfl) ?_
        exact x_iret hx hb hr hlocks S rfl h dX8_far_67
      · replace h := h.2 c36
        refine lv_aload_n hx hb dX8_far_39 rfl (lv_at hl 0 rfl) ?_
        refine x_getR hx hb hts (hC8) hown hK S 31 (by decide) rf_0_31 (index := 65) (hts _ (List.mem_of_getElem? (i := 5) rfl)) dX8_far_40 ?_
        refine lv_iload_n hx hb dX8_far_43 rfl (lv_at hl 2 rfl) ?_
        refine x_iald hx hb hK S ra_19 h.1 dX8_far_44 ?_
        replace h := h.2
        refine lv_iload_n hx hb dX8_far_45 rfl (lv_at hl 1 rfl) ?_
        refine lv_icmp_le (tgt := 58) hx hb dX8_far_46 (by decide) (fun c46 => ?_) (fun c46 => ?_)
        · replace h := h.1 c46
          refine lv_iload_n hx hb dX8_far_58 rfl (lv_at hl 1 rfl) ?_
          refine lv_istore_n (lv' := [(1, .int v1), (0, .ref (ad 0)), (2, .int v2)]) hx hb dX8_far_59 rfl hl (by decide) rfl (fun ls hl => ?_)
          exact hJ _ _ _ _ h _ _ _ S (lv_sub hl [1, 0, 2] rfl)
        · replace h := h.2 c46
          refine lv_aload_n hx hb dX8_far_49 rfl (lv_at hl 0 rfl) ?_
          refine x_getR hx hb hts (hC8) hown hK S 31 (by decide) rf_0_31 (index := 65) (hts _ (List.mem_of_getElem? (i := 5) rfl)) dX8_far_50 ?_
          refine lv_iload_n hx hb dX8_far_53 rfl (lv_at hl 2 rfl) ?_
          refine x_iald hx hb hK S ra_19 h.1 dX8_far_54 ?_
          replace h := h.2
          refine lv_goto (tgt := 59) hx hb dX8_far_55 (by decide) ?_
          refine lv_istore_n (lv' := [(1, .int (M.1 19 v2.toNatClampNeg)), (0, .ref (ad 0)), (2, .int v2)]) hx hb dX8_far_59 rfl hl (by decide) rfl (fun ls hl => ?_)
          exact hJ _ _ _ _ h _ _ _ S (lv_sub hl [1, 0, 2] rfl)
    | 2, h, hl =>
      have hl : lv_has ls 3 [(0, .ref (ad 0)), (1, .int v1), (2, .int v2)] := hl
      have h : blk_X8_far_2 Q P v1 v2 M := h
      unfold blk_X8_far_2 at h
      refine W.eq (g2 := F0 m 60 ls []) rfl ?_
      refine lv_iinc (v := (v2 + 1)) (lv' := [(2, .int (v2 + 1)), (0, .ref (ad 0)), (1, .int v1)]) hx hb dX8_far_60 hl (k := 2) rfl rfl (by decide) rfl (fun ls hl => ?_)
      refine lv_goto (tgt := 31) hx hb dX8_far_63 (by decide) ?_
      exact hJ _ _ _ _ h _ _ _ S (lv_sub hl [1, 2, 0] rfl)
    | _ + 3, h, hl => exact h.elim
  have hl := lv_entry ([.ref (ad 0)]) (n := 3) (Nat.le_of_ble_eq_true rfl)
  subst hargs
  rw [lg_entry_eq]
  generalize (lg_sl ([.ref (ad 0)]) ++ List.replicate (3 - (lg_sl ([.ref (ad 0)])).length) Slot.unset).toArray = ls at hl ⊢
  exact h _ (key _ (fun _ _ _ _ h => h)) s.heap [] ls ⟨hP, hD, va_S.rf⟩ hl
/-! X8_crossings -/
def blk_X8_crossings_0 (v1 : Int32) (Q : Int32 → Mem → Prop) (P : Nat → Int32 → Int32 → Int32 → Mem → Prop) (v2 : Int32) (v3 : Int32) (v4 : Int32) (M : Mem) : Prop :=
  ((¬ ((upI M 0 0 0).1 0 8) = 0 → wp_X8_noRank v1 (upI M 0 0 0) (fun r1 M1 => ((r1 = 0 → P 1 0 0 0 M1) ∧ (¬ r1 = 0 → Q (-1) M1)))) ∧ (((upI M 0 0 0).1 0 8) = 0 → Q (-3) (upI M 0 0 0)))
theorem blk_X8_crossings_0_mono {v1 : Int32} {Q Q' : Int32 → Mem → Prop} {P P' : Nat → Int32 → Int32 → Int32 → Mem → Prop} (hQ : ∀ (r : Int32) (M : Mem), Q r M → Q' r M) (hP : ∀ (lab : Nat) (v2 : Int32) (v3 : Int32) (v4 : Int32) (M : Mem), P lab v2 v3 v4 M → P' lab v2 v3 v4 M) (v2 : Int32) (v3 : Int32) (v4 : Int32) (M : Mem) (h : blk_X8_crossings_0 v1 Q P v2 v3 v4 M) : blk_X8_crossings_0 v1 Q' P' v2 v3 v4 M := by
  unfold blk_X8_crossings_0 at h ⊢
  exact ⟨fun c => let h := h.1 c; wp_X8_noRank_mono (fun r1 M1 h => ⟨fun c => let h := h.1 c; hP _ _ _ _ _ h, fun c => let h := h.2 c; hQ _ _ h⟩) h, fun c => let h := h.2 c; hQ _ _ h⟩
def blk_X8_crossings_1 (v1 : Int32) (Q : Int32 → Mem → Prop) (P : Nat → Int32 → Int32 → Int32 → Mem → Prop) (v2 : Int32) (v3 : Int32) (v4 : Int32) (M : Mem) : Prop :=
  (((M.1 0 12) ≤ v3 → Q v2 M) ∧ (¬ (M.1 0 12) ≤ v3 → P 2 v2 v3 0 M))
theorem blk_X8_crossings_1_mono {v1 : Int32} {Q Q' : Int32 → Mem → Prop} {P P' : Nat → Int32 → Int32 → Int32 → Mem → Prop} (hQ : ∀ (r : Int32) (M : Mem), Q r M → Q' r M) (hP : ∀ (lab : Nat) (v2 : Int32) (v3 : Int32) (v4 : Int32) (M : Mem), P lab v2 v3 v4 M → P' lab v2 v3 v4 M) (v2 : Int32) (v3 : Int32) (v4 : Int32) (M : Mem) (h : blk_X8_crossings_1 v1 Q P v2 v3 v4 M) : blk_X8_crossings_1 v1 Q' P' v2 v3 v4 M := by
  unfold blk_X8_crossings_1 at h ⊢
  exact ⟨fun c => let h := h.1 c; hQ _ _ h, fun c => let h := h.2 c; hP _ _ _ _ _ h⟩
def blk_X8_crossings_2 (v1 : Int32) (Q : Int32 → Mem → Prop) (P : Nat → Int32 → Int32 → Int32 → Mem → Prop) (v2 : Int32) (v3 : Int32) (v4 : Int32) (M : Mem) : Prop :=
  (((M.1 0 12) ≤ v4 → P 1 v2 (v3 + 1) 0 M) ∧ (¬ (M.1 0 12) ≤ v4 → ((¬ (((M.1 0 24) >>> (v3 &&& 31)) &&& (1 : Int32)) = 1 → P 3 (v2 + 0) v3 v4 M) ∧ ((((M.1 0 24) >>> (v3 &&& 31)) &&& (1 : Int32)) = 1 → (vp_in v1 2000 ∧ ((¬ (((M.1 14 v1.toNatClampNeg) >>> (v4 &&& 31)) &&& (1 : Int32)) = 1 → P 3 (v2 + 0) v3 v4 M) ∧ ((((M.1 14 v1.toNatClampNeg) >>> (v4 &&& 31)) &&& (1 : Int32)) = 1 → (vp_in v3 28 ∧ ∀ x2_2 : Int32, x2_2 = (v2 + (((M.1 11 v3.toNatClampNeg) >>> (v4 &&& 31)) &&& (1 : Int32))) → P 3 x2_2 v3 v4 M))))))))
theorem blk_X8_crossings_2_mono {v1 : Int32} {Q Q' : Int32 → Mem → Prop} {P P' : Nat → Int32 → Int32 → Int32 → Mem → Prop} (hQ : ∀ (r : Int32) (M : Mem), Q r M → Q' r M) (hP : ∀ (lab : Nat) (v2 : Int32) (v3 : Int32) (v4 : Int32) (M : Mem), P lab v2 v3 v4 M → P' lab v2 v3 v4 M) (v2 : Int32) (v3 : Int32) (v4 : Int32) (M : Mem) (h : blk_X8_crossings_2 v1 Q P v2 v3 v4 M) : blk_X8_crossings_2 v1 Q' P' v2 v3 v4 M := by
  unfold blk_X8_crossings_2 at h ⊢
  exact ⟨fun c => let h := h.1 c; hP _ _ _ _ _ h, fun c => let h := h.2 c; ⟨fun c => let h := h.1 c; hP _ _ _ _ _ h, fun c => let h := h.2 c; ⟨h.1, let h := h.2; ⟨fun c => let h := h.1 c; hP _ _ _ _ _ h, fun c => let h := h.2 c; ⟨h.1, let h := h.2; fun x2_2 ex2_2 => let h := h x2_2 ex2_2; hP _ _ _ _ _ h⟩⟩⟩⟩⟩
def blk_X8_crossings_3 (v1 : Int32) (Q : Int32 → Mem → Prop) (P : Nat → Int32 → Int32 → Int32 → Mem → Prop) (v2 : Int32) (v3 : Int32) (v4 : Int32) (M : Mem) : Prop :=
  P 2 v2 v3 (v4 + 1) M
theorem blk_X8_crossings_3_mono {v1 : Int32} {Q Q' : Int32 → Mem → Prop} {P P' : Nat → Int32 → Int32 → Int32 → Mem → Prop} (hQ : ∀ (r : Int32) (M : Mem), Q r M → Q' r M) (hP : ∀ (lab : Nat) (v2 : Int32) (v3 : Int32) (v4 : Int32) (M : Mem), P lab v2 v3 v4 M → P' lab v2 v3 v4 M) (v2 : Int32) (v3 : Int32) (v4 : Int32) (M : Mem) (h : blk_X8_crossings_3 v1 Q P v2 v3 v4 M) : blk_X8_crossings_3 v1 Q' P' v2 v3 v4 M := by
  unfold blk_X8_crossings_3 at h ⊢
  exact hP _ _ _ _ _ h
def blk_X8_crossings (v1 : Int32) (Q : Int32 → Mem → Prop) (P : Nat → Int32 → Int32 → Int32 → Mem → Prop) : Nat → Int32 → Int32 → Int32 → Mem → Prop := fun lab v2 v3 v4 M => match lab with
  | 0 => blk_X8_crossings_0 v1 Q P v2 v3 v4 M
  | 1 => blk_X8_crossings_1 v1 Q P v2 v3 v4 M
  | 2 => blk_X8_crossings_2 v1 Q P v2 v3 v4 M
  | 3 => blk_X8_crossings_3 v1 Q P v2 v3 v4 M
  | _ => False
theorem blk_X8_crossings_mono {v1 : Int32} {Q Q' : Int32 → Mem → Prop} {P P' : Nat → Int32 → Int32 → Int32 → Mem → Prop} (hQ : ∀ (r : Int32) (M : Mem), Q r M → Q' r M) (hP : ∀ (lab : Nat) (v2 : Int32) (v3 : Int32) (v4 : Int32) (M : Mem), P lab v2 v3 v4 M → P' lab v2 v3 v4 M) : ∀ (lab : Nat) (v2 : Int32) (v3 : Int32) (v4 : Int32) (M : Mem), blk_X8_crossings v1 Q P lab v2 v3 v4 M → blk_X8_crossings v1 Q' P' lab v2 v3 v4 M := fun lab v2 v3 v4 M h => match lab, h with
  | 0, h => blk_X8_crossings_0_mono (v1 := v1) hQ hP v2 v3 v4 M h
  | 1, h => blk_X8_crossings_1_mono (v1 := v1) hQ hP v2 v3 v4 M h
  | 2, h => blk_X8_crossings_2_mono (v1 := v1) hQ hP v2 v3 v4 M h
  | 3, h => blk_X8_crossings_3_mono (v1 := v1) hQ hP v2 v3 v4 M h
  | _ + 4, h => False.elim h
def at_X8_crossings (v1 : Int32) (Q : Int32 → Mem → Prop) : Nat → Int32 → Int32 → Int32 → Mem → Prop := fun lab v2 v3 v4 M => ∀ P : Nat → Int32 → Int32 → Int32 → Mem → Prop, (∀ (lab : Nat) (v2 : Int32) (v3 : Int32) (v4 : Int32) (M : Mem), blk_X8_crossings v1 Q P lab v2 v3 v4 M → P lab v2 v3 v4 M) → P lab v2 v3 v4 M
theorem at_X8_crossings_fold {v1 : Int32} {Q : Int32 → Mem → Prop} {lab : Nat} {v2 : Int32} {v3 : Int32} {v4 : Int32} {M : Mem} (h : blk_X8_crossings v1 Q (at_X8_crossings v1 Q) lab v2 v3 v4 M) : at_X8_crossings v1 Q lab v2 v3 v4 M := fun P hP => hP _ _ _ _ _ (blk_X8_crossings_mono (fun _ _ h => h) (fun _ _ _ _ _ h => h P hP) _ _ _ _ _ h)
theorem at_X8_crossings_mono {v1 : Int32} {Q Q' : Int32 → Mem → Prop} (hQ : ∀ (r : Int32) (M : Mem), Q r M → Q' r M) {lab : Nat} {v2 : Int32} {v3 : Int32} {v4 : Int32} {M : Mem} (h : at_X8_crossings v1 Q lab v2 v3 v4 M) : at_X8_crossings v1 Q' lab v2 v3 v4 M := fun P hP => h P (fun lab v2 v3 v4 M hb => hP _ _ _ _ _ (blk_X8_crossings_mono hQ (fun _ _ _ _ _ h => h) _ _ _ _ _ hb))
def wp_X8_crossings (v1 : Int32) (M : Mem) (Q : Int32 → Mem → Prop) : Prop := at_X8_crossings v1 Q 0 0 0 0 M
theorem wp_X8_crossings_mono {v1 : Int32} {M : Mem} {Q Q' : Int32 → Mem → Prop} (hQ : ∀ (r : Int32) (M : Mem), Q r M → Q' r M) (h : wp_X8_crossings v1 M Q) : wp_X8_crossings v1 M Q' := at_X8_crossings_mono hQ h
def pcl_X8_crossings : Nat → Nat := fun lab => match lab with
  | 0 => 0
  | 1 => 29
  | 2 => 40
  | 3 => 94
  | _ => 0
def lvl_X8_crossings (ad : Nat → Nat) (v1 : Int32) : Nat → Int32 → Int32 → Int32 → List (Nat × Value) := fun lab v2 v3 v4 => match lab with
  | 0 => [(0, .ref (ad 0)), (1, .int v1)]
  | 1 => [(0, .ref (ad 0)), (1, .int v1), (2, .int v2), (3, .int v3)]
  | 2 => [(0, .ref (ad 0)), (1, .int v1), (2, .int v2), (3, .int v3), (4, .int v4)]
  | 3 => [(0, .ref (ad 0)), (1, .int v1), (2, .int v2), (3, .int v3), (4, .int v4)]
  | _ => []
abbrev rm_X8_crossings : Jvm.Room := { frames := 3, cells := 0, slots := 0, locals := 63 }
set_option maxHeartbeats 4000000 in
set_option maxRecDepth 100000 in
theorem ct_X8_crossings (l : Launch) (D : va_G) (cy : Nat → ClassId) (ad : Nat → Nat) (B : Nat → Prop) (v1 : Int32) (M : Mem) (Q : Int32 → Mem → Prop) (h : wp_X8_crossings v1 M Q) : CTi l D cy (wR ad cy) B yX8_crossings wsX8_crossings rm_X8_crossings [.ref (ad 0), .int v1] M Q := by
  intro sz
  refine Met.ofW (cc := cX8_crossings) (maxL := 5) (ret := some .int) (by decide) rfl ?_
  intro p e s m args below meth c s₁ Bd hml hv
  obtain ⟨hargs, hsz, hP, hK, hD⟩ := hv
  subst hsz
  have hx := Bd.exec
  have hb := Bd.bytes
  have hr := Bd.returns
  have hts := atoms_spec (ws := wsX8_crossings) Bd.pre
  have hown : s.vm.findClass RX8 = some m.cls := findClass_of_methodNamed Bd.named
  have hlocks := Bd.notSynchronized
  have hC8 : xC wsX8_crossings 8 RX8 TX8 34 := ⟨by decide +kernel, rfl⟩
  have key : ∀ (P : Nat → Int32 → Int32 → Int32 → Mem → Prop), (∀ (lab : Nat) (v2 : Int32) (v3 : Int32) (v4 : Int32) (M : Mem), P lab v2 v3 v4 M → ∀ (H : Heap) (locs : List Loc) (ls : Array Slot), xS D (wR ad cy) B s.heap H locs M → lv_has ls 5 (lvl_X8_crossings ad v1 lab v2 v3 v4 ) → W p l e (headSpec wsX8_crossings rm_X8_crossings).room s m args below meth c H locs 0 0 (MQ below (va_Qi (S := Mem) Q (xB D (wR ad cy) B) (xA B s.heap.size)) args s 0 0 (xA B s.heap.size)) (F0 m (pcl_X8_crossings lab) ls [])) → ∀ (lab : Nat) (v2 : Int32) (v3 : Int32) (v4 : Int32) (M : Mem), blk_X8_crossings v1 Q P lab v2 v3 v4 M → ∀ (H : Heap) (locs : List Loc) (ls : Array Slot), xS D (wR ad cy) B s.heap H locs M → lv_has ls 5 (lvl_X8_crossings ad v1 lab v2 v3 v4 ) → W p l e (headSpec wsX8_crossings rm_X8_crossings).room s m args below meth c H locs 0 0 (MQ below (va_Qi (S := Mem) Q (xB D (wR ad cy) B) (xA B s.heap.size)) args s 0 0 (xA B s.heap.size)) (F0 m (pcl_X8_crossings lab) ls []) := by
    intro P hJ lab v2 v3 v4 M h H locs ls S hl
    match lab, h, hl with
    | 0, h, hl =>
      have hl : lv_has ls 5 [(0, .ref (ad 0)), (1, .int v1)] := hl
      have h : blk_X8_crossings_0 v1 Q P v2 v3 v4 M := h
      unfold blk_X8_crossings_0 at h
      refine W.eq (g2 := F0 m 0 ls []) rfl ?_
      refine lv_aload_n hx hb dX8_crossings_0 rfl (lv_at hl 0 rfl) ?_
      refine lv_iconst (v := 0) hx hb dX8_crossings_1 (by decide) ?_
      refine x_putI hx hb hts (hC8) tyX8 tyX8_ok nmX8 hown hK S 0 (by decide) rf_0_0 (index := 74) (hts _ (List.mem_of_getElem? (i := 1) rfl)) rfl rfl rfl dX8_crossings_2 (fun H locs S => ?_)
      refine lv_aload_n hx hb dX8_crossings_5 rfl (lv_at hl 0 rfl) ?_
      refine x_getI hx hb hts (hC8) hown hK S 8 (by decide) rf_0_8 (index := 151) (hts _ (List.mem_of_getElem? (i := 2) rfl)) dX8_crossings_6 ?_
      refine lv_if_ne (tgt := 15) hx hb dX8_crossings_9 (by decide) (fun c9 => ?_) (fun c9 => ?_)
      · replace h := h.1 c9
        refine lv_aload_n hx hb dX8_crossings_15 rfl (lv_at hl 0 rfl) ?_
        refine lv_iload_n hx hb dX8_crossings_16 rfl (lv_at hl 1 rfl) ?_
        refine x_callVi (As := [.int v1]) ⟨hx, hb, hml, hown, hts⟩ hK S (ct_X8_noRank l D cy ad B _ _ _ h) ro_0 rfl (cwV 1 hts gX8_crossings_X8_noRank rfl rfl rfl (by decide +kernel) ⟨Nat.le_of_ble_eq_true rfl, Nat.le_of_ble_eq_true rfl⟩) rfl hl.1 rfl (Nat.le_of_ble_eq_true rfl) dX8_crossings_17 ⟨Nat.zero_le _, Nat.zero_le _⟩ (fun r1 M1 H locs h S => ?_)
        refine lv_if_eq (tgt := 25) hx hb dX8_crossings_20 (by decide) (fun c20 => ?_) (fun c20 => ?_)
        · replace h := h.1 c20
          refine lv_iconst (v := 0) hx hb dX8_crossings_25 (by decide) ?_
          refine lv_istore_n (lv' := [(2, .int 0), (0, .ref (ad 0)), (1, .int v1)]) hx hb dX8_crossings_26 rfl hl (by decide) rfl (fun ls hl => ?_)
          refine lv_iconst (v := 0) hx hb dX8_crossings_27 (by decide) ?_
          refine lv_istore_n (lv' := [(3, .int 0), (2, .int 0), (0, .ref (ad 0)), (1, .int v1)]) hx hb dX8_crossings_28 rfl hl (by decide) rfl (fun ls hl => ?_)
          exact hJ _ _ _ _ _ h _ _ _ S (lv_sub hl [2, 3, 1, 0] rfl)
        · replace h := h.2 c20
          refine lv_iconst (v := (-1)) hx hb dX8_crossings_23 (by decide) ?_
          exact x_iret hx hb hr hlocks S rfl h dX8_crossings_24
      · replace h := h.2 c9
        refine lv_bipush (v := (-3)) hx hb dX8_crossings_12 (by decide) ?_
        exact x_iret hx hb hr hlocks S rfl h dX8_crossings_14
    | 1, h, hl =>
      have hl : lv_has ls 5 [(0, .ref (ad 0)), (1, .int v1), (2, .int v2), (3, .int v3)] := hl
      have h : blk_X8_crossings_1 v1 Q P v2 v3 v4 M := h
      unfold blk_X8_crossings_1 at h
      refine W.eq (g2 := F0 m 29 ls []) rfl ?_
      refine lv_iload_n hx hb dX8_crossings_29 rfl (lv_at hl 3 rfl) ?_
      refine lv_aload_n hx hb dX8_crossings_30 rfl (lv_at hl 0 rfl) ?_
      refine x_getI hx hb hts (hC8) hown hK S 12 (by decide) rf_0_12 (index := 106) (hts _ (List.mem_of_getElem? (i := 3) rfl)) dX8_crossings_31 ?_
      refine lv_icmp_ge (tgt := 106) hx hb dX8_crossings_34 (by decide) (fun c34 => ?_) (fun c34 => ?_)
      · replace h := h.1 c34
        refine lv_iload_n hx hb dX8_crossings_106 rfl (lv_at hl 2 rfl) ?_
        exact x_iret hx hb hr hlocks S rfl h dX8_crossings_107
      · replace h := h.2 c34
        refine lv_iconst (v := 0) hx hb dX8_crossings_37 (by decide) ?_
        refine lv_istore (lv' := [(4, .int 0), (0, .ref (ad 0)), (1, .int v1), (2, .int v2), (3, .int v3)]) hx hb dX8_crossings_38 hl (by decide) rfl (fun ls hl => ?_)
        exact hJ _ _ _ _ _ h _ _ _ S (lv_sub hl [1, 2, 3, 4, 0] rfl)
    | 2, h, hl =>
      have hl : lv_has ls 5 [(0, .ref (ad 0)), (1, .int v1), (2, .int v2), (3, .int v3), (4, .int v4)] := hl
      have h : blk_X8_crossings_2 v1 Q P v2 v3 v4 M := h
      unfold blk_X8_crossings_2 at h
      refine W.eq (g2 := F0 m 40 ls []) rfl ?_
      refine lv_iload hx hb dX8_crossings_40 (lv_at hl 4 rfl) ?_
      refine lv_aload_n hx hb dX8_crossings_42 rfl (lv_at hl 0 rfl) ?_
      refine x_getI hx hb hts (hC8) hown hK S 12 (by decide) rf_0_12 (index := 106) (hts _ (List.mem_of_getElem? (i := 3) rfl)) dX8_crossings_43 ?_
      refine lv_icmp_ge (tgt := 100) hx hb dX8_crossings_46 (by decide) (fun c46 => ?_) (fun c46 => ?_)
      · replace h := h.1 c46
        refine lv_iinc (v := (v3 + 1)) (lv' := [(3, .int (v3 + 1)), (0, .ref (ad 0)), (1, .int v1), (2, .int v2), (4, .int v4)]) hx hb dX8_crossings_100 hl (k := 3) rfl rfl (by decide) rfl (fun ls hl => ?_)
        refine lv_goto (tgt := 29) hx hb dX8_crossings_103 (by decide) ?_
        exact hJ _ _ _ _ _ h _ _ _ S (lv_sub hl [1, 2, 3, 0] rfl)
      · replace h := h.2 c46
        refine lv_iload_n hx hb dX8_crossings_49 rfl (lv_at hl 2 rfl) ?_
        refine lv_aload_n hx hb dX8_crossings_50 rfl (lv_at hl 0 rfl) ?_
        refine x_getI hx hb hts (hC8) hown hK S 24 (by decide) rf_0_24 (index := 145) (hts _ (List.mem_of_getElem? (i := 4) rfl)) dX8_crossings_51 ?_
        refine lv_iload_n hx hb dX8_crossings_54 rfl (lv_at hl 3 rfl) ?_
        refine lv_ishr hx hb dX8_crossings_55 ?_
        refine lv_iconst (v := 1) hx hb dX8_crossings_56 (by decide) ?_
        refine lv_iand hx hb dX8_crossings_57 ?_
        refine lv_iconst (v := 1) hx hb dX8_crossings_58 (by decide) ?_
        refine lv_icmp_ne (tgt := 91) hx hb dX8_crossings_59 (by decide) (fun c59 => ?_) (fun c59 => ?_)
        · replace h := h.1 c59
          refine lv_iconst (v := 0) hx hb dX8_crossings_91 (by decide) ?_
          refine lv_iadd hx hb dX8_crossings_92 ?_
          refine lv_istore_n (lv' := [(2, .int (v2 + 0)), (0, .ref (ad 0)), (1, .int v1), (3, .int v3), (4, .int v4)]) hx hb dX8_crossings_93 rfl hl (by decide) rfl (fun ls hl => ?_)
          exact hJ _ _ _ _ _ h _ _ _ S (lv_sub hl [1, 2, 0, 3, 4] rfl)
        · replace h := h.2 c59
          refine lv_aload_n hx hb dX8_crossings_62 rfl (lv_at hl 0 rfl) ?_
          refine x_getR hx hb hts (hC8) hown hK S 23 (by decide) rf_0_23 (index := 50) (hts _ (List.mem_of_getElem? (i := 5) rfl)) dX8_crossings_63 ?_
          refine lv_iload_n hx hb dX8_crossings_66 rfl (lv_at hl 1 rfl) ?_
          refine x_iald hx hb hK S ra_14 h.1 dX8_crossings_67 ?_
          replace h := h.2
          refine lv_iload hx hb dX8_crossings_68 (lv_at hl 4 rfl) ?_
          refine lv_ishr hx hb dX8_crossings_70 ?_
          refine lv_iconst (v := 1) hx hb dX8_crossings_71 (by decide) ?_
          refine lv_iand hx hb dX8_crossings_72 ?_
          refine lv_iconst (v := 1) hx hb dX8_crossings_73 (by decide) ?_
          refine lv_icmp_ne (tgt := 91) hx hb dX8_crossings_74 (by decide) (fun c74 => ?_) (fun c74 => ?_)
          · replace h := h.1 c74
            refine lv_iconst (v := 0) hx hb dX8_crossings_91 (by decide) ?_
            refine lv_iadd hx hb dX8_crossings_92 ?_
            refine lv_istore_n (lv' := [(2, .int (v2 + 0)), (0, .ref (ad 0)), (1, .int v1), (3, .int v3), (4, .int v4)]) hx hb dX8_crossings_93 rfl hl (by decide) rfl (fun ls hl => ?_)
            exact hJ _ _ _ _ _ h _ _ _ S (lv_sub hl [1, 2, 0, 3, 4] rfl)
          · replace h := h.2 c74
            refine lv_aload_n hx hb dX8_crossings_77 rfl (lv_at hl 0 rfl) ?_
            refine x_getR hx hb hts (hC8) hown hK S 16 (by decide) rf_0_16 (index := 41) (hts _ (List.mem_of_getElem? (i := 6) rfl)) dX8_crossings_78 ?_
            refine lv_iload_n hx hb dX8_crossings_81 rfl (lv_at hl 3 rfl) ?_
            refine x_iald hx hb hK S ra_11 h.1 dX8_crossings_82 ?_
            replace h := h.2
            refine lv_iload hx hb dX8_crossings_83 (lv_at hl 4 rfl) ?_
            refine lv_ishr hx hb dX8_crossings_85 ?_
            refine lv_iconst (v := 1) hx hb dX8_crossings_86 (by decide) ?_
            refine lv_iand hx hb dX8_crossings_87 ?_
            refine lv_goto (tgt := 92) hx hb dX8_crossings_88 (by decide) ?_
            refine lv_iadd hx hb dX8_crossings_92 ?_
            refine lv_topi (fun x2_2 ex2_2 => ?_)
            replace h := h x2_2 ex2_2
            refine lv_istore_n (lv' := [(2, .int x2_2), (0, .ref (ad 0)), (1, .int v1), (3, .int v3), (4, .int v4)]) hx hb dX8_crossings_93 rfl hl (by decide) rfl (fun ls hl => ?_)
            exact hJ _ _ _ _ _ h _ _ _ S (lv_sub hl [1, 2, 0, 3, 4] rfl)
    | 3, h, hl =>
      have hl : lv_has ls 5 [(0, .ref (ad 0)), (1, .int v1), (2, .int v2), (3, .int v3), (4, .int v4)] := hl
      have h : blk_X8_crossings_3 v1 Q P v2 v3 v4 M := h
      unfold blk_X8_crossings_3 at h
      refine W.eq (g2 := F0 m 94 ls []) rfl ?_
      refine lv_iinc (v := (v4 + 1)) (lv' := [(4, .int (v4 + 1)), (0, .ref (ad 0)), (1, .int v1), (2, .int v2), (3, .int v3)]) hx hb dX8_crossings_94 hl (k := 4) rfl rfl (by decide) rfl (fun ls hl => ?_)
      refine lv_goto (tgt := 40) hx hb dX8_crossings_97 (by decide) ?_
      exact hJ _ _ _ _ _ h _ _ _ S (lv_sub hl [1, 2, 3, 4, 0] rfl)
    | _ + 4, h, hl => exact h.elim
  have hl := lv_entry ([.ref (ad 0), .int v1]) (n := 5) (Nat.le_of_ble_eq_true rfl)
  subst hargs
  rw [lg_entry_eq]
  generalize (lg_sl ([.ref (ad 0), .int v1]) ++ List.replicate (5 - (lg_sl ([.ref (ad 0), .int v1])).length) Slot.unset).toArray = ls at hl ⊢
  exact h _ (key _ (fun _ _ _ _ _ h => h)) s.heap [] ls ⟨hP, hD, va_S.rf⟩ hl
/-! X8_bitsOf -/
def blk_X8_bitsOf_0 (v0 : Int32) (Q : Int32 → Mem → Prop) (P : Nat → Int32 → Int32 → Mem → Prop) (v1 : Int32) (v2 : Int32) (M : Mem) : Prop :=
  P 1 0 0 M
theorem blk_X8_bitsOf_0_mono {v0 : Int32} {Q Q' : Int32 → Mem → Prop} {P P' : Nat → Int32 → Int32 → Mem → Prop} (hQ : ∀ (r : Int32) (M : Mem), Q r M → Q' r M) (hP : ∀ (lab : Nat) (v1 : Int32) (v2 : Int32) (M : Mem), P lab v1 v2 M → P' lab v1 v2 M) (v1 : Int32) (v2 : Int32) (M : Mem) (h : blk_X8_bitsOf_0 v0 Q P v1 v2 M) : blk_X8_bitsOf_0 v0 Q' P' v1 v2 M := by
  unfold blk_X8_bitsOf_0 at h ⊢
  exact hP _ _ _ _ h
def blk_X8_bitsOf_1 (v0 : Int32) (Q : Int32 → Mem → Prop) (P : Nat → Int32 → Int32 → Mem → Prop) (v1 : Int32) (v2 : Int32) (M : Mem) : Prop :=
  ((28 ≤ v2 → Q v1 M) ∧ (¬ 28 ≤ v2 → ∀ x1_1 : Int32, x1_1 = (v1 + ((v0 >>> (v2 &&& 31)) &&& (1 : Int32))) → P 1 x1_1 (v2 + 1) M))
theorem blk_X8_bitsOf_1_mono {v0 : Int32} {Q Q' : Int32 → Mem → Prop} {P P' : Nat → Int32 → Int32 → Mem → Prop} (hQ : ∀ (r : Int32) (M : Mem), Q r M → Q' r M) (hP : ∀ (lab : Nat) (v1 : Int32) (v2 : Int32) (M : Mem), P lab v1 v2 M → P' lab v1 v2 M) (v1 : Int32) (v2 : Int32) (M : Mem) (h : blk_X8_bitsOf_1 v0 Q P v1 v2 M) : blk_X8_bitsOf_1 v0 Q' P' v1 v2 M := by
  unfold blk_X8_bitsOf_1 at h ⊢
  exact ⟨fun c => let h := h.1 c; hQ _ _ h, fun c => let h := h.2 c; fun x1_1 ex1_1 => let h := h x1_1 ex1_1; hP _ _ _ _ h⟩
def blk_X8_bitsOf (v0 : Int32) (Q : Int32 → Mem → Prop) (P : Nat → Int32 → Int32 → Mem → Prop) : Nat → Int32 → Int32 → Mem → Prop := fun lab v1 v2 M => match lab with
  | 0 => blk_X8_bitsOf_0 v0 Q P v1 v2 M
  | 1 => blk_X8_bitsOf_1 v0 Q P v1 v2 M
  | _ => False
theorem blk_X8_bitsOf_mono {v0 : Int32} {Q Q' : Int32 → Mem → Prop} {P P' : Nat → Int32 → Int32 → Mem → Prop} (hQ : ∀ (r : Int32) (M : Mem), Q r M → Q' r M) (hP : ∀ (lab : Nat) (v1 : Int32) (v2 : Int32) (M : Mem), P lab v1 v2 M → P' lab v1 v2 M) : ∀ (lab : Nat) (v1 : Int32) (v2 : Int32) (M : Mem), blk_X8_bitsOf v0 Q P lab v1 v2 M → blk_X8_bitsOf v0 Q' P' lab v1 v2 M := fun lab v1 v2 M h => match lab, h with
  | 0, h => blk_X8_bitsOf_0_mono (v0 := v0) hQ hP v1 v2 M h
  | 1, h => blk_X8_bitsOf_1_mono (v0 := v0) hQ hP v1 v2 M h
  | _ + 2, h => False.elim h
def at_X8_bitsOf (v0 : Int32) (Q : Int32 → Mem → Prop) : Nat → Int32 → Int32 → Mem → Prop := fun lab v1 v2 M => ∀ P : Nat → Int32 → Int32 → Mem → Prop, (∀ (lab : Nat) (v1 : Int32) (v2 : Int32) (M : Mem), blk_X8_bitsOf v0 Q P lab v1 v2 M → P lab v1 v2 M) → P lab v1 v2 M
theorem at_X8_bitsOf_fold {v0 : Int32} {Q : Int32 → Mem → Prop} {lab : Nat} {v1 : Int32} {v2 : Int32} {M : Mem} (h : blk_X8_bitsOf v0 Q (at_X8_bitsOf v0 Q) lab v1 v2 M) : at_X8_bitsOf v0 Q lab v1 v2 M := fun P hP => hP _ _ _ _ (blk_X8_bitsOf_mono (fun _ _ h => h) (fun _ _ _ _ h => h P hP) _ _ _ _ h)
theorem at_X8_bitsOf_mono {v0 : Int32} {Q Q' : Int32 → Mem → Prop} (hQ : ∀ (r : Int32) (M : Mem), Q r M → Q' r M) {lab : Nat} {v1 : Int32} {v2 : Int32} {M : Mem} (h : at_X8_bitsOf v0 Q lab v1 v2 M) : at_X8_bitsOf v0 Q' lab v1 v2 M := fun P hP => h P (fun lab v1 v2 M hb => hP _ _ _ _ (blk_X8_bitsOf_mono hQ (fun _ _ _ _ h => h) _ _ _ _ hb))
def wp_X8_bitsOf (v0 : Int32) (M : Mem) (Q : Int32 → Mem → Prop) : Prop := at_X8_bitsOf v0 Q 0 0 0 M
theorem wp_X8_bitsOf_mono {v0 : Int32} {M : Mem} {Q Q' : Int32 → Mem → Prop} (hQ : ∀ (r : Int32) (M : Mem), Q r M → Q' r M) (h : wp_X8_bitsOf v0 M Q) : wp_X8_bitsOf v0 M Q' := at_X8_bitsOf_mono hQ h
def pcl_X8_bitsOf : Nat → Nat := fun lab => match lab with
  | 0 => 0
  | 1 => 4
  | _ => 0
def lvl_X8_bitsOf (ad : Nat → Nat) (v0 : Int32) : Nat → Int32 → Int32 → List (Nat × Value) := fun lab v1 v2 => match lab with
  | 0 => [(0, .int v0)]
  | 1 => [(0, .int v0), (1, .int v1), (2, .int v2)]
  | _ => []
abbrev rm_X8_bitsOf : Jvm.Room := { frames := 1, cells := 0, slots := 0, locals := 14 }
set_option maxHeartbeats 4000000 in
set_option maxRecDepth 100000 in
theorem ct_X8_bitsOf (l : Launch) (D : va_G) (cy : Nat → ClassId) (ad : Nat → Nat) (B : Nat → Prop) (v0 : Int32) (M : Mem) (Q : Int32 → Mem → Prop) (h : wp_X8_bitsOf v0 M Q) : CTi l D cy (wR ad cy) B yX8_bitsOf wsX8_bitsOf rm_X8_bitsOf [.int v0] M Q := by
  intro sz
  refine Met.ofW (cc := cX8_bitsOf) (maxL := 3) (ret := some .int) (by decide) rfl ?_
  intro p e s m args below meth c s₁ Bd hml hv
  obtain ⟨hargs, hsz, hP, hK, hD⟩ := hv
  subst hsz
  have hx := Bd.exec
  have hb := Bd.bytes
  have hr := Bd.returns
  have hts := atoms_spec (ws := wsX8_bitsOf) Bd.pre
  have hown : s.vm.findClass RX8 = some m.cls := findClass_of_methodNamed Bd.named
  have hlocks := Bd.notSynchronized
  have key : ∀ (P : Nat → Int32 → Int32 → Mem → Prop), (∀ (lab : Nat) (v1 : Int32) (v2 : Int32) (M : Mem), P lab v1 v2 M → ∀ (H : Heap) (locs : List Loc) (ls : Array Slot), xS D (wR ad cy) B s.heap H locs M → lv_has ls 3 (lvl_X8_bitsOf ad v0 lab v1 v2 ) → W p l e (headSpec wsX8_bitsOf rm_X8_bitsOf).room s m args below meth c H locs 0 0 (MQ below (va_Qi (S := Mem) Q (xB D (wR ad cy) B) (xA B s.heap.size)) args s 0 0 (xA B s.heap.size)) (F0 m (pcl_X8_bitsOf lab) ls [])) → ∀ (lab : Nat) (v1 : Int32) (v2 : Int32) (M : Mem), blk_X8_bitsOf v0 Q P lab v1 v2 M → ∀ (H : Heap) (locs : List Loc) (ls : Array Slot), xS D (wR ad cy) B s.heap H locs M → lv_has ls 3 (lvl_X8_bitsOf ad v0 lab v1 v2 ) → W p l e (headSpec wsX8_bitsOf rm_X8_bitsOf).room s m args below meth c H locs 0 0 (MQ below (va_Qi (S := Mem) Q (xB D (wR ad cy) B) (xA B s.heap.size)) args s 0 0 (xA B s.heap.size)) (F0 m (pcl_X8_bitsOf lab) ls []) := by
    intro P hJ lab v1 v2 M h H locs ls S hl
    match lab, h, hl with
    | 0, h, hl =>
      have hl : lv_has ls 3 [(0, .int v0)] := hl
      have h : blk_X8_bitsOf_0 v0 Q P v1 v2 M := h
      unfold blk_X8_bitsOf_0 at h
      refine W.eq (g2 := F0 m 0 ls []) rfl ?_
      refine lv_iconst (v := 0) hx hb dX8_bitsOf_0 (by decide) ?_
      refine lv_istore_n (lv' := [(1, .int 0), (0, .int v0)]) hx hb dX8_bitsOf_1 rfl hl (by decide) rfl (fun ls hl => ?_)
      refine lv_iconst (v := 0) hx hb dX8_bitsOf_2 (by decide) ?_
      refine lv_istore_n (lv' := [(2, .int 0), (1, .int 0), (0, .int v0)]) hx hb dX8_bitsOf_3 rfl hl (by decide) rfl (fun ls hl => ?_)
      exact hJ _ _ _ _ h _ _ _ S (lv_sub hl [2, 1, 0] rfl)
    | 1, h, hl =>
      have hl : lv_has ls 3 [(0, .int v0), (1, .int v1), (2, .int v2)] := hl
      have h : blk_X8_bitsOf_1 v0 Q P v1 v2 M := h
      unfold blk_X8_bitsOf_1 at h
      refine W.eq (g2 := F0 m 4 ls []) rfl ?_
      refine lv_iload_n hx hb dX8_bitsOf_4 rfl (lv_at hl 2 rfl) ?_
      refine lv_bipush (v := 28) hx hb dX8_bitsOf_5 (by decide) ?_
      refine lv_icmp_ge (tgt := 24) hx hb dX8_bitsOf_7 (by decide) (fun c7 => ?_) (fun c7 => ?_)
      · replace h := h.1 c7
        refine lv_iload_n hx hb dX8_bitsOf_24 rfl (lv_at hl 1 rfl) ?_
        exact x_iret hx hb hr hlocks S rfl h dX8_bitsOf_25
      · replace h := h.2 c7
        refine lv_iload_n hx hb dX8_bitsOf_10 rfl (lv_at hl 1 rfl) ?_
        refine lv_iload_n hx hb dX8_bitsOf_11 rfl (lv_at hl 0 rfl) ?_
        refine lv_iload_n hx hb dX8_bitsOf_12 rfl (lv_at hl 2 rfl) ?_
        refine lv_ishr hx hb dX8_bitsOf_13 ?_
        refine lv_iconst (v := 1) hx hb dX8_bitsOf_14 (by decide) ?_
        refine lv_iand hx hb dX8_bitsOf_15 ?_
        refine lv_iadd hx hb dX8_bitsOf_16 ?_
        refine lv_topi (fun x1_1 ex1_1 => ?_)
        replace h := h x1_1 ex1_1
        refine lv_istore_n (lv' := [(1, .int x1_1), (0, .int v0), (2, .int v2)]) hx hb dX8_bitsOf_17 rfl hl (by decide) rfl (fun ls hl => ?_)
        refine lv_iinc (v := (v2 + 1)) (lv' := [(2, .int (v2 + 1)), (1, .int x1_1), (0, .int v0)]) hx hb dX8_bitsOf_18 hl (k := 2) rfl rfl (by decide) rfl (fun ls hl => ?_)
        refine lv_goto (tgt := 4) hx hb dX8_bitsOf_21 (by decide) ?_
        exact hJ _ _ _ _ h _ _ _ S (lv_sub hl [2, 1, 0] rfl)
    | _ + 2, h, hl => exact h.elim
  have hl := lv_entry ([.int v0]) (n := 3) (Nat.le_of_ble_eq_true rfl)
  subst hargs
  rw [lg_entry_eq]
  generalize (lg_sl ([.int v0]) ++ List.replicate (3 - (lg_sl ([.int v0])).length) Slot.unset).toArray = ls at hl ⊢
  exact h _ (key _ (fun _ _ _ _ h => h)) s.heap [] ls ⟨hP, hD, va_S.rf⟩ hl
/-! X8_total -/
def blk_X8_total_0 (v1 : Int32) (Q : Int32 → Mem → Prop) (P : Nat → Int32 → Int32 → Mem → Prop) (v2 : Int32) (v3 : Int32) (M : Mem) : Prop :=
  wp_X8_in v1.toInt64 (0 : Int64) (8 : Int64) (upI M 0 0 0) (fun r1 M1 => ((¬ r1 = 0 → ((v1 = 0 → P 1 0 0 M1) ∧ (¬ v1 = 0 → ((¬ v1 = 7 → ((¬ v1 = 8 → ((¬ (M1.1 0 8) = 0 → (((v1 : Int32).toInt < 1 ∨ 5 < (v1 : Int32).toInt → Q (M1.1 0 25) M1) ∧ ((v1 : Int32).toInt = 1 → Q (M1.1 0 9) M1) ∧ ((v1 : Int32).toInt = 2 → Q (M1.1 0 12) M1) ∧ ((v1 : Int32).toInt = 3 → P 2 0 0 M1) ∧ ((v1 : Int32).toInt = 4 → wp_X8_bitsOf (M1.1 0 18) M1 (fun r2 M2 => Q r2 M2)) ∧ ((v1 : Int32).toInt = 5 → wp_X8_bitsOf (M1.1 0 19) M1 (fun r3 M3 => Q r3 M3)))) ∧ ((M1.1 0 8) = 0 → Q 0 M1))) ∧ (v1 = 8 → P 3 0 0 M1))) ∧ (v1 = 7 → P 1 0 0 M1))))) ∧ (r1 = 0 → Q (-2) M1)))
theorem blk_X8_total_0_mono {v1 : Int32} {Q Q' : Int32 → Mem → Prop} {P P' : Nat → Int32 → Int32 → Mem → Prop} (hQ : ∀ (r : Int32) (M : Mem), Q r M → Q' r M) (hP : ∀ (lab : Nat) (v2 : Int32) (v3 : Int32) (M : Mem), P lab v2 v3 M → P' lab v2 v3 M) (v2 : Int32) (v3 : Int32) (M : Mem) (h : blk_X8_total_0 v1 Q P v2 v3 M) : blk_X8_total_0 v1 Q' P' v2 v3 M := by
  unfold blk_X8_total_0 at h ⊢
  exact wp_X8_in_mono (fun r1 M1 h => ⟨fun c => let h := h.1 c; ⟨fun c => let h := h.1 c; hP _ _ _ _ h, fun c => let h := h.2 c; ⟨fun c => let h := h.1 c; ⟨fun c => let h := h.1 c; ⟨fun c => let h := h.1 c; ⟨fun c => let h := h.1 c; hQ _ _ h, fun c => let h := h.2.1 c; hQ _ _ h, fun c => let h := h.2.2.1 c; hQ _ _ h, fun c => let h := h.2.2.2.1 c; hP _ _ _ _ h, fun c => let h := h.2.2.2.2.1 c; wp_X8_bitsOf_mono (fun r2 M2 h => hQ _ _ h) h, fun c => let h := h.2.2.2.2.2 c; wp_X8_bitsOf_mono (fun r3 M3 h => hQ _ _ h) h⟩, fun c => let h := h.2 c; hQ _ _ h⟩, fun c => let h := h.2 c; hP _ _ _ _ h⟩, fun c => let h := h.2 c; hP _ _ _ _ h⟩⟩, fun c => let h := h.2 c; hQ _ _ h⟩) h
def blk_X8_total_1 (v1 : Int32) (Q : Int32 → Mem → Prop) (P : Nat → Int32 → Int32 → Mem → Prop) (v2 : Int32) (v3 : Int32) (M : Mem) : Prop :=
  ((¬ v1 = 0 → Q (M.1 0 4) M) ∧ (v1 = 0 → Q (M.1 0 5) M))
theorem blk_X8_total_1_mono {v1 : Int32} {Q Q' : Int32 → Mem → Prop} {P P' : Nat → Int32 → Int32 → Mem → Prop} (hQ : ∀ (r : Int32) (M : Mem), Q r M → Q' r M) (hP : ∀ (lab : Nat) (v2 : Int32) (v3 : Int32) (M : Mem), P lab v2 v3 M → P' lab v2 v3 M) (v2 : Int32) (v3 : Int32) (M : Mem) (h : blk_X8_total_1 v1 Q P v2 v3 M) : blk_X8_total_1 v1 Q' P' v2 v3 M := by
  unfold blk_X8_total_1 at h ⊢
  exact ⟨fun c => let h := h.1 c; hQ _ _ h, fun c => let h := h.2 c; hQ _ _ h⟩
def blk_X8_total_2 (v1 : Int32) (Q : Int32 → Mem → Prop) (P : Nat → Int32 → Int32 → Mem → Prop) (v2 : Int32) (v3 : Int32) (M : Mem) : Prop :=
  (((M.1 0 12) ≤ v3 → Q v2 M) ∧ (¬ (M.1 0 12) ≤ v3 → wp_X8_isHem v3 M (fun r4 M4 => ((r4 = 0 → P 4 (v2 + 0) v3 M4) ∧ (¬ r4 = 0 → P 4 (v2 + 1) v3 M4)))))
theorem blk_X8_total_2_mono {v1 : Int32} {Q Q' : Int32 → Mem → Prop} {P P' : Nat → Int32 → Int32 → Mem → Prop} (hQ : ∀ (r : Int32) (M : Mem), Q r M → Q' r M) (hP : ∀ (lab : Nat) (v2 : Int32) (v3 : Int32) (M : Mem), P lab v2 v3 M → P' lab v2 v3 M) (v2 : Int32) (v3 : Int32) (M : Mem) (h : blk_X8_total_2 v1 Q P v2 v3 M) : blk_X8_total_2 v1 Q' P' v2 v3 M := by
  unfold blk_X8_total_2 at h ⊢
  exact ⟨fun c => let h := h.1 c; hQ _ _ h, fun c => let h := h.2 c; wp_X8_isHem_mono (fun r4 M4 h => ⟨fun c => let h := h.1 c; hP _ _ _ _ h, fun c => let h := h.2 c; hP _ _ _ _ h⟩) h⟩
def blk_X8_total_3 (v1 : Int32) (Q : Int32 → Mem → Prop) (P : Nat → Int32 → Int32 → Mem → Prop) (v2 : Int32) (v3 : Int32) (M : Mem) : Prop :=
  ((4 ≤ v3 → Q v2 M) ∧ (¬ 4 ≤ v3 → (vp_in v3 4 ∧ ((0 ≤ (M.1 1 v3.toNatClampNeg) → P 5 (v2 + 1) v3 M) ∧ (¬ 0 ≤ (M.1 1 v3.toNatClampNeg) → P 5 (v2 + 0) v3 M)))))
theorem blk_X8_total_3_mono {v1 : Int32} {Q Q' : Int32 → Mem → Prop} {P P' : Nat → Int32 → Int32 → Mem → Prop} (hQ : ∀ (r : Int32) (M : Mem), Q r M → Q' r M) (hP : ∀ (lab : Nat) (v2 : Int32) (v3 : Int32) (M : Mem), P lab v2 v3 M → P' lab v2 v3 M) (v2 : Int32) (v3 : Int32) (M : Mem) (h : blk_X8_total_3 v1 Q P v2 v3 M) : blk_X8_total_3 v1 Q' P' v2 v3 M := by
  unfold blk_X8_total_3 at h ⊢
  exact ⟨fun c => let h := h.1 c; hQ _ _ h, fun c => let h := h.2 c; ⟨h.1, let h := h.2; ⟨fun c => let h := h.1 c; hP _ _ _ _ h, fun c => let h := h.2 c; hP _ _ _ _ h⟩⟩⟩
def blk_X8_total_4 (v1 : Int32) (Q : Int32 → Mem → Prop) (P : Nat → Int32 → Int32 → Mem → Prop) (v2 : Int32) (v3 : Int32) (M : Mem) : Prop :=
  P 2 v2 (v3 + 1) M
theorem blk_X8_total_4_mono {v1 : Int32} {Q Q' : Int32 → Mem → Prop} {P P' : Nat → Int32 → Int32 → Mem → Prop} (hQ : ∀ (r : Int32) (M : Mem), Q r M → Q' r M) (hP : ∀ (lab : Nat) (v2 : Int32) (v3 : Int32) (M : Mem), P lab v2 v3 M → P' lab v2 v3 M) (v2 : Int32) (v3 : Int32) (M : Mem) (h : blk_X8_total_4 v1 Q P v2 v3 M) : blk_X8_total_4 v1 Q' P' v2 v3 M := by
  unfold blk_X8_total_4 at h ⊢
  exact hP _ _ _ _ h
def blk_X8_total_5 (v1 : Int32) (Q : Int32 → Mem → Prop) (P : Nat → Int32 → Int32 → Mem → Prop) (v2 : Int32) (v3 : Int32) (M : Mem) : Prop :=
  P 3 v2 (v3 + 1) M
theorem blk_X8_total_5_mono {v1 : Int32} {Q Q' : Int32 → Mem → Prop} {P P' : Nat → Int32 → Int32 → Mem → Prop} (hQ : ∀ (r : Int32) (M : Mem), Q r M → Q' r M) (hP : ∀ (lab : Nat) (v2 : Int32) (v3 : Int32) (M : Mem), P lab v2 v3 M → P' lab v2 v3 M) (v2 : Int32) (v3 : Int32) (M : Mem) (h : blk_X8_total_5 v1 Q P v2 v3 M) : blk_X8_total_5 v1 Q' P' v2 v3 M := by
  unfold blk_X8_total_5 at h ⊢
  exact hP _ _ _ _ h
def blk_X8_total (v1 : Int32) (Q : Int32 → Mem → Prop) (P : Nat → Int32 → Int32 → Mem → Prop) : Nat → Int32 → Int32 → Mem → Prop := fun lab v2 v3 M => match lab with
  | 0 => blk_X8_total_0 v1 Q P v2 v3 M
  | 1 => blk_X8_total_1 v1 Q P v2 v3 M
  | 2 => blk_X8_total_2 v1 Q P v2 v3 M
  | 3 => blk_X8_total_3 v1 Q P v2 v3 M
  | 4 => blk_X8_total_4 v1 Q P v2 v3 M
  | 5 => blk_X8_total_5 v1 Q P v2 v3 M
  | _ => False
theorem blk_X8_total_mono {v1 : Int32} {Q Q' : Int32 → Mem → Prop} {P P' : Nat → Int32 → Int32 → Mem → Prop} (hQ : ∀ (r : Int32) (M : Mem), Q r M → Q' r M) (hP : ∀ (lab : Nat) (v2 : Int32) (v3 : Int32) (M : Mem), P lab v2 v3 M → P' lab v2 v3 M) : ∀ (lab : Nat) (v2 : Int32) (v3 : Int32) (M : Mem), blk_X8_total v1 Q P lab v2 v3 M → blk_X8_total v1 Q' P' lab v2 v3 M := fun lab v2 v3 M h => match lab, h with
  | 0, h => blk_X8_total_0_mono (v1 := v1) hQ hP v2 v3 M h
  | 1, h => blk_X8_total_1_mono (v1 := v1) hQ hP v2 v3 M h
  | 2, h => blk_X8_total_2_mono (v1 := v1) hQ hP v2 v3 M h
  | 3, h => blk_X8_total_3_mono (v1 := v1) hQ hP v2 v3 M h
  | 4, h => blk_X8_total_4_mono (v1 := v1) hQ hP v2 v3 M h
  | 5, h => blk_X8_total_5_mono (v1 := v1) hQ hP v2 v3 M h
  | _ + 6, h => False.elim h
def at_X8_total (v1 : Int32) (Q : Int32 → Mem → Prop) : Nat → Int32 → Int32 → Mem → Prop := fun lab v2 v3 M => ∀ P : Nat → Int32 → Int32 → Mem → Prop, (∀ (lab : Nat) (v2 : Int32) (v3 : Int32) (M : Mem), blk_X8_total v1 Q P lab v2 v3 M → P lab v2 v3 M) → P lab v2 v3 M
theorem at_X8_total_fold {v1 : Int32} {Q : Int32 → Mem → Prop} {lab : Nat} {v2 : Int32} {v3 : Int32} {M : Mem} (h : blk_X8_total v1 Q (at_X8_total v1 Q) lab v2 v3 M) : at_X8_total v1 Q lab v2 v3 M := fun P hP => hP _ _ _ _ (blk_X8_total_mono (fun _ _ h => h) (fun _ _ _ _ h => h P hP) _ _ _ _ h)
theorem at_X8_total_mono {v1 : Int32} {Q Q' : Int32 → Mem → Prop} (hQ : ∀ (r : Int32) (M : Mem), Q r M → Q' r M) {lab : Nat} {v2 : Int32} {v3 : Int32} {M : Mem} (h : at_X8_total v1 Q lab v2 v3 M) : at_X8_total v1 Q' lab v2 v3 M := fun P hP => h P (fun lab v2 v3 M hb => hP _ _ _ _ (blk_X8_total_mono hQ (fun _ _ _ _ h => h) _ _ _ _ hb))
def wp_X8_total (v1 : Int32) (M : Mem) (Q : Int32 → Mem → Prop) : Prop := at_X8_total v1 Q 0 0 0 M
theorem wp_X8_total_mono {v1 : Int32} {M : Mem} {Q Q' : Int32 → Mem → Prop} (hQ : ∀ (r : Int32) (M : Mem), Q r M → Q' r M) (h : wp_X8_total v1 M Q) : wp_X8_total v1 M Q' := at_X8_total_mono hQ h
def pcl_X8_total : Nat → Nat := fun lab => match lab with
  | 0 => 0
  | 1 => 30
  | 2 => 144
  | 3 => 56
  | 4 => 168
  | 5 => 78
  | _ => 0
def lvl_X8_total (ad : Nat → Nat) (v1 : Int32) : Nat → Int32 → Int32 → List (Nat × Value) := fun lab v2 v3 => match lab with
  | 0 => [(0, .ref (ad 0)), (1, .int v1)]
  | 1 => [(0, .ref (ad 0)), (1, .int v1)]
  | 2 => [(0, .ref (ad 0)), (2, .int v2), (3, .int v3)]
  | 3 => [(0, .ref (ad 0)), (2, .int v2), (3, .int v3)]
  | 4 => [(0, .ref (ad 0)), (2, .int v2), (3, .int v3)]
  | 5 => [(0, .ref (ad 0)), (2, .int v2), (3, .int v3)]
  | _ => []
abbrev rm_X8_total : Jvm.Room := { frames := 3, cells := 0, slots := 0, locals := 64 }
set_option maxHeartbeats 4000000 in
set_option maxRecDepth 100000 in
theorem ct_X8_total (l : Launch) (D : va_G) (cy : Nat → ClassId) (ad : Nat → Nat) (B : Nat → Prop) (v1 : Int32) (M : Mem) (Q : Int32 → Mem → Prop) (h : wp_X8_total v1 M Q) : CTi l D cy (wR ad cy) B yX8_total wsX8_total rm_X8_total [.ref (ad 0), .int v1] M Q := by
  intro sz
  refine Met.ofW (cc := cX8_total) (maxL := 4) (ret := some .int) (by decide) rfl ?_
  intro p e s m args below meth c s₁ Bd hml hv
  obtain ⟨hargs, hsz, hP, hK, hD⟩ := hv
  subst hsz
  have hx := Bd.exec
  have hb := Bd.bytes
  have hr := Bd.returns
  have hts := atoms_spec (ws := wsX8_total) Bd.pre
  have hown : s.vm.findClass RX8 = some m.cls := findClass_of_methodNamed Bd.named
  have hlocks := Bd.notSynchronized
  have hC8 : xC wsX8_total 8 RX8 TX8 34 := ⟨by decide +kernel, rfl⟩
  have key : ∀ (P : Nat → Int32 → Int32 → Mem → Prop), (∀ (lab : Nat) (v2 : Int32) (v3 : Int32) (M : Mem), P lab v2 v3 M → ∀ (H : Heap) (locs : List Loc) (ls : Array Slot), xS D (wR ad cy) B s.heap H locs M → lv_has ls 4 (lvl_X8_total ad v1 lab v2 v3 ) → W p l e (headSpec wsX8_total rm_X8_total).room s m args below meth c H locs 0 0 (MQ below (va_Qi (S := Mem) Q (xB D (wR ad cy) B) (xA B s.heap.size)) args s 0 0 (xA B s.heap.size)) (F0 m (pcl_X8_total lab) ls [])) → ∀ (lab : Nat) (v2 : Int32) (v3 : Int32) (M : Mem), blk_X8_total v1 Q P lab v2 v3 M → ∀ (H : Heap) (locs : List Loc) (ls : Array Slot), xS D (wR ad cy) B s.heap H locs M → lv_has ls 4 (lvl_X8_total ad v1 lab v2 v3 ) → W p l e (headSpec wsX8_total rm_X8_total).room s m args below meth c H locs 0 0 (MQ below (va_Qi (S := Mem) Q (xB D (wR ad cy) B) (xA B s.heap.size)) args s 0 0 (xA B s.heap.size)) (F0 m (pcl_X8_total lab) ls []) := by
    intro P hJ lab v2 v3 M h H locs ls S hl
    match lab, h, hl with
    | 0, h, hl =>
      have hl : lv_has ls 4 [(0, .ref (ad 0)), (1, .int v1)] := hl
      have h : blk_X8_total_0 v1 Q P v2 v3 M := h
      unfold blk_X8_total_0 at h
      refine W.eq (g2 := F0 m 0 ls []) rfl ?_
      refine lv_aload_n hx hb dX8_total_0 rfl (lv_at hl 0 rfl) ?_
      refine lv_iconst (v := 0) hx hb dX8_total_1 (by decide) ?_
      refine x_putI hx hb hts (hC8) tyX8 tyX8_ok nmX8 hown hK S 0 (by decide) rf_0_0 (index := 74) (hts _ (List.mem_of_getElem? (i := 1) rfl)) rfl rfl rfl dX8_total_2 (fun H locs S => ?_)
      refine lv_iload_n hx hb dX8_total_5 rfl (lv_at hl 1 rfl) ?_
      refine lv_i2l (v := v1.toInt64) hx hb dX8_total_6 rfl ?_
      refine lv_lconst (v := 0) hx hb dX8_total_7 rfl ?_
      refine lv_ldc2 (v := 8) hx hb hown (hts _ (List.mem_of_getElem? (i := 2) rfl)) dX8_total_8 ?_
      refine x_callSi (As := [.long v1.toInt64, .long (0 : Int64), .long (8 : Int64)]) ⟨hx, hb, hml, hown, hts⟩ hK S (ct_X8_in l D cy ad B _ _ _ _ _ h) (va_cwS 3 hts gX8_total_X8_in rfl rfl rfl (by decide +kernel) ⟨Nat.le_of_ble_eq_true rfl, Nat.le_of_ble_eq_true rfl⟩) rfl hl.1 rfl (Nat.le_of_ble_eq_true rfl) dX8_total_11 ⟨Nat.zero_le _, Nat.zero_le _⟩ (fun r1 M1 H locs h S => ?_)
      refine lv_if_ne (tgt := 20) hx hb dX8_total_14 (by decide) (fun c14 => ?_) (fun c14 => ?_)
      · replace h := h.1 c14
        refine lv_iload_n hx hb dX8_total_20 rfl (lv_at hl 1 rfl) ?_
        refine lv_if_eq (tgt := 30) hx hb dX8_total_21 (by decide) (fun c21 => ?_) (fun c21 => ?_)
        · replace h := h.1 c21
          exact hJ _ _ _ _ h _ _ _ S (lv_sub hl [0, 1] rfl)
        · replace h := h.2 c21
          refine lv_iload_n hx hb dX8_total_24 rfl (lv_at hl 1 rfl) ?_
          refine lv_bipush (v := 7) hx hb dX8_total_25 (by decide) ?_
          refine lv_icmp_ne (tgt := 46) hx hb dX8_total_27 (by decide) (fun c27 => ?_) (fun c27 => ?_)
          · replace h := h.1 c27
            refine lv_iconst (v := 0) hx hb dX8_total_46 (by decide) ?_
            refine lv_istore_n (lv' := [(2, .int 0), (0, .ref (ad 0)), (1, .int v1)]) hx hb dX8_total_47 rfl hl (by decide) rfl (fun ls hl => ?_)
            refine lv_iload_n hx hb dX8_total_48 rfl (lv_at hl 2 rfl) ?_
            refine lv_bipush (v := 8) hx hb dX8_total_49 (by decide) ?_
            refine lv_icmp_ne (tgt := 86) hx hb dX8_total_51 (by decide) (fun c51 => ?_) (fun c51 => ?_)
            · replace h := h.1 c51
              refine lv_aload_n hx hb dX8_total_86 rfl (lv_at hl 1 rfl) ?_
              refine x_getI hx hb hts (hC8) hown hK S 8 (by decide) rf_0_8 (index := 151) (hts _ (List.mem_of_getElem? (i := 6) rfl)) dX8_total_87 ?_
              refine lv_if_ne (tgt := 95) hx hb dX8_total_90 (by decide) (fun c90 => ?_) (fun c90 => ?_)
              · replace h := h.1 c90
                refine lv_iload_n hx hb dX8_total_95 rfl (lv_at hl 2 rfl) ?_
                by_cases hlo : (v1 : Int32).toInt < 1
                · refine lv_tableOut (tgt := 192) hx hb dX8_total_96 (Or.inl hlo) (by decide) ?_
                  replace h := h.1 (Or.inl hlo)
                  refine lv_aload_n hx hb dX8_total_192 rfl (lv_at hl 1 rfl) ?_
                  refine x_getI hx hb hts (hC8) hown hK S 25 (by decide) rf_0_25 (index := 148) (hts _ (List.mem_of_getElem? (i := 11) rfl)) dX8_total_193 ?_
                  exact x_iret hx hb hr hlocks S rfl h dX8_total_196
                by_cases hhi : 5 < (v1 : Int32).toInt
                · refine lv_tableOut (tgt := 192) hx hb dX8_total_96 (Or.inr hhi) (by decide) ?_
                  replace h := h.1 (Or.inr hhi)
                  refine lv_aload_n hx hb dX8_total_192 rfl (lv_at hl 1 rfl) ?_
                  refine x_getI hx hb hts (hC8) hown hK S 25 (by decide) rf_0_25 (index := 148) (hts _ (List.mem_of_getElem? (i := 11) rfl)) dX8_total_193 ?_
                  exact x_iret hx hb hr hlocks S rfl h dX8_total_196
                replace h := h.2
                have hk : (v1 : Int32).toInt = 1 ∨ (v1 : Int32).toInt = 2 ∨ (v1 : Int32).toInt = 3 ∨ (v1 : Int32).toInt = 4 ∨ (v1 : Int32).toInt = 5 := by omega
                rcases hk with hk | hk | hk | hk | hk
                · refine lv_tableIn (off := 36) (tgt := 132) hx hb dX8_total_96 hlo hhi (by rw [hk]; rfl) (by decide) ?_
                  replace h := h.1 hk
                  refine lv_aload_n hx hb dX8_total_132 rfl (lv_at hl 1 rfl) ?_
                  refine x_getI hx hb hts (hC8) hown hK S 9 (by decide) rf_0_9 (index := 109) (hts _ (List.mem_of_getElem? (i := 7) rfl)) dX8_total_133 ?_
                  exact x_iret hx hb hr hlocks S rfl h dX8_total_136
                · refine lv_tableIn (off := 41) (tgt := 137) hx hb dX8_total_96 hlo hhi (by rw [hk]; rfl) (by decide) ?_
                  replace h := h.2.1 hk
                  refine lv_aload_n hx hb dX8_total_137 rfl (lv_at hl 1 rfl) ?_
                  refine x_getI hx hb hts (hC8) hown hK S 12 (by decide) rf_0_12 (index := 106) (hts _ (List.mem_of_getElem? (i := 8) rfl)) dX8_total_138 ?_
                  exact x_iret hx hb hr hlocks S rfl h dX8_total_141
                · refine lv_tableIn (off := 46) (tgt := 142) hx hb dX8_total_96 hlo hhi (by rw [hk]; rfl) (by decide) ?_
                  replace h := h.2.2.1 hk
                  refine lv_iconst (v := 0) hx hb dX8_total_142 (by decide) ?_
                  refine lv_istore_n (lv' := [(3, .int 0), (2, .int 0), (0, .ref (ad 0)), (1, .int v1)]) hx hb dX8_total_143 rfl hl (by decide) rfl (fun ls hl => ?_)
                  exact hJ _ _ _ _ h _ _ _ S (lv_sub hl [2, 1, 0] rfl)
                · refine lv_tableIn (off := 80) (tgt := 176) hx hb dX8_total_96 hlo hhi (by rw [hk]; rfl) (by decide) ?_
                  replace h := h.2.2.2.1 hk
                  refine lv_aload_n hx hb dX8_total_176 rfl (lv_at hl 1 rfl) ?_
                  refine x_getI hx hb hts (hC8) hown hK S 18 (by decide) rf_0_18 (index := 130) (hts _ (List.mem_of_getElem? (i := 9) rfl)) dX8_total_177 ?_
                  refine x_callSi (As := [.int (M1.1 0 18)]) ⟨hx, hb, hml, hown, hts⟩ hK S (ct_X8_bitsOf l D cy ad B _ _ _ h) (va_cwS 1 hts gX8_total_X8_bitsOf rfl rfl rfl (by decide +kernel) ⟨Nat.le_of_ble_eq_true rfl, Nat.le_of_ble_eq_true rfl⟩) rfl hl.1 rfl (Nat.le_of_ble_eq_true rfl) dX8_total_180 ⟨Nat.zero_le _, Nat.zero_le _⟩ (fun r2 M2 H locs h S => ?_)
                  exact x_iret hx hb hr hlocks S rfl h dX8_total_183
                · refine lv_tableIn (off := 88) (tgt := 184) hx hb dX8_total_96 hlo hhi (by rw [hk]; rfl) (by decide) ?_
                  replace h := h.2.2.2.2 hk
                  refine lv_aload_n hx hb dX8_total_184 rfl (lv_at hl 1 rfl) ?_
                  refine x_getI hx hb hts (hC8) hown hK S 19 (by decide) rf_0_19 (index := 133) (hts _ (List.mem_of_getElem? (i := 10) rfl)) dX8_total_185 ?_
                  refine x_callSi (As := [.int (M1.1 0 19)]) ⟨hx, hb, hml, hown, hts⟩ hK S (ct_X8_bitsOf l D cy ad B _ _ _ h) (va_cwS 1 hts gX8_total_X8_bitsOf rfl rfl rfl (by decide +kernel) ⟨Nat.le_of_ble_eq_true rfl, Nat.le_of_ble_eq_true rfl⟩) rfl hl.1 rfl (Nat.le_of_ble_eq_true rfl) dX8_total_188 ⟨Nat.zero_le _, Nat.zero_le _⟩ (fun r3 M3 H locs h S => ?_)
                  exact x_iret hx hb hr hlocks S rfl h dX8_total_191
              · replace h := h.2 c90
                refine lv_iconst (v := 0) hx hb dX8_total_93 (by decide) ?_
                exact x_iret hx hb hr hlocks S rfl h dX8_total_94
            · replace h := h.2 c51
              refine lv_iconst (v := 0) hx hb dX8_total_54 (by decide) ?_
              refine lv_istore_n (lv' := [(3, .int 0), (2, .int 0), (0, .ref (ad 0)), (1, .int v1)]) hx hb dX8_total_55 rfl hl (by decide) rfl (fun ls hl => ?_)
              exact hJ _ _ _ _ h _ _ _ S (lv_sub hl [2, 1, 0] rfl)
          · replace h := h.2 c27
            exact hJ _ _ _ _ h _ _ _ S (lv_sub hl [0, 1] rfl)
      · replace h := h.2 c14
        refine lv_bipush (v := (-2)) hx hb dX8_total_17 (by decide) ?_
        exact x_iret hx hb hr hlocks S rfl h dX8_total_19
    | 1, h, hl =>
      have hl : lv_has ls 4 [(0, .ref (ad 0)), (1, .int v1)] := hl
      have h : blk_X8_total_1 v1 Q P v2 v3 M := h
      unfold blk_X8_total_1 at h
      refine W.eq (g2 := F0 m 30 ls []) rfl ?_
      refine lv_iload_n hx hb dX8_total_30 rfl (lv_at hl 1 rfl) ?_
      refine lv_if_ne (tgt := 41) hx hb dX8_total_31 (by decide) (fun c31 => ?_) (fun c31 => ?_)
      · replace h := h.1 c31
        refine lv_aload_n hx hb dX8_total_41 rfl (lv_at hl 0 rfl) ?_
        refine x_getI hx hb hts (hC8) hown hK S 4 (by decide) rf_0_4 (index := 78) (hts _ (List.mem_of_getElem? (i := 4) rfl)) dX8_total_42 ?_
        exact x_iret hx hb hr hlocks S rfl h dX8_total_45
      · replace h := h.2 c31
        refine lv_aload_n hx hb dX8_total_34 rfl (lv_at hl 0 rfl) ?_
        refine x_getI hx hb hts (hC8) hown hK S 5 (by decide) rf_0_5 (index := 95) (hts _ (List.mem_of_getElem? (i := 3) rfl)) dX8_total_35 ?_
        refine lv_goto (tgt := 45) hx hb dX8_total_38 (by decide) ?_
        exact x_iret hx hb hr hlocks S rfl h dX8_total_45
    | 2, h, hl =>
      have hl : lv_has ls 4 [(0, .ref (ad 0)), (2, .int v2), (3, .int v3)] := hl
      have h : blk_X8_total_2 v1 Q P v2 v3 M := h
      unfold blk_X8_total_2 at h
      refine W.eq (g2 := F0 m 144 ls []) rfl ?_
      refine lv_iload_n hx hb dX8_total_144 rfl (lv_at hl 2 rfl) ?_
      refine lv_aload_n hx hb dX8_total_145 rfl (lv_at hl 0 rfl) ?_
      refine x_getI hx hb hts (hC8) hown hK S 12 (by decide) rf_0_12 (index := 106) (hts _ (List.mem_of_getElem? (i := 8) rfl)) dX8_total_146 ?_
      refine lv_icmp_ge (tgt := 174) hx hb dX8_total_149 (by decide) (fun c149 => ?_) (fun c149 => ?_)
      · replace h := h.1 c149
        refine lv_iload_n hx hb dX8_total_174 rfl (lv_at hl 1 rfl) ?_
        exact x_iret hx hb hr hlocks S rfl h dX8_total_175
      · replace h := h.2 c149
        refine lv_iload_n hx hb dX8_total_152 rfl (lv_at hl 1 rfl) ?_
        refine lv_aload_n hx hb dX8_total_153 rfl (lv_at hl 0 rfl) ?_
        refine lv_iload_n hx hb dX8_total_154 rfl (lv_at hl 2 rfl) ?_
        refine x_callVi (As := [.int v3]) ⟨hx, hb, hml, hown, hts⟩ hK S (ct_X8_isHem l D cy ad B _ _ _ h) ro_0 rfl (cwV 1 hts gX8_total_X8_isHem rfl rfl rfl (by decide +kernel) ⟨Nat.le_of_ble_eq_true rfl, Nat.le_of_ble_eq_true rfl⟩) rfl hl.1 rfl (Nat.le_of_ble_eq_true rfl) dX8_total_155 ⟨Nat.zero_le _, Nat.zero_le _⟩ (fun r4 M4 H locs h S => ?_)
        refine lv_if_eq (tgt := 165) hx hb dX8_total_158 (by decide) (fun c158 => ?_) (fun c158 => ?_)
        · replace h := h.1 c158
          refine lv_iconst (v := 0) hx hb dX8_total_165 (by decide) ?_
          refine lv_iadd hx hb dX8_total_166 ?_
          refine lv_istore_n (lv' := [(2, .int (v2 + 0)), (0, .ref (ad 0)), (3, .int v3)]) hx hb dX8_total_167 rfl hl (by decide) rfl (fun ls hl => ?_)
          exact hJ _ _ _ _ h _ _ _ S (lv_sub hl [1, 0, 2] rfl)
        · replace h := h.2 c158
          refine lv_iconst (v := 1) hx hb dX8_total_161 (by decide) ?_
          refine lv_goto (tgt := 166) hx hb dX8_total_162 (by decide) ?_
          refine lv_iadd hx hb dX8_total_166 ?_
          refine lv_istore_n (lv' := [(2, .int (v2 + 1)), (0, .ref (ad 0)), (3, .int v3)]) hx hb dX8_total_167 rfl hl (by decide) rfl (fun ls hl => ?_)
          exact hJ _ _ _ _ h _ _ _ S (lv_sub hl [1, 0, 2] rfl)
    | 3, h, hl =>
      have hl : lv_has ls 4 [(0, .ref (ad 0)), (2, .int v2), (3, .int v3)] := hl
      have h : blk_X8_total_3 v1 Q P v2 v3 M := h
      unfold blk_X8_total_3 at h
      refine W.eq (g2 := F0 m 56 ls []) rfl ?_
      refine lv_iload_n hx hb dX8_total_56 rfl (lv_at hl 2 rfl) ?_
      refine lv_iconst (v := 4) hx hb dX8_total_57 (by decide) ?_
      refine lv_icmp_ge (tgt := 84) hx hb dX8_total_58 (by decide) (fun c58 => ?_) (fun c58 => ?_)
      · replace h := h.1 c58
        refine lv_iload_n hx hb dX8_total_84 rfl (lv_at hl 1 rfl) ?_
        exact x_iret hx hb hr hlocks S rfl h dX8_total_85
      · replace h := h.2 c58
        refine lv_iload_n hx hb dX8_total_61 rfl (lv_at hl 1 rfl) ?_
        refine lv_aload_n hx hb dX8_total_62 rfl (lv_at hl 0 rfl) ?_
        refine x_getR hx hb hts (hC8) hown hK S 1 (by decide) rf_0_1 (index := 7) (hts _ (List.mem_of_getElem? (i := 5) rfl)) dX8_total_63 ?_
        refine lv_iload_n hx hb dX8_total_66 rfl (lv_at hl 2 rfl) ?_
        refine x_iald hx hb hK S ra_1 h.1 dX8_total_67 ?_
        replace h := h.2
        refine lv_if_ge (tgt := 75) hx hb dX8_total_68 (by decide) (fun c68 => ?_) (fun c68 => ?_)
        · replace h := h.1 c68
          refine lv_iconst (v := 1) hx hb dX8_total_75 (by decide) ?_
          refine lv_iadd hx hb dX8_total_76 ?_
          refine lv_istore_n (lv' := [(2, .int (v2 + 1)), (0, .ref (ad 0)), (3, .int v3)]) hx hb dX8_total_77 rfl hl (by decide) rfl (fun ls hl => ?_)
          exact hJ _ _ _ _ h _ _ _ S (lv_sub hl [1, 0, 2] rfl)
        · replace h := h.2 c68
          refine lv_iconst (v := 0) hx hb dX8_total_71 (by decide) ?_
          refine lv_goto (tgt := 76) hx hb dX8_total_72 (by decide) ?_
          refine lv_iadd hx hb dX8_total_76 ?_
          refine lv_istore_n (lv' := [(2, .int (v2 + 0)), (0, .ref (ad 0)), (3, .int v3)]) hx hb dX8_total_77 rfl hl (by decide) rfl (fun ls hl => ?_)
          exact hJ _ _ _ _ h _ _ _ S (lv_sub hl [1, 0, 2] rfl)
    | 4, h, hl =>
      have hl : lv_has ls 4 [(0, .ref (ad 0)), (2, .int v2), (3, .int v3)] := hl
      have h : blk_X8_total_4 v1 Q P v2 v3 M := h
      unfold blk_X8_total_4 at h
      refine W.eq (g2 := F0 m 168 ls []) rfl ?_
      refine lv_iinc (v := (v3 + 1)) (lv' := [(3, .int (v3 + 1)), (0, .ref (ad 0)), (2, .int v2)]) hx hb dX8_total_168 hl (k := 2) rfl rfl (by decide) rfl (fun ls hl => ?_)
      refine lv_goto (tgt := 144) hx hb dX8_total_171 (by decide) ?_
      exact hJ _ _ _ _ h _ _ _ S (lv_sub hl [1, 2, 0] rfl)
    | 5, h, hl =>
      have hl : lv_has ls 4 [(0, .ref (ad 0)), (2, .int v2), (3, .int v3)] := hl
      have h : blk_X8_total_5 v1 Q P v2 v3 M := h
      unfold blk_X8_total_5 at h
      refine W.eq (g2 := F0 m 78 ls []) rfl ?_
      refine lv_iinc (v := (v3 + 1)) (lv' := [(3, .int (v3 + 1)), (0, .ref (ad 0)), (2, .int v2)]) hx hb dX8_total_78 hl (k := 2) rfl rfl (by decide) rfl (fun ls hl => ?_)
      refine lv_goto (tgt := 56) hx hb dX8_total_81 (by decide) ?_
      exact hJ _ _ _ _ h _ _ _ S (lv_sub hl [1, 2, 0] rfl)
    | _ + 6, h, hl => exact h.elim
  have hl := lv_entry ([.ref (ad 0), .int v1]) (n := 4) (Nat.le_of_ble_eq_true rfl)
  subst hargs
  rw [lg_entry_eq]
  generalize (lg_sl ([.ref (ad 0), .int v1]) ++ List.replicate (4 - (lg_sl ([.ref (ad 0), .int v1])).length) Slot.unset).toArray = ls at hl ⊢
  exact h _ (key _ (fun _ _ _ _ h => h)) s.heap [] ls ⟨hP, hD, va_S.rf⟩ hl
