/-! X7_apart -/
def wp_X7_apart (v1 : Int32) (M : Mem) (Q : Int32 → Mem → Prop) : Prop :=
  wp_X7_rankRefusal v1 M (fun r1 M1 => ((r1 = 0 → (vp_in v1 256 ∧ wp_X6_measure (M1.1 26 v1.toNatClampNeg) M1 (fun M2 => (vp_in (M2.1 0 9) 256 ∧ Q (M2.1 29 (M2.1 0 9).toNatClampNeg) M2)))) ∧ (¬ r1 = 0 → Q r1 M1)))
theorem wp_X7_apart_mono {v1 : Int32} {M : Mem} {Q Q' : Int32 → Mem → Prop} (hQ : ∀ (r : Int32) (M : Mem), Q r M → Q' r M) (h : wp_X7_apart v1 M Q) : wp_X7_apart v1 M Q' := by
  unfold wp_X7_apart at h ⊢
  exact wp_X7_rankRefusal_mono (fun r1 M1 h => ⟨fun c => let h := h.1 c; ⟨h.1, let h := h.2; wp_X6_measure_mono (fun M2 h => ⟨h.1, let h := h.2; hQ _ _ h⟩) h⟩, fun c => let h := h.2 c; hQ _ _ h⟩) h
abbrev rm_X7_apart : Jvm.Room := { frames := 3, cells := 0, slots := 0, locals := 63 }
set_option maxHeartbeats 4000000 in
set_option maxRecDepth 100000 in
theorem ct_X7_apart (l : Launch) (D : va_G) (cy : Nat → ClassId) (ad : Nat → Nat) (B : Nat → Prop) (v1 : Int32) (M : Mem) (Q : Int32 → Mem → Prop) (h : wp_X7_apart v1 M Q) : CTi l D cy (wX ad cy) B yX7_apart wsX7_apart rm_X7_apart [.ref (ad 0), .int v1] M Q := by
  intro sz
  refine Met.ofW (cc := cX7_apart) (maxL := 3) (ret := some .int) (by decide) rfl ?_
  intro p e s m args below meth c s₁ Bd hml hv
  obtain ⟨hargs, hsz, hP, hK, hD⟩ := hv
  subst hsz
  have hx := Bd.exec
  have hb := Bd.bytes
  have hr := Bd.returns
  have hts := atoms_spec (ws := wsX7_apart) Bd.pre
  have hown : s.vm.findClass RX7 = some m.cls := findClass_of_methodNamed Bd.named
  have hlocks := Bd.notSynchronized
  have hC0 : xC wsX7_apart 0 RX0 TX0 5 := ⟨by decide +kernel, rfl⟩
  have hC6 : xC wsX7_apart 6 RX6 TX6 3 := ⟨by decide +kernel, rfl⟩
  have hC7 : xC wsX7_apart 7 RX7 TX7 11 := ⟨by decide +kernel, rfl⟩
  have hl := lv_entry ([.ref (ad 0), .int v1]) (n := 3) (Nat.le_of_ble_eq_true rfl)
  subst hargs
  rw [lg_entry_eq]
  generalize (lg_sl ([.ref (ad 0), .int v1]) ++ List.replicate (3 - (lg_sl ([.ref (ad 0), .int v1])).length) Slot.unset).toArray = ls at hl ⊢
  have hl : lv_has ls 3 [(0, .ref (ad 0)), (1, .int v1)] := hl
  have S : xS D (wX ad cy) B s.heap s.heap [] M := ⟨hP, hD, va_S.rf⟩
  unfold wp_X7_apart at h
  refine lv_aload_n hx hb dX7_apart_0 rfl (lv_at hl 0 rfl) ?_
  refine lv_iload_n hx hb dX7_apart_1 rfl (lv_at hl 1 rfl) ?_
  refine x_callVi (As := [.int v1]) ⟨hx, hb, hml, hown, hts⟩ hK S (ct_X7_rankRefusal l D cy ad B _ _ _ h) xo_0 rfl (cwV 1 hts gX7_apart_X7_rankRefusal rfl rfl rfl (by decide +kernel) ⟨Nat.le_of_ble_eq_true rfl, Nat.le_of_ble_eq_true rfl⟩) rfl hl.1 rfl (Nat.le_of_ble_eq_true rfl) dX7_apart_2 ⟨Nat.zero_le _, Nat.zero_le _⟩ (fun r1 M1 H locs h S => ?_)
  refine lv_istore_n (lv' := [(2, .int r1), (0, .ref (ad 0)), (1, .int v1)]) hx hb dX7_apart_5 rfl hl (by decide) rfl (fun ls hl => ?_)
  refine lv_iload_n hx hb dX7_apart_6 rfl (lv_at hl 0 rfl) ?_
  refine lv_if_eq (tgt := 12) hx hb dX7_apart_7 (by decide) (fun c7 => ?_) (fun c7 => ?_)
  · replace h := h.1 c7
    refine lv_aload_n hx hb dX7_apart_12 rfl (lv_at hl 1 rfl) ?_
    refine x_getR hx hb hts (hC7) hown hK S 5 (by decide) xf_0_5 (index := 46) (hts _ (List.mem_of_getElem? (i := 1) rfl)) dX7_apart_13 ?_
    refine lv_aload_n hx hb dX7_apart_16 rfl (lv_at hl 1 rfl) ?_
    refine x_getR hx hb hts (hC7) hown hK S 3 (by decide) xf_0_3 (index := 32) (hts _ (List.mem_of_getElem? (i := 2) rfl)) dX7_apart_17 ?_
    refine lv_aload_n hx hb dX7_apart_20 rfl (lv_at hl 1 rfl) ?_
    refine x_getR hx hb hts (hC7) hown hK S 4 (by decide) xf_0_4 (index := 39) (hts _ (List.mem_of_getElem? (i := 3) rfl)) dX7_apart_21 ?_
    refine lv_aload_n hx hb dX7_apart_24 rfl (lv_at hl 1 rfl) ?_
    refine x_getR hx hb hts (hC7) hown hK S 4 (by decide) xf_0_4 (index := 39) (hts _ (List.mem_of_getElem? (i := 3) rfl)) dX7_apart_25 ?_
    refine x_getR hx hb hts (hC0) hown hK S 0 (by decide) xf_25_0 (index := 210) (hts _ (List.mem_of_getElem? (i := 4) rfl)) dX7_apart_28 ?_
    refine lv_iload_n hx hb dX7_apart_31 rfl (lv_at hl 2 rfl) ?_
    refine x_iald hx hb hK S xa_26 h.1 dX7_apart_32 ?_
    replace h := h.2
    refine x_callVv (As := [.ref (ad 22), .ref (ad 25), .int (M1.1 26 v1.toNatClampNeg)]) ⟨hx, hb, hml, hown, hts⟩ hK S (ct_X6_measure l D cy ad B _ _ _ h) xo_28 rfl (cwV 3 hts gX7_apart_X6_measure rfl rfl rfl (by decide +kernel) ⟨Nat.le_of_ble_eq_true rfl, Nat.le_of_ble_eq_true rfl⟩) rfl hl.1 rfl (Nat.le_of_ble_eq_true rfl) dX7_apart_33 ⟨Nat.zero_le _, Nat.zero_le _⟩ (fun M2 H locs h S => ?_)
    refine lv_aload_n hx hb dX7_apart_36 rfl (lv_at hl 1 rfl) ?_
    refine x_getR hx hb hts (hC7) hown hK S 5 (by decide) xf_0_5 (index := 46) (hts _ (List.mem_of_getElem? (i := 1) rfl)) dX7_apart_37 ?_
    refine x_getR hx hb hts (hC6) hown hK S 0 (by decide) xf_28_0 (index := 224) (hts _ (List.mem_of_getElem? (i := 5) rfl)) dX7_apart_40 ?_
    refine lv_aload_n hx hb dX7_apart_43 rfl (lv_at hl 1 rfl) ?_
    refine x_getI hx hb hts (hC7) hown hK S 9 (by decide) xf_0_9 (index := 123) (hts _ (List.mem_of_getElem? (i := 6) rfl)) dX7_apart_44 ?_
    refine x_iald hx hb hK S xa_29 h.1 dX7_apart_47 ?_
    replace h := h.2
    exact x_iret hx hb hr hlocks S rfl h dX7_apart_48
  · replace h := h.2 c7
    refine lv_iload_n hx hb dX7_apart_10 rfl (lv_at hl 0 rfl) ?_
    exact x_iret hx hb hr hlocks S rfl h dX7_apart_11
/-! X7_way -/
def blk_X7_way_0 (v1 : Int32) (Q : Int32 → Mem → Prop) (P : Nat → Int32 → Int32 → Int32 → Int32 → Mem → Prop) (v2 : Int32) (v3 : Int32) (v4 : Int32) (v5 : Int32) (M : Mem) : Prop :=
  wp_X7_rankRefusal v1 M (fun r1 M1 => ((r1 = 0 → (vp_in v1 256 ∧ wp_X6_measure (M1.1 26 v1.toNatClampNeg) M1 (fun M2 => (vp_in (M2.1 0 9) 256 ∧ (((M2.1 29 (M2.1 0 9).toNatClampNeg) = (-9) → Q (-9) M2) ∧ (¬ (M2.1 29 (M2.1 0 9).toNatClampNeg) = (-9) → ((¬ (M2.1 29 (M2.1 0 9).toNatClampNeg) = 0 → P 1 0 (M2.1 29 (M2.1 0 9).toNatClampNeg) 0 0 M2) ∧ ((M2.1 29 (M2.1 0 9).toNatClampNeg) = 0 → Q (-9) M2)))))))) ∧ (¬ r1 = 0 → Q r1 M1)))
theorem blk_X7_way_0_mono {v1 : Int32} {Q Q' : Int32 → Mem → Prop} {P P' : Nat → Int32 → Int32 → Int32 → Int32 → Mem → Prop} (hQ : ∀ (r : Int32) (M : Mem), Q r M → Q' r M) (hP : ∀ (lab : Nat) (v2 : Int32) (v3 : Int32) (v4 : Int32) (v5 : Int32) (M : Mem), P lab v2 v3 v4 v5 M → P' lab v2 v3 v4 v5 M) (v2 : Int32) (v3 : Int32) (v4 : Int32) (v5 : Int32) (M : Mem) (h : blk_X7_way_0 v1 Q P v2 v3 v4 v5 M) : blk_X7_way_0 v1 Q' P' v2 v3 v4 v5 M := by
  unfold blk_X7_way_0 at h ⊢
  exact wp_X7_rankRefusal_mono (fun r1 M1 h => ⟨fun c => let h := h.1 c; ⟨h.1, let h := h.2; wp_X6_measure_mono (fun M2 h => ⟨h.1, let h := h.2; ⟨fun c => let h := h.1 c; hQ _ _ h, fun c => let h := h.2 c; ⟨fun c => let h := h.1 c; hP _ _ _ _ _ _ h, fun c => let h := h.2 c; hQ _ _ h⟩⟩⟩) h⟩, fun c => let h := h.2 c; hQ _ _ h⟩) h
def blk_X7_way_1 (v1 : Int32) (Q : Int32 → Mem → Prop) (P : Nat → Int32 → Int32 → Int32 → Int32 → Mem → Prop) (v2 : Int32) (v3 : Int32) (v4 : Int32) (v5 : Int32) (M : Mem) : Prop :=
  (((M.1 13 4) ≤ v4 → Q (-9) M) ∧ (¬ (M.1 13 4) ≤ v4 → wp_X1_afterTurn (M.1 0 9) v4 M (fun r3 M3 => ((r3 = (-9) → P 2 0 v3 v4 0 M3) ∧ (¬ r3 = (-9) → (vp_in r3 256 ∧ ((¬ (M3.1 29 r3.toNatClampNeg) = (v3 - 1) → P 2 0 v3 v4 0 M3) ∧ ((M3.1 29 r3.toNatClampNeg) = (v3 - 1) → Q v4 M3))))))))
theorem blk_X7_way_1_mono {v1 : Int32} {Q Q' : Int32 → Mem → Prop} {P P' : Nat → Int32 → Int32 → Int32 → Int32 → Mem → Prop} (hQ : ∀ (r : Int32) (M : Mem), Q r M → Q' r M) (hP : ∀ (lab : Nat) (v2 : Int32) (v3 : Int32) (v4 : Int32) (v5 : Int32) (M : Mem), P lab v2 v3 v4 v5 M → P' lab v2 v3 v4 v5 M) (v2 : Int32) (v3 : Int32) (v4 : Int32) (v5 : Int32) (M : Mem) (h : blk_X7_way_1 v1 Q P v2 v3 v4 v5 M) : blk_X7_way_1 v1 Q' P' v2 v3 v4 v5 M := by
  unfold blk_X7_way_1 at h ⊢
  exact ⟨fun c => let h := h.1 c; hQ _ _ h, fun c => let h := h.2 c; wp_X1_afterTurn_mono (fun r3 M3 h => ⟨fun c => let h := h.1 c; hP _ _ _ _ _ _ h, fun c => let h := h.2 c; ⟨h.1, let h := h.2; ⟨fun c => let h := h.1 c; hP _ _ _ _ _ _ h, fun c => let h := h.2 c; hQ _ _ h⟩⟩⟩) h⟩
def blk_X7_way_2 (v1 : Int32) (Q : Int32 → Mem → Prop) (P : Nat → Int32 → Int32 → Int32 → Int32 → Mem → Prop) (v2 : Int32) (v3 : Int32) (v4 : Int32) (v5 : Int32) (M : Mem) : Prop :=
  P 1 0 v3 (v4 + 1) 0 M
theorem blk_X7_way_2_mono {v1 : Int32} {Q Q' : Int32 → Mem → Prop} {P P' : Nat → Int32 → Int32 → Int32 → Int32 → Mem → Prop} (hQ : ∀ (r : Int32) (M : Mem), Q r M → Q' r M) (hP : ∀ (lab : Nat) (v2 : Int32) (v3 : Int32) (v4 : Int32) (v5 : Int32) (M : Mem), P lab v2 v3 v4 v5 M → P' lab v2 v3 v4 v5 M) (v2 : Int32) (v3 : Int32) (v4 : Int32) (v5 : Int32) (M : Mem) (h : blk_X7_way_2 v1 Q P v2 v3 v4 v5 M) : blk_X7_way_2 v1 Q' P' v2 v3 v4 v5 M := by
  unfold blk_X7_way_2 at h ⊢
  exact hP _ _ _ _ _ _ h
def blk_X7_way (v1 : Int32) (Q : Int32 → Mem → Prop) (P : Nat → Int32 → Int32 → Int32 → Int32 → Mem → Prop) : Nat → Int32 → Int32 → Int32 → Int32 → Mem → Prop := fun lab v2 v3 v4 v5 M => match lab with
  | 0 => blk_X7_way_0 v1 Q P v2 v3 v4 v5 M
  | 1 => blk_X7_way_1 v1 Q P v2 v3 v4 v5 M
  | 2 => blk_X7_way_2 v1 Q P v2 v3 v4 v5 M
  | _ => False
theorem blk_X7_way_mono {v1 : Int32} {Q Q' : Int32 → Mem → Prop} {P P' : Nat → Int32 → Int32 → Int32 → Int32 → Mem → Prop} (hQ : ∀ (r : Int32) (M : Mem), Q r M → Q' r M) (hP : ∀ (lab : Nat) (v2 : Int32) (v3 : Int32) (v4 : Int32) (v5 : Int32) (M : Mem), P lab v2 v3 v4 v5 M → P' lab v2 v3 v4 v5 M) : ∀ (lab : Nat) (v2 : Int32) (v3 : Int32) (v4 : Int32) (v5 : Int32) (M : Mem), blk_X7_way v1 Q P lab v2 v3 v4 v5 M → blk_X7_way v1 Q' P' lab v2 v3 v4 v5 M := fun lab v2 v3 v4 v5 M h => match lab, h with
  | 0, h => blk_X7_way_0_mono (v1 := v1) hQ hP v2 v3 v4 v5 M h
  | 1, h => blk_X7_way_1_mono (v1 := v1) hQ hP v2 v3 v4 v5 M h
  | 2, h => blk_X7_way_2_mono (v1 := v1) hQ hP v2 v3 v4 v5 M h
  | _ + 3, h => False.elim h
def at_X7_way (v1 : Int32) (Q : Int32 → Mem → Prop) : Nat → Int32 → Int32 → Int32 → Int32 → Mem → Prop := fun lab v2 v3 v4 v5 M => ∀ P : Nat → Int32 → Int32 → Int32 → Int32 → Mem → Prop, (∀ (lab : Nat) (v2 : Int32) (v3 : Int32) (v4 : Int32) (v5 : Int32) (M : Mem), blk_X7_way v1 Q P lab v2 v3 v4 v5 M → P lab v2 v3 v4 v5 M) → P lab v2 v3 v4 v5 M
theorem at_X7_way_fold {v1 : Int32} {Q : Int32 → Mem → Prop} {lab : Nat} {v2 : Int32} {v3 : Int32} {v4 : Int32} {v5 : Int32} {M : Mem} (h : blk_X7_way v1 Q (at_X7_way v1 Q) lab v2 v3 v4 v5 M) : at_X7_way v1 Q lab v2 v3 v4 v5 M := fun P hP => hP _ _ _ _ _ _ (blk_X7_way_mono (fun _ _ h => h) (fun _ _ _ _ _ _ h => h P hP) _ _ _ _ _ _ h)
theorem at_X7_way_mono {v1 : Int32} {Q Q' : Int32 → Mem → Prop} (hQ : ∀ (r : Int32) (M : Mem), Q r M → Q' r M) {lab : Nat} {v2 : Int32} {v3 : Int32} {v4 : Int32} {v5 : Int32} {M : Mem} (h : at_X7_way v1 Q lab v2 v3 v4 v5 M) : at_X7_way v1 Q' lab v2 v3 v4 v5 M := fun P hP => h P (fun lab v2 v3 v4 v5 M hb => hP _ _ _ _ _ _ (blk_X7_way_mono hQ (fun _ _ _ _ _ _ h => h) _ _ _ _ _ _ hb))
def wp_X7_way (v1 : Int32) (M : Mem) (Q : Int32 → Mem → Prop) : Prop := at_X7_way v1 Q 0 0 0 0 0 M
theorem wp_X7_way_mono {v1 : Int32} {M : Mem} {Q Q' : Int32 → Mem → Prop} (hQ : ∀ (r : Int32) (M : Mem), Q r M → Q' r M) (h : wp_X7_way v1 M Q) : wp_X7_way v1 M Q' := at_X7_way_mono hQ h
def pcl_X7_way : Nat → Nat := fun lab => match lab with
  | 0 => 0
  | 1 => 65
  | 2 => 118
  | _ => 0
def lvl_X7_way (ad : Nat → Nat) (v1 : Int32) : Nat → Int32 → Int32 → Int32 → Int32 → List (Nat × Value) := fun lab v2 v3 v4 v5 => match lab with
  | 0 => [(0, .ref (ad 0)), (1, .int v1)]
  | 1 => [(0, .ref (ad 0)), (3, .int v3), (4, .int v4)]
  | 2 => [(0, .ref (ad 0)), (3, .int v3), (4, .int v4)]
  | _ => []
abbrev rm_X7_way : Jvm.Room := { frames := 3, cells := 0, slots := 0, locals := 63 }
set_option maxHeartbeats 4000000 in
set_option maxRecDepth 100000 in
theorem ct_X7_way (l : Launch) (D : va_G) (cy : Nat → ClassId) (ad : Nat → Nat) (B : Nat → Prop) (v1 : Int32) (M : Mem) (Q : Int32 → Mem → Prop) (h : wp_X7_way v1 M Q) : CTi l D cy (wX ad cy) B yX7_way wsX7_way rm_X7_way [.ref (ad 0), .int v1] M Q := by
  intro sz
  refine Met.ofW (cc := cX7_way) (maxL := 6) (ret := some .int) (by decide) rfl ?_
  intro p e s m args below meth c s₁ Bd hml hv
  obtain ⟨hargs, hsz, hP, hK, hD⟩ := hv
  subst hsz
  have hx := Bd.exec
  have hb := Bd.bytes
  have hr := Bd.returns
  have hts := atoms_spec (ws := wsX7_way) Bd.pre
  have hown : s.vm.findClass RX7 = some m.cls := findClass_of_methodNamed Bd.named
  have hlocks := Bd.notSynchronized
  have hC0 : xC wsX7_way 0 RX0 TX0 5 := ⟨by decide +kernel, rfl⟩
  have hC2 : xC wsX7_way 2 RX2 TX2 8 := ⟨by decide +kernel, rfl⟩
  have hC6 : xC wsX7_way 6 RX6 TX6 3 := ⟨by decide +kernel, rfl⟩
  have hC7 : xC wsX7_way 7 RX7 TX7 11 := ⟨by decide +kernel, rfl⟩
  have key : ∀ (P : Nat → Int32 → Int32 → Int32 → Int32 → Mem → Prop), (∀ (lab : Nat) (v2 : Int32) (v3 : Int32) (v4 : Int32) (v5 : Int32) (M : Mem), P lab v2 v3 v4 v5 M → ∀ (H : Heap) (locs : List Loc) (ls : Array Slot), xS D (wX ad cy) B s.heap H locs M → lv_has ls 6 (lvl_X7_way ad v1 lab v2 v3 v4 v5 ) → W p l e (headSpec wsX7_way rm_X7_way).room s m args below meth c H locs 0 0 (MQ below (va_Qi (S := Mem) Q (xB D (wX ad cy) B) (xA B s.heap.size)) args s 0 0 (xA B s.heap.size)) (F0 m (pcl_X7_way lab) ls [])) → ∀ (lab : Nat) (v2 : Int32) (v3 : Int32) (v4 : Int32) (v5 : Int32) (M : Mem), blk_X7_way v1 Q P lab v2 v3 v4 v5 M → ∀ (H : Heap) (locs : List Loc) (ls : Array Slot), xS D (wX ad cy) B s.heap H locs M → lv_has ls 6 (lvl_X7_way ad v1 lab v2 v3 v4 v5 ) → W p l e (headSpec wsX7_way rm_X7_way).room s m args below meth c H locs 0 0 (MQ below (va_Qi (S := Mem) Q (xB D (wX ad cy) B) (xA B s.heap.size)) args s 0 0 (xA B s.heap.size)) (F0 m (pcl_X7_way lab) ls []) := by
    intro P hJ lab v2 v3 v4 v5 M h H locs ls S hl
    match lab, h, hl with
    | 0, h, hl =>
      have hl : lv_has ls 6 [(0, .ref (ad 0)), (1, .int v1)] := hl
      have h : blk_X7_way_0 v1 Q P v2 v3 v4 v5 M := h
      unfold blk_X7_way_0 at h
      refine W.eq (g2 := F0 m 0 ls []) rfl ?_
      refine lv_aload_n hx hb dX7_way_0 rfl (lv_at hl 0 rfl) ?_
      refine lv_iload_n hx hb dX7_way_1 rfl (lv_at hl 1 rfl) ?_
      refine x_callVi (As := [.int v1]) ⟨hx, hb, hml, hown, hts⟩ hK S (ct_X7_rankRefusal l D cy ad B _ _ _ h) xo_0 rfl (cwV 1 hts gX7_way_X7_rankRefusal rfl rfl rfl (by decide +kernel) ⟨Nat.le_of_ble_eq_true rfl, Nat.le_of_ble_eq_true rfl⟩) rfl hl.1 rfl (Nat.le_of_ble_eq_true rfl) dX7_way_2 ⟨Nat.zero_le _, Nat.zero_le _⟩ (fun r1 M1 H locs h S => ?_)
      refine lv_istore_n (lv' := [(2, .int r1), (0, .ref (ad 0)), (1, .int v1)]) hx hb dX7_way_5 rfl hl (by decide) rfl (fun ls hl => ?_)
      refine lv_iload_n hx hb dX7_way_6 rfl (lv_at hl 0 rfl) ?_
      refine lv_if_eq (tgt := 12) hx hb dX7_way_7 (by decide) (fun c7 => ?_) (fun c7 => ?_)
      · replace h := h.1 c7
        refine lv_aload_n hx hb dX7_way_12 rfl (lv_at hl 1 rfl) ?_
        refine x_getR hx hb hts (hC7) hown hK S 5 (by decide) xf_0_5 (index := 46) (hts _ (List.mem_of_getElem? (i := 1) rfl)) dX7_way_13 ?_
        refine lv_aload_n hx hb dX7_way_16 rfl (lv_at hl 1 rfl) ?_
        refine x_getR hx hb hts (hC7) hown hK S 3 (by decide) xf_0_3 (index := 32) (hts _ (List.mem_of_getElem? (i := 2) rfl)) dX7_way_17 ?_
        refine lv_aload_n hx hb dX7_way_20 rfl (lv_at hl 1 rfl) ?_
        refine x_getR hx hb hts (hC7) hown hK S 4 (by decide) xf_0_4 (index := 39) (hts _ (List.mem_of_getElem? (i := 3) rfl)) dX7_way_21 ?_
        refine lv_aload_n hx hb dX7_way_24 rfl (lv_at hl 1 rfl) ?_
        refine x_getR hx hb hts (hC7) hown hK S 4 (by decide) xf_0_4 (index := 39) (hts _ (List.mem_of_getElem? (i := 3) rfl)) dX7_way_25 ?_
        refine x_getR hx hb hts (hC0) hown hK S 0 (by decide) xf_25_0 (index := 210) (hts _ (List.mem_of_getElem? (i := 4) rfl)) dX7_way_28 ?_
        refine lv_iload_n hx hb dX7_way_31 rfl (lv_at hl 2 rfl) ?_
        refine x_iald hx hb hK S xa_26 h.1 dX7_way_32 ?_
        replace h := h.2
        refine x_callVv (As := [.ref (ad 22), .ref (ad 25), .int (M1.1 26 v1.toNatClampNeg)]) ⟨hx, hb, hml, hown, hts⟩ hK S (ct_X6_measure l D cy ad B _ _ _ h) xo_28 rfl (cwV 3 hts gX7_way_X6_measure rfl rfl rfl (by decide +kernel) ⟨Nat.le_of_ble_eq_true rfl, Nat.le_of_ble_eq_true rfl⟩) rfl hl.1 rfl (Nat.le_of_ble_eq_true rfl) dX7_way_33 ⟨Nat.zero_le _, Nat.zero_le _⟩ (fun M2 H locs h S => ?_)
        refine lv_aload_n hx hb dX7_way_36 rfl (lv_at hl 1 rfl) ?_
        refine x_getR hx hb hts (hC7) hown hK S 5 (by decide) xf_0_5 (index := 46) (hts _ (List.mem_of_getElem? (i := 1) rfl)) dX7_way_37 ?_
        refine x_getR hx hb hts (hC6) hown hK S 0 (by decide) xf_28_0 (index := 224) (hts _ (List.mem_of_getElem? (i := 5) rfl)) dX7_way_40 ?_
        refine lv_aload_n hx hb dX7_way_43 rfl (lv_at hl 1 rfl) ?_
        refine x_getI hx hb hts (hC7) hown hK S 9 (by decide) xf_0_9 (index := 123) (hts _ (List.mem_of_getElem? (i := 6) rfl)) dX7_way_44 ?_
        refine x_iald hx hb hK S xa_29 h.1 dX7_way_47 ?_
        replace h := h.2
        refine lv_istore_n (lv' := [(3, .int (M2.1 29 (M2.1 0 9).toNatClampNeg)), (2, .int r1), (0, .ref (ad 0)), (1, .int v1)]) hx hb dX7_way_48 rfl hl (by decide) rfl (fun ls hl => ?_)
        refine lv_iload_n hx hb dX7_way_49 rfl (lv_at hl 0 rfl) ?_
        refine lv_bipush (v := (-9)) hx hb dX7_way_50 (by decide) ?_
        refine lv_icmp_eq (tgt := 59) hx hb dX7_way_52 (by decide) (fun c52 => ?_) (fun c52 => ?_)
        · replace h := h.1 c52
          refine lv_bipush (v := (-9)) hx hb dX7_way_59 (by decide) ?_
          exact x_iret hx hb hr hlocks S rfl h dX7_way_61
        · replace h := h.2 c52
          refine lv_iload_n hx hb dX7_way_55 rfl (lv_at hl 0 rfl) ?_
          refine lv_if_ne (tgt := 62) hx hb dX7_way_56 (by decide) (fun c56 => ?_) (fun c56 => ?_)
          · replace h := h.1 c56
            refine lv_iconst (v := 0) hx hb dX7_way_62 (by decide) ?_
            refine lv_istore (lv' := [(4, .int 0), (3, .int (M2.1 29 (M2.1 0 9).toNatClampNeg)), (2, .int r1), (0, .ref (ad 0)), (1, .int v1)]) hx hb dX7_way_63 hl (by decide) rfl (fun ls hl => ?_)
            exact hJ _ _ _ _ _ _ h _ _ _ S (lv_sub hl [3, 1, 0] rfl)
          · replace h := h.2 c56
            refine lv_bipush (v := (-9)) hx hb dX7_way_59 (by decide) ?_
            exact x_iret hx hb hr hlocks S rfl h dX7_way_61
      · replace h := h.2 c7
        refine lv_iload_n hx hb dX7_way_10 rfl (lv_at hl 0 rfl) ?_
        exact x_iret hx hb hr hlocks S rfl h dX7_way_11
    | 1, h, hl =>
      have hl : lv_has ls 6 [(0, .ref (ad 0)), (3, .int v3), (4, .int v4)] := hl
      have h : blk_X7_way_1 v1 Q P v2 v3 v4 v5 M := h
      unfold blk_X7_way_1 at h
      refine W.eq (g2 := F0 m 65 ls []) rfl ?_
      refine lv_iload hx hb dX7_way_65 (lv_at hl 2 rfl) ?_
      refine lv_aload_n hx hb dX7_way_67 rfl (lv_at hl 0 rfl) ?_
      refine x_getR hx hb hts (hC7) hown hK S 2 (by decide) xf_0_2 (index := 25) (hts _ (List.mem_of_getElem? (i := 7) rfl)) dX7_way_68 ?_
      refine x_getI hx hb hts (hC2) hown hK S 4 (by decide) xf_13_4 (index := 129) (hts _ (List.mem_of_getElem? (i := 8) rfl)) dX7_way_71 ?_
      refine lv_icmp_ge (tgt := 124) hx hb dX7_way_74 (by decide) (fun c74 => ?_) (fun c74 => ?_)
      · replace h := h.1 c74
        refine lv_bipush (v := (-9)) hx hb dX7_way_124 (by decide) ?_
        exact x_iret hx hb hr hlocks S rfl h dX7_way_126
      · replace h := h.2 c74
        refine lv_aload_n hx hb dX7_way_77 rfl (lv_at hl 0 rfl) ?_
        refine x_getR hx hb hts (hC7) hown hK S 3 (by decide) xf_0_3 (index := 32) (hts _ (List.mem_of_getElem? (i := 2) rfl)) dX7_way_78 ?_
        refine lv_aload_n hx hb dX7_way_81 rfl (lv_at hl 0 rfl) ?_
        refine x_getI hx hb hts (hC7) hown hK S 9 (by decide) xf_0_9 (index := 123) (hts _ (List.mem_of_getElem? (i := 6) rfl)) dX7_way_82 ?_
        refine lv_iload hx hb dX7_way_85 (lv_at hl 2 rfl) ?_
        refine x_callVi (As := [.int (M.1 0 9), .int v4]) ⟨hx, hb, hml, hown, hts⟩ hK S (ct_X1_afterTurn l D cy ad B _ _ _ _ h) xo_22 rfl (cwV 2 hts gX7_way_X1_afterTurn rfl rfl rfl (by decide +kernel) ⟨Nat.le_of_ble_eq_true rfl, Nat.le_of_ble_eq_true rfl⟩) rfl hl.1 rfl (Nat.le_of_ble_eq_true rfl) dX7_way_87 ⟨Nat.zero_le _, Nat.zero_le _⟩ (fun r3 M3 H locs h S => ?_)
        refine lv_istore (lv' := [(5, .int r3), (0, .ref (ad 0)), (3, .int v3), (4, .int v4)]) hx hb dX7_way_90 hl (by decide) rfl (fun ls hl => ?_)
        refine lv_iload hx hb dX7_way_92 (lv_at hl 0 rfl) ?_
        refine lv_bipush (v := (-9)) hx hb dX7_way_94 (by decide) ?_
        refine lv_icmp_eq (tgt := 118) hx hb dX7_way_96 (by decide) (fun c96 => ?_) (fun c96 => ?_)
        · replace h := h.1 c96
          exact hJ _ _ _ _ _ _ h _ _ _ S (lv_sub hl [1, 2, 3] rfl)
        · replace h := h.2 c96
          refine lv_aload_n hx hb dX7_way_99 rfl (lv_at hl 1 rfl) ?_
          refine x_getR hx hb hts (hC7) hown hK S 5 (by decide) xf_0_5 (index := 46) (hts _ (List.mem_of_getElem? (i := 1) rfl)) dX7_way_100 ?_
          refine x_getR hx hb hts (hC6) hown hK S 0 (by decide) xf_28_0 (index := 224) (hts _ (List.mem_of_getElem? (i := 5) rfl)) dX7_way_103 ?_
          refine lv_iload hx hb dX7_way_106 (lv_at hl 0 rfl) ?_
          refine x_iald hx hb hK S xa_29 h.1 dX7_way_108 ?_
          replace h := h.2
          refine lv_iload_n hx hb dX7_way_109 rfl (lv_at hl 2 rfl) ?_
          refine lv_iconst (v := 1) hx hb dX7_way_110 (by decide) ?_
          refine lv_isub hx hb dX7_way_111 ?_
          refine lv_icmp_ne (tgt := 118) hx hb dX7_way_112 (by decide) (fun c112 => ?_) (fun c112 => ?_)
          · replace h := h.1 c112
            exact hJ _ _ _ _ _ _ h _ _ _ S (lv_sub hl [1, 2, 3] rfl)
          · replace h := h.2 c112
            refine lv_iload hx hb dX7_way_115 (lv_at hl 3 rfl) ?_
            exact x_iret hx hb hr hlocks S rfl h dX7_way_117
    | 2, h, hl =>
      have hl : lv_has ls 6 [(0, .ref (ad 0)), (3, .int v3), (4, .int v4)] := hl
      have h : blk_X7_way_2 v1 Q P v2 v3 v4 v5 M := h
      unfold blk_X7_way_2 at h
      refine W.eq (g2 := F0 m 118 ls []) rfl ?_
      refine lv_iinc (v := (v4 + 1)) (lv' := [(4, .int (v4 + 1)), (0, .ref (ad 0)), (3, .int v3)]) hx hb dX7_way_118 hl (k := 2) rfl rfl (by decide) rfl (fun ls hl => ?_)
      refine lv_goto (tgt := 65) hx hb dX7_way_121 (by decide) ?_
      exact hJ _ _ _ _ _ _ h _ _ _ S (lv_sub hl [1, 2, 0] rfl)
    | _ + 3, h, hl => exact h.elim
  have hl := lv_entry ([.ref (ad 0), .int v1]) (n := 6) (Nat.le_of_ble_eq_true rfl)
  subst hargs
  rw [lg_entry_eq]
  generalize (lg_sl ([.ref (ad 0), .int v1]) ++ List.replicate (6 - (lg_sl ([.ref (ad 0), .int v1])).length) Slot.unset).toArray = ls at hl ⊢
  exact h _ (key _ (fun _ _ _ _ _ _ h => h)) s.heap [] ls ⟨hP, hD, va_S.rf⟩ hl
/-! X7_far -/
def blk_X7_far_0 (Q : Int32 → Mem → Prop) (P : Nat → Int32 → Int32 → Mem → Prop) (v1 : Int32) (v2 : Int32) (M : Mem) : Prop :=
  ((¬ (M.1 0 8) = 0 → wp_X6_measure (M.1 0 9) M (fun M1 => P 1 0 0 M1)) ∧ ((M.1 0 8) = 0 → Q (-3) M))
theorem blk_X7_far_0_mono {Q Q' : Int32 → Mem → Prop} {P P' : Nat → Int32 → Int32 → Mem → Prop} (hQ : ∀ (r : Int32) (M : Mem), Q r M → Q' r M) (hP : ∀ (lab : Nat) (v1 : Int32) (v2 : Int32) (M : Mem), P lab v1 v2 M → P' lab v1 v2 M) (v1 : Int32) (v2 : Int32) (M : Mem) (h : blk_X7_far_0 Q P v1 v2 M) : blk_X7_far_0 Q' P' v1 v2 M := by
  unfold blk_X7_far_0 at h ⊢
  exact ⟨fun c => let h := h.1 c; wp_X6_measure_mono (fun M1 h => hP _ _ _ _ h) h, fun c => let h := h.2 c; hQ _ _ h⟩
def blk_X7_far_1 (Q : Int32 → Mem → Prop) (P : Nat → Int32 → Int32 → Mem → Prop) (v1 : Int32) (v2 : Int32) (M : Mem) : Prop :=
  (((M.1 22 1) ≤ v2 → Q v1 M) ∧ (¬ (M.1 22 1) ≤ v2 → (vp_in v2 256 ∧ ∀ x1_2 : Int32, x1_2 = (if v1 < (M.1 29 v2.toNatClampNeg) then (M.1 29 v2.toNatClampNeg) else v1) → P 1 x1_2 (v2 + 1) M)))
theorem blk_X7_far_1_mono {Q Q' : Int32 → Mem → Prop} {P P' : Nat → Int32 → Int32 → Mem → Prop} (hQ : ∀ (r : Int32) (M : Mem), Q r M → Q' r M) (hP : ∀ (lab : Nat) (v1 : Int32) (v2 : Int32) (M : Mem), P lab v1 v2 M → P' lab v1 v2 M) (v1 : Int32) (v2 : Int32) (M : Mem) (h : blk_X7_far_1 Q P v1 v2 M) : blk_X7_far_1 Q' P' v1 v2 M := by
  unfold blk_X7_far_1 at h ⊢
  exact ⟨fun c => let h := h.1 c; hQ _ _ h, fun c => let h := h.2 c; ⟨h.1, let h := h.2; fun x1_2 ex1_2 => let h := h x1_2 ex1_2; hP _ _ _ _ h⟩⟩
def blk_X7_far (Q : Int32 → Mem → Prop) (P : Nat → Int32 → Int32 → Mem → Prop) : Nat → Int32 → Int32 → Mem → Prop := fun lab v1 v2 M => match lab with
  | 0 => blk_X7_far_0 Q P v1 v2 M
  | 1 => blk_X7_far_1 Q P v1 v2 M
  | _ => False
theorem blk_X7_far_mono {Q Q' : Int32 → Mem → Prop} {P P' : Nat → Int32 → Int32 → Mem → Prop} (hQ : ∀ (r : Int32) (M : Mem), Q r M → Q' r M) (hP : ∀ (lab : Nat) (v1 : Int32) (v2 : Int32) (M : Mem), P lab v1 v2 M → P' lab v1 v2 M) : ∀ (lab : Nat) (v1 : Int32) (v2 : Int32) (M : Mem), blk_X7_far Q P lab v1 v2 M → blk_X7_far Q' P' lab v1 v2 M := fun lab v1 v2 M h => match lab, h with
  | 0, h => blk_X7_far_0_mono hQ hP v1 v2 M h
  | 1, h => blk_X7_far_1_mono hQ hP v1 v2 M h
  | _ + 2, h => False.elim h
def at_X7_far (Q : Int32 → Mem → Prop) : Nat → Int32 → Int32 → Mem → Prop := fun lab v1 v2 M => ∀ P : Nat → Int32 → Int32 → Mem → Prop, (∀ (lab : Nat) (v1 : Int32) (v2 : Int32) (M : Mem), blk_X7_far Q P lab v1 v2 M → P lab v1 v2 M) → P lab v1 v2 M
theorem at_X7_far_fold {Q : Int32 → Mem → Prop} {lab : Nat} {v1 : Int32} {v2 : Int32} {M : Mem} (h : blk_X7_far Q (at_X7_far Q) lab v1 v2 M) : at_X7_far Q lab v1 v2 M := fun P hP => hP _ _ _ _ (blk_X7_far_mono (fun _ _ h => h) (fun _ _ _ _ h => h P hP) _ _ _ _ h)
theorem at_X7_far_mono {Q Q' : Int32 → Mem → Prop} (hQ : ∀ (r : Int32) (M : Mem), Q r M → Q' r M) {lab : Nat} {v1 : Int32} {v2 : Int32} {M : Mem} (h : at_X7_far Q lab v1 v2 M) : at_X7_far Q' lab v1 v2 M := fun P hP => h P (fun lab v1 v2 M hb => hP _ _ _ _ (blk_X7_far_mono hQ (fun _ _ _ _ h => h) _ _ _ _ hb))
def wp_X7_far (M : Mem) (Q : Int32 → Mem → Prop) : Prop := at_X7_far Q 0 0 0 M
theorem wp_X7_far_mono {M : Mem} {Q Q' : Int32 → Mem → Prop} (hQ : ∀ (r : Int32) (M : Mem), Q r M → Q' r M) (h : wp_X7_far M Q) : wp_X7_far M Q' := at_X7_far_mono hQ h
def pcl_X7_far : Nat → Nat := fun lab => match lab with
  | 0 => 0
  | 1 => 33
  | _ => 0
def lvl_X7_far (ad : Nat → Nat) : Nat → Int32 → Int32 → List (Nat × Value) := fun lab v1 v2 => match lab with
  | 0 => [(0, .ref (ad 0))]
  | 1 => [(0, .ref (ad 0)), (1, .int v1), (2, .int v2)]
  | _ => []
abbrev rm_X7_far : Jvm.Room := { frames := 3, cells := 0, slots := 0, locals := 63 }
set_option maxHeartbeats 4000000 in
set_option maxRecDepth 100000 in
theorem ct_X7_far (l : Launch) (D : va_G) (cy : Nat → ClassId) (ad : Nat → Nat) (B : Nat → Prop) (M : Mem) (Q : Int32 → Mem → Prop) (h : wp_X7_far M Q) : CTi l D cy (wX ad cy) B yX7_far wsX7_far rm_X7_far [.ref (ad 0)] M Q := by
  intro sz
  refine Met.ofW (cc := cX7_far) (maxL := 3) (ret := some .int) (by decide) rfl ?_
  intro p e s m args below meth c s₁ Bd hml hv
  obtain ⟨hargs, hsz, hP, hK, hD⟩ := hv
  subst hsz
  have hx := Bd.exec
  have hb := Bd.bytes
  have hr := Bd.returns
  have hts := atoms_spec (ws := wsX7_far) Bd.pre
  have hown : s.vm.findClass RX7 = some m.cls := findClass_of_methodNamed Bd.named
  have hlocks := Bd.notSynchronized
  have hC1 : xC wsX7_far 1 RX1 TX1 3 := ⟨by decide +kernel, rfl⟩
  have hC6 : xC wsX7_far 6 RX6 TX6 3 := ⟨by decide +kernel, rfl⟩
  have hC7 : xC wsX7_far 7 RX7 TX7 11 := ⟨by decide +kernel, rfl⟩
  have key : ∀ (P : Nat → Int32 → Int32 → Mem → Prop), (∀ (lab : Nat) (v1 : Int32) (v2 : Int32) (M : Mem), P lab v1 v2 M → ∀ (H : Heap) (locs : List Loc) (ls : Array Slot), xS D (wX ad cy) B s.heap H locs M → lv_has ls 3 (lvl_X7_far ad lab v1 v2 ) → W p l e (headSpec wsX7_far rm_X7_far).room s m args below meth c H locs 0 0 (MQ below (va_Qi (S := Mem) Q (xB D (wX ad cy) B) (xA B s.heap.size)) args s 0 0 (xA B s.heap.size)) (F0 m (pcl_X7_far lab) ls [])) → ∀ (lab : Nat) (v1 : Int32) (v2 : Int32) (M : Mem), blk_X7_far Q P lab v1 v2 M → ∀ (H : Heap) (locs : List Loc) (ls : Array Slot), xS D (wX ad cy) B s.heap H locs M → lv_has ls 3 (lvl_X7_far ad lab v1 v2 ) → W p l e (headSpec wsX7_far rm_X7_far).room s m args below meth c H locs 0 0 (MQ below (va_Qi (S := Mem) Q (xB D (wX ad cy) B) (xA B s.heap.size)) args s 0 0 (xA B s.heap.size)) (F0 m (pcl_X7_far lab) ls []) := by
    intro P hJ lab v1 v2 M h H locs ls S hl
    match lab, h, hl with
    | 0, h, hl =>
      have hl : lv_has ls 3 [(0, .ref (ad 0))] := hl
      have h : blk_X7_far_0 Q P v1 v2 M := h
      unfold blk_X7_far_0 at h
      refine W.eq (g2 := F0 m 0 ls []) rfl ?_
      refine lv_aload_n hx hb dX7_far_0 rfl (lv_at hl 0 rfl) ?_
      refine x_getI hx hb hts (hC7) hown hK S 8 (by decide) xf_0_8 (index := 126) (hts _ (List.mem_of_getElem? (i := 1) rfl)) dX7_far_1 ?_
      refine lv_if_ne (tgt := 10) hx hb dX7_far_4 (by decide) (fun c4 => ?_) (fun c4 => ?_)
      · replace h := h.1 c4
        refine lv_aload_n hx hb dX7_far_10 rfl (lv_at hl 0 rfl) ?_
        refine x_getR hx hb hts (hC7) hown hK S 5 (by decide) xf_0_5 (index := 46) (hts _ (List.mem_of_getElem? (i := 2) rfl)) dX7_far_11 ?_
        refine lv_aload_n hx hb dX7_far_14 rfl (lv_at hl 0 rfl) ?_
        refine x_getR hx hb hts (hC7) hown hK S 3 (by decide) xf_0_3 (index := 32) (hts _ (List.mem_of_getElem? (i := 3) rfl)) dX7_far_15 ?_
        refine lv_aload_n hx hb dX7_far_18 rfl (lv_at hl 0 rfl) ?_
        refine x_getR hx hb hts (hC7) hown hK S 4 (by decide) xf_0_4 (index := 39) (hts _ (List.mem_of_getElem? (i := 4) rfl)) dX7_far_19 ?_
        refine lv_aload_n hx hb dX7_far_22 rfl (lv_at hl 0 rfl) ?_
        refine x_getI hx hb hts (hC7) hown hK S 9 (by decide) xf_0_9 (index := 123) (hts _ (List.mem_of_getElem? (i := 5) rfl)) dX7_far_23 ?_
        refine x_callVv (As := [.ref (ad 22), .ref (ad 25), .int (M.1 0 9)]) ⟨hx, hb, hml, hown, hts⟩ hK S (ct_X6_measure l D cy ad B _ _ _ h) xo_28 rfl (cwV 3 hts gX7_far_X6_measure rfl rfl rfl (by decide +kernel) ⟨Nat.le_of_ble_eq_true rfl, Nat.le_of_ble_eq_true rfl⟩) rfl hl.1 rfl (Nat.le_of_ble_eq_true rfl) dX7_far_26 ⟨Nat.zero_le _, Nat.zero_le _⟩ (fun M1 H locs h S => ?_)
        refine lv_iconst (v := 0) hx hb dX7_far_29 (by decide) ?_
        refine lv_istore_n (lv' := [(1, .int 0), (0, .ref (ad 0))]) hx hb dX7_far_30 rfl hl (by decide) rfl (fun ls hl => ?_)
        refine lv_iconst (v := 0) hx hb dX7_far_31 (by decide) ?_
        refine lv_istore_n (lv' := [(2, .int 0), (1, .int 0), (0, .ref (ad 0))]) hx hb dX7_far_32 rfl hl (by decide) rfl (fun ls hl => ?_)
        exact hJ _ _ _ _ h _ _ _ S (lv_sub hl [2, 1, 0] rfl)
      · replace h := h.2 c4
        refine lv_bipush (v := (-3)) hx hb dX7_far_7 (by decide) ?_
        exact x_iret hx hb hr hlocks S rfl h dX7_far_9
    | 1, h, hl =>
      have hl : lv_has ls 3 [(0, .ref (ad 0)), (1, .int v1), (2, .int v2)] := hl
      have h : blk_X7_far_1 Q P v1 v2 M := h
      unfold blk_X7_far_1 at h
      refine W.eq (g2 := F0 m 33 ls []) rfl ?_
      refine lv_iload_n hx hb dX7_far_33 rfl (lv_at hl 2 rfl) ?_
      refine lv_aload_n hx hb dX7_far_34 rfl (lv_at hl 0 rfl) ?_
      refine x_getR hx hb hts (hC7) hown hK S 3 (by decide) xf_0_3 (index := 32) (hts _ (List.mem_of_getElem? (i := 3) rfl)) dX7_far_35 ?_
      refine x_getI hx hb hts (hC1) hown hK S 1 (by decide) xf_22_1 (index := 227) (hts _ (List.mem_of_getElem? (i := 6) rfl)) dX7_far_38 ?_
      refine lv_icmp_ge (tgt := 64) hx hb dX7_far_41 (by decide) (fun c41 => ?_) (fun c41 => ?_)
      · replace h := h.1 c41
        refine lv_iload_n hx hb dX7_far_64 rfl (lv_at hl 1 rfl) ?_
        exact x_iret hx hb hr hlocks S rfl h dX7_far_65
      · replace h := h.2 c41
        refine lv_iload_n hx hb dX7_far_44 rfl (lv_at hl 1 rfl) ?_
        refine lv_aload_n hx hb dX7_far_45 rfl (lv_at hl 0 rfl) ?_
        refine x_getR hx hb hts (hC7) hown hK S 5 (by decide) xf_0_5 (index := 46) (hts _ (List.mem_of_getElem? (i := 2) rfl)) dX7_far_46 ?_
        refine x_getR hx hb hts (hC6) hown hK S 0 (by decide) xf_28_0 (index := 224) (hts _ (List.mem_of_getElem? (i := 7) rfl)) dX7_far_49 ?_
        refine lv_iload_n hx hb dX7_far_52 rfl (lv_at hl 2 rfl) ?_
        refine x_iald hx hb hK S xa_29 h.1 dX7_far_53 ?_
        replace h := h.2
        refine va_mmax hx hb (by rw [hml]; exact hl.1.symm) hown (hts _ (List.mem_of_getElem? (i := 8) rfl)) (hts _ (List.mem_of_getElem? (i := 9) rfl)) (hts _ (List.mem_of_getElem? (i := 10) rfl)) (hts _ (List.mem_of_getElem? (i := 11) rfl)) (Nat.le_of_ble_eq_true rfl) (Nat.le_of_ble_eq_true rfl) (Nat.zero_le _) (Nat.zero_le _) dX7_far_54 ?_
        refine lv_topi (fun x1_2 ex1_2 => ?_)
        replace h := h x1_2 ex1_2
        refine lv_istore_n (lv' := [(1, .int x1_2), (0, .ref (ad 0)), (2, .int v2)]) hx hb dX7_far_57 rfl hl (by decide) rfl (fun ls hl => ?_)
        refine lv_iinc (v := (v2 + 1)) (lv' := [(2, .int (v2 + 1)), (1, .int x1_2), (0, .ref (ad 0))]) hx hb dX7_far_58 hl (k := 2) rfl rfl (by decide) rfl (fun ls hl => ?_)
        refine lv_goto (tgt := 33) hx hb dX7_far_61 (by decide) ?_
        exact hJ _ _ _ _ h _ _ _ S (lv_sub hl [2, 1, 0] rfl)
    | _ + 2, h, hl => exact h.elim
  have hl := lv_entry ([.ref (ad 0)]) (n := 3) (Nat.le_of_ble_eq_true rfl)
  subst hargs
  rw [lg_entry_eq]
  generalize (lg_sl ([.ref (ad 0)]) ++ List.replicate (3 - (lg_sl ([.ref (ad 0)])).length) Slot.unset).toArray = ls at hl ⊢
  exact h _ (key _ (fun _ _ _ _ h => h)) s.heap [] ls ⟨hP, hD, va_S.rf⟩ hl
/-! X7_crossings -/
def blk_X7_crossings_0 (v1 : Int32) (Q : Int32 → Mem → Prop) (P : Nat → Int32 → Int32 → Int32 → Mem → Prop) (v2 : Int32) (v3 : Int32) (v4 : Int32) (M : Mem) : Prop :=
  wp_X7_rankRefusal v1 M (fun r1 M1 => ((r1 = 0 → P 1 0 0 0 M1) ∧ (¬ r1 = 0 → Q r1 M1)))
theorem blk_X7_crossings_0_mono {v1 : Int32} {Q Q' : Int32 → Mem → Prop} {P P' : Nat → Int32 → Int32 → Int32 → Mem → Prop} (hQ : ∀ (r : Int32) (M : Mem), Q r M → Q' r M) (hP : ∀ (lab : Nat) (v2 : Int32) (v3 : Int32) (v4 : Int32) (M : Mem), P lab v2 v3 v4 M → P' lab v2 v3 v4 M) (v2 : Int32) (v3 : Int32) (v4 : Int32) (M : Mem) (h : blk_X7_crossings_0 v1 Q P v2 v3 v4 M) : blk_X7_crossings_0 v1 Q' P' v2 v3 v4 M := by
  unfold blk_X7_crossings_0 at h ⊢
  exact wp_X7_rankRefusal_mono (fun r1 M1 h => ⟨fun c => let h := h.1 c; hP _ _ _ _ _ h, fun c => let h := h.2 c; hQ _ _ h⟩) h
def blk_X7_crossings_1 (v1 : Int32) (Q : Int32 → Mem → Prop) (P : Nat → Int32 → Int32 → Int32 → Mem → Prop) (v2 : Int32) (v3 : Int32) (v4 : Int32) (M : Mem) : Prop :=
  (((M.1 13 4) ≤ v4 → Q v3 M) ∧ (¬ (M.1 13 4) ≤ v4 → wp_X7_fencesNow M (fun r2 M2 => wp_X7_isIn v4 r2 M2 (fun r3 M3 => ((r3 = 0 → P 2 0 v3 v4 M3) ∧ (¬ r3 = 0 → (vp_in v4 28 ∧ wp_X7_fencesOf v1 M3 (fun r4 M4 => wp_J6_bitCount_0f7a4_X ((M3.1 19 v4.toNatClampNeg) &&& r4) M4 (fun r5 M5 => P 2 0 (v3 + r5) v4 M5)))))))))
theorem blk_X7_crossings_1_mono {v1 : Int32} {Q Q' : Int32 → Mem → Prop} {P P' : Nat → Int32 → Int32 → Int32 → Mem → Prop} (hQ : ∀ (r : Int32) (M : Mem), Q r M → Q' r M) (hP : ∀ (lab : Nat) (v2 : Int32) (v3 : Int32) (v4 : Int32) (M : Mem), P lab v2 v3 v4 M → P' lab v2 v3 v4 M) (v2 : Int32) (v3 : Int32) (v4 : Int32) (M : Mem) (h : blk_X7_crossings_1 v1 Q P v2 v3 v4 M) : blk_X7_crossings_1 v1 Q' P' v2 v3 v4 M := by
  unfold blk_X7_crossings_1 at h ⊢
  exact ⟨fun c => let h := h.1 c; hQ _ _ h, fun c => let h := h.2 c; wp_X7_fencesNow_mono (fun r2 M2 h => wp_X7_isIn_mono (fun r3 M3 h => ⟨fun c => let h := h.1 c; hP _ _ _ _ _ h, fun c => let h := h.2 c; ⟨h.1, let h := h.2; wp_X7_fencesOf_mono (fun r4 M4 h => wp_J6_bitCount_0f7a4_X_mono (fun r5 M5 h => hP _ _ _ _ _ h) h) h⟩⟩) h) h⟩
def blk_X7_crossings_2 (v1 : Int32) (Q : Int32 → Mem → Prop) (P : Nat → Int32 → Int32 → Int32 → Mem → Prop) (v2 : Int32) (v3 : Int32) (v4 : Int32) (M : Mem) : Prop :=
  P 1 0 v3 (v4 + 1) M
theorem blk_X7_crossings_2_mono {v1 : Int32} {Q Q' : Int32 → Mem → Prop} {P P' : Nat → Int32 → Int32 → Int32 → Mem → Prop} (hQ : ∀ (r : Int32) (M : Mem), Q r M → Q' r M) (hP : ∀ (lab : Nat) (v2 : Int32) (v3 : Int32) (v4 : Int32) (M : Mem), P lab v2 v3 v4 M → P' lab v2 v3 v4 M) (v2 : Int32) (v3 : Int32) (v4 : Int32) (M : Mem) (h : blk_X7_crossings_2 v1 Q P v2 v3 v4 M) : blk_X7_crossings_2 v1 Q' P' v2 v3 v4 M := by
  unfold blk_X7_crossings_2 at h ⊢
  exact hP _ _ _ _ _ h
def blk_X7_crossings (v1 : Int32) (Q : Int32 → Mem → Prop) (P : Nat → Int32 → Int32 → Int32 → Mem → Prop) : Nat → Int32 → Int32 → Int32 → Mem → Prop := fun lab v2 v3 v4 M => match lab with
  | 0 => blk_X7_crossings_0 v1 Q P v2 v3 v4 M
  | 1 => blk_X7_crossings_1 v1 Q P v2 v3 v4 M
  | 2 => blk_X7_crossings_2 v1 Q P v2 v3 v4 M
  | _ => False
theorem blk_X7_crossings_mono {v1 : Int32} {Q Q' : Int32 → Mem → Prop} {P P' : Nat → Int32 → Int32 → Int32 → Mem → Prop} (hQ : ∀ (r : Int32) (M : Mem), Q r M → Q' r M) (hP : ∀ (lab : Nat) (v2 : Int32) (v3 : Int32) (v4 : Int32) (M : Mem), P lab v2 v3 v4 M → P' lab v2 v3 v4 M) : ∀ (lab : Nat) (v2 : Int32) (v3 : Int32) (v4 : Int32) (M : Mem), blk_X7_crossings v1 Q P lab v2 v3 v4 M → blk_X7_crossings v1 Q' P' lab v2 v3 v4 M := fun lab v2 v3 v4 M h => match lab, h with
  | 0, h => blk_X7_crossings_0_mono (v1 := v1) hQ hP v2 v3 v4 M h
  | 1, h => blk_X7_crossings_1_mono (v1 := v1) hQ hP v2 v3 v4 M h
  | 2, h => blk_X7_crossings_2_mono (v1 := v1) hQ hP v2 v3 v4 M h
  | _ + 3, h => False.elim h
def at_X7_crossings (v1 : Int32) (Q : Int32 → Mem → Prop) : Nat → Int32 → Int32 → Int32 → Mem → Prop := fun lab v2 v3 v4 M => ∀ P : Nat → Int32 → Int32 → Int32 → Mem → Prop, (∀ (lab : Nat) (v2 : Int32) (v3 : Int32) (v4 : Int32) (M : Mem), blk_X7_crossings v1 Q P lab v2 v3 v4 M → P lab v2 v3 v4 M) → P lab v2 v3 v4 M
theorem at_X7_crossings_fold {v1 : Int32} {Q : Int32 → Mem → Prop} {lab : Nat} {v2 : Int32} {v3 : Int32} {v4 : Int32} {M : Mem} (h : blk_X7_crossings v1 Q (at_X7_crossings v1 Q) lab v2 v3 v4 M) : at_X7_crossings v1 Q lab v2 v3 v4 M := fun P hP => hP _ _ _ _ _ (blk_X7_crossings_mono (fun _ _ h => h) (fun _ _ _ _ _ h => h P hP) _ _ _ _ _ h)
theorem at_X7_crossings_mono {v1 : Int32} {Q Q' : Int32 → Mem → Prop} (hQ : ∀ (r : Int32) (M : Mem), Q r M → Q' r M) {lab : Nat} {v2 : Int32} {v3 : Int32} {v4 : Int32} {M : Mem} (h : at_X7_crossings v1 Q lab v2 v3 v4 M) : at_X7_crossings v1 Q' lab v2 v3 v4 M := fun P hP => h P (fun lab v2 v3 v4 M hb => hP _ _ _ _ _ (blk_X7_crossings_mono hQ (fun _ _ _ _ _ h => h) _ _ _ _ _ hb))
def wp_X7_crossings (v1 : Int32) (M : Mem) (Q : Int32 → Mem → Prop) : Prop := at_X7_crossings v1 Q 0 0 0 0 M
theorem wp_X7_crossings_mono {v1 : Int32} {M : Mem} {Q Q' : Int32 → Mem → Prop} (hQ : ∀ (r : Int32) (M : Mem), Q r M → Q' r M) (h : wp_X7_crossings v1 M Q) : wp_X7_crossings v1 M Q' := at_X7_crossings_mono hQ h
def pcl_X7_crossings : Nat → Nat := fun lab => match lab with
  | 0 => 0
  | 1 => 17
  | 2 => 63
  | _ => 0
def lvl_X7_crossings (ad : Nat → Nat) (v1 : Int32) : Nat → Int32 → Int32 → Int32 → List (Nat × Value) := fun lab v2 v3 v4 => match lab with
  | 0 => [(0, .ref (ad 0)), (1, .int v1)]
  | 1 => [(0, .ref (ad 0)), (1, .int v1), (3, .int v3), (4, .int v4)]
  | 2 => [(0, .ref (ad 0)), (1, .int v1), (3, .int v3), (4, .int v4)]
  | _ => []
abbrev rm_X7_crossings : Jvm.Room := { frames := 2, cells := 0, slots := 0, locals := 34 }
set_option maxHeartbeats 4000000 in
set_option maxRecDepth 100000 in
theorem ct_X7_crossings (l : Launch) (D : va_G) (cy : Nat → ClassId) (ad : Nat → Nat) (B : Nat → Prop) (v1 : Int32) (M : Mem) (Q : Int32 → Mem → Prop) (h : wp_X7_crossings v1 M Q) : CTi l D cy (wX ad cy) B yX7_crossings wsX7_crossings rm_X7_crossings [.ref (ad 0), .int v1] M Q := by
  intro sz
  refine Met.ofW (cc := cX7_crossings) (maxL := 5) (ret := some .int) (by decide) rfl ?_
  intro p e s m args below meth c s₁ Bd hml hv
  obtain ⟨hargs, hsz, hP, hK, hD⟩ := hv
  subst hsz
  have hx := Bd.exec
  have hb := Bd.bytes
  have hr := Bd.returns
  have hts := atoms_spec (ws := wsX7_crossings) Bd.pre
  have hown : s.vm.findClass RX7 = some m.cls := findClass_of_methodNamed Bd.named
  have hlocks := Bd.notSynchronized
  have hC2 : xC wsX7_crossings 2 RX2 TX2 8 := ⟨by decide +kernel, rfl⟩
  have hC7 : xC wsX7_crossings 7 RX7 TX7 11 := ⟨by decide +kernel, rfl⟩
  have key : ∀ (P : Nat → Int32 → Int32 → Int32 → Mem → Prop), (∀ (lab : Nat) (v2 : Int32) (v3 : Int32) (v4 : Int32) (M : Mem), P lab v2 v3 v4 M → ∀ (H : Heap) (locs : List Loc) (ls : Array Slot), xS D (wX ad cy) B s.heap H locs M → lv_has ls 5 (lvl_X7_crossings ad v1 lab v2 v3 v4 ) → W p l e (headSpec wsX7_crossings rm_X7_crossings).room s m args below meth c H locs 0 0 (MQ below (va_Qi (S := Mem) Q (xB D (wX ad cy) B) (xA B s.heap.size)) args s 0 0 (xA B s.heap.size)) (F0 m (pcl_X7_crossings lab) ls [])) → ∀ (lab : Nat) (v2 : Int32) (v3 : Int32) (v4 : Int32) (M : Mem), blk_X7_crossings v1 Q P lab v2 v3 v4 M → ∀ (H : Heap) (locs : List Loc) (ls : Array Slot), xS D (wX ad cy) B s.heap H locs M → lv_has ls 5 (lvl_X7_crossings ad v1 lab v2 v3 v4 ) → W p l e (headSpec wsX7_crossings rm_X7_crossings).room s m args below meth c H locs 0 0 (MQ below (va_Qi (S := Mem) Q (xB D (wX ad cy) B) (xA B s.heap.size)) args s 0 0 (xA B s.heap.size)) (F0 m (pcl_X7_crossings lab) ls []) := by
    intro P hJ lab v2 v3 v4 M h H locs ls S hl
    match lab, h, hl with
    | 0, h, hl =>
      have hl : lv_has ls 5 [(0, .ref (ad 0)), (1, .int v1)] := hl
      have h : blk_X7_crossings_0 v1 Q P v2 v3 v4 M := h
      unfold blk_X7_crossings_0 at h
      refine W.eq (g2 := F0 m 0 ls []) rfl ?_
      refine lv_aload_n hx hb dX7_crossings_0 rfl (lv_at hl 0 rfl) ?_
      refine lv_iload_n hx hb dX7_crossings_1 rfl (lv_at hl 1 rfl) ?_
      refine x_callVi (As := [.int v1]) ⟨hx, hb, hml, hown, hts⟩ hK S (ct_X7_rankRefusal l D cy ad B _ _ _ h) xo_0 rfl (cwV 1 hts gX7_crossings_X7_rankRefusal rfl rfl rfl (by decide +kernel) ⟨Nat.le_of_ble_eq_true rfl, Nat.le_of_ble_eq_true rfl⟩) rfl hl.1 rfl (Nat.le_of_ble_eq_true rfl) dX7_crossings_2 ⟨Nat.zero_le _, Nat.zero_le _⟩ (fun r1 M1 H locs h S => ?_)
      refine lv_istore_n (lv' := [(2, .int r1), (0, .ref (ad 0)), (1, .int v1)]) hx hb dX7_crossings_5 rfl hl (by decide) rfl (fun ls hl => ?_)
      refine lv_iload_n hx hb dX7_crossings_6 rfl (lv_at hl 0 rfl) ?_
      refine lv_if_eq (tgt := 12) hx hb dX7_crossings_7 (by decide) (fun c7 => ?_) (fun c7 => ?_)
      · replace h := h.1 c7
        refine lv_iconst (v := 0) hx hb dX7_crossings_12 (by decide) ?_
        refine lv_istore_n (lv' := [(3, .int 0), (2, .int r1), (0, .ref (ad 0)), (1, .int v1)]) hx hb dX7_crossings_13 rfl hl (by decide) rfl (fun ls hl => ?_)
        refine lv_iconst (v := 0) hx hb dX7_crossings_14 (by decide) ?_
        refine lv_istore (lv' := [(4, .int 0), (3, .int 0), (2, .int r1), (0, .ref (ad 0)), (1, .int v1)]) hx hb dX7_crossings_15 hl (by decide) rfl (fun ls hl => ?_)
        exact hJ _ _ _ _ _ h _ _ _ S (lv_sub hl [3, 4, 1, 0] rfl)
      · replace h := h.2 c7
        refine lv_iload_n hx hb dX7_crossings_10 rfl (lv_at hl 0 rfl) ?_
        exact x_iret hx hb hr hlocks S rfl h dX7_crossings_11
    | 1, h, hl =>
      have hl : lv_has ls 5 [(0, .ref (ad 0)), (1, .int v1), (3, .int v3), (4, .int v4)] := hl
      have h : blk_X7_crossings_1 v1 Q P v2 v3 v4 M := h
      unfold blk_X7_crossings_1 at h
      refine W.eq (g2 := F0 m 17 ls []) rfl ?_
      refine lv_iload hx hb dX7_crossings_17 (lv_at hl 3 rfl) ?_
      refine lv_aload_n hx hb dX7_crossings_19 rfl (lv_at hl 0 rfl) ?_
      refine x_getR hx hb hts (hC7) hown hK S 2 (by decide) xf_0_2 (index := 25) (hts _ (List.mem_of_getElem? (i := 1) rfl)) dX7_crossings_20 ?_
      refine x_getI hx hb hts (hC2) hown hK S 4 (by decide) xf_13_4 (index := 129) (hts _ (List.mem_of_getElem? (i := 2) rfl)) dX7_crossings_23 ?_
      refine lv_icmp_ge (tgt := 69) hx hb dX7_crossings_26 (by decide) (fun c26 => ?_) (fun c26 => ?_)
      · replace h := h.1 c26
        refine lv_iload_n hx hb dX7_crossings_69 rfl (lv_at hl 2 rfl) ?_
        exact x_iret hx hb hr hlocks S rfl h dX7_crossings_70
      · replace h := h.2 c26
        refine lv_iload hx hb dX7_crossings_29 (lv_at hl 3 rfl) ?_
        refine lv_aload_n hx hb dX7_crossings_31 rfl (lv_at hl 0 rfl) ?_
        refine x_callVi (As := []) ⟨hx, hb, hml, hown, hts⟩ hK S (ct_X7_fencesNow l D cy ad B _ _ h) xo_0 rfl (cwV 0 hts gX7_crossings_X7_fencesNow rfl rfl rfl (by decide +kernel) ⟨Nat.le_of_ble_eq_true rfl, Nat.le_of_ble_eq_true rfl⟩) rfl hl.1 rfl (Nat.le_of_ble_eq_true rfl) dX7_crossings_32 ⟨Nat.zero_le _, Nat.zero_le _⟩ (fun r2 M2 H locs h S => ?_)
        refine x_callSi (As := [.int v4, .int r2]) ⟨hx, hb, hml, hown, hts⟩ hK S (ct_X7_isIn l D cy ad B _ _ _ _ h) (va_cwS 2 hts gX7_crossings_X7_isIn rfl rfl rfl (by decide +kernel) ⟨Nat.le_of_ble_eq_true rfl, Nat.le_of_ble_eq_true rfl⟩) rfl hl.1 rfl (Nat.le_of_ble_eq_true rfl) dX7_crossings_35 ⟨Nat.zero_le _, Nat.zero_le _⟩ (fun r3 M3 H locs h S => ?_)
        refine lv_if_eq (tgt := 63) hx hb dX7_crossings_38 (by decide) (fun c38 => ?_) (fun c38 => ?_)
        · replace h := h.1 c38
          exact hJ _ _ _ _ _ h _ _ _ S (lv_sub hl [0, 1, 2, 3] rfl)
        · replace h := h.2 c38
          refine lv_iload_n hx hb dX7_crossings_41 rfl (lv_at hl 2 rfl) ?_
          refine lv_aload_n hx hb dX7_crossings_42 rfl (lv_at hl 0 rfl) ?_
          refine x_getR hx hb hts (hC7) hown hK S 2 (by decide) xf_0_2 (index := 25) (hts _ (List.mem_of_getElem? (i := 1) rfl)) dX7_crossings_43 ?_
          refine x_getR hx hb hts (hC2) hown hK S 3 (by decide) xf_13_3 (index := 155) (hts _ (List.mem_of_getElem? (i := 3) rfl)) dX7_crossings_46 ?_
          refine lv_iload hx hb dX7_crossings_49 (lv_at hl 3 rfl) ?_
          refine x_iald hx hb hK S xa_19 h.1 dX7_crossings_51 ?_
          replace h := h.2
          refine lv_aload_n hx hb dX7_crossings_52 rfl (lv_at hl 0 rfl) ?_
          refine lv_iload_n hx hb dX7_crossings_53 rfl (lv_at hl 1 rfl) ?_
          refine x_callVi (As := [.int v1]) ⟨hx, hb, hml, hown, hts⟩ hK S (ct_X7_fencesOf l D cy ad B _ _ _ h) xo_0 rfl (cwV 1 hts gX7_crossings_X7_fencesOf rfl rfl rfl (by decide +kernel) ⟨Nat.le_of_ble_eq_true rfl, Nat.le_of_ble_eq_true rfl⟩) rfl hl.1 rfl (Nat.le_of_ble_eq_true rfl) dX7_crossings_54 ⟨Nat.zero_le _, Nat.zero_le _⟩ (fun r4 M4 H locs h S => ?_)
          refine lv_iand hx hb dX7_crossings_57 ?_
          refine x_callSi (As := [.int ((M3.1 19 v4.toNatClampNeg) &&& r4)]) ⟨hx, hb, hml, hown, hts⟩ hK S (ct_J6_bitCount_0f7a4_X l D cy ad B _ _ _ h) (va_cwS 1 hts gX7_crossings_J6_bitCount_0f7a4 rfl rfl rfl (by decide +kernel) ⟨Nat.le_of_ble_eq_true rfl, Nat.le_of_ble_eq_true rfl⟩) rfl hl.1 rfl (Nat.le_of_ble_eq_true rfl) dX7_crossings_58 ⟨Nat.zero_le _, Nat.zero_le _⟩ (fun r5 M5 H locs h S => ?_)
          refine lv_iadd hx hb dX7_crossings_61 ?_
          refine lv_istore_n (lv' := [(3, .int (v3 + r5)), (0, .ref (ad 0)), (1, .int v1), (4, .int v4)]) hx hb dX7_crossings_62 rfl hl (by decide) rfl (fun ls hl => ?_)
          exact hJ _ _ _ _ _ h _ _ _ S (lv_sub hl [1, 2, 0, 3] rfl)
    | 2, h, hl =>
      have hl : lv_has ls 5 [(0, .ref (ad 0)), (1, .int v1), (3, .int v3), (4, .int v4)] := hl
      have h : blk_X7_crossings_2 v1 Q P v2 v3 v4 M := h
      unfold blk_X7_crossings_2 at h
      refine W.eq (g2 := F0 m 63 ls []) rfl ?_
      refine lv_iinc (v := (v4 + 1)) (lv' := [(4, .int (v4 + 1)), (0, .ref (ad 0)), (1, .int v1), (3, .int v3)]) hx hb dX7_crossings_63 hl (k := 3) rfl rfl (by decide) rfl (fun ls hl => ?_)
      refine lv_goto (tgt := 17) hx hb dX7_crossings_66 (by decide) ?_
      exact hJ _ _ _ _ _ h _ _ _ S (lv_sub hl [1, 2, 3, 0] rfl)
    | _ + 3, h, hl => exact h.elim
  have hl := lv_entry ([.ref (ad 0), .int v1]) (n := 5) (Nat.le_of_ble_eq_true rfl)
  subst hargs
  rw [lg_entry_eq]
  generalize (lg_sl ([.ref (ad 0), .int v1]) ++ List.replicate (5 - (lg_sl ([.ref (ad 0), .int v1])).length) Slot.unset).toArray = ls at hl ⊢
  exact h _ (key _ (fun _ _ _ _ _ h => h)) s.heap [] ls ⟨hP, hD, va_S.rf⟩ hl
/-! X7_sheetsThere -/
def blk_X7_sheetsThere_0 (Q : Int32 → Mem → Prop) (P : Nat → Int32 → Int32 → Mem → Prop) (v1 : Int32) (v2 : Int32) (M : Mem) : Prop :=
  P 1 0 0 M
theorem blk_X7_sheetsThere_0_mono {Q Q' : Int32 → Mem → Prop} {P P' : Nat → Int32 → Int32 → Mem → Prop} (hQ : ∀ (r : Int32) (M : Mem), Q r M → Q' r M) (hP : ∀ (lab : Nat) (v1 : Int32) (v2 : Int32) (M : Mem), P lab v1 v2 M → P' lab v1 v2 M) (v1 : Int32) (v2 : Int32) (M : Mem) (h : blk_X7_sheetsThere_0 Q P v1 v2 M) : blk_X7_sheetsThere_0 Q' P' v1 v2 M := by
  unfold blk_X7_sheetsThere_0 at h ⊢
  exact hP _ _ _ _ h
def blk_X7_sheetsThere_1 (Q : Int32 → Mem → Prop) (P : Nat → Int32 → Int32 → Mem → Prop) (v1 : Int32) (v2 : Int32) (M : Mem) : Prop :=
  ((4 ≤ v2 → Q v1 M) ∧ (¬ 4 ≤ v2 → (vp_in v2 4 ∧ (v2.toNatClampNeg = 0 → ((¬ (M.1 2 1) = 0 → P 2 v1 v2 M) ∧ ((M.1 2 1) = 0 → P 2 (v1 + 1) v2 M))) ∧ (v2.toNatClampNeg = 1 → ((¬ (M.1 3 1) = 0 → P 2 v1 v2 M) ∧ ((M.1 3 1) = 0 → P 2 (v1 + 1) v2 M))) ∧ (v2.toNatClampNeg = 2 → ((¬ (M.1 4 1) = 0 → P 2 v1 v2 M) ∧ ((M.1 4 1) = 0 → P 2 (v1 + 1) v2 M))) ∧ (v2.toNatClampNeg = 3 → ((¬ (M.1 5 1) = 0 → P 2 v1 v2 M) ∧ ((M.1 5 1) = 0 → P 2 (v1 + 1) v2 M))))))
theorem blk_X7_sheetsThere_1_mono {Q Q' : Int32 → Mem → Prop} {P P' : Nat → Int32 → Int32 → Mem → Prop} (hQ : ∀ (r : Int32) (M : Mem), Q r M → Q' r M) (hP : ∀ (lab : Nat) (v1 : Int32) (v2 : Int32) (M : Mem), P lab v1 v2 M → P' lab v1 v2 M) (v1 : Int32) (v2 : Int32) (M : Mem) (h : blk_X7_sheetsThere_1 Q P v1 v2 M) : blk_X7_sheetsThere_1 Q' P' v1 v2 M := by
  unfold blk_X7_sheetsThere_1 at h ⊢
  exact ⟨fun c => let h := h.1 c; hQ _ _ h, fun c => let h := h.2 c; ⟨h.1, let h := h.2; ⟨fun c => let h := h.1 c; ⟨fun c => let h := h.1 c; hP _ _ _ _ h, fun c => let h := h.2 c; hP _ _ _ _ h⟩, fun c => let h := h.2.1 c; ⟨fun c => let h := h.1 c; hP _ _ _ _ h, fun c => let h := h.2 c; hP _ _ _ _ h⟩, fun c => let h := h.2.2.1 c; ⟨fun c => let h := h.1 c; hP _ _ _ _ h, fun c => let h := h.2 c; hP _ _ _ _ h⟩, fun c => let h := h.2.2.2 c; ⟨fun c => let h := h.1 c; hP _ _ _ _ h, fun c => let h := h.2 c; hP _ _ _ _ h⟩⟩⟩⟩
def blk_X7_sheetsThere_2 (Q : Int32 → Mem → Prop) (P : Nat → Int32 → Int32 → Mem → Prop) (v1 : Int32) (v2 : Int32) (M : Mem) : Prop :=
  P 1 v1 (v2 + 1) M
theorem blk_X7_sheetsThere_2_mono {Q Q' : Int32 → Mem → Prop} {P P' : Nat → Int32 → Int32 → Mem → Prop} (hQ : ∀ (r : Int32) (M : Mem), Q r M → Q' r M) (hP : ∀ (lab : Nat) (v1 : Int32) (v2 : Int32) (M : Mem), P lab v1 v2 M → P' lab v1 v2 M) (v1 : Int32) (v2 : Int32) (M : Mem) (h : blk_X7_sheetsThere_2 Q P v1 v2 M) : blk_X7_sheetsThere_2 Q' P' v1 v2 M := by
  unfold blk_X7_sheetsThere_2 at h ⊢
  exact hP _ _ _ _ h
def blk_X7_sheetsThere (Q : Int32 → Mem → Prop) (P : Nat → Int32 → Int32 → Mem → Prop) : Nat → Int32 → Int32 → Mem → Prop := fun lab v1 v2 M => match lab with
  | 0 => blk_X7_sheetsThere_0 Q P v1 v2 M
  | 1 => blk_X7_sheetsThere_1 Q P v1 v2 M
  | 2 => blk_X7_sheetsThere_2 Q P v1 v2 M
  | _ => False
theorem blk_X7_sheetsThere_mono {Q Q' : Int32 → Mem → Prop} {P P' : Nat → Int32 → Int32 → Mem → Prop} (hQ : ∀ (r : Int32) (M : Mem), Q r M → Q' r M) (hP : ∀ (lab : Nat) (v1 : Int32) (v2 : Int32) (M : Mem), P lab v1 v2 M → P' lab v1 v2 M) : ∀ (lab : Nat) (v1 : Int32) (v2 : Int32) (M : Mem), blk_X7_sheetsThere Q P lab v1 v2 M → blk_X7_sheetsThere Q' P' lab v1 v2 M := fun lab v1 v2 M h => match lab, h with
  | 0, h => blk_X7_sheetsThere_0_mono hQ hP v1 v2 M h
  | 1, h => blk_X7_sheetsThere_1_mono hQ hP v1 v2 M h
  | 2, h => blk_X7_sheetsThere_2_mono hQ hP v1 v2 M h
  | _ + 3, h => False.elim h
def at_X7_sheetsThere (Q : Int32 → Mem → Prop) : Nat → Int32 → Int32 → Mem → Prop := fun lab v1 v2 M => ∀ P : Nat → Int32 → Int32 → Mem → Prop, (∀ (lab : Nat) (v1 : Int32) (v2 : Int32) (M : Mem), blk_X7_sheetsThere Q P lab v1 v2 M → P lab v1 v2 M) → P lab v1 v2 M
theorem at_X7_sheetsThere_fold {Q : Int32 → Mem → Prop} {lab : Nat} {v1 : Int32} {v2 : Int32} {M : Mem} (h : blk_X7_sheetsThere Q (at_X7_sheetsThere Q) lab v1 v2 M) : at_X7_sheetsThere Q lab v1 v2 M := fun P hP => hP _ _ _ _ (blk_X7_sheetsThere_mono (fun _ _ h => h) (fun _ _ _ _ h => h P hP) _ _ _ _ h)
theorem at_X7_sheetsThere_mono {Q Q' : Int32 → Mem → Prop} (hQ : ∀ (r : Int32) (M : Mem), Q r M → Q' r M) {lab : Nat} {v1 : Int32} {v2 : Int32} {M : Mem} (h : at_X7_sheetsThere Q lab v1 v2 M) : at_X7_sheetsThere Q' lab v1 v2 M := fun P hP => h P (fun lab v1 v2 M hb => hP _ _ _ _ (blk_X7_sheetsThere_mono hQ (fun _ _ _ _ h => h) _ _ _ _ hb))
def wp_X7_sheetsThere (M : Mem) (Q : Int32 → Mem → Prop) : Prop := at_X7_sheetsThere Q 0 0 0 M
theorem wp_X7_sheetsThere_mono {M : Mem} {Q Q' : Int32 → Mem → Prop} (hQ : ∀ (r : Int32) (M : Mem), Q r M → Q' r M) (h : wp_X7_sheetsThere M Q) : wp_X7_sheetsThere M Q' := at_X7_sheetsThere_mono hQ h
def pcl_X7_sheetsThere : Nat → Nat := fun lab => match lab with
  | 0 => 0
  | 1 => 4
  | 2 => 24
  | _ => 0
def lvl_X7_sheetsThere (ad : Nat → Nat) : Nat → Int32 → Int32 → List (Nat × Value) := fun lab v1 v2 => match lab with
  | 0 => [(0, .ref (ad 0))]
  | 1 => [(0, .ref (ad 0)), (1, .int v1), (2, .int v2)]
  | 2 => [(0, .ref (ad 0)), (1, .int v1), (2, .int v2)]
  | _ => []
abbrev rm_X7_sheetsThere : Jvm.Room := { frames := 1, cells := 0, slots := 0, locals := 14 }
set_option maxHeartbeats 4000000 in
set_option maxRecDepth 100000 in
theorem ct_X7_sheetsThere (l : Launch) (D : va_G) (cy : Nat → ClassId) (ad : Nat → Nat) (B : Nat → Prop) (M : Mem) (Q : Int32 → Mem → Prop) (h : wp_X7_sheetsThere M Q) : CTi l D cy (wX ad cy) B yX7_sheetsThere wsX7_sheetsThere rm_X7_sheetsThere [.ref (ad 0)] M Q := by
  intro sz
  refine Met.ofW (cc := cX7_sheetsThere) (maxL := 3) (ret := some .int) (by decide) rfl ?_
  intro p e s m args below meth c s₁ Bd hml hv
  obtain ⟨hargs, hsz, hP, hK, hD⟩ := hv
  subst hsz
  have hx := Bd.exec
  have hb := Bd.bytes
  have hr := Bd.returns
  have hts := atoms_spec (ws := wsX7_sheetsThere) Bd.pre
  have hown : s.vm.findClass RX7 = some m.cls := findClass_of_methodNamed Bd.named
  have hlocks := Bd.notSynchronized
  have hC5 : xC wsX7_sheetsThere 5 RX5 TX5 4 := ⟨by decide +kernel, rfl⟩
  have hC7 : xC wsX7_sheetsThere 7 RX7 TX7 11 := ⟨by decide +kernel, rfl⟩
  have key : ∀ (P : Nat → Int32 → Int32 → Mem → Prop), (∀ (lab : Nat) (v1 : Int32) (v2 : Int32) (M : Mem), P lab v1 v2 M → ∀ (H : Heap) (locs : List Loc) (ls : Array Slot), xS D (wX ad cy) B s.heap H locs M → lv_has ls 3 (lvl_X7_sheetsThere ad lab v1 v2 ) → W p l e (headSpec wsX7_sheetsThere rm_X7_sheetsThere).room s m args below meth c H locs 0 0 (MQ below (va_Qi (S := Mem) Q (xB D (wX ad cy) B) (xA B s.heap.size)) args s 0 0 (xA B s.heap.size)) (F0 m (pcl_X7_sheetsThere lab) ls [])) → ∀ (lab : Nat) (v1 : Int32) (v2 : Int32) (M : Mem), blk_X7_sheetsThere Q P lab v1 v2 M → ∀ (H : Heap) (locs : List Loc) (ls : Array Slot), xS D (wX ad cy) B s.heap H locs M → lv_has ls 3 (lvl_X7_sheetsThere ad lab v1 v2 ) → W p l e (headSpec wsX7_sheetsThere rm_X7_sheetsThere).room s m args below meth c H locs 0 0 (MQ below (va_Qi (S := Mem) Q (xB D (wX ad cy) B) (xA B s.heap.size)) args s 0 0 (xA B s.heap.size)) (F0 m (pcl_X7_sheetsThere lab) ls []) := by
    intro P hJ lab v1 v2 M h H locs ls S hl
    match lab, h, hl with
    | 0, h, hl =>
      have hl : lv_has ls 3 [(0, .ref (ad 0))] := hl
      have h : blk_X7_sheetsThere_0 Q P v1 v2 M := h
      unfold blk_X7_sheetsThere_0 at h
      refine W.eq (g2 := F0 m 0 ls []) rfl ?_
      refine lv_iconst (v := 0) hx hb dX7_sheetsThere_0 (by decide) ?_
      refine lv_istore_n (lv' := [(1, .int 0), (0, .ref (ad 0))]) hx hb dX7_sheetsThere_1 rfl hl (by decide) rfl (fun ls hl => ?_)
      refine lv_iconst (v := 0) hx hb dX7_sheetsThere_2 (by decide) ?_
      refine lv_istore_n (lv' := [(2, .int 0), (1, .int 0), (0, .ref (ad 0))]) hx hb dX7_sheetsThere_3 rfl hl (by decide) rfl (fun ls hl => ?_)
      exact hJ _ _ _ _ h _ _ _ S (lv_sub hl [2, 1, 0] rfl)
    | 1, h, hl =>
      have hl : lv_has ls 3 [(0, .ref (ad 0)), (1, .int v1), (2, .int v2)] := hl
      have h : blk_X7_sheetsThere_1 Q P v1 v2 M := h
      unfold blk_X7_sheetsThere_1 at h
      refine W.eq (g2 := F0 m 4 ls []) rfl ?_
      refine lv_iload_n hx hb dX7_sheetsThere_4 rfl (lv_at hl 2 rfl) ?_
      refine lv_iconst (v := 4) hx hb dX7_sheetsThere_5 (by decide) ?_
      refine lv_icmp_ge (tgt := 30) hx hb dX7_sheetsThere_6 (by decide) (fun c6 => ?_) (fun c6 => ?_)
      · replace h := h.1 c6
        refine lv_iload_n hx hb dX7_sheetsThere_30 rfl (lv_at hl 1 rfl) ?_
        exact x_iret hx hb hr hlocks S rfl h dX7_sheetsThere_31
      · replace h := h.2 c6
        refine lv_aload_n hx hb dX7_sheetsThere_9 rfl (lv_at hl 0 rfl) ?_
        refine x_getR hx hb hts (hC7) hown hK S 0 (by decide) xf_0_0 (index := 11) (hts _ (List.mem_of_getElem? (i := 1) rfl)) dX7_sheetsThere_10 ?_
        refine lv_iload_n hx hb dX7_sheetsThere_13 rfl (lv_at hl 2 rfl) ?_
        have hk := x_in4 h.1
        have hin := h.1
        replace h := h.2
        rcases hk with hk | hk | hk | hk
        · replace h := h.1 hk
          refine x_aald hx hb hK S xa_1 hin hk rfl dX7_sheetsThere_14 ?_
          refine x_getI hx hb hts (hC5) hown hK S 1 (by decide) xf_2_1 (index := 77) (hts _ (List.mem_of_getElem? (i := 2) rfl)) dX7_sheetsThere_15 ?_
          refine lv_if_ne (tgt := 24) hx hb dX7_sheetsThere_18 (by decide) (fun c18 => ?_) (fun c18 => ?_)
          · replace h := h.1 c18
            exact hJ _ _ _ _ h _ _ _ S (lv_sub hl [0, 1, 2] rfl)
          · replace h := h.2 c18
            refine lv_iinc (v := (v1 + 1)) (lv' := [(1, .int (v1 + 1)), (0, .ref (ad 0)), (2, .int v2)]) hx hb dX7_sheetsThere_21 hl (k := 1) rfl rfl (by decide) rfl (fun ls hl => ?_)
            exact hJ _ _ _ _ h _ _ _ S (lv_sub hl [1, 0, 2] rfl)
        · replace h := h.2.1 hk
          refine x_aald hx hb hK S xa_1 hin hk rfl dX7_sheetsThere_14 ?_
          refine x_getI hx hb hts (hC5) hown hK S 1 (by decide) xf_3_1 (index := 77) (hts _ (List.mem_of_getElem? (i := 2) rfl)) dX7_sheetsThere_15 ?_
          refine lv_if_ne (tgt := 24) hx hb dX7_sheetsThere_18 (by decide) (fun c18 => ?_) (fun c18 => ?_)
          · replace h := h.1 c18
            exact hJ _ _ _ _ h _ _ _ S (lv_sub hl [0, 1, 2] rfl)
          · replace h := h.2 c18
            refine lv_iinc (v := (v1 + 1)) (lv' := [(1, .int (v1 + 1)), (0, .ref (ad 0)), (2, .int v2)]) hx hb dX7_sheetsThere_21 hl (k := 1) rfl rfl (by decide) rfl (fun ls hl => ?_)
            exact hJ _ _ _ _ h _ _ _ S (lv_sub hl [1, 0, 2] rfl)
        · replace h := h.2.2.1 hk
          refine x_aald hx hb hK S xa_1 hin hk rfl dX7_sheetsThere_14 ?_
          refine x_getI hx hb hts (hC5) hown hK S 1 (by decide) xf_4_1 (index := 77) (hts _ (List.mem_of_getElem? (i := 2) rfl)) dX7_sheetsThere_15 ?_
          refine lv_if_ne (tgt := 24) hx hb dX7_sheetsThere_18 (by decide) (fun c18 => ?_) (fun c18 => ?_)
          · replace h := h.1 c18
            exact hJ _ _ _ _ h _ _ _ S (lv_sub hl [0, 1, 2] rfl)
          · replace h := h.2 c18
            refine lv_iinc (v := (v1 + 1)) (lv' := [(1, .int (v1 + 1)), (0, .ref (ad 0)), (2, .int v2)]) hx hb dX7_sheetsThere_21 hl (k := 1) rfl rfl (by decide) rfl (fun ls hl => ?_)
            exact hJ _ _ _ _ h _ _ _ S (lv_sub hl [1, 0, 2] rfl)
        · replace h := h.2.2.2 hk
          refine x_aald hx hb hK S xa_1 hin hk rfl dX7_sheetsThere_14 ?_
          refine x_getI hx hb hts (hC5) hown hK S 1 (by decide) xf_5_1 (index := 77) (hts _ (List.mem_of_getElem? (i := 2) rfl)) dX7_sheetsThere_15 ?_
          refine lv_if_ne (tgt := 24) hx hb dX7_sheetsThere_18 (by decide) (fun c18 => ?_) (fun c18 => ?_)
          · replace h := h.1 c18
            exact hJ _ _ _ _ h _ _ _ S (lv_sub hl [0, 1, 2] rfl)
          · replace h := h.2 c18
            refine lv_iinc (v := (v1 + 1)) (lv' := [(1, .int (v1 + 1)), (0, .ref (ad 0)), (2, .int v2)]) hx hb dX7_sheetsThere_21 hl (k := 1) rfl rfl (by decide) rfl (fun ls hl => ?_)
            exact hJ _ _ _ _ h _ _ _ S (lv_sub hl [1, 0, 2] rfl)
    | 2, h, hl =>
      have hl : lv_has ls 3 [(0, .ref (ad 0)), (1, .int v1), (2, .int v2)] := hl
      have h : blk_X7_sheetsThere_2 Q P v1 v2 M := h
      unfold blk_X7_sheetsThere_2 at h
      refine W.eq (g2 := F0 m 24 ls []) rfl ?_
      refine lv_iinc (v := (v2 + 1)) (lv' := [(2, .int (v2 + 1)), (0, .ref (ad 0)), (1, .int v1)]) hx hb dX7_sheetsThere_24 hl (k := 2) rfl rfl (by decide) rfl (fun ls hl => ?_)
      refine lv_goto (tgt := 4) hx hb dX7_sheetsThere_27 (by decide) ?_
      exact hJ _ _ _ _ h _ _ _ S (lv_sub hl [1, 2, 0] rfl)
    | _ + 3, h, hl => exact h.elim
  have hl := lv_entry ([.ref (ad 0)]) (n := 3) (Nat.le_of_ble_eq_true rfl)
  subst hargs
  rw [lg_entry_eq]
  generalize (lg_sl ([.ref (ad 0)]) ++ List.replicate (3 - (lg_sl ([.ref (ad 0)])).length) Slot.unset).toArray = ls at hl ⊢
  exact h _ (key _ (fun _ _ _ _ h => h)) s.heap [] ls ⟨hP, hD, va_S.rf⟩ hl
/-! X7_total -/
def wp_X7_total (v1 : Int32) (M : Mem) (Q : Int32 → Mem → Prop) : Prop :=
  (((v1 : Int32).toInt < 0 ∨ 8 < (v1 : Int32).toInt → Q (-2) M) ∧ ((v1 : Int32).toInt = 0 → Q (M.1 10 2) M) ∧ ((v1 : Int32).toInt = 1 → (((M.1 0 8) = 0 → Q 0 M) ∧ (¬ (M.1 0 8) = 0 → Q (M.1 14 2) M))) ∧ ((v1 : Int32).toInt = 2 → (((M.1 0 8) = 0 → Q 0 M) ∧ (¬ (M.1 0 8) = 0 → Q (M.1 13 4) M))) ∧ ((v1 : Int32).toInt = 3 → (((M.1 0 8) = 0 → Q 0 M) ∧ (¬ (M.1 0 8) = 0 → wp_J6_bitCount_0f7a4_X (M.1 13 5) M (fun r1 M1 => Q r1 M1)))) ∧ ((v1 : Int32).toInt = 4 → (((M.1 0 8) = 0 → Q 0 M) ∧ (¬ (M.1 0 8) = 0 → wp_J6_bitCount_0f7a4_X (M.1 25 3) M (fun r2 M2 => Q r2 M2)))) ∧ ((v1 : Int32).toInt = 5 → (((M.1 0 8) = 0 → Q 0 M) ∧ (¬ (M.1 0 8) = 0 → wp_J6_bitCount_0f7a4_X (M.1 25 4) M (fun r3 M3 => Q r3 M3)))) ∧ ((v1 : Int32).toInt = 6 → (((M.1 0 8) = 0 → Q 0 M) ∧ (¬ (M.1 0 8) = 0 → Q (M.1 31 0) M))) ∧ ((v1 : Int32).toInt = 7 → Q (M.1 0 10) M) ∧ ((v1 : Int32).toInt = 8 → wp_X7_sheetsThere M (fun r4 M4 => Q r4 M4)))
theorem wp_X7_total_mono {v1 : Int32} {M : Mem} {Q Q' : Int32 → Mem → Prop} (hQ : ∀ (r : Int32) (M : Mem), Q r M → Q' r M) (h : wp_X7_total v1 M Q) : wp_X7_total v1 M Q' := by
  unfold wp_X7_total at h ⊢
  exact ⟨fun c => let h := h.1 c; hQ _ _ h, fun c => let h := h.2.1 c; hQ _ _ h, fun c => let h := h.2.2.1 c; ⟨fun c => let h := h.1 c; hQ _ _ h, fun c => let h := h.2 c; hQ _ _ h⟩, fun c => let h := h.2.2.2.1 c; ⟨fun c => let h := h.1 c; hQ _ _ h, fun c => let h := h.2 c; hQ _ _ h⟩, fun c => let h := h.2.2.2.2.1 c; ⟨fun c => let h := h.1 c; hQ _ _ h, fun c => let h := h.2 c; wp_J6_bitCount_0f7a4_X_mono (fun r1 M1 h => hQ _ _ h) h⟩, fun c => let h := h.2.2.2.2.2.1 c; ⟨fun c => let h := h.1 c; hQ _ _ h, fun c => let h := h.2 c; wp_J6_bitCount_0f7a4_X_mono (fun r2 M2 h => hQ _ _ h) h⟩, fun c => let h := h.2.2.2.2.2.2.1 c; ⟨fun c => let h := h.1 c; hQ _ _ h, fun c => let h := h.2 c; wp_J6_bitCount_0f7a4_X_mono (fun r3 M3 h => hQ _ _ h) h⟩, fun c => let h := h.2.2.2.2.2.2.2.1 c; ⟨fun c => let h := h.1 c; hQ _ _ h, fun c => let h := h.2 c; hQ _ _ h⟩, fun c => let h := h.2.2.2.2.2.2.2.2.1 c; hQ _ _ h, fun c => let h := h.2.2.2.2.2.2.2.2.2 c; wp_X7_sheetsThere_mono (fun r4 M4 h => hQ _ _ h) h⟩
abbrev rm_X7_total : Jvm.Room := { frames := 2, cells := 0, slots := 0, locals := 36 }
set_option maxHeartbeats 4000000 in
set_option maxRecDepth 100000 in
theorem ct_X7_total (l : Launch) (D : va_G) (cy : Nat → ClassId) (ad : Nat → Nat) (B : Nat → Prop) (v1 : Int32) (M : Mem) (Q : Int32 → Mem → Prop) (h : wp_X7_total v1 M Q) : CTi l D cy (wX ad cy) B yX7_total wsX7_total rm_X7_total [.ref (ad 0), .int v1] M Q := by
  intro sz
  refine Met.ofW (cc := cX7_total) (maxL := 2) (ret := some .int) (by decide) rfl ?_
  intro p e s m args below meth c s₁ Bd hml hv
  obtain ⟨hargs, hsz, hP, hK, hD⟩ := hv
  subst hsz
  have hx := Bd.exec
  have hb := Bd.bytes
  have hr := Bd.returns
  have hts := atoms_spec (ws := wsX7_total) Bd.pre
  have hown : s.vm.findClass RX7 = some m.cls := findClass_of_methodNamed Bd.named
  have hlocks := Bd.notSynchronized
  have hC0 : xC wsX7_total 0 RX0 TX0 5 := ⟨by decide +kernel, rfl⟩
  have hC2 : xC wsX7_total 2 RX2 TX2 8 := ⟨by decide +kernel, rfl⟩
  have hC3 : xC wsX7_total 3 RX3 TX3 3 := ⟨by decide +kernel, rfl⟩
  have hC4 : xC wsX7_total 4 RX4 TX4 3 := ⟨by decide +kernel, rfl⟩
  have hC7 : xC wsX7_total 7 RX7 TX7 11 := ⟨by decide +kernel, rfl⟩
  have hl := lv_entry ([.ref (ad 0), .int v1]) (n := 2) (Nat.le_of_ble_eq_true rfl)
  subst hargs
  rw [lg_entry_eq]
  generalize (lg_sl ([.ref (ad 0), .int v1]) ++ List.replicate (2 - (lg_sl ([.ref (ad 0), .int v1])).length) Slot.unset).toArray = ls at hl ⊢
  have hl : lv_has ls 2 [(0, .ref (ad 0)), (1, .int v1)] := hl
  have S : xS D (wX ad cy) B s.heap s.heap [] M := ⟨hP, hD, va_S.rf⟩
  unfold wp_X7_total at h
  refine lv_iload_n hx hb dX7_total_0 rfl (lv_at hl 1 rfl) ?_
  by_cases hlo : (v1 : Int32).toInt < 0
  · refine lv_tableOut (tgt := 196) hx hb dX7_total_1 (Or.inl hlo) (by decide) ?_
    replace h := h.1 (Or.inl hlo)
    refine lv_bipush (v := (-2)) hx hb dX7_total_196 (by decide) ?_
    exact x_iret hx hb hr hlocks S rfl h dX7_total_198
  by_cases hhi : 8 < (v1 : Int32).toInt
  · refine lv_tableOut (tgt := 196) hx hb dX7_total_1 (Or.inr hhi) (by decide) ?_
    replace h := h.1 (Or.inr hhi)
    refine lv_bipush (v := (-2)) hx hb dX7_total_196 (by decide) ?_
    exact x_iret hx hb hr hlocks S rfl h dX7_total_198
  replace h := h.2
  have hk : (v1 : Int32).toInt = 0 ∨ (v1 : Int32).toInt = 1 ∨ (v1 : Int32).toInt = 2 ∨ (v1 : Int32).toInt = 3 ∨ (v1 : Int32).toInt = 4 ∨ (v1 : Int32).toInt = 5 ∨ (v1 : Int32).toInt = 6 ∨ (v1 : Int32).toInt = 7 ∨ (v1 : Int32).toInt = 8 := by omega
  rcases hk with hk | hk | hk | hk | hk | hk | hk | hk | hk
  · refine lv_tableIn (off := 51) (tgt := 52) hx hb dX7_total_1 hlo hhi (by rw [hk]; rfl) (by decide) ?_
    replace h := h.1 hk
    refine lv_aload_n hx hb dX7_total_52 rfl (lv_at hl 0 rfl) ?_
    refine x_getR hx hb hts (hC7) hown hK S 1 (by decide) xf_0_1 (index := 18) (hts _ (List.mem_of_getElem? (i := 1) rfl)) dX7_total_53 ?_
    refine x_getI hx hb hts (hC4) hown hK S 2 (by decide) xf_10_2 (index := 105) (hts _ (List.mem_of_getElem? (i := 2) rfl)) dX7_total_56 ?_
    exact x_iret hx hb hr hlocks S rfl h dX7_total_59
  · refine lv_tableIn (off := 59) (tgt := 60) hx hb dX7_total_1 hlo hhi (by rw [hk]; rfl) (by decide) ?_
    replace h := h.2.1 hk
    refine lv_aload_n hx hb dX7_total_60 rfl (lv_at hl 0 rfl) ?_
    refine x_getI hx hb hts (hC7) hown hK S 8 (by decide) xf_0_8 (index := 126) (hts _ (List.mem_of_getElem? (i := 3) rfl)) dX7_total_61 ?_
    refine lv_if_eq (tgt := 80) hx hb dX7_total_64 (by decide) (fun c64 => ?_) (fun c64 => ?_)
    · replace h := h.1 c64
      refine lv_iconst (v := 0) hx hb dX7_total_80 (by decide) ?_
      exact x_iret hx hb hr hlocks S rfl h dX7_total_81
    · replace h := h.2 c64
      refine lv_aload_n hx hb dX7_total_67 rfl (lv_at hl 0 rfl) ?_
      refine x_getR hx hb hts (hC7) hown hK S 2 (by decide) xf_0_2 (index := 25) (hts _ (List.mem_of_getElem? (i := 4) rfl)) dX7_total_68 ?_
      refine x_getR hx hb hts (hC2) hown hK S 0 (by decide) xf_13_0 (index := 233) (hts _ (List.mem_of_getElem? (i := 5) rfl)) dX7_total_71 ?_
      refine x_getI hx hb hts (hC4) hown hK S 2 (by decide) xf_14_2 (index := 105) (hts _ (List.mem_of_getElem? (i := 2) rfl)) dX7_total_74 ?_
      refine lv_goto (tgt := 81) hx hb dX7_total_77 (by decide) ?_
      exact x_iret hx hb hr hlocks S rfl h dX7_total_81
  · refine lv_tableIn (off := 81) (tgt := 82) hx hb dX7_total_1 hlo hhi (by rw [hk]; rfl) (by decide) ?_
    replace h := h.2.2.1 hk
    refine lv_aload_n hx hb dX7_total_82 rfl (lv_at hl 0 rfl) ?_
    refine x_getI hx hb hts (hC7) hown hK S 8 (by decide) xf_0_8 (index := 126) (hts _ (List.mem_of_getElem? (i := 3) rfl)) dX7_total_83 ?_
    refine lv_if_eq (tgt := 99) hx hb dX7_total_86 (by decide) (fun c86 => ?_) (fun c86 => ?_)
    · replace h := h.1 c86
      refine lv_iconst (v := 0) hx hb dX7_total_99 (by decide) ?_
      exact x_iret hx hb hr hlocks S rfl h dX7_total_100
    · replace h := h.2 c86
      refine lv_aload_n hx hb dX7_total_89 rfl (lv_at hl 0 rfl) ?_
      refine x_getR hx hb hts (hC7) hown hK S 2 (by decide) xf_0_2 (index := 25) (hts _ (List.mem_of_getElem? (i := 4) rfl)) dX7_total_90 ?_
      refine x_getI hx hb hts (hC2) hown hK S 4 (by decide) xf_13_4 (index := 129) (hts _ (List.mem_of_getElem? (i := 6) rfl)) dX7_total_93 ?_
      refine lv_goto (tgt := 100) hx hb dX7_total_96 (by decide) ?_
      exact x_iret hx hb hr hlocks S rfl h dX7_total_100
  · refine lv_tableIn (off := 100) (tgt := 101) hx hb dX7_total_1 hlo hhi (by rw [hk]; rfl) (by decide) ?_
    replace h := h.2.2.2.1 hk
    refine lv_aload_n hx hb dX7_total_101 rfl (lv_at hl 0 rfl) ?_
    refine x_getI hx hb hts (hC7) hown hK S 8 (by decide) xf_0_8 (index := 126) (hts _ (List.mem_of_getElem? (i := 3) rfl)) dX7_total_102 ?_
    refine lv_if_eq (tgt := 121) hx hb dX7_total_105 (by decide) (fun c105 => ?_) (fun c105 => ?_)
    · replace h := h.1 c105
      refine lv_iconst (v := 0) hx hb dX7_total_121 (by decide) ?_
      exact x_iret hx hb hr hlocks S rfl h dX7_total_122
    · replace h := h.2 c105
      refine lv_aload_n hx hb dX7_total_108 rfl (lv_at hl 0 rfl) ?_
      refine x_getR hx hb hts (hC7) hown hK S 2 (by decide) xf_0_2 (index := 25) (hts _ (List.mem_of_getElem? (i := 4) rfl)) dX7_total_109 ?_
      refine x_getI hx hb hts (hC2) hown hK S 5 (by decide) xf_13_5 (index := 236) (hts _ (List.mem_of_getElem? (i := 7) rfl)) dX7_total_112 ?_
      refine x_callSi (As := [.int (M.1 13 5)]) ⟨hx, hb, hml, hown, hts⟩ hK S (ct_J6_bitCount_0f7a4_X l D cy ad B _ _ _ h) (va_cwS 1 hts gX7_total_J6_bitCount_0f7a4 rfl rfl rfl (by decide +kernel) ⟨Nat.le_of_ble_eq_true rfl, Nat.le_of_ble_eq_true rfl⟩) rfl hl.1 rfl (Nat.le_of_ble_eq_true rfl) dX7_total_115 ⟨Nat.zero_le _, Nat.zero_le _⟩ (fun r1 M1 H locs h S => ?_)
      refine lv_goto (tgt := 122) hx hb dX7_total_118 (by decide) ?_
      exact x_iret hx hb hr hlocks S rfl h dX7_total_122
  · refine lv_tableIn (off := 122) (tgt := 123) hx hb dX7_total_1 hlo hhi (by rw [hk]; rfl) (by decide) ?_
    replace h := h.2.2.2.2.1 hk
    refine lv_aload_n hx hb dX7_total_123 rfl (lv_at hl 0 rfl) ?_
    refine x_getI hx hb hts (hC7) hown hK S 8 (by decide) xf_0_8 (index := 126) (hts _ (List.mem_of_getElem? (i := 3) rfl)) dX7_total_124 ?_
    refine lv_if_eq (tgt := 143) hx hb dX7_total_127 (by decide) (fun c127 => ?_) (fun c127 => ?_)
    · replace h := h.1 c127
      refine lv_iconst (v := 0) hx hb dX7_total_143 (by decide) ?_
      exact x_iret hx hb hr hlocks S rfl h dX7_total_144
    · replace h := h.2 c127
      refine lv_aload_n hx hb dX7_total_130 rfl (lv_at hl 0 rfl) ?_
      refine x_getR hx hb hts (hC7) hown hK S 4 (by decide) xf_0_4 (index := 39) (hts _ (List.mem_of_getElem? (i := 8) rfl)) dX7_total_131 ?_
      refine x_getI hx hb hts (hC0) hown hK S 3 (by decide) xf_25_3 (index := 239) (hts _ (List.mem_of_getElem? (i := 9) rfl)) dX7_total_134 ?_
      refine x_callSi (As := [.int (M.1 25 3)]) ⟨hx, hb, hml, hown, hts⟩ hK S (ct_J6_bitCount_0f7a4_X l D cy ad B _ _ _ h) (va_cwS 1 hts gX7_total_J6_bitCount_0f7a4 rfl rfl rfl (by decide +kernel) ⟨Nat.le_of_ble_eq_true rfl, Nat.le_of_ble_eq_true rfl⟩) rfl hl.1 rfl (Nat.le_of_ble_eq_true rfl) dX7_total_137 ⟨Nat.zero_le _, Nat.zero_le _⟩ (fun r2 M2 H locs h S => ?_)
      refine lv_goto (tgt := 144) hx hb dX7_total_140 (by decide) ?_
      exact x_iret hx hb hr hlocks S rfl h dX7_total_144
  · refine lv_tableIn (off := 144) (tgt := 145) hx hb dX7_total_1 hlo hhi (by rw [hk]; rfl) (by decide) ?_
    replace h := h.2.2.2.2.2.1 hk
    refine lv_aload_n hx hb dX7_total_145 rfl (lv_at hl 0 rfl) ?_
    refine x_getI hx hb hts (hC7) hown hK S 8 (by decide) xf_0_8 (index := 126) (hts _ (List.mem_of_getElem? (i := 3) rfl)) dX7_total_146 ?_
    refine lv_if_eq (tgt := 165) hx hb dX7_total_149 (by decide) (fun c149 => ?_) (fun c149 => ?_)
    · replace h := h.1 c149
      refine lv_iconst (v := 0) hx hb dX7_total_165 (by decide) ?_
      exact x_iret hx hb hr hlocks S rfl h dX7_total_166
    · replace h := h.2 c149
      refine lv_aload_n hx hb dX7_total_152 rfl (lv_at hl 0 rfl) ?_
      refine x_getR hx hb hts (hC7) hown hK S 4 (by decide) xf_0_4 (index := 39) (hts _ (List.mem_of_getElem? (i := 8) rfl)) dX7_total_153 ?_
      refine x_getI hx hb hts (hC0) hown hK S 4 (by decide) xf_25_4 (index := 242) (hts _ (List.mem_of_getElem? (i := 10) rfl)) dX7_total_156 ?_
      refine x_callSi (As := [.int (M.1 25 4)]) ⟨hx, hb, hml, hown, hts⟩ hK S (ct_J6_bitCount_0f7a4_X l D cy ad B _ _ _ h) (va_cwS 1 hts gX7_total_J6_bitCount_0f7a4 rfl rfl rfl (by decide +kernel) ⟨Nat.le_of_ble_eq_true rfl, Nat.le_of_ble_eq_true rfl⟩) rfl hl.1 rfl (Nat.le_of_ble_eq_true rfl) dX7_total_159 ⟨Nat.zero_le _, Nat.zero_le _⟩ (fun r3 M3 H locs h S => ?_)
      refine lv_goto (tgt := 166) hx hb dX7_total_162 (by decide) ?_
      exact x_iret hx hb hr hlocks S rfl h dX7_total_166
  · refine lv_tableIn (off := 166) (tgt := 167) hx hb dX7_total_1 hlo hhi (by rw [hk]; rfl) (by decide) ?_
    replace h := h.2.2.2.2.2.2.1 hk
    refine lv_aload_n hx hb dX7_total_167 rfl (lv_at hl 0 rfl) ?_
    refine x_getI hx hb hts (hC7) hown hK S 8 (by decide) xf_0_8 (index := 126) (hts _ (List.mem_of_getElem? (i := 3) rfl)) dX7_total_168 ?_
    refine lv_if_eq (tgt := 184) hx hb dX7_total_171 (by decide) (fun c171 => ?_) (fun c171 => ?_)
    · replace h := h.1 c171
      refine lv_iconst (v := 0) hx hb dX7_total_184 (by decide) ?_
      exact x_iret hx hb hr hlocks S rfl h dX7_total_185
    · replace h := h.2 c171
      refine lv_aload_n hx hb dX7_total_174 rfl (lv_at hl 0 rfl) ?_
      refine x_getR hx hb hts (hC7) hown hK S 6 (by decide) xf_0_6 (index := 53) (hts _ (List.mem_of_getElem? (i := 11) rfl)) dX7_total_175 ?_
      refine x_getI hx hb hts (hC3) hown hK S 0 (by decide) xf_31_0 (index := 197) (hts _ (List.mem_of_getElem? (i := 12) rfl)) dX7_total_178 ?_
      refine lv_goto (tgt := 185) hx hb dX7_total_181 (by decide) ?_
      exact x_iret hx hb hr hlocks S rfl h dX7_total_185
  · refine lv_tableIn (off := 185) (tgt := 186) hx hb dX7_total_1 hlo hhi (by rw [hk]; rfl) (by decide) ?_
    replace h := h.2.2.2.2.2.2.2.1 hk
    refine lv_aload_n hx hb dX7_total_186 rfl (lv_at hl 0 rfl) ?_
    refine x_getI hx hb hts (hC7) hown hK S 10 (by decide) xf_0_10 (index := 245) (hts _ (List.mem_of_getElem? (i := 13) rfl)) dX7_total_187 ?_
    exact x_iret hx hb hr hlocks S rfl h dX7_total_190
  · refine lv_tableIn (off := 190) (tgt := 191) hx hb dX7_total_1 hlo hhi (by rw [hk]; rfl) (by decide) ?_
    replace h := h.2.2.2.2.2.2.2.2 hk
    refine lv_aload_n hx hb dX7_total_191 rfl (lv_at hl 0 rfl) ?_
    refine x_callVi (As := []) ⟨hx, hb, hml, hown, hts⟩ hK S (ct_X7_sheetsThere l D cy ad B _ _ h) xo_0 rfl (cwV 0 hts gX7_total_X7_sheetsThere rfl rfl rfl (by decide +kernel) ⟨Nat.le_of_ble_eq_true rfl, Nat.le_of_ble_eq_true rfl⟩) rfl hl.1 rfl (Nat.le_of_ble_eq_true rfl) dX7_total_192 ⟨Nat.zero_le _, Nat.zero_le _⟩ (fun r4 M4 H locs h S => ?_)
    exact x_iret hx hb hr hlocks S rfl h dX7_total_195
