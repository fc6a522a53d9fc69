/-! X2_findSides -/
def blk_X2_findSides_0 (Q : Mem → Prop) (P : Nat → Int32 → Int32 → Mem → Prop) (v1 : Int32) (v2 : Int32) (M : Mem) : Prop :=
  P 1 0 0 M
theorem blk_X2_findSides_0_mono {Q Q' : Mem → Prop} {P P' : Nat → Int32 → Int32 → Mem → Prop} (hQ : ∀ M : Mem, Q M → Q' M) (hP : ∀ (lab : Nat) (v1 : Int32) (v2 : Int32) (M : Mem), P lab v1 v2 M → P' lab v1 v2 M) (v1 : Int32) (v2 : Int32) (M : Mem) (h : blk_X2_findSides_0 Q P v1 v2 M) : blk_X2_findSides_0 Q' P' v1 v2 M := by
  unfold blk_X2_findSides_0 at h ⊢
  exact hP _ _ _ _ h
def blk_X2_findSides_1 (Q : Mem → Prop) (P : Nat → Int32 → Int32 → Mem → Prop) (v1 : Int32) (v2 : Int32) (M : Mem) : Prop :=
  (((M.1 13 4) ≤ v1 → Q M) ∧ (¬ (M.1 13 4) ≤ v1 → P 2 v1 0 M))
theorem blk_X2_findSides_1_mono {Q Q' : Mem → Prop} {P P' : Nat → Int32 → Int32 → Mem → Prop} (hQ : ∀ M : Mem, Q M → Q' M) (hP : ∀ (lab : Nat) (v1 : Int32) (v2 : Int32) (M : Mem), P lab v1 v2 M → P' lab v1 v2 M) (v1 : Int32) (v2 : Int32) (M : Mem) (h : blk_X2_findSides_1 Q P v1 v2 M) : blk_X2_findSides_1 Q' P' v1 v2 M := by
  unfold blk_X2_findSides_1 at h ⊢
  exact ⟨fun c => let h := h.1 c; hQ _ h, fun c => let h := h.2 c; hP _ _ _ _ h⟩
def blk_X2_findSides_2 (Q : Mem → Prop) (P : Nat → Int32 → Int32 → Mem → Prop) (v1 : Int32) (v2 : Int32) (M : Mem) : Prop :=
  (((M.1 14 2) ≤ v2 → P 1 (v1 + 1) 0 M) ∧ (¬ (M.1 14 2) ≤ v2 → wp_X2_sidesOf v1 v2 M (fun r1 M1 => (vp_in ((v1 * 8) + v2) 224 ∧ P 2 v1 (v2 + 1) (upI M1 21 ((v1 * 8) + v2).toNatClampNeg r1)))))
theorem blk_X2_findSides_2_mono {Q Q' : Mem → Prop} {P P' : Nat → Int32 → Int32 → Mem → Prop} (hQ : ∀ M : Mem, Q M → Q' M) (hP : ∀ (lab : Nat) (v1 : Int32) (v2 : Int32) (M : Mem), P lab v1 v2 M → P' lab v1 v2 M) (v1 : Int32) (v2 : Int32) (M : Mem) (h : blk_X2_findSides_2 Q P v1 v2 M) : blk_X2_findSides_2 Q' P' v1 v2 M := by
  unfold blk_X2_findSides_2 at h ⊢
  exact ⟨fun c => let h := h.1 c; hP _ _ _ _ h, fun c => let h := h.2 c; wp_X2_sidesOf_mono (fun r1 M1 h => ⟨h.1, let h := h.2; hP _ _ _ _ h⟩) h⟩
def blk_X2_findSides (Q : Mem → Prop) (P : Nat → Int32 → Int32 → Mem → Prop) : Nat → Int32 → Int32 → Mem → Prop := fun lab v1 v2 M => match lab with
  | 0 => blk_X2_findSides_0 Q P v1 v2 M
  | 1 => blk_X2_findSides_1 Q P v1 v2 M
  | 2 => blk_X2_findSides_2 Q P v1 v2 M
  | _ => False
theorem blk_X2_findSides_mono {Q Q' : Mem → Prop} {P P' : Nat → Int32 → Int32 → Mem → Prop} (hQ : ∀ M : Mem, Q M → Q' M) (hP : ∀ (lab : Nat) (v1 : Int32) (v2 : Int32) (M : Mem), P lab v1 v2 M → P' lab v1 v2 M) : ∀ (lab : Nat) (v1 : Int32) (v2 : Int32) (M : Mem), blk_X2_findSides Q P lab v1 v2 M → blk_X2_findSides Q' P' lab v1 v2 M := fun lab v1 v2 M h => match lab, h with
  | 0, h => blk_X2_findSides_0_mono hQ hP v1 v2 M h
  | 1, h => blk_X2_findSides_1_mono hQ hP v1 v2 M h
  | 2, h => blk_X2_findSides_2_mono hQ hP v1 v2 M h
  | _ + 3, h => False.elim h
def at_X2_findSides (Q : Mem → Prop) : Nat → Int32 → Int32 → Mem → Prop := fun lab v1 v2 M => ∀ P : Nat → Int32 → Int32 → Mem → Prop, (∀ (lab : Nat) (v1 : Int32) (v2 : Int32) (M : Mem), blk_X2_findSides Q P lab v1 v2 M → P lab v1 v2 M) → P lab v1 v2 M
theorem at_X2_findSides_fold {Q : Mem → Prop} {lab : Nat} {v1 : Int32} {v2 : Int32} {M : Mem} (h : blk_X2_findSides Q (at_X2_findSides Q) lab v1 v2 M) : at_X2_findSides Q lab v1 v2 M := fun P hP => hP _ _ _ _ (blk_X2_findSides_mono (fun _ h => h) (fun _ _ _ _ h => h P hP) _ _ _ _ h)
theorem at_X2_findSides_mono {Q Q' : Mem → Prop} (hQ : ∀ M : Mem, Q M → Q' M) {lab : Nat} {v1 : Int32} {v2 : Int32} {M : Mem} (h : at_X2_findSides Q lab v1 v2 M) : at_X2_findSides Q' lab v1 v2 M := fun P hP => h P (fun lab v1 v2 M hb => hP _ _ _ _ (blk_X2_findSides_mono hQ (fun _ _ _ _ h => h) _ _ _ _ hb))
def wp_X2_findSides (M : Mem) (Q : Mem → Prop) : Prop := at_X2_findSides Q 0 0 0 M
theorem wp_X2_findSides_mono {M : Mem} {Q Q' : Mem → Prop} (hQ : ∀ M : Mem, Q M → Q' M) (h : wp_X2_findSides M Q) : wp_X2_findSides M Q' := at_X2_findSides_mono hQ h
def pcl_X2_findSides : Nat → Nat := fun lab => match lab with
  | 0 => 0
  | 1 => 2
  | 2 => 12
  | _ => 0
def lvl_X2_findSides (ad : Nat → Nat) : Nat → Int32 → Int32 → List (Nat × Value) := fun lab v1 v2 => match lab with
  | 0 => [(0, .ref (ad 13))]
  | 1 => [(0, .ref (ad 13)), (1, .int v1)]
  | 2 => [(0, .ref (ad 13)), (1, .int v1), (2, .int v2)]
  | _ => []
abbrev rm_X2_findSides : Jvm.Room := { frames := 4, cells := 0, slots := 0, locals := 92 }
set_option maxHeartbeats 4000000 in
set_option maxRecDepth 100000 in
theorem ct_X2_findSides (l : Launch) (D : va_G) (cy : Nat → ClassId) (ad : Nat → Nat) (B : Nat → Prop) (M : Mem) (Q : Mem → Prop) (h : wp_X2_findSides M Q) : CTv l D cy (wX ad cy) B yX2_findSides wsX2_findSides rm_X2_findSides [.ref (ad 13)] M Q := by
  intro sz
  refine Met.ofW (cc := cX2_findSides) (maxL := 3) (ret := none) (by decide) rfl ?_
  intro p e s m args below meth c s₁ Bd hml hv
  obtain ⟨hargs, hsz, hP, hK, hD⟩ := hv
  subst hsz
  have hx := Bd.exec
  have hb := Bd.bytes
  have hr := Bd.returns
  have hts := atoms_spec (ws := wsX2_findSides) Bd.pre
  have hown : s.vm.findClass RX2 = some m.cls := findClass_of_methodNamed Bd.named
  have hlocks := Bd.notSynchronized
  have hC2 : xC wsX2_findSides 2 RX2 TX2 8 := ⟨by decide +kernel, rfl⟩
  have hC4 : xC wsX2_findSides 4 RX4 TX4 3 := ⟨by decide +kernel, rfl⟩
  have key : ∀ (P : Nat → Int32 → Int32 → Mem → Prop), (∀ (lab : Nat) (v1 : Int32) (v2 : Int32) (M : Mem), P lab v1 v2 M → ∀ (H : Heap) (locs : List Loc) (ls : Array Slot), xS D (wX ad cy) B s.heap H locs M → lv_has ls 3 (lvl_X2_findSides ad lab v1 v2 ) → W p l e (headSpec wsX2_findSides rm_X2_findSides).room s m args below meth c H locs 0 0 (MQ below (va_Qv (S := Mem) Q (xB D (wX ad cy) B) (xA B s.heap.size)) args s 0 0 (xA B s.heap.size)) (F0 m (pcl_X2_findSides lab) ls [])) → ∀ (lab : Nat) (v1 : Int32) (v2 : Int32) (M : Mem), blk_X2_findSides Q P lab v1 v2 M → ∀ (H : Heap) (locs : List Loc) (ls : Array Slot), xS D (wX ad cy) B s.heap H locs M → lv_has ls 3 (lvl_X2_findSides ad lab v1 v2 ) → W p l e (headSpec wsX2_findSides rm_X2_findSides).room s m args below meth c H locs 0 0 (MQ below (va_Qv (S := Mem) Q (xB D (wX ad cy) B) (xA B s.heap.size)) args s 0 0 (xA B s.heap.size)) (F0 m (pcl_X2_findSides lab) ls []) := by
    intro P hJ lab v1 v2 M h H locs ls S hl
    match lab, h, hl with
    | 0, h, hl =>
      have hl : lv_has ls 3 [(0, .ref (ad 13))] := hl
      have h : blk_X2_findSides_0 Q P v1 v2 M := h
      unfold blk_X2_findSides_0 at h
      refine W.eq (g2 := F0 m 0 ls []) rfl ?_
      refine lv_iconst (v := 0) hx hb dX2_findSides_0 (by decide) ?_
      refine lv_istore_n (lv' := [(1, .int 0), (0, .ref (ad 13))]) hx hb dX2_findSides_1 rfl hl (by decide) rfl (fun ls hl => ?_)
      exact hJ _ _ _ _ h _ _ _ S (lv_sub hl [1, 0] rfl)
    | 1, h, hl =>
      have hl : lv_has ls 3 [(0, .ref (ad 13)), (1, .int v1)] := hl
      have h : blk_X2_findSides_1 Q P v1 v2 M := h
      unfold blk_X2_findSides_1 at h
      refine W.eq (g2 := F0 m 2 ls []) rfl ?_
      refine lv_iload_n hx hb dX2_findSides_2 rfl (lv_at hl 1 rfl) ?_
      refine lv_aload_n hx hb dX2_findSides_3 rfl (lv_at hl 0 rfl) ?_
      refine x_getI hx hb hts (hC2) hown hK S 4 (by decide) xf_13_4 (index := 54) (hts _ (List.mem_of_getElem? (i := 1) rfl)) dX2_findSides_4 ?_
      refine lv_icmp_ge (tgt := 52) hx hb dX2_findSides_7 (by decide) (fun c7 => ?_) (fun c7 => ?_)
      · replace h := h.1 c7
        exact x_vret hx hb hr hlocks S h dX2_findSides_52
      · replace h := h.2 c7
        refine lv_iconst (v := 0) hx hb dX2_findSides_10 (by decide) ?_
        refine lv_istore_n (lv' := [(2, .int 0), (0, .ref (ad 13)), (1, .int v1)]) hx hb dX2_findSides_11 rfl hl (by decide) rfl (fun ls hl => ?_)
        exact hJ _ _ _ _ h _ _ _ S (lv_sub hl [1, 2, 0] rfl)
    | 2, h, hl =>
      have hl : lv_has ls 3 [(0, .ref (ad 13)), (1, .int v1), (2, .int v2)] := hl
      have h : blk_X2_findSides_2 Q P v1 v2 M := h
      unfold blk_X2_findSides_2 at h
      refine W.eq (g2 := F0 m 12 ls []) rfl ?_
      refine lv_iload_n hx hb dX2_findSides_12 rfl (lv_at hl 2 rfl) ?_
      refine lv_aload_n hx hb dX2_findSides_13 rfl (lv_at hl 0 rfl) ?_
      refine x_getR hx hb hts (hC2) hown hK S 0 (by decide) xf_13_0 (index := 12) (hts _ (List.mem_of_getElem? (i := 2) rfl)) dX2_findSides_14 ?_
      refine x_getI hx hb hts (hC4) hown hK S 2 (by decide) xf_14_2 (index := 50) (hts _ (List.mem_of_getElem? (i := 3) rfl)) dX2_findSides_17 ?_
      refine lv_icmp_ge (tgt := 46) hx hb dX2_findSides_20 (by decide) (fun c20 => ?_) (fun c20 => ?_)
      · replace h := h.1 c20
        refine lv_iinc (v := (v1 + 1)) (lv' := [(1, .int (v1 + 1)), (0, .ref (ad 13)), (2, .int v2)]) hx hb dX2_findSides_46 hl (k := 1) rfl rfl (by decide) rfl (fun ls hl => ?_)
        refine lv_goto (tgt := 2) hx hb dX2_findSides_49 (by decide) ?_
        exact hJ _ _ _ _ h _ _ _ S (lv_sub hl [1, 0] rfl)
      · replace h := h.2 c20
        refine lv_aload_n hx hb dX2_findSides_23 rfl (lv_at hl 0 rfl) ?_
        refine x_getR hx hb hts (hC2) hown hK S 7 (by decide) xf_13_7 (index := 31) (hts _ (List.mem_of_getElem? (i := 4) rfl)) dX2_findSides_24 ?_
        refine lv_iload_n hx hb dX2_findSides_27 rfl (lv_at hl 1 rfl) ?_
        refine lv_bipush (v := 8) hx hb dX2_findSides_28 (by decide) ?_
        refine lv_imul hx hb dX2_findSides_30 ?_
        refine lv_iload_n hx hb dX2_findSides_31 rfl (lv_at hl 2 rfl) ?_
        refine lv_iadd hx hb dX2_findSides_32 ?_
        refine lv_aload_n hx hb dX2_findSides_33 rfl (lv_at hl 0 rfl) ?_
        refine lv_iload_n hx hb dX2_findSides_34 rfl (lv_at hl 1 rfl) ?_
        refine lv_iload_n hx hb dX2_findSides_35 rfl (lv_at hl 2 rfl) ?_
        refine x_callVi (As := [.int v1, .int v2]) ⟨hx, hb, hml, hown, hts⟩ hK S (ct_X2_sidesOf l D cy ad B _ _ _ _ h) xo_13 rfl (cwV 2 hts gX2_findSides_X2_sidesOf rfl rfl rfl (by decide +kernel) ⟨Nat.le_of_ble_eq_true rfl, Nat.le_of_ble_eq_true rfl⟩) rfl hl.1 rfl (Nat.le_of_ble_eq_true rfl) dX2_findSides_36 ⟨Nat.zero_le _, Nat.zero_le _⟩ (fun r1 M1 H locs h S => ?_)
        refine x_iast hx hb hK S xa_21 h.1 dX2_findSides_39 (fun H locs S => ?_)
        replace h := h.2
        refine lv_iinc (v := (v2 + 1)) (lv' := [(2, .int (v2 + 1)), (0, .ref (ad 13)), (1, .int v1)]) hx hb dX2_findSides_40 hl (k := 2) rfl rfl (by decide) rfl (fun ls hl => ?_)
        refine lv_goto (tgt := 12) hx hb dX2_findSides_43 (by decide) ?_
        exact hJ _ _ _ _ h _ _ _ S (lv_sub hl [1, 2, 0] rfl)
    | _ + 3, h, hl => exact h.elim
  have hl := lv_entry ([.ref (ad 13)]) (n := 3) (Nat.le_of_ble_eq_true rfl)
  subst hargs
  rw [lg_entry_eq]
  generalize (lg_sl ([.ref (ad 13)]) ++ List.replicate (3 - (lg_sl ([.ref (ad 13)])).length) Slot.unset).toArray = ls at hl ⊢
  exact h _ (key _ (fun _ _ _ _ h => h)) s.heap [] ls ⟨hP, hD, va_S.rf⟩ hl
/-! X2_layOf -/
def wp_X2_layOf (M : Mem) (Q : Mem → Prop) : Prop :=
  wp_X4_becomeThoseOf M (fun M1 => wp_X2_numberFences M1 (fun M2 => wp_X2_findCrossings M2 (fun M3 => wp_X2_findHems M3 (fun M4 => wp_X2_findSides M4 (fun M5 => Q M5)))))
theorem wp_X2_layOf_mono {M : Mem} {Q Q' : Mem → Prop} (hQ : ∀ M : Mem, Q M → Q' M) (h : wp_X2_layOf M Q) : wp_X2_layOf M Q' := by
  unfold wp_X2_layOf at h ⊢
  exact wp_X4_becomeThoseOf_mono (fun M1 h => wp_X2_numberFences_mono (fun M2 h => wp_X2_findCrossings_mono (fun M3 h => wp_X2_findHems_mono (fun M4 h => wp_X2_findSides_mono (fun M5 h => hQ _ h) h) h) h) h) h
abbrev rm_X2_layOf : Jvm.Room := { frames := 5, cells := 0, slots := 0, locals := 114 }
set_option maxHeartbeats 4000000 in
set_option maxRecDepth 100000 in
theorem ct_X2_layOf (l : Launch) (D : va_G) (cy : Nat → ClassId) (ad : Nat → Nat) (B : Nat → Prop) (M : Mem) (Q : Mem → Prop) (h : wp_X2_layOf M Q) : CTv l D cy (wX ad cy) B yX2_layOf wsX2_layOf rm_X2_layOf [.ref (ad 13), .ref (ad 10)] M Q := by
  intro sz
  refine Met.ofW (cc := cX2_layOf) (maxL := 2) (ret := none) (by decide) rfl ?_
  intro p e s m args below meth c s₁ Bd hml hv
  obtain ⟨hargs, hsz, hP, hK, hD⟩ := hv
  subst hsz
  have hx := Bd.exec
  have hb := Bd.bytes
  have hr := Bd.returns
  have hts := atoms_spec (ws := wsX2_layOf) Bd.pre
  have hown : s.vm.findClass RX2 = some m.cls := findClass_of_methodNamed Bd.named
  have hlocks := Bd.notSynchronized
  have hC2 : xC wsX2_layOf 2 RX2 TX2 8 := ⟨by decide +kernel, rfl⟩
  have hl := lv_entry ([.ref (ad 13), .ref (ad 10)]) (n := 2) (Nat.le_of_ble_eq_true rfl)
  subst hargs
  rw [lg_entry_eq]
  generalize (lg_sl ([.ref (ad 13), .ref (ad 10)]) ++ List.replicate (2 - (lg_sl ([.ref (ad 13), .ref (ad 10)])).length) Slot.unset).toArray = ls at hl ⊢
  have hl : lv_has ls 2 [(0, .ref (ad 13)), (1, .ref (ad 10))] := hl
  have S : xS D (wX ad cy) B s.heap s.heap [] M := ⟨hP, hD, va_S.rf⟩
  unfold wp_X2_layOf at h
  refine lv_aload_n hx hb dX2_layOf_0 rfl (lv_at hl 0 rfl) ?_
  refine x_getR hx hb hts (hC2) hown hK S 0 (by decide) xf_13_0 (index := 12) (hts _ (List.mem_of_getElem? (i := 1) rfl)) dX2_layOf_1 ?_
  refine lv_aload_n hx hb dX2_layOf_4 rfl (lv_at hl 1 rfl) ?_
  refine x_callVv (As := [.ref (ad 10)]) ⟨hx, hb, hml, hown, hts⟩ hK S (ct_X4_becomeThoseOf l D cy ad B _ _ h) xo_14 rfl (cwV 1 hts gX2_layOf_X4_becomeThoseOf rfl rfl rfl (by decide +kernel) ⟨Nat.le_of_ble_eq_true rfl, Nat.le_of_ble_eq_true rfl⟩) rfl hl.1 rfl (Nat.le_of_ble_eq_true rfl) dX2_layOf_5 ⟨Nat.zero_le _, Nat.zero_le _⟩ (fun M1 H locs h S => ?_)
  refine lv_aload_n hx hb dX2_layOf_8 rfl (lv_at hl 0 rfl) ?_
  refine x_callVv (As := []) ⟨hx, hb, hml, hown, hts⟩ hK S (ct_X2_numberFences l D cy ad B _ _ h) xo_13 rfl (cwV 0 hts gX2_layOf_X2_numberFences rfl rfl rfl (by decide +kernel) ⟨Nat.le_of_ble_eq_true rfl, Nat.le_of_ble_eq_true rfl⟩) rfl hl.1 rfl (Nat.le_of_ble_eq_true rfl) dX2_layOf_9 ⟨Nat.zero_le _, Nat.zero_le _⟩ (fun M2 H locs h S => ?_)
  refine lv_aload_n hx hb dX2_layOf_12 rfl (lv_at hl 0 rfl) ?_
  refine x_callVv (As := []) ⟨hx, hb, hml, hown, hts⟩ hK S (ct_X2_findCrossings l D cy ad B _ _ h) xo_13 rfl (cwV 0 hts gX2_layOf_X2_findCrossings rfl rfl rfl (by decide +kernel) ⟨Nat.le_of_ble_eq_true rfl, Nat.le_of_ble_eq_true rfl⟩) rfl hl.1 rfl (Nat.le_of_ble_eq_true rfl) dX2_layOf_13 ⟨Nat.zero_le _, Nat.zero_le _⟩ (fun M3 H locs h S => ?_)
  refine lv_aload_n hx hb dX2_layOf_16 rfl (lv_at hl 0 rfl) ?_
  refine x_callVv (As := []) ⟨hx, hb, hml, hown, hts⟩ hK S (ct_X2_findHems l D cy ad B _ _ h) xo_13 rfl (cwV 0 hts gX2_layOf_X2_findHems rfl rfl rfl (by decide +kernel) ⟨Nat.le_of_ble_eq_true rfl, Nat.le_of_ble_eq_true rfl⟩) rfl hl.1 rfl (Nat.le_of_ble_eq_true rfl) dX2_layOf_17 ⟨Nat.zero_le _, Nat.zero_le _⟩ (fun M4 H locs h S => ?_)
  refine lv_aload_n hx hb dX2_layOf_20 rfl (lv_at hl 0 rfl) ?_
  refine x_callVv (As := []) ⟨hx, hb, hml, hown, hts⟩ hK S (ct_X2_findSides l D cy ad B _ _ h) xo_13 rfl (cwV 0 hts gX2_layOf_X2_findSides rfl rfl rfl (by decide +kernel) ⟨Nat.le_of_ble_eq_true rfl, Nat.le_of_ble_eq_true rfl⟩) rfl hl.1 rfl (Nat.le_of_ble_eq_true rfl) dX2_layOf_21 ⟨Nat.zero_le _, Nat.zero_le _⟩ (fun M5 H locs h S => ?_)
  exact x_vret hx hb hr hlocks S h dX2_layOf_24
/-! X7_isIn -/
def wp_X7_isIn (v0 : Int32) (v1 : Int32) (M : Mem) (Q : Int32 → Mem → Prop) : Prop :=
  ((((v1 >>> (v0 &&& 31)) &&& (1 : Int32)) = 0 → Q 0 M) ∧ (¬ ((v1 >>> (v0 &&& 31)) &&& (1 : Int32)) = 0 → Q 1 M))
theorem wp_X7_isIn_mono {v0 : Int32} {v1 : Int32} {M : Mem} {Q Q' : Int32 → Mem → Prop} (hQ : ∀ (r : Int32) (M : Mem), Q r M → Q' r M) (h : wp_X7_isIn v0 v1 M Q) : wp_X7_isIn v0 v1 M Q' := by
  unfold wp_X7_isIn at h ⊢
  exact ⟨fun c => let h := h.1 c; hQ _ _ h, fun c => let h := h.2 c; hQ _ _ h⟩
abbrev rm_X7_isIn : Jvm.Room := { frames := 1, cells := 0, slots := 0, locals := 13 }
set_option maxHeartbeats 4000000 in
set_option maxRecDepth 100000 in
theorem ct_X7_isIn (l : Launch) (D : va_G) (cy : Nat → ClassId) (ad : Nat → Nat) (B : Nat → Prop) (v0 : Int32) (v1 : Int32) (M : Mem) (Q : Int32 → Mem → Prop) (h : wp_X7_isIn v0 v1 M Q) : CTi l D cy (wX ad cy) B yX7_isIn wsX7_isIn rm_X7_isIn [.int v0, .int v1] M Q := by
  intro sz
  refine Met.ofW (cc := cX7_isIn) (maxL := 2) (ret := some .boolean) (by decide) rfl ?_
  intro p e s m args below meth c s₁ Bd hml hv
  obtain ⟨hargs, hsz, hP, hK, hD⟩ := hv
  subst hsz
  have hx := Bd.exec
  have hb := Bd.bytes
  have hr := Bd.returns
  have hts := atoms_spec (ws := wsX7_isIn) Bd.pre
  have hown : s.vm.findClass RX7 = some m.cls := findClass_of_methodNamed Bd.named
  have hlocks := Bd.notSynchronized
  have hl := lv_entry ([.int v0, .int v1]) (n := 2) (Nat.le_of_ble_eq_true rfl)
  subst hargs
  rw [lg_entry_eq]
  generalize (lg_sl ([.int v0, .int v1]) ++ List.replicate (2 - (lg_sl ([.int v0, .int v1])).length) Slot.unset).toArray = ls at hl ⊢
  have hl : lv_has ls 2 [(0, .int v0), (1, .int v1)] := hl
  have S : xS D (wX ad cy) B s.heap s.heap [] M := ⟨hP, hD, va_S.rf⟩
  unfold wp_X7_isIn at h
  refine lv_iload_n hx hb dX7_isIn_0 rfl (lv_at hl 1 rfl) ?_
  refine lv_iload_n hx hb dX7_isIn_1 rfl (lv_at hl 0 rfl) ?_
  refine lv_ishr hx hb dX7_isIn_2 ?_
  refine lv_iconst (v := 1) hx hb dX7_isIn_3 (by decide) ?_
  refine lv_iand hx hb dX7_isIn_4 ?_
  refine lv_if_eq (tgt := 12) hx hb dX7_isIn_5 (by decide) (fun c5 => ?_) (fun c5 => ?_)
  · replace h := h.1 c5
    refine lv_iconst (v := 0) hx hb dX7_isIn_12 (by decide) ?_
    exact x_iret hx hb hr hlocks S rfl h dX7_isIn_13
  · replace h := h.2 c5
    refine lv_iconst (v := 1) hx hb dX7_isIn_8 (by decide) ?_
    refine lv_goto (tgt := 13) hx hb dX7_isIn_9 (by decide) ?_
    exact x_iret hx hb hr hlocks S rfl h dX7_isIn_13
/-! X1_canBePaid -/
def blk_X1_canBePaid_0 (v1 : Int32) (v2 : Int32) (v3 : Int32) (Q : Int32 → Mem → Prop) (P : Nat → Int32 → Int32 → Mem → Prop) (v4 : Int32) (v5 : Int32) (M : Mem) : Prop :=
  ∀ x4_1 : Int32, x4_1 = ((((1 : Int32) <<< (v3 &&& 31)) - 1) &&& (v2 ^^^ ((-1) : Int32))) → P 1 x4_1 v3 M
theorem blk_X1_canBePaid_0_mono {v1 : Int32} {v2 : Int32} {v3 : Int32} {Q Q' : Int32 → Mem → Prop} {P P' : Nat → Int32 → Int32 → Mem → Prop} (hQ : ∀ (r : Int32) (M : Mem), Q r M → Q' r M) (hP : ∀ (lab : Nat) (v4 : Int32) (v5 : Int32) (M : Mem), P lab v4 v5 M → P' lab v4 v5 M) (v4 : Int32) (v5 : Int32) (M : Mem) (h : blk_X1_canBePaid_0 v1 v2 v3 Q P v4 v5 M) : blk_X1_canBePaid_0 v1 v2 v3 Q' P' v4 v5 M := by
  unfold blk_X1_canBePaid_0 at h ⊢
  exact fun x4_1 ex4_1 => let h := h x4_1 ex4_1; hP _ _ _ _ h
def blk_X1_canBePaid_1 (v1 : Int32) (v2 : Int32) (v3 : Int32) (Q : Int32 → Mem → Prop) (P : Nat → Int32 → Int32 → Mem → Prop) (v4 : Int32) (v5 : Int32) (M : Mem) : Prop :=
  (((M.1 13 4) ≤ v5 → Q 1 M) ∧ (¬ (M.1 13 4) ≤ v5 → wp_X7_isIn v5 v1 M (fun r2 M2 => ((r2 = 0 → P 2 v4 v5 M2) ∧ (¬ r2 = 0 → (vp_in v5 28 ∧ ((¬ ((M2.1 19 v5.toNatClampNeg) &&& v4) = 0 → P 2 v4 v5 M2) ∧ (((M2.1 19 v5.toNatClampNeg) &&& v4) = 0 → Q 0 M2))))))))
theorem blk_X1_canBePaid_1_mono {v1 : Int32} {v2 : Int32} {v3 : Int32} {Q Q' : Int32 → Mem → Prop} {P P' : Nat → Int32 → Int32 → Mem → Prop} (hQ : ∀ (r : Int32) (M : Mem), Q r M → Q' r M) (hP : ∀ (lab : Nat) (v4 : Int32) (v5 : Int32) (M : Mem), P lab v4 v5 M → P' lab v4 v5 M) (v4 : Int32) (v5 : Int32) (M : Mem) (h : blk_X1_canBePaid_1 v1 v2 v3 Q P v4 v5 M) : blk_X1_canBePaid_1 v1 v2 v3 Q' P' v4 v5 M := by
  unfold blk_X1_canBePaid_1 at h ⊢
  exact ⟨fun c => let h := h.1 c; hQ _ _ h, fun c => let h := h.2 c; wp_X7_isIn_mono (fun r2 M2 h => ⟨fun c => let h := h.1 c; hP _ _ _ _ h, fun c => let h := h.2 c; ⟨h.1, let h := h.2; ⟨fun c => let h := h.1 c; hP _ _ _ _ h, fun c => let h := h.2 c; hQ _ _ h⟩⟩⟩) h⟩
def blk_X1_canBePaid_2 (v1 : Int32) (v2 : Int32) (v3 : Int32) (Q : Int32 → Mem → Prop) (P : Nat → Int32 → Int32 → Mem → Prop) (v4 : Int32) (v5 : Int32) (M : Mem) : Prop :=
  P 1 v4 (v5 + 1) M
theorem blk_X1_canBePaid_2_mono {v1 : Int32} {v2 : Int32} {v3 : Int32} {Q Q' : Int32 → Mem → Prop} {P P' : Nat → Int32 → Int32 → Mem → Prop} (hQ : ∀ (r : Int32) (M : Mem), Q r M → Q' r M) (hP : ∀ (lab : Nat) (v4 : Int32) (v5 : Int32) (M : Mem), P lab v4 v5 M → P' lab v4 v5 M) (v4 : Int32) (v5 : Int32) (M : Mem) (h : blk_X1_canBePaid_2 v1 v2 v3 Q P v4 v5 M) : blk_X1_canBePaid_2 v1 v2 v3 Q' P' v4 v5 M := by
  unfold blk_X1_canBePaid_2 at h ⊢
  exact hP _ _ _ _ h
def blk_X1_canBePaid (v1 : Int32) (v2 : Int32) (v3 : Int32) (Q : Int32 → Mem → Prop) (P : Nat → Int32 → Int32 → Mem → Prop) : Nat → Int32 → Int32 → Mem → Prop := fun lab v4 v5 M => match lab with
  | 0 => blk_X1_canBePaid_0 v1 v2 v3 Q P v4 v5 M
  | 1 => blk_X1_canBePaid_1 v1 v2 v3 Q P v4 v5 M
  | 2 => blk_X1_canBePaid_2 v1 v2 v3 Q P v4 v5 M
  | _ => False
theorem blk_X1_canBePaid_mono {v1 : Int32} {v2 : Int32} {v3 : Int32} {Q Q' : Int32 → Mem → Prop} {P P' : Nat → Int32 → Int32 → Mem → Prop} (hQ : ∀ (r : Int32) (M : Mem), Q r M → Q' r M) (hP : ∀ (lab : Nat) (v4 : Int32) (v5 : Int32) (M : Mem), P lab v4 v5 M → P' lab v4 v5 M) : ∀ (lab : Nat) (v4 : Int32) (v5 : Int32) (M : Mem), blk_X1_canBePaid v1 v2 v3 Q P lab v4 v5 M → blk_X1_canBePaid v1 v2 v3 Q' P' lab v4 v5 M := fun lab v4 v5 M h => match lab, h with
  | 0, h => blk_X1_canBePaid_0_mono (v1 := v1) (v2 := v2) (v3 := v3) hQ hP v4 v5 M h
  | 1, h => blk_X1_canBePaid_1_mono (v1 := v1) (v2 := v2) (v3 := v3) hQ hP v4 v5 M h
  | 2, h => blk_X1_canBePaid_2_mono (v1 := v1) (v2 := v2) (v3 := v3) hQ hP v4 v5 M h
  | _ + 3, h => False.elim h
def at_X1_canBePaid (v1 : Int32) (v2 : Int32) (v3 : Int32) (Q : Int32 → Mem → Prop) : Nat → Int32 → Int32 → Mem → Prop := fun lab v4 v5 M => ∀ P : Nat → Int32 → Int32 → Mem → Prop, (∀ (lab : Nat) (v4 : Int32) (v5 : Int32) (M : Mem), blk_X1_canBePaid v1 v2 v3 Q P lab v4 v5 M → P lab v4 v5 M) → P lab v4 v5 M
theorem at_X1_canBePaid_fold {v1 : Int32} {v2 : Int32} {v3 : Int32} {Q : Int32 → Mem → Prop} {lab : Nat} {v4 : Int32} {v5 : Int32} {M : Mem} (h : blk_X1_canBePaid v1 v2 v3 Q (at_X1_canBePaid v1 v2 v3 Q) lab v4 v5 M) : at_X1_canBePaid v1 v2 v3 Q lab v4 v5 M := fun P hP => hP _ _ _ _ (blk_X1_canBePaid_mono (fun _ _ h => h) (fun _ _ _ _ h => h P hP) _ _ _ _ h)
theorem at_X1_canBePaid_mono {v1 : Int32} {v2 : Int32} {v3 : Int32} {Q Q' : Int32 → Mem → Prop} (hQ : ∀ (r : Int32) (M : Mem), Q r M → Q' r M) {lab : Nat} {v4 : Int32} {v5 : Int32} {M : Mem} (h : at_X1_canBePaid v1 v2 v3 Q lab v4 v5 M) : at_X1_canBePaid v1 v2 v3 Q' lab v4 v5 M := fun P hP => h P (fun lab v4 v5 M hb => hP _ _ _ _ (blk_X1_canBePaid_mono hQ (fun _ _ _ _ h => h) _ _ _ _ hb))
def wp_X1_canBePaid (v1 : Int32) (v2 : Int32) (v3 : Int32) (M : Mem) (Q : Int32 → Mem → Prop) : Prop := at_X1_canBePaid v1 v2 v3 Q 0 0 0 M
theorem wp_X1_canBePaid_mono {v1 : Int32} {v2 : Int32} {v3 : Int32} {M : Mem} {Q Q' : Int32 → Mem → Prop} (hQ : ∀ (r : Int32) (M : Mem), Q r M → Q' r M) (h : wp_X1_canBePaid v1 v2 v3 M Q) : wp_X1_canBePaid v1 v2 v3 M Q' := at_X1_canBePaid_mono hQ h
def pcl_X1_canBePaid : Nat → Nat := fun lab => match lab with
  | 0 => 0
  | 1 => 14
  | 2 => 47
  | _ => 0
def lvl_X1_canBePaid (ad : Nat → Nat) (v1 : Int32) (v2 : Int32) (v3 : Int32) : Nat → Int32 → Int32 → List (Nat × Value) := fun lab v4 v5 => match lab with
  | 0 => [(0, .ref (ad 13)), (1, .int v1), (2, .int v2), (3, .int v3)]
  | 1 => [(0, .ref (ad 13)), (1, .int v1), (4, .int v4), (5, .int v5)]
  | 2 => [(0, .ref (ad 13)), (1, .int v1), (4, .int v4), (5, .int v5)]
  | _ => []
abbrev rm_X1_canBePaid : Jvm.Room := { frames := 2, cells := 0, slots := 0, locals := 34 }
set_option maxHeartbeats 4000000 in
set_option maxRecDepth 100000 in
theorem ct_X1_canBePaid (l : Launch) (D : va_G) (cy : Nat → ClassId) (ad : Nat → Nat) (B : Nat → Prop) (v1 : Int32) (v2 : Int32) (v3 : Int32) (M : Mem) (Q : Int32 → Mem → Prop) (h : wp_X1_canBePaid v1 v2 v3 M Q) : CTi l D cy (wX ad cy) B yX1_canBePaid wsX1_canBePaid rm_X1_canBePaid [.ref (ad 13), .int v1, .int v2, .int v3] M Q := by
  intro sz
  refine Met.ofW (cc := cX1_canBePaid) (maxL := 6) (ret := some .boolean) (by decide) rfl ?_
  intro p e s m args below meth c s₁ Bd hml hv
  obtain ⟨hargs, hsz, hP, hK, hD⟩ := hv
  subst hsz
  have hx := Bd.exec
  have hb := Bd.bytes
  have hr := Bd.returns
  have hts := atoms_spec (ws := wsX1_canBePaid) Bd.pre
  have hown : s.vm.findClass RX1 = some m.cls := findClass_of_methodNamed Bd.named
  have hlocks := Bd.notSynchronized
  have hC2 : xC wsX1_canBePaid 2 RX2 TX2 8 := ⟨by decide +kernel, rfl⟩
  have key : ∀ (P : Nat → Int32 → Int32 → Mem → Prop), (∀ (lab : Nat) (v4 : Int32) (v5 : Int32) (M : Mem), P lab v4 v5 M → ∀ (H : Heap) (locs : List Loc) (ls : Array Slot), xS D (wX ad cy) B s.heap H locs M → lv_has ls 6 (lvl_X1_canBePaid ad v1 v2 v3 lab v4 v5 ) → W p l e (headSpec wsX1_canBePaid rm_X1_canBePaid).room s m args below meth c H locs 0 0 (MQ below (va_Qi (S := Mem) Q (xB D (wX ad cy) B) (xA B s.heap.size)) args s 0 0 (xA B s.heap.size)) (F0 m (pcl_X1_canBePaid lab) ls [])) → ∀ (lab : Nat) (v4 : Int32) (v5 : Int32) (M : Mem), blk_X1_canBePaid v1 v2 v3 Q P lab v4 v5 M → ∀ (H : Heap) (locs : List Loc) (ls : Array Slot), xS D (wX ad cy) B s.heap H locs M → lv_has ls 6 (lvl_X1_canBePaid ad v1 v2 v3 lab v4 v5 ) → W p l e (headSpec wsX1_canBePaid rm_X1_canBePaid).room s m args below meth c H locs 0 0 (MQ below (va_Qi (S := Mem) Q (xB D (wX ad cy) B) (xA B s.heap.size)) args s 0 0 (xA B s.heap.size)) (F0 m (pcl_X1_canBePaid lab) ls []) := by
    intro P hJ lab v4 v5 M h H locs ls S hl
    match lab, h, hl with
    | 0, h, hl =>
      have hl : lv_has ls 6 [(0, .ref (ad 13)), (1, .int v1), (2, .int v2), (3, .int v3)] := hl
      have h : blk_X1_canBePaid_0 v1 v2 v3 Q P v4 v5 M := h
      unfold blk_X1_canBePaid_0 at h
      refine W.eq (g2 := F0 m 0 ls []) rfl ?_
      refine lv_iconst (v := 1) hx hb dX1_canBePaid_0 (by decide) ?_
      refine lv_iload_n hx hb dX1_canBePaid_1 rfl (lv_at hl 3 rfl) ?_
      refine lv_ishl hx hb dX1_canBePaid_2 ?_
      refine lv_iconst (v := 1) hx hb dX1_canBePaid_3 (by decide) ?_
      refine lv_isub hx hb dX1_canBePaid_4 ?_
      refine lv_iload_n hx hb dX1_canBePaid_5 rfl (lv_at hl 2 rfl) ?_
      refine lv_iconst (v := (-1)) hx hb dX1_canBePaid_6 (by decide) ?_
      refine lv_ixor hx hb dX1_canBePaid_7 ?_
      refine lv_iand hx hb dX1_canBePaid_8 ?_
      refine lv_topi (fun x4_1 ex4_1 => ?_)
      replace h := h x4_1 ex4_1
      refine lv_istore (lv' := [(4, .int x4_1), (0, .ref (ad 13)), (1, .int v1), (2, .int v2), (3, .int v3)]) hx hb dX1_canBePaid_9 hl (by decide) rfl (fun ls hl => ?_)
      refine lv_iload_n hx hb dX1_canBePaid_11 rfl (lv_at hl 4 rfl) ?_
      refine lv_istore (lv' := [(5, .int v3), (4, .int x4_1), (0, .ref (ad 13)), (1, .int v1), (2, .int v2), (3, .int v3)]) hx hb dX1_canBePaid_12 hl (by decide) rfl (fun ls hl => ?_)
      exact hJ _ _ _ _ h _ _ _ S (lv_sub hl [2, 3, 1, 0] rfl)
    | 1, h, hl =>
      have hl : lv_has ls 6 [(0, .ref (ad 13)), (1, .int v1), (4, .int v4), (5, .int v5)] := hl
      have h : blk_X1_canBePaid_1 v1 v2 v3 Q P v4 v5 M := h
      unfold blk_X1_canBePaid_1 at h
      refine W.eq (g2 := F0 m 14 ls []) rfl ?_
      refine lv_iload hx hb dX1_canBePaid_14 (lv_at hl 3 rfl) ?_
      refine lv_aload_n hx hb dX1_canBePaid_16 rfl (lv_at hl 0 rfl) ?_
      refine x_getI hx hb hts (hC2) hown hK S 4 (by decide) xf_13_4 (index := 22) (hts _ (List.mem_of_getElem? (i := 1) rfl)) dX1_canBePaid_17 ?_
      refine lv_icmp_ge (tgt := 53) hx hb dX1_canBePaid_20 (by decide) (fun c20 => ?_) (fun c20 => ?_)
      · replace h := h.1 c20
        refine lv_iconst (v := 1) hx hb dX1_canBePaid_53 (by decide) ?_
        exact x_iret hx hb hr hlocks S rfl h dX1_canBePaid_54
      · replace h := h.2 c20
        refine lv_iload hx hb dX1_canBePaid_23 (lv_at hl 3 rfl) ?_
        refine lv_iload_n hx hb dX1_canBePaid_25 rfl (lv_at hl 1 rfl) ?_
        refine x_callNi (As := [.int v5, .int v1]) ⟨hx, hb, hml, hown, hts⟩ hK S (ct_X7_isIn l D cy ad B _ _ _ _ h) ⟨va_cnB 2 hts gX1_canBePaid_X7_isIn_n46 rfl rfl rfl hK.2 (hts _ (List.mem_of_getElem? (i := 4) rfl)) (by decide +kernel) ⟨Nat.le_of_ble_eq_true rfl, Nat.le_of_ble_eq_true rfl⟩, hts _ (List.mem_of_getElem? (i := 3) rfl), trivial⟩ rfl hl.1 rfl (Nat.le_of_ble_eq_true rfl) dX1_canBePaid_26 ⟨Nat.zero_le _, Nat.zero_le _⟩ (fun r2 M2 H locs h S => ?_)
        refine lv_if_eq (tgt := 47) hx hb dX1_canBePaid_29 (by decide) (fun c29 => ?_) (fun c29 => ?_)
        · replace h := h.1 c29
          exact hJ _ _ _ _ h _ _ _ S (lv_sub hl [0, 1, 2, 3] rfl)
        · replace h := h.2 c29
          refine lv_aload_n hx hb dX1_canBePaid_32 rfl (lv_at hl 0 rfl) ?_
          refine x_getR hx hb hts (hC2) hown hK S 3 (by decide) xf_13_3 (index := 43) (hts _ (List.mem_of_getElem? (i := 2) rfl)) dX1_canBePaid_33 ?_
          refine lv_iload hx hb dX1_canBePaid_36 (lv_at hl 3 rfl) ?_
          refine x_iald hx hb hK S xa_19 h.1 dX1_canBePaid_38 ?_
          replace h := h.2
          refine lv_iload hx hb dX1_canBePaid_39 (lv_at hl 2 rfl) ?_
          refine lv_iand hx hb dX1_canBePaid_41 ?_
          refine lv_if_ne (tgt := 47) hx hb dX1_canBePaid_42 (by decide) (fun c42 => ?_) (fun c42 => ?_)
          · replace h := h.1 c42
            exact hJ _ _ _ _ h _ _ _ S (lv_sub hl [0, 1, 2, 3] rfl)
          · replace h := h.2 c42
            refine lv_iconst (v := 0) hx hb dX1_canBePaid_45 (by decide) ?_
            exact x_iret hx hb hr hlocks S rfl h dX1_canBePaid_46
    | 2, h, hl =>
      have hl : lv_has ls 6 [(0, .ref (ad 13)), (1, .int v1), (4, .int v4), (5, .int v5)] := hl
      have h : blk_X1_canBePaid_2 v1 v2 v3 Q P v4 v5 M := h
      unfold blk_X1_canBePaid_2 at h
      refine W.eq (g2 := F0 m 47 ls []) rfl ?_
      refine lv_iinc (v := (v5 + 1)) (lv' := [(5, .int (v5 + 1)), (0, .ref (ad 13)), (1, .int v1), (4, .int v4)]) hx hb dX1_canBePaid_47 hl (k := 3) rfl rfl (by decide) rfl (fun ls hl => ?_)
      refine lv_goto (tgt := 14) hx hb dX1_canBePaid_50 (by decide) ?_
      exact hJ _ _ _ _ h _ _ _ S (lv_sub hl [1, 2, 3, 0] rfl)
    | _ + 3, h, hl => exact h.elim
  have hl := lv_entry ([.ref (ad 13), .int v1, .int v2, .int v3]) (n := 6) (Nat.le_of_ble_eq_true rfl)
  subst hargs
  rw [lg_entry_eq]
  generalize (lg_sl ([.ref (ad 13), .int v1, .int v2, .int v3]) ++ List.replicate (6 - (lg_sl ([.ref (ad 13), .int v1, .int v2, .int v3])).length) Slot.unset).toArray = ls at hl ⊢
  exact h _ (key _ (fun _ _ _ _ h => h)) s.heap [] ls ⟨hP, hD, va_S.rf⟩ hl
/-! X1_keep -/
def wp_X1_keep (v1 : Int32) (M : Mem) (Q : Mem → Prop) : Prop :=
  ((256 ≤ (M.1 22 1) → Q M) ∧ (¬ 256 ≤ (M.1 22 1) → (vp_in (M.1 22 1) 256 ∧ Q (upI (upI M 23 (M.1 22 1).toNatClampNeg v1) 22 1 (((upI M 23 (M.1 22 1).toNatClampNeg v1).1 22 1) + 1)))))
theorem wp_X1_keep_mono {v1 : Int32} {M : Mem} {Q Q' : Mem → Prop} (hQ : ∀ M : Mem, Q M → Q' M) (h : wp_X1_keep v1 M Q) : wp_X1_keep v1 M Q' := by
  unfold wp_X1_keep at h ⊢
  exact ⟨fun c => let h := h.1 c; hQ _ h, fun c => let h := h.2 c; ⟨h.1, let h := h.2; hQ _ h⟩⟩
abbrev rm_X1_keep : Jvm.Room := { frames := 1, cells := 0, slots := 0, locals := 13 }
set_option maxHeartbeats 4000000 in
set_option maxRecDepth 100000 in
theorem ct_X1_keep (l : Launch) (D : va_G) (cy : Nat → ClassId) (ad : Nat → Nat) (B : Nat → Prop) (v1 : Int32) (M : Mem) (Q : Mem → Prop) (h : wp_X1_keep v1 M Q) : CTv l D cy (wX ad cy) B yX1_keep wsX1_keep rm_X1_keep [.ref (ad 22), .int v1] M Q := by
  intro sz
  refine Met.ofW (cc := cX1_keep) (maxL := 2) (ret := none) (by decide) rfl ?_
  intro p e s m args below meth c s₁ Bd hml hv
  obtain ⟨hargs, hsz, hP, hK, hD⟩ := hv
  subst hsz
  have hx := Bd.exec
  have hb := Bd.bytes
  have hr := Bd.returns
  have hts := atoms_spec (ws := wsX1_keep) Bd.pre
  have hown : s.vm.findClass RX1 = some m.cls := findClass_of_methodNamed Bd.named
  have hlocks := Bd.notSynchronized
  have hC1 : xC wsX1_keep 1 RX1 TX1 3 := ⟨by decide +kernel, rfl⟩
  have hl := lv_entry ([.ref (ad 22), .int v1]) (n := 2) (Nat.le_of_ble_eq_true rfl)
  subst hargs
  rw [lg_entry_eq]
  generalize (lg_sl ([.ref (ad 22), .int v1]) ++ List.replicate (2 - (lg_sl ([.ref (ad 22), .int v1])).length) Slot.unset).toArray = ls at hl ⊢
  have hl : lv_has ls 2 [(0, .ref (ad 22)), (1, .int v1)] := hl
  have S : xS D (wX ad cy) B s.heap s.heap [] M := ⟨hP, hD, va_S.rf⟩
  unfold wp_X1_keep at h
  refine lv_aload_n hx hb dX1_keep_0 rfl (lv_at hl 0 rfl) ?_
  refine x_getI hx hb hts (hC1) hown hK S 1 (by decide) xf_22_1 (index := 18) (hts _ (List.mem_of_getElem? (i := 1) rfl)) dX1_keep_1 ?_
  refine lv_sipush (v := 256) hx hb dX1_keep_4 (by decide) ?_
  refine lv_icmp_ge (tgt := 30) hx hb dX1_keep_7 (by decide) (fun c7 => ?_) (fun c7 => ?_)
  · replace h := h.1 c7
    exact x_vret hx hb hr hlocks S h dX1_keep_30
  · replace h := h.2 c7
    refine lv_aload_n hx hb dX1_keep_10 rfl (lv_at hl 0 rfl) ?_
    refine x_getR hx hb hts (hC1) hown hK S 0 (by decide) xf_22_0 (index := 9) (hts _ (List.mem_of_getElem? (i := 2) rfl)) dX1_keep_11 ?_
    refine lv_aload_n hx hb dX1_keep_14 rfl (lv_at hl 0 rfl) ?_
    refine x_getI hx hb hts (hC1) hown hK S 1 (by decide) xf_22_1 (index := 18) (hts _ (List.mem_of_getElem? (i := 1) rfl)) dX1_keep_15 ?_
    refine lv_iload_n hx hb dX1_keep_18 rfl (lv_at hl 1 rfl) ?_
    refine x_iast hx hb hK S xa_23 h.1 dX1_keep_19 (fun H locs S => ?_)
    replace h := h.2
    refine lv_aload_n hx hb dX1_keep_20 rfl (lv_at hl 0 rfl) ?_
    refine lv_dup hx hb dX1_keep_21 rfl ?_
    refine x_getI hx hb hts (hC1) hown hK S 1 (by decide) xf_22_1 (index := 18) (hts _ (List.mem_of_getElem? (i := 1) rfl)) dX1_keep_22 ?_
    refine lv_iconst (v := 1) hx hb dX1_keep_25 (by decide) ?_
    refine lv_iadd hx hb dX1_keep_26 ?_
    refine x_putI hx hb hts (hC1) tyX1 tyX1_ok nmX1 hown hK S 1 (by decide) xf_22_1 (index := 18) (hts _ (List.mem_of_getElem? (i := 1) rfl)) rfl rfl rfl dX1_keep_27 (fun H locs S => ?_)
    exact x_vret hx hb hr hlocks S h dX1_keep_30
/-! X1_decide -/
def wp_X1_decide : Nat → Int32 → Int32 → Int32 → Int32 → Mem → (Mem → Prop) → Prop
  | 0, _, _, _, _, _, _ => False
  | d + 1, v2, v3, v4, v5, M, Q => ((0 ≤ v2 → (((v4 &&& ((1 : Int32) <<< (v2 &&& 31))) = 0 → wp_X1_canBePaid (v5 ||| ((1 : Int32) <<< (v2 &&& 31))) v4 v2 M (fun r1 M1 => ((r1 = 0 → (vp_in v2 28 ∧ ∀ x8_2 : Int32, x8_2 = (v5 &&& ((v4 ||| (M1.1 19 v2.toNatClampNeg)) ^^^ ((-1) : Int32))) → wp_X1_canBePaid x8_2 (v4 ||| (M1.1 19 v2.toNatClampNeg)) v2 M1 (fun r3 M3 => ((r3 = 0 → Q M3) ∧ (¬ r3 = 0 → wp_X1_decide d (v2 - 1) (v3 ||| ((1 : Int32) <<< (v2 &&& 31))) (v4 ||| (M1.1 19 v2.toNatClampNeg)) x8_2 M3 (fun M4 => Q M4)))))) ∧ (¬ r1 = 0 → wp_X1_decide d (v2 - 1) v3 v4 (v5 ||| ((1 : Int32) <<< (v2 &&& 31))) M1 (fun M5 => (vp_in v2 28 ∧ ∀ x8_6 : Int32, x8_6 = (v5 &&& ((v4 ||| (M5.1 19 v2.toNatClampNeg)) ^^^ ((-1) : Int32))) → wp_X1_canBePaid x8_6 (v4 ||| (M5.1 19 v2.toNatClampNeg)) v2 M5 (fun r7 M7 => ((r7 = 0 → Q M7) ∧ (¬ r7 = 0 → wp_X1_decide d (v2 - 1) (v3 ||| ((1 : Int32) <<< (v2 &&& 31))) (v4 ||| (M5.1 19 v2.toNatClampNeg)) x8_6 M7 (fun M8 => Q M8)))))))))) ∧ (¬ (v4 &&& ((1 : Int32) <<< (v2 &&& 31))) = 0 → wp_X1_canBePaid v5 v4 v2 M (fun r9 M9 => ((r9 = 0 → Q M9) ∧ (¬ r9 = 0 → wp_X1_decide d (v2 - 1) v3 v4 v5 M9 (fun M10 => Q M10))))))) ∧ (¬ 0 ≤ v2 → wp_X1_keep v3 M (fun M11 => Q M11)))
theorem wp_X1_decide_mono : ∀ {d : Nat} {v2 v3 v4 v5 : Int32} {M : Mem} {Q Q' : Mem → Prop}, (∀ M : Mem, Q M → Q' M) → wp_X1_decide d v2 v3 v4 v5 M Q → wp_X1_decide d v2 v3 v4 v5 M Q' := by
  intro d
  induction d with
  | zero => intro _ _ _ _ _ _ _ _ h; exact h
  | succ d ih =>
    intro v2 v3 v4 v5 M Q Q' hQ h
    exact ⟨fun c => let h := h.1 c; ⟨fun c => let h := h.1 c; wp_X1_canBePaid_mono (fun r1 M1 h => ⟨fun c => let h := h.1 c; ⟨h.1, let h := h.2; fun x8_2 ex8_2 => let h := h x8_2 ex8_2; wp_X1_canBePaid_mono (fun r3 M3 h => ⟨fun c => let h := h.1 c; hQ _ h, fun c => let h := h.2 c; ih (fun M4 h => hQ _ h) h⟩) h⟩, fun c => let h := h.2 c; ih (fun M5 h => ⟨h.1, let h := h.2; fun x8_6 ex8_6 => let h := h x8_6 ex8_6; wp_X1_canBePaid_mono (fun r7 M7 h => ⟨fun c => let h := h.1 c; hQ _ h, fun c => let h := h.2 c; ih (fun M8 h => hQ _ h) h⟩) h⟩) h⟩) h, fun c => let h := h.2 c; wp_X1_canBePaid_mono (fun r9 M9 h => ⟨fun c => let h := h.1 c; hQ _ h, fun c => let h := h.2 c; ih (fun M10 h => hQ _ h) h⟩) h⟩, fun c => let h := h.2 c; wp_X1_keep_mono (fun M11 h => hQ _ h) h⟩
abbrev rm_X1_decide (d : Nat) : Jvm.Room := { frames := 3 + d, cells := 0, slots := 0, locals := 59 + 28 * d }
set_option maxHeartbeats 4000000 in
set_option maxRecDepth 100000 in
theorem ct_X1_decide (l : Launch) (D : va_G) (cy : Nat → ClassId) (ad : Nat → Nat) (B : Nat → Prop) : ∀ (d : Nat) (v2 v3 v4 v5 : Int32) (M : Mem) (Q : Mem → Prop), wp_X1_decide d v2 v3 v4 v5 M Q → CTv l D cy (wX ad cy) B yX1_decide wsX1_decide (rm_X1_decide d) [.ref (ad 22), .ref (ad 13), .int v2, .int v3, .int v4, .int v5] M Q := by
  intro d
  induction d with
  | zero => intro _ _ _ _ _ _ h; exact h.elim
  | succ d ih =>
    intro v2 v3 v4 v5 M Q h sz
    refine Met.ofW (cc := cX1_decide) (maxL := 9) (ret := none) (by decide) rfl ?_
    intro p e s m args below meth c s₁ Bd hml hv
    obtain ⟨hargs, hsz, hP, hK, hD⟩ := hv
    subst hsz
    have hx := Bd.exec
    have hb := Bd.bytes
    have hr := Bd.returns
    have hts := atoms_spec (ws := wsX1_decide) Bd.pre
    have hown : s.vm.findClass RX1 = some m.cls := findClass_of_methodNamed Bd.named
    have hlocks := Bd.notSynchronized
    have hC2 : xC wsX1_decide 2 RX2 TX2 8 := ⟨by decide +kernel, rfl⟩
    have hl := lv_entry ([.ref (ad 22), .ref (ad 13), .int v2, .int v3, .int v4, .int v5]) (n := 9) (Nat.le_of_ble_eq_true rfl)
    subst hargs
    rw [lg_entry_eq]
    generalize (lg_sl ([.ref (ad 22), .ref (ad 13), .int v2, .int v3, .int v4, .int v5]) ++ List.replicate (9 - (lg_sl ([.ref (ad 22), .ref (ad 13), .int v2, .int v3, .int v4, .int v5])).length) Slot.unset).toArray = ls at hl ⊢
    have hl : lv_has ls 9 [(0, .ref (ad 22)), (1, .ref (ad 13)), (2, .int v2), (3, .int v3), (4, .int v4), (5, .int v5)] := hl
    have S : xS D (wX ad cy) B s.heap s.heap [] M := ⟨hP, hD, va_S.rf⟩
    unfold wp_X1_decide at h
    refine lv_iload_n hx hb dX1_decide_0 rfl (lv_at hl 2 rfl) ?_
    refine lv_if_ge (tgt := 10) hx hb dX1_decide_1 (by decide) (fun c1 => ?_) (fun c1 => ?_)
    · replace h := h.1 c1
      refine lv_iconst (v := 1) hx hb dX1_decide_10 (by decide) ?_
      refine lv_iload_n hx hb dX1_decide_11 rfl (lv_at hl 2 rfl) ?_
      refine lv_ishl hx hb dX1_decide_12 ?_
      refine lv_istore (lv' := [(6, .int ((1 : Int32) <<< (v2 &&& 31))), (0, .ref (ad 22)), (1, .ref (ad 13)), (2, .int v2), (3, .int v3), (4, .int v4), (5, .int v5)]) hx hb dX1_decide_13 hl (by decide) rfl (fun ls hl => ?_)
      refine lv_iload hx hb dX1_decide_15 (lv_at hl 5 rfl) ?_
      refine lv_iload hx hb dX1_decide_17 (lv_at hl 0 rfl) ?_
      refine lv_iand hx hb dX1_decide_19 ?_
      refine lv_if_eq (tgt := 49) hx hb dX1_decide_20 (by decide) (fun c20 => ?_) (fun c20 => ?_)
      · replace h := h.1 c20
        refine lv_aload_n hx hb dX1_decide_49 rfl (lv_at hl 2 rfl) ?_
        refine lv_iload hx hb dX1_decide_50 (lv_at hl 6 rfl) ?_
        refine lv_iload hx hb dX1_decide_52 (lv_at hl 0 rfl) ?_
        refine lv_ior hx hb dX1_decide_54 ?_
        refine lv_iload hx hb dX1_decide_55 (lv_at hl 5 rfl) ?_
        refine lv_iload_n hx hb dX1_decide_57 rfl (lv_at hl 3 rfl) ?_
        refine x_callSi (As := [.ref (ad 13), .int (v5 ||| ((1 : Int32) <<< (v2 &&& 31))), .int v4, .int v2]) ⟨hx, hb, hml, hown, hts⟩ hK S (ct_X1_canBePaid l D cy ad B _ _ _ _ _ h) (va_cwS 4 hts gX1_decide_X1_canBePaid rfl rfl rfl (by decide +kernel) ⟨by show 2 + 1 ≤ 3 + (d + 1); omega, by show 8 + (6 + 11) + 34 ≤ 59 + 28 * (d + 1); omega⟩) rfl hl.1 rfl (Nat.le_of_ble_eq_true rfl) dX1_decide_58 ⟨Nat.zero_le _, Nat.zero_le _⟩ (fun r1 M1 H locs h S => ?_)
        refine lv_if_eq (tgt := 80) hx hb dX1_decide_61 (by decide) (fun c61 => ?_) (fun c61 => ?_)
        · replace h := h.1 c61
          refine lv_iload hx hb dX1_decide_80 (lv_at hl 5 rfl) ?_
          refine lv_aload_n hx hb dX1_decide_82 rfl (lv_at hl 2 rfl) ?_
          refine x_getR hx hb hts (hC2) hown hK S 3 (by decide) xf_13_3 (index := 43) (hts _ (List.mem_of_getElem? (i := 1) rfl)) dX1_decide_83 ?_
          refine lv_iload_n hx hb dX1_decide_86 rfl (lv_at hl 3 rfl) ?_
          refine x_iald hx hb hK S xa_19 h.1 dX1_decide_87 ?_
          replace h := h.2
          refine lv_ior hx hb dX1_decide_88 ?_
          refine lv_istore (lv' := [(7, .int (v4 ||| (M1.1 19 v2.toNatClampNeg))), (6, .int ((1 : Int32) <<< (v2 &&& 31))), (0, .ref (ad 22)), (1, .ref (ad 13)), (2, .int v2), (3, .int v3), (4, .int v4), (5, .int v5)]) hx hb dX1_decide_89 hl (by decide) rfl (fun ls hl => ?_)
          refine lv_iload hx hb dX1_decide_91 (lv_at hl 7 rfl) ?_
          refine lv_iload hx hb dX1_decide_93 (lv_at hl 0 rfl) ?_
          refine lv_iconst (v := (-1)) hx hb dX1_decide_95 (by decide) ?_
          refine lv_ixor hx hb dX1_decide_96 ?_
          refine lv_iand hx hb dX1_decide_97 ?_
          refine lv_topi (fun x8_2 ex8_2 => ?_)
          replace h := h x8_2 ex8_2
          refine lv_istore (lv' := [(8, .int x8_2), (7, .int (v4 ||| (M1.1 19 v2.toNatClampNeg))), (6, .int ((1 : Int32) <<< (v2 &&& 31))), (0, .ref (ad 22)), (1, .ref (ad 13)), (2, .int v2), (3, .int v3), (4, .int v4), (5, .int v5)]) hx hb dX1_decide_98 hl (by decide) rfl (fun ls hl => ?_)
          refine lv_aload_n hx hb dX1_decide_100 rfl (lv_at hl 4 rfl) ?_
          refine lv_iload hx hb dX1_decide_101 (lv_at hl 0 rfl) ?_
          refine lv_iload hx hb dX1_decide_103 (lv_at hl 1 rfl) ?_
          refine lv_iload_n hx hb dX1_decide_105 rfl (lv_at hl 5 rfl) ?_
          refine x_callSi (As := [.ref (ad 13), .int x8_2, .int (v4 ||| (M1.1 19 v2.toNatClampNeg)), .int v2]) ⟨hx, hb, hml, hown, hts⟩ hK S (ct_X1_canBePaid l D cy ad B _ _ _ _ _ h) (va_cwS 4 hts gX1_decide_X1_canBePaid rfl rfl rfl (by decide +kernel) ⟨by show 2 + 1 ≤ 3 + (d + 1); omega, by show 8 + (6 + 11) + 34 ≤ 59 + 28 * (d + 1); omega⟩) rfl hl.1 rfl (Nat.le_of_ble_eq_true rfl) dX1_decide_106 ⟨Nat.zero_le _, Nat.zero_le _⟩ (fun r3 M3 H locs h S => ?_)
          refine lv_if_eq (tgt := 128) hx hb dX1_decide_109 (by decide) (fun c109 => ?_) (fun c109 => ?_)
          · replace h := h.1 c109
            exact x_vret hx hb hr hlocks S h dX1_decide_128
          · replace h := h.2 c109
            refine lv_aload_n hx hb dX1_decide_112 rfl (lv_at hl 3 rfl) ?_
            refine lv_aload_n hx hb dX1_decide_113 rfl (lv_at hl 4 rfl) ?_
            refine lv_iload_n hx hb dX1_decide_114 rfl (lv_at hl 5 rfl) ?_
            refine lv_iconst (v := 1) hx hb dX1_decide_115 (by decide) ?_
            refine lv_isub hx hb dX1_decide_116 ?_
            refine lv_iload_n hx hb dX1_decide_117 rfl (lv_at hl 6 rfl) ?_
            refine lv_iload hx hb dX1_decide_118 (lv_at hl 2 rfl) ?_
            refine lv_ior hx hb dX1_decide_120 ?_
            refine lv_iload hx hb dX1_decide_121 (lv_at hl 1 rfl) ?_
            refine lv_iload hx hb dX1_decide_123 (lv_at hl 0 rfl) ?_
            refine x_callSv (As := [.ref (ad 22), .ref (ad 13), .int (v2 - 1), .int (v3 ||| ((1 : Int32) <<< (v2 &&& 31))), .int (v4 ||| (M1.1 19 v2.toNatClampNeg)), .int x8_2]) ⟨hx, hb, hml, hown, hts⟩ hK S (ih _ _ _ _ _ _ h) (va_cwS 6 hts gX1_decide_X1_decide rfl rfl rfl (by decide +kernel) ⟨by show 3 + d + 1 ≤ 3 + (d + 1); omega, by show 8 + (9 + 11) + (59 + 28 * d) ≤ 59 + 28 * (d + 1); omega⟩) rfl hl.1 rfl (Nat.le_of_ble_eq_true rfl) dX1_decide_125 ⟨Nat.zero_le _, Nat.zero_le _⟩ (fun M4 H locs h S => ?_)
            exact x_vret hx hb hr hlocks S h dX1_decide_128
        · replace h := h.2 c61
          refine lv_aload_n hx hb dX1_decide_64 rfl (lv_at hl 1 rfl) ?_
          refine lv_aload_n hx hb dX1_decide_65 rfl (lv_at hl 2 rfl) ?_
          refine lv_iload_n hx hb dX1_decide_66 rfl (lv_at hl 3 rfl) ?_
          refine lv_iconst (v := 1) hx hb dX1_decide_67 (by decide) ?_
          refine lv_isub hx hb dX1_decide_68 ?_
          refine lv_iload_n hx hb dX1_decide_69 rfl (lv_at hl 4 rfl) ?_
          refine lv_iload hx hb dX1_decide_70 (lv_at hl 5 rfl) ?_
          refine lv_iload hx hb dX1_decide_72 (lv_at hl 6 rfl) ?_
          refine lv_iload hx hb dX1_decide_74 (lv_at hl 0 rfl) ?_
          refine lv_ior hx hb dX1_decide_76 ?_
          refine x_callSv (As := [.ref (ad 22), .ref (ad 13), .int (v2 - 1), .int v3, .int v4, .int (v5 ||| ((1 : Int32) <<< (v2 &&& 31)))]) ⟨hx, hb, hml, hown, hts⟩ hK S (ih _ _ _ _ _ _ h) (va_cwS 6 hts gX1_decide_X1_decide rfl rfl rfl (by decide +kernel) ⟨by show 3 + d + 1 ≤ 3 + (d + 1); omega, by show 8 + (9 + 11) + (59 + 28 * d) ≤ 59 + 28 * (d + 1); omega⟩) rfl hl.1 rfl (Nat.le_of_ble_eq_true rfl) dX1_decide_77 ⟨Nat.zero_le _, Nat.zero_le _⟩ (fun M5 H locs h S => ?_)
          refine lv_iload hx hb dX1_decide_80 (lv_at hl 5 rfl) ?_
          refine lv_aload_n hx hb dX1_decide_82 rfl (lv_at hl 2 rfl) ?_
          refine x_getR hx hb hts (hC2) hown hK S 3 (by decide) xf_13_3 (index := 43) (hts _ (List.mem_of_getElem? (i := 1) rfl)) dX1_decide_83 ?_
          refine lv_iload_n hx hb dX1_decide_86 rfl (lv_at hl 3 rfl) ?_
          refine x_iald hx hb hK S xa_19 h.1 dX1_decide_87 ?_
          replace h := h.2
          refine lv_ior hx hb dX1_decide_88 ?_
          refine lv_istore (lv' := [(7, .int (v4 ||| (M5.1 19 v2.toNatClampNeg))), (6, .int ((1 : Int32) <<< (v2 &&& 31))), (0, .ref (ad 22)), (1, .ref (ad 13)), (2, .int v2), (3, .int v3), (4, .int v4), (5, .int v5)]) hx hb dX1_decide_89 hl (by decide) rfl (fun ls hl => ?_)
          refine lv_iload hx hb dX1_decide_91 (lv_at hl 7 rfl) ?_
          refine lv_iload hx hb dX1_decide_93 (lv_at hl 0 rfl) ?_
          refine lv_iconst (v := (-1)) hx hb dX1_decide_95 (by decide) ?_
          refine lv_ixor hx hb dX1_decide_96 ?_
          refine lv_iand hx hb dX1_decide_97 ?_
          refine lv_topi (fun x8_6 ex8_6 => ?_)
          replace h := h x8_6 ex8_6
          refine lv_istore (lv' := [(8, .int x8_6), (7, .int (v4 ||| (M5.1 19 v2.toNatClampNeg))), (6, .int ((1 : Int32) <<< (v2 &&& 31))), (0, .ref (ad 22)), (1, .ref (ad 13)), (2, .int v2), (3, .int v3), (4, .int v4), (5, .int v5)]) hx hb dX1_decide_98 hl (by decide) rfl (fun ls hl => ?_)
          refine lv_aload_n hx hb dX1_decide_100 rfl (lv_at hl 4 rfl) ?_
          refine lv_iload hx hb dX1_decide_101 (lv_at hl 0 rfl) ?_
          refine lv_iload hx hb dX1_decide_103 (lv_at hl 1 rfl) ?_
          refine lv_iload_n hx hb dX1_decide_105 rfl (lv_at hl 5 rfl) ?_
          refine x_callSi (As := [.ref (ad 13), .int x8_6, .int (v4 ||| (M5.1 19 v2.toNatClampNeg)), .int v2]) ⟨hx, hb, hml, hown, hts⟩ hK S (ct_X1_canBePaid l D cy ad B _ _ _ _ _ h) (va_cwS 4 hts gX1_decide_X1_canBePaid rfl rfl rfl (by decide +kernel) ⟨by show 2 + 1 ≤ 3 + (d + 1); omega, by show 8 + (6 + 11) + 34 ≤ 59 + 28 * (d + 1); omega⟩) rfl hl.1 rfl (Nat.le_of_ble_eq_true rfl) dX1_decide_106 ⟨Nat.zero_le _, Nat.zero_le _⟩ (fun r7 M7 H locs h S => ?_)
          refine lv_if_eq (tgt := 128) hx hb dX1_decide_109 (by decide) (fun c109 => ?_) (fun c109 => ?_)
          · replace h := h.1 c109
            exact x_vret hx hb hr hlocks S h dX1_decide_128
          · replace h := h.2 c109
            refine lv_aload_n hx hb dX1_decide_112 rfl (lv_at hl 3 rfl) ?_
            refine lv_aload_n hx hb dX1_decide_113 rfl (lv_at hl 4 rfl) ?_
            refine lv_iload_n hx hb dX1_decide_114 rfl (lv_at hl 5 rfl) ?_
            refine lv_iconst (v := 1) hx hb dX1_decide_115 (by decide) ?_
            refine lv_isub hx hb dX1_decide_116 ?_
            refine lv_iload_n hx hb dX1_decide_117 rfl (lv_at hl 6 rfl) ?_
            refine lv_iload hx hb dX1_decide_118 (lv_at hl 2 rfl) ?_
            refine lv_ior hx hb dX1_decide_120 ?_
            refine lv_iload hx hb dX1_decide_121 (lv_at hl 1 rfl) ?_
            refine lv_iload hx hb dX1_decide_123 (lv_at hl 0 rfl) ?_
            refine x_callSv (As := [.ref (ad 22), .ref (ad 13), .int (v2 - 1), .int (v3 ||| ((1 : Int32) <<< (v2 &&& 31))), .int (v4 ||| (M5.1 19 v2.toNatClampNeg)), .int x8_6]) ⟨hx, hb, hml, hown, hts⟩ hK S (ih _ _ _ _ _ _ h) (va_cwS 6 hts gX1_decide_X1_decide rfl rfl rfl (by decide +kernel) ⟨by show 3 + d + 1 ≤ 3 + (d + 1); omega, by show 8 + (9 + 11) + (59 + 28 * d) ≤ 59 + 28 * (d + 1); omega⟩) rfl hl.1 rfl (Nat.le_of_ble_eq_true rfl) dX1_decide_125 ⟨Nat.zero_le _, Nat.zero_le _⟩ (fun M8 H locs h S => ?_)
            exact x_vret hx hb hr hlocks S h dX1_decide_128
      · replace h := h.2 c20
        refine lv_aload_n hx hb dX1_decide_23 rfl (lv_at hl 2 rfl) ?_
        refine lv_iload hx hb dX1_decide_24 (lv_at hl 6 rfl) ?_
        refine lv_iload hx hb dX1_decide_26 (lv_at hl 5 rfl) ?_
        refine lv_iload_n hx hb dX1_decide_28 rfl (lv_at hl 3 rfl) ?_
        refine x_callSi (As := [.ref (ad 13), .int v5, .int v4, .int v2]) ⟨hx, hb, hml, hown, hts⟩ hK S (ct_X1_canBePaid l D cy ad B _ _ _ _ _ h) (va_cwS 4 hts gX1_decide_X1_canBePaid rfl rfl rfl (by decide +kernel) ⟨by show 2 + 1 ≤ 3 + (d + 1); omega, by show 8 + (6 + 11) + 34 ≤ 59 + 28 * (d + 1); omega⟩) rfl hl.1 rfl (Nat.le_of_ble_eq_true rfl) dX1_decide_29 ⟨Nat.zero_le _, Nat.zero_le _⟩ (fun r9 M9 H locs h S => ?_)
        refine lv_if_eq (tgt := 48) hx hb dX1_decide_32 (by decide) (fun c32 => ?_) (fun c32 => ?_)
        · replace h := h.1 c32
          exact x_vret hx hb hr hlocks S h dX1_decide_48
        · replace h := h.2 c32
          refine lv_aload_n hx hb dX1_decide_35 rfl (lv_at hl 1 rfl) ?_
          refine lv_aload_n hx hb dX1_decide_36 rfl (lv_at hl 2 rfl) ?_
          refine lv_iload_n hx hb dX1_decide_37 rfl (lv_at hl 3 rfl) ?_
          refine lv_iconst (v := 1) hx hb dX1_decide_38 (by decide) ?_
          refine lv_isub hx hb dX1_decide_39 ?_
          refine lv_iload_n hx hb dX1_decide_40 rfl (lv_at hl 4 rfl) ?_
          refine lv_iload hx hb dX1_decide_41 (lv_at hl 5 rfl) ?_
          refine lv_iload hx hb dX1_decide_43 (lv_at hl 6 rfl) ?_
          refine x_callSv (As := [.ref (ad 22), .ref (ad 13), .int (v2 - 1), .int v3, .int v4, .int v5]) ⟨hx, hb, hml, hown, hts⟩ hK S (ih _ _ _ _ _ _ h) (va_cwS 6 hts gX1_decide_X1_decide rfl rfl rfl (by decide +kernel) ⟨by show 3 + d + 1 ≤ 3 + (d + 1); omega, by show 8 + (9 + 11) + (59 + 28 * d) ≤ 59 + 28 * (d + 1); omega⟩) rfl hl.1 rfl (Nat.le_of_ble_eq_true rfl) dX1_decide_45 ⟨Nat.zero_le _, Nat.zero_le _⟩ (fun M10 H locs h S => ?_)
          exact x_vret hx hb hr hlocks S h dX1_decide_48
    · replace h := h.2 c1
      refine lv_aload_n hx hb dX1_decide_4 rfl (lv_at hl 0 rfl) ?_
      refine lv_iload_n hx hb dX1_decide_5 rfl (lv_at hl 3 rfl) ?_
      refine x_callVv (As := [.int v3]) ⟨hx, hb, hml, hown, hts⟩ hK S (ct_X1_keep l D cy ad B _ _ _ h) xo_22 rfl (cwV 1 hts gX1_decide_X1_keep rfl rfl rfl (by decide +kernel) ⟨by show 1 + 1 ≤ 3 + (d + 1); omega, by show 8 + (2 + 11) + 13 ≤ 59 + 28 * (d + 1); omega⟩) rfl hl.1 rfl (Nat.le_of_ble_eq_true rfl) dX1_decide_6 ⟨Nat.zero_le _, Nat.zero_le _⟩ (fun M11 H locs h S => ?_)
      exact x_vret hx hb hr hlocks S h dX1_decide_9
/-! X2_isThird -/
def wp_X2_isThird (v1 : Int32) (v2 : Int32) (v3 : Int32) (M : Mem) (Q : Int32 → Mem → Prop) : Prop :=
  (vp_in ((v1 * 8) + v2) 224 ∧ (((M.1 21 ((v1 * 8) + v2).toNatClampNeg) = 0 → Q 0 M) ∧ (¬ (M.1 21 ((v1 * 8) + v2).toNatClampNeg) = 0 → ((¬ ((M.1 21 ((v1 * 8) + v2).toNatClampNeg) &&& v3) = (M.1 21 ((v1 * 8) + v2).toNatClampNeg) → Q 0 M) ∧ (((M.1 21 ((v1 * 8) + v2).toNatClampNeg) &&& v3) = (M.1 21 ((v1 * 8) + v2).toNatClampNeg) → Q 1 M)))))
theorem wp_X2_isThird_mono {v1 : Int32} {v2 : Int32} {v3 : Int32} {M : Mem} {Q Q' : Int32 → Mem → Prop} (hQ : ∀ (r : Int32) (M : Mem), Q r M → Q' r M) (h : wp_X2_isThird v1 v2 v3 M Q) : wp_X2_isThird v1 v2 v3 M Q' := by
  unfold wp_X2_isThird at h ⊢
  exact ⟨h.1, let h := h.2; ⟨fun c => let h := h.1 c; hQ _ _ h, fun c => let h := h.2 c; ⟨fun c => let h := h.1 c; hQ _ _ h, fun c => let h := h.2 c; hQ _ _ h⟩⟩⟩
abbrev rm_X2_isThird : Jvm.Room := { frames := 1, cells := 0, slots := 0, locals := 16 }
set_option maxHeartbeats 4000000 in
set_option maxRecDepth 100000 in
theorem ct_X2_isThird (l : Launch) (D : va_G) (cy : Nat → ClassId) (ad : Nat → Nat) (B : Nat → Prop) (v1 : Int32) (v2 : Int32) (v3 : Int32) (M : Mem) (Q : Int32 → Mem → Prop) (h : wp_X2_isThird v1 v2 v3 M Q) : CTi l D cy (wX ad cy) B yX2_isThird wsX2_isThird rm_X2_isThird [.ref (ad 13), .int v1, .int v2, .int v3] M Q := by
  intro sz
  refine Met.ofW (cc := cX2_isThird) (maxL := 5) (ret := some .boolean) (by decide) rfl ?_
  intro p e s m args below meth c s₁ Bd hml hv
  obtain ⟨hargs, hsz, hP, hK, hD⟩ := hv
  subst hsz
  have hx := Bd.exec
  have hb := Bd.bytes
  have hr := Bd.returns
  have hts := atoms_spec (ws := wsX2_isThird) Bd.pre
  have hown : s.vm.findClass RX2 = some m.cls := findClass_of_methodNamed Bd.named
  have hlocks := Bd.notSynchronized
  have hC2 : xC wsX2_isThird 2 RX2 TX2 8 := ⟨by decide +kernel, rfl⟩
  have hl := lv_entry ([.ref (ad 13), .int v1, .int v2, .int v3]) (n := 5) (Nat.le_of_ble_eq_true rfl)
  subst hargs
  rw [lg_entry_eq]
  generalize (lg_sl ([.ref (ad 13), .int v1, .int v2, .int v3]) ++ List.replicate (5 - (lg_sl ([.ref (ad 13), .int v1, .int v2, .int v3])).length) Slot.unset).toArray = ls at hl ⊢
  have hl : lv_has ls 5 [(0, .ref (ad 13)), (1, .int v1), (2, .int v2), (3, .int v3)] := hl
  have S : xS D (wX ad cy) B s.heap s.heap [] M := ⟨hP, hD, va_S.rf⟩
  unfold wp_X2_isThird at h
  refine lv_aload_n hx hb dX2_isThird_0 rfl (lv_at hl 0 rfl) ?_
  refine x_getR hx hb hts (hC2) hown hK S 7 (by decide) xf_13_7 (index := 31) (hts _ (List.mem_of_getElem? (i := 1) rfl)) dX2_isThird_1 ?_
  refine lv_iload_n hx hb dX2_isThird_4 rfl (lv_at hl 1 rfl) ?_
  refine lv_bipush (v := 8) hx hb dX2_isThird_5 (by decide) ?_
  refine lv_imul hx hb dX2_isThird_7 ?_
  refine lv_iload_n hx hb dX2_isThird_8 rfl (lv_at hl 2 rfl) ?_
  refine lv_iadd hx hb dX2_isThird_9 ?_
  refine x_iald hx hb hK S xa_21 h.1 dX2_isThird_10 ?_
  replace h := h.2
  refine lv_istore (lv' := [(4, .int (M.1 21 ((v1 * 8) + v2).toNatClampNeg)), (0, .ref (ad 13)), (1, .int v1), (2, .int v2), (3, .int v3)]) hx hb dX2_isThird_11 hl (by decide) rfl (fun ls hl => ?_)
  refine lv_iload hx hb dX2_isThird_13 (lv_at hl 0 rfl) ?_
  refine lv_if_eq (tgt := 31) hx hb dX2_isThird_15 (by decide) (fun c15 => ?_) (fun c15 => ?_)
  · replace h := h.1 c15
    refine lv_iconst (v := 0) hx hb dX2_isThird_31 (by decide) ?_
    exact x_iret hx hb hr hlocks S rfl h dX2_isThird_32
  · replace h := h.2 c15
    refine lv_iload hx hb dX2_isThird_18 (lv_at hl 0 rfl) ?_
    refine lv_iload_n hx hb dX2_isThird_20 rfl (lv_at hl 4 rfl) ?_
    refine lv_iand hx hb dX2_isThird_21 ?_
    refine lv_iload hx hb dX2_isThird_22 (lv_at hl 0 rfl) ?_
    refine lv_icmp_ne (tgt := 31) hx hb dX2_isThird_24 (by decide) (fun c24 => ?_) (fun c24 => ?_)
    · replace h := h.1 c24
      refine lv_iconst (v := 0) hx hb dX2_isThird_31 (by decide) ?_
      exact x_iret hx hb hr hlocks S rfl h dX2_isThird_32
    · replace h := h.2 c24
      refine lv_iconst (v := 1) hx hb dX2_isThird_27 (by decide) ?_
      refine lv_goto (tgt := 32) hx hb dX2_isThird_28 (by decide) ?_
      exact x_iret hx hb hr hlocks S rfl h dX2_isThird_32
/-! X2_fenceAcross -/
def blk_X2_fenceAcross_0 (v1 : Int32) (v2 : Int32) (Q : Int32 → Mem → Prop) (P : Nat → Int32 → Int32 → Int32 → Int32 → Int32 → Mem → Prop) (v3 : Int32) (v4 : Int32) (v5 : Int32) (v6 : Int32) (v7 : Int32) (M : Mem) : Prop :=
  P 1 (-9) (-9) 0 0 0 M
theorem blk_X2_fenceAcross_0_mono {v1 : Int32} {v2 : Int32} {Q Q' : Int32 → Mem → Prop} {P P' : Nat → Int32 → Int32 → Int32 → Int32 → Int32 → Mem → Prop} (hQ : ∀ (r : Int32) (M : Mem), Q r M → Q' r M) (hP : ∀ (lab : Nat) (v3 : Int32) (v4 : Int32) (v5 : Int32) (v6 : Int32) (v7 : Int32) (M : Mem), P lab v3 v4 v5 v6 v7 M → P' lab v3 v4 v5 v6 v7 M) (v3 : Int32) (v4 : Int32) (v5 : Int32) (v6 : Int32) (v7 : Int32) (M : Mem) (h : blk_X2_fenceAcross_0 v1 v2 Q P v3 v4 v5 v6 v7 M) : blk_X2_fenceAcross_0 v1 v2 Q' P' v3 v4 v5 v6 v7 M := by
  unfold blk_X2_fenceAcross_0 at h ⊢
  exact hP _ _ _ _ _ _ _ h
def blk_X2_fenceAcross_1 (v1 : Int32) (v2 : Int32) (Q : Int32 → Mem → Prop) (P : Nat → Int32 → Int32 → Int32 → Int32 → Int32 → Mem → Prop) (v3 : Int32) (v4 : Int32) (v5 : Int32) (v6 : Int32) (v7 : Int32) (M : Mem) : Prop :=
  (((M.1 14 2) ≤ v5 → ((¬ v3 = (-9) → (vp_in v1 28 ∧ (vp_in v1 28 ∧ wp_X4_areParted v3 v4 (M.1 17 v1.toNatClampNeg) (M.1 18 v1.toNatClampNeg) M (fun r1 M1 => ((r1 = 0 → P 2 v3 v4 0 0 0 M1) ∧ (¬ r1 = 0 → wp_X4_areParted (M.1 17 v1.toNatClampNeg) (M.1 18 v1.toNatClampNeg) v3 v4 M1 (fun r2 M2 => ((r2 = 0 → P 2 v3 v4 0 0 0 M2) ∧ (¬ r2 = 0 → P 3 v3 v4 0 0 1 M2))))))))) ∧ (v3 = (-9) → Q (-9) M))) ∧ (¬ (M.1 14 2) ≤ v5 → wp_X2_isThird v1 v5 v2 M (fun r3 M3 => ((r3 = 0 → P 4 v3 v4 v5 0 0 M3) ∧ (¬ r3 = 0 → P 4 v4 v5 v5 0 0 M3)))))
theorem blk_X2_fenceAcross_1_mono {v1 : Int32} {v2 : Int32} {Q Q' : Int32 → Mem → Prop} {P P' : Nat → Int32 → Int32 → Int32 → Int32 → Int32 → Mem → Prop} (hQ : ∀ (r : Int32) (M : Mem), Q r M → Q' r M) (hP : ∀ (lab : Nat) (v3 : Int32) (v4 : Int32) (v5 : Int32) (v6 : Int32) (v7 : Int32) (M : Mem), P lab v3 v4 v5 v6 v7 M → P' lab v3 v4 v5 v6 v7 M) (v3 : Int32) (v4 : Int32) (v5 : Int32) (v6 : Int32) (v7 : Int32) (M : Mem) (h : blk_X2_fenceAcross_1 v1 v2 Q P v3 v4 v5 v6 v7 M) : blk_X2_fenceAcross_1 v1 v2 Q' P' v3 v4 v5 v6 v7 M := by
  unfold blk_X2_fenceAcross_1 at h ⊢
  exact ⟨fun c => let h := h.1 c; ⟨fun c => let h := h.1 c; ⟨h.1, let h := h.2; ⟨h.1, let h := h.2; wp_X4_areParted_mono (fun r1 M1 h => ⟨fun c => let h := h.1 c; hP _ _ _ _ _ _ _ h, fun c => let h := h.2 c; wp_X4_areParted_mono (fun r2 M2 h => ⟨fun c => let h := h.1 c; hP _ _ _ _ _ _ _ h, fun c => let h := h.2 c; hP _ _ _ _ _ _ _ h⟩) h⟩) h⟩⟩, fun c => let h := h.2 c; hQ _ _ h⟩, fun c => let h := h.2 c; wp_X2_isThird_mono (fun r3 M3 h => ⟨fun c => let h := h.1 c; hP _ _ _ _ _ _ _ h, fun c => let h := h.2 c; hP _ _ _ _ _ _ _ h⟩) h⟩
def blk_X2_fenceAcross_2 (v1 : Int32) (v2 : Int32) (Q : Int32 → Mem → Prop) (P : Nat → Int32 → Int32 → Int32 → Int32 → Int32 → Mem → Prop) (v3 : Int32) (v4 : Int32) (v5 : Int32) (v6 : Int32) (v7 : Int32) (M : Mem) : Prop :=
  P 3 v3 v4 0 0 0 M
theorem blk_X2_fenceAcross_2_mono {v1 : Int32} {v2 : Int32} {Q Q' : Int32 → Mem → Prop} {P P' : Nat → Int32 → Int32 → Int32 → Int32 → Int32 → Mem → Prop} (hQ : ∀ (r : Int32) (M : Mem), Q r M → Q' r M) (hP : ∀ (lab : Nat) (v3 : Int32) (v4 : Int32) (v5 : Int32) (v6 : Int32) (v7 : Int32) (M : Mem), P lab v3 v4 v5 v6 v7 M → P' lab v3 v4 v5 v6 v7 M) (v3 : Int32) (v4 : Int32) (v5 : Int32) (v6 : Int32) (v7 : Int32) (M : Mem) (h : blk_X2_fenceAcross_2 v1 v2 Q P v3 v4 v5 v6 v7 M) : blk_X2_fenceAcross_2 v1 v2 Q' P' v3 v4 v5 v6 v7 M := by
  unfold blk_X2_fenceAcross_2 at h ⊢
  exact hP _ _ _ _ _ _ _ h
def blk_X2_fenceAcross_3 (v1 : Int32) (v2 : Int32) (Q : Int32 → Mem → Prop) (P : Nat → Int32 → Int32 → Int32 → Int32 → Int32 → Mem → Prop) (v3 : Int32) (v4 : Int32) (v5 : Int32) (v6 : Int32) (v7 : Int32) (M : Mem) : Prop :=
  ((v7 = 0 → Q (-9) M) ∧ (¬ v7 = 0 → wp_X2_fenceBetween v3 v4 M (fun r4 M4 => Q r4 M4)))
theorem blk_X2_fenceAcross_3_mono {v1 : Int32} {v2 : Int32} {Q Q' : Int32 → Mem → Prop} {P P' : Nat → Int32 → Int32 → Int32 → Int32 → Int32 → Mem → Prop} (hQ : ∀ (r : Int32) (M : Mem), Q r M → Q' r M) (hP : ∀ (lab : Nat) (v3 : Int32) (v4 : Int32) (v5 : Int32) (v6 : Int32) (v7 : Int32) (M : Mem), P lab v3 v4 v5 v6 v7 M → P' lab v3 v4 v5 v6 v7 M) (v3 : Int32) (v4 : Int32) (v5 : Int32) (v6 : Int32) (v7 : Int32) (M : Mem) (h : blk_X2_fenceAcross_3 v1 v2 Q P v3 v4 v5 v6 v7 M) : blk_X2_fenceAcross_3 v1 v2 Q' P' v3 v4 v5 v6 v7 M := by
  unfold blk_X2_fenceAcross_3 at h ⊢
  exact ⟨fun c => let h := h.1 c; hQ _ _ h, fun c => let h := h.2 c; wp_X2_fenceBetween_mono (fun r4 M4 h => hQ _ _ h) h⟩
def blk_X2_fenceAcross_4 (v1 : Int32) (v2 : Int32) (Q : Int32 → Mem → Prop) (P : Nat → Int32 → Int32 → Int32 → Int32 → Int32 → Mem → Prop) (v3 : Int32) (v4 : Int32) (v5 : Int32) (v6 : Int32) (v7 : Int32) (M : Mem) : Prop :=
  P 1 v3 v4 (v5 + 1) 0 0 M
theorem blk_X2_fenceAcross_4_mono {v1 : Int32} {v2 : Int32} {Q Q' : Int32 → Mem → Prop} {P P' : Nat → Int32 → Int32 → Int32 → Int32 → Int32 → Mem → Prop} (hQ : ∀ (r : Int32) (M : Mem), Q r M → Q' r M) (hP : ∀ (lab : Nat) (v3 : Int32) (v4 : Int32) (v5 : Int32) (v6 : Int32) (v7 : Int32) (M : Mem), P lab v3 v4 v5 v6 v7 M → P' lab v3 v4 v5 v6 v7 M) (v3 : Int32) (v4 : Int32) (v5 : Int32) (v6 : Int32) (v7 : Int32) (M : Mem) (h : blk_X2_fenceAcross_4 v1 v2 Q P v3 v4 v5 v6 v7 M) : blk_X2_fenceAcross_4 v1 v2 Q' P' v3 v4 v5 v6 v7 M := by
  unfold blk_X2_fenceAcross_4 at h ⊢
  exact hP _ _ _ _ _ _ _ h
def blk_X2_fenceAcross (v1 : Int32) (v2 : Int32) (Q : Int32 → Mem → Prop) (P : Nat → Int32 → Int32 → Int32 → Int32 → Int32 → Mem → Prop) : Nat → Int32 → Int32 → Int32 → Int32 → Int32 → Mem → Prop := fun lab v3 v4 v5 v6 v7 M => match lab with
  | 0 => blk_X2_fenceAcross_0 v1 v2 Q P v3 v4 v5 v6 v7 M
  | 1 => blk_X2_fenceAcross_1 v1 v2 Q P v3 v4 v5 v6 v7 M
  | 2 => blk_X2_fenceAcross_2 v1 v2 Q P v3 v4 v5 v6 v7 M
  | 3 => blk_X2_fenceAcross_3 v1 v2 Q P v3 v4 v5 v6 v7 M
  | 4 => blk_X2_fenceAcross_4 v1 v2 Q P v3 v4 v5 v6 v7 M
  | _ => False
theorem blk_X2_fenceAcross_mono {v1 : Int32} {v2 : Int32} {Q Q' : Int32 → Mem → Prop} {P P' : Nat → Int32 → Int32 → Int32 → Int32 → Int32 → Mem → Prop} (hQ : ∀ (r : Int32) (M : Mem), Q r M → Q' r M) (hP : ∀ (lab : Nat) (v3 : Int32) (v4 : Int32) (v5 : Int32) (v6 : Int32) (v7 : Int32) (M : Mem), P lab v3 v4 v5 v6 v7 M → P' lab v3 v4 v5 v6 v7 M) : ∀ (lab : Nat) (v3 : Int32) (v4 : Int32) (v5 : Int32) (v6 : Int32) (v7 : Int32) (M : Mem), blk_X2_fenceAcross v1 v2 Q P lab v3 v4 v5 v6 v7 M → blk_X2_fenceAcross v1 v2 Q' P' lab v3 v4 v5 v6 v7 M := fun lab v3 v4 v5 v6 v7 M h => match lab, h with
  | 0, h => blk_X2_fenceAcross_0_mono (v1 := v1) (v2 := v2) hQ hP v3 v4 v5 v6 v7 M h
  | 1, h => blk_X2_fenceAcross_1_mono (v1 := v1) (v2 := v2) hQ hP v3 v4 v5 v6 v7 M h
  | 2, h => blk_X2_fenceAcross_2_mono (v1 := v1) (v2 := v2) hQ hP v3 v4 v5 v6 v7 M h
  | 3, h => blk_X2_fenceAcross_3_mono (v1 := v1) (v2 := v2) hQ hP v3 v4 v5 v6 v7 M h
  | 4, h => blk_X2_fenceAcross_4_mono (v1 := v1) (v2 := v2) hQ hP v3 v4 v5 v6 v7 M h
  | _ + 5, h => False.elim h
def at_X2_fenceAcross (v1 : Int32) (v2 : Int32) (Q : Int32 → Mem → Prop) : Nat → Int32 → Int32 → Int32 → Int32 → Int32 → Mem → Prop := fun lab v3 v4 v5 v6 v7 M => ∀ P : Nat → Int32 → Int32 → Int32 → Int32 → Int32 → Mem → Prop, (∀ (lab : Nat) (v3 : Int32) (v4 : Int32) (v5 : Int32) (v6 : Int32) (v7 : Int32) (M : Mem), blk_X2_fenceAcross v1 v2 Q P lab v3 v4 v5 v6 v7 M → P lab v3 v4 v5 v6 v7 M) → P lab v3 v4 v5 v6 v7 M
theorem at_X2_fenceAcross_fold {v1 : Int32} {v2 : Int32} {Q : Int32 → Mem → Prop} {lab : Nat} {v3 : Int32} {v4 : Int32} {v5 : Int32} {v6 : Int32} {v7 : Int32} {M : Mem} (h : blk_X2_fenceAcross v1 v2 Q (at_X2_fenceAcross v1 v2 Q) lab v3 v4 v5 v6 v7 M) : at_X2_fenceAcross v1 v2 Q lab v3 v4 v5 v6 v7 M := fun P hP => hP _ _ _ _ _ _ _ (blk_X2_fenceAcross_mono (fun _ _ h => h) (fun _ _ _ _ _ _ _ h => h P hP) _ _ _ _ _ _ _ h)
theorem at_X2_fenceAcross_mono {v1 : Int32} {v2 : Int32} {Q Q' : Int32 → Mem → Prop} (hQ : ∀ (r : Int32) (M : Mem), Q r M → Q' r M) {lab : Nat} {v3 : Int32} {v4 : Int32} {v5 : Int32} {v6 : Int32} {v7 : Int32} {M : Mem} (h : at_X2_fenceAcross v1 v2 Q lab v3 v4 v5 v6 v7 M) : at_X2_fenceAcross v1 v2 Q' lab v3 v4 v5 v6 v7 M := fun P hP => h P (fun lab v3 v4 v5 v6 v7 M hb => hP _ _ _ _ _ _ _ (blk_X2_fenceAcross_mono hQ (fun _ _ _ _ _ _ _ h => h) _ _ _ _ _ _ _ hb))
def wp_X2_fenceAcross (v1 : Int32) (v2 : Int32) (M : Mem) (Q : Int32 → Mem → Prop) : Prop := at_X2_fenceAcross v1 v2 Q 0 0 0 0 0 0 M
theorem wp_X2_fenceAcross_mono {v1 : Int32} {v2 : Int32} {M : Mem} {Q Q' : Int32 → Mem → Prop} (hQ : ∀ (r : Int32) (M : Mem), Q r M → Q' r M) (h : wp_X2_fenceAcross v1 v2 M Q) : wp_X2_fenceAcross v1 v2 M Q' := at_X2_fenceAcross_mono hQ h
def pcl_X2_fenceAcross : Nat → Nat := fun lab => match lab with
  | 0 => 0
  | 1 => 10
  | 2 => 109
  | 3 => 112
  | 4 => 40
  | _ => 0
def lvl_X2_fenceAcross (ad : Nat → Nat) (v1 : Int32) (v2 : Int32) : Nat → Int32 → Int32 → Int32 → Int32 → Int32 → List (Nat × Value) := fun lab v3 v4 v5 v6 v7 => match lab with
  | 0 => [(0, .ref (ad 13)), (1, .int v1), (2, .int v2)]
  | 1 => [(0, .ref (ad 13)), (1, .int v1), (2, .int v2), (3, .int v3), (4, .int v4), (5, .int v5)]
  | 2 => [(0, .ref (ad 13)), (3, .int v3), (4, .int v4)]
  | 3 => [(0, .ref (ad 13)), (3, .int v3), (4, .int v4), (7, .int v7)]
  | 4 => [(0, .ref (ad 13)), (1, .int v1), (2, .int v2), (3, .int v3), (4, .int v4), (5, .int v5)]
  | _ => []
abbrev rm_X2_fenceAcross : Jvm.Room := { frames := 3, cells := 0, slots := 0, locals := 64 }
set_option maxHeartbeats 4000000 in
set_option maxRecDepth 100000 in
theorem ct_X2_fenceAcross (l : Launch) (D : va_G) (cy : Nat → ClassId) (ad : Nat → Nat) (B : Nat → Prop) (v1 : Int32) (v2 : Int32) (M : Mem) (Q : Int32 → Mem → Prop) (h : wp_X2_fenceAcross v1 v2 M Q) : CTi l D cy (wX ad cy) B yX2_fenceAcross wsX2_fenceAcross rm_X2_fenceAcross [.ref (ad 13), .int v1, .int v2] M Q := by
  intro sz
  refine Met.ofW (cc := cX2_fenceAcross) (maxL := 8) (ret := some .int) (by decide) rfl ?_
  intro p e s m args below meth c s₁ Bd hml hv
  obtain ⟨hargs, hsz, hP, hK, hD⟩ := hv
  subst hsz
  have hx := Bd.exec
  have hb := Bd.bytes
  have hr := Bd.returns
  have hts := atoms_spec (ws := wsX2_fenceAcross) Bd.pre
  have hown : s.vm.findClass RX2 = some m.cls := findClass_of_methodNamed Bd.named
  have hlocks := Bd.notSynchronized
  have hC2 : xC wsX2_fenceAcross 2 RX2 TX2 8 := ⟨by decide +kernel, rfl⟩
  have hC4 : xC wsX2_fenceAcross 4 RX4 TX4 3 := ⟨by decide +kernel, rfl⟩
  have key : ∀ (P : Nat → Int32 → Int32 → Int32 → Int32 → Int32 → Mem → Prop), (∀ (lab : Nat) (v3 : Int32) (v4 : Int32) (v5 : Int32) (v6 : Int32) (v7 : Int32) (M : Mem), P lab v3 v4 v5 v6 v7 M → ∀ (H : Heap) (locs : List Loc) (ls : Array Slot), xS D (wX ad cy) B s.heap H locs M → lv_has ls 8 (lvl_X2_fenceAcross ad v1 v2 lab v3 v4 v5 v6 v7 ) → W p l e (headSpec wsX2_fenceAcross rm_X2_fenceAcross).room s m args below meth c H locs 0 0 (MQ below (va_Qi (S := Mem) Q (xB D (wX ad cy) B) (xA B s.heap.size)) args s 0 0 (xA B s.heap.size)) (F0 m (pcl_X2_fenceAcross lab) ls [])) → ∀ (lab : Nat) (v3 : Int32) (v4 : Int32) (v5 : Int32) (v6 : Int32) (v7 : Int32) (M : Mem), blk_X2_fenceAcross v1 v2 Q P lab v3 v4 v5 v6 v7 M → ∀ (H : Heap) (locs : List Loc) (ls : Array Slot), xS D (wX ad cy) B s.heap H locs M → lv_has ls 8 (lvl_X2_fenceAcross ad v1 v2 lab v3 v4 v5 v6 v7 ) → W p l e (headSpec wsX2_fenceAcross rm_X2_fenceAcross).room s m args below meth c H locs 0 0 (MQ below (va_Qi (S := Mem) Q (xB D (wX ad cy) B) (xA B s.heap.size)) args s 0 0 (xA B s.heap.size)) (F0 m (pcl_X2_fenceAcross lab) ls []) := by
    intro P hJ lab v3 v4 v5 v6 v7 M h H locs ls S hl
    match lab, h, hl with
    | 0, h, hl =>
      have hl : lv_has ls 8 [(0, .ref (ad 13)), (1, .int v1), (2, .int v2)] := hl
      have h : blk_X2_fenceAcross_0 v1 v2 Q P v3 v4 v5 v6 v7 M := h
      unfold blk_X2_fenceAcross_0 at h
      refine W.eq (g2 := F0 m 0 ls []) rfl ?_
      refine lv_bipush (v := (-9)) hx hb dX2_fenceAcross_0 (by decide) ?_
      refine lv_istore_n (lv' := [(3, .int (-9)), (0, .ref (ad 13)), (1, .int v1), (2, .int v2)]) hx hb dX2_fenceAcross_2 rfl hl (by decide) rfl (fun ls hl => ?_)
      refine lv_bipush (v := (-9)) hx hb dX2_fenceAcross_3 (by decide) ?_
      refine lv_istore (lv' := [(4, .int (-9)), (3, .int (-9)), (0, .ref (ad 13)), (1, .int v1), (2, .int v2)]) hx hb dX2_fenceAcross_5 hl (by decide) rfl (fun ls hl => ?_)
      refine lv_iconst (v := 0) hx hb dX2_fenceAcross_7 (by decide) ?_
      refine lv_istore (lv' := [(5, .int 0), (4, .int (-9)), (3, .int (-9)), (0, .ref (ad 13)), (1, .int v1), (2, .int v2)]) hx hb dX2_fenceAcross_8 hl (by decide) rfl (fun ls hl => ?_)
      exact hJ _ _ _ _ _ _ _ h _ _ _ S (lv_sub hl [3, 4, 5, 2, 1, 0] rfl)
    | 1, h, hl =>
      have hl : lv_has ls 8 [(0, .ref (ad 13)), (1, .int v1), (2, .int v2), (3, .int v3), (4, .int v4), (5, .int v5)] := hl
      have h : blk_X2_fenceAcross_1 v1 v2 Q P v3 v4 v5 v6 v7 M := h
      unfold blk_X2_fenceAcross_1 at h
      refine W.eq (g2 := F0 m 10 ls []) rfl ?_
      refine lv_iload hx hb dX2_fenceAcross_10 (lv_at hl 5 rfl) ?_
      refine lv_aload_n hx hb dX2_fenceAcross_12 rfl (lv_at hl 0 rfl) ?_
      refine x_getR hx hb hts (hC2) hown hK S 0 (by decide) xf_13_0 (index := 12) (hts _ (List.mem_of_getElem? (i := 1) rfl)) dX2_fenceAcross_13 ?_
      refine x_getI hx hb hts (hC4) hown hK S 2 (by decide) xf_14_2 (index := 50) (hts _ (List.mem_of_getElem? (i := 2) rfl)) dX2_fenceAcross_16 ?_
      refine lv_icmp_ge (tgt := 46) hx hb dX2_fenceAcross_19 (by decide) (fun c19 => ?_) (fun c19 => ?_)
      · replace h := h.1 c19
        refine lv_iload_n hx hb dX2_fenceAcross_46 rfl (lv_at hl 3 rfl) ?_
        refine lv_bipush (v := (-9)) hx hb dX2_fenceAcross_47 (by decide) ?_
        refine lv_icmp_ne (tgt := 55) hx hb dX2_fenceAcross_49 (by decide) (fun c49 => ?_) (fun c49 => ?_)
        · replace h := h.1 c49
          refine lv_aload_n hx hb dX2_fenceAcross_55 rfl (lv_at hl 0 rfl) ?_
          refine x_getR hx hb hts (hC2) hown hK S 1 (by decide) xf_13_1 (index := 18) (hts _ (List.mem_of_getElem? (i := 3) rfl)) dX2_fenceAcross_56 ?_
          refine lv_iload_n hx hb dX2_fenceAcross_59 rfl (lv_at hl 1 rfl) ?_
          refine x_iald hx hb hK S xa_17 h.1 dX2_fenceAcross_60 ?_
          replace h := h.2
          refine lv_istore (lv' := [(5, .int (M.1 17 v1.toNatClampNeg)), (0, .ref (ad 13)), (1, .int v1), (2, .int v2), (3, .int v3), (4, .int v4)]) hx hb dX2_fenceAcross_61 hl (by decide) rfl (fun ls hl => ?_)
          refine lv_aload_n hx hb dX2_fenceAcross_63 rfl (lv_at hl 1 rfl) ?_
          refine x_getR hx hb hts (hC2) hown hK S 2 (by decide) xf_13_2 (index := 22) (hts _ (List.mem_of_getElem? (i := 4) rfl)) dX2_fenceAcross_64 ?_
          refine lv_iload_n hx hb dX2_fenceAcross_67 rfl (lv_at hl 2 rfl) ?_
          refine x_iald hx hb hK S xa_18 h.1 dX2_fenceAcross_68 ?_
          replace h := h.2
          refine lv_istore (lv' := [(6, .int (M.1 18 v1.toNatClampNeg)), (5, .int (M.1 17 v1.toNatClampNeg)), (0, .ref (ad 13)), (1, .int v1), (2, .int v2), (3, .int v3), (4, .int v4)]) hx hb dX2_fenceAcross_69 hl (by decide) rfl (fun ls hl => ?_)
          refine lv_aload_n hx hb dX2_fenceAcross_71 rfl (lv_at hl 2 rfl) ?_
          refine x_getR hx hb hts (hC2) hown hK S 0 (by decide) xf_13_0 (index := 12) (hts _ (List.mem_of_getElem? (i := 1) rfl)) dX2_fenceAcross_72 ?_
          refine lv_iload_n hx hb dX2_fenceAcross_75 rfl (lv_at hl 5 rfl) ?_
          refine lv_iload hx hb dX2_fenceAcross_76 (lv_at hl 6 rfl) ?_
          refine lv_iload hx hb dX2_fenceAcross_78 (lv_at hl 1 rfl) ?_
          refine lv_iload hx hb dX2_fenceAcross_80 (lv_at hl 0 rfl) ?_
          refine x_callVi (As := [.int v3, .int v4, .int (M.1 17 v1.toNatClampNeg), .int (M.1 18 v1.toNatClampNeg)]) ⟨hx, hb, hml, hown, hts⟩ hK S (ct_X4_areParted l D cy ad B _ _ _ _ _ _ h) xo_14 rfl (cwV 4 hts gX2_fenceAcross_X4_areParted rfl rfl rfl (by decide +kernel) ⟨Nat.le_of_ble_eq_true rfl, Nat.le_of_ble_eq_true rfl⟩) rfl hl.1 rfl (Nat.le_of_ble_eq_true rfl) dX2_fenceAcross_82 ⟨Nat.zero_le _, Nat.zero_le _⟩ (fun r1 M1 H locs h S => ?_)
          refine lv_if_eq (tgt := 109) hx hb dX2_fenceAcross_85 (by decide) (fun c85 => ?_) (fun c85 => ?_)
          · replace h := h.1 c85
            exact hJ _ _ _ _ _ _ _ h _ _ _ S (lv_sub hl [2, 5, 6] rfl)
          · replace h := h.2 c85
            refine lv_aload_n hx hb dX2_fenceAcross_88 rfl (lv_at hl 2 rfl) ?_
            refine x_getR hx hb hts (hC2) hown hK S 0 (by decide) xf_13_0 (index := 12) (hts _ (List.mem_of_getElem? (i := 1) rfl)) dX2_fenceAcross_89 ?_
            refine lv_iload hx hb dX2_fenceAcross_92 (lv_at hl 1 rfl) ?_
            refine lv_iload hx hb dX2_fenceAcross_94 (lv_at hl 0 rfl) ?_
            refine lv_iload_n hx hb dX2_fenceAcross_96 rfl (lv_at hl 5 rfl) ?_
            refine lv_iload hx hb dX2_fenceAcross_97 (lv_at hl 6 rfl) ?_
            refine x_callVi (As := [.int (M.1 17 v1.toNatClampNeg), .int (M.1 18 v1.toNatClampNeg), .int v3, .int v4]) ⟨hx, hb, hml, hown, hts⟩ hK S (ct_X4_areParted l D cy ad B _ _ _ _ _ _ h) xo_14 rfl (cwV 4 hts gX2_fenceAcross_X4_areParted rfl rfl rfl (by decide +kernel) ⟨Nat.le_of_ble_eq_true rfl, Nat.le_of_ble_eq_true rfl⟩) rfl hl.1 rfl (Nat.le_of_ble_eq_true rfl) dX2_fenceAcross_99 ⟨Nat.zero_le _, Nat.zero_le _⟩ (fun r2 M2 H locs h S => ?_)
            refine lv_if_eq (tgt := 109) hx hb dX2_fenceAcross_102 (by decide) (fun c102 => ?_) (fun c102 => ?_)
            · replace h := h.1 c102
              exact hJ _ _ _ _ _ _ _ h _ _ _ S (lv_sub hl [2, 5, 6] rfl)
            · replace h := h.2 c102
              refine lv_iconst (v := 1) hx hb dX2_fenceAcross_105 (by decide) ?_
              refine lv_goto (tgt := 110) hx hb dX2_fenceAcross_106 (by decide) ?_
              refine lv_istore (lv' := [(7, .int 1), (6, .int (M.1 18 v1.toNatClampNeg)), (5, .int (M.1 17 v1.toNatClampNeg)), (0, .ref (ad 13)), (1, .int v1), (2, .int v2), (3, .int v3), (4, .int v4)]) hx hb dX2_fenceAcross_110 hl (by decide) rfl (fun ls hl => ?_)
              exact hJ _ _ _ _ _ _ _ h _ _ _ S (lv_sub hl [3, 6, 7, 0] rfl)
        · replace h := h.2 c49
          refine lv_bipush (v := (-9)) hx hb dX2_fenceAcross_52 (by decide) ?_
          exact x_iret hx hb hr hlocks S rfl h dX2_fenceAcross_54
      · replace h := h.2 c19
        refine lv_aload_n hx hb dX2_fenceAcross_22 rfl (lv_at hl 0 rfl) ?_
        refine lv_iload_n hx hb dX2_fenceAcross_23 rfl (lv_at hl 1 rfl) ?_
        refine lv_iload hx hb dX2_fenceAcross_24 (lv_at hl 5 rfl) ?_
        refine lv_iload_n hx hb dX2_fenceAcross_26 rfl (lv_at hl 2 rfl) ?_
        refine x_callVi (As := [.int v1, .int v5, .int v2]) ⟨hx, hb, hml, hown, hts⟩ hK S (ct_X2_isThird l D cy ad B _ _ _ _ _ h) xo_13 rfl (cwV 3 hts gX2_fenceAcross_X2_isThird rfl rfl rfl (by decide +kernel) ⟨Nat.le_of_ble_eq_true rfl, Nat.le_of_ble_eq_true rfl⟩) rfl hl.1 rfl (Nat.le_of_ble_eq_true rfl) dX2_fenceAcross_27 ⟨Nat.zero_le _, Nat.zero_le _⟩ (fun r3 M3 H locs h S => ?_)
        refine lv_if_eq (tgt := 40) hx hb dX2_fenceAcross_30 (by decide) (fun c30 => ?_) (fun c30 => ?_)
        · replace h := h.1 c30
          exact hJ _ _ _ _ _ _ _ h _ _ _ S (lv_sub hl [0, 1, 2, 3, 4, 5] rfl)
        · replace h := h.2 c30
          refine lv_iload hx hb dX2_fenceAcross_33 (lv_at hl 4 rfl) ?_
          refine lv_istore_n (lv' := [(3, .int v4), (0, .ref (ad 13)), (1, .int v1), (2, .int v2), (4, .int v4), (5, .int v5)]) hx hb dX2_fenceAcross_35 rfl hl (by decide) rfl (fun ls hl => ?_)
          refine lv_iload hx hb dX2_fenceAcross_36 (lv_at hl 5 rfl) ?_
          refine lv_istore (lv' := [(4, .int v5), (3, .int v4), (0, .ref (ad 13)), (1, .int v1), (2, .int v2), (5, .int v5)]) hx hb dX2_fenceAcross_38 hl (by decide) rfl (fun ls hl => ?_)
          exact hJ _ _ _ _ _ _ _ h _ _ _ S (lv_sub hl [2, 3, 4, 1, 0, 5] rfl)
    | 2, h, hl =>
      have hl : lv_has ls 8 [(0, .ref (ad 13)), (3, .int v3), (4, .int v4)] := hl
      have h : blk_X2_fenceAcross_2 v1 v2 Q P v3 v4 v5 v6 v7 M := h
      unfold blk_X2_fenceAcross_2 at h
      refine W.eq (g2 := F0 m 109 ls []) rfl ?_
      refine lv_iconst (v := 0) hx hb dX2_fenceAcross_109 (by decide) ?_
      refine lv_istore (lv' := [(7, .int 0), (0, .ref (ad 13)), (3, .int v3), (4, .int v4)]) hx hb dX2_fenceAcross_110 hl (by decide) rfl (fun ls hl => ?_)
      exact hJ _ _ _ _ _ _ _ h _ _ _ S (lv_sub hl [1, 2, 3, 0] rfl)
    | 3, h, hl =>
      have hl : lv_has ls 8 [(0, .ref (ad 13)), (3, .int v3), (4, .int v4), (7, .int v7)] := hl
      have h : blk_X2_fenceAcross_3 v1 v2 Q P v3 v4 v5 v6 v7 M := h
      unfold blk_X2_fenceAcross_3 at h
      refine W.eq (g2 := F0 m 112 ls []) rfl ?_
      refine lv_iload hx hb dX2_fenceAcross_112 (lv_at hl 3 rfl) ?_
      refine lv_if_eq (tgt := 127) hx hb dX2_fenceAcross_114 (by decide) (fun c114 => ?_) (fun c114 => ?_)
      · replace h := h.1 c114
        refine lv_bipush (v := (-9)) hx hb dX2_fenceAcross_127 (by decide) ?_
        exact x_iret hx hb hr hlocks S rfl h dX2_fenceAcross_129
      · replace h := h.2 c114
        refine lv_aload_n hx hb dX2_fenceAcross_117 rfl (lv_at hl 0 rfl) ?_
        refine lv_iload_n hx hb dX2_fenceAcross_118 rfl (lv_at hl 1 rfl) ?_
        refine lv_iload hx hb dX2_fenceAcross_119 (lv_at hl 2 rfl) ?_
        refine x_callVi (As := [.int v3, .int v4]) ⟨hx, hb, hml, hown, hts⟩ hK S (ct_X2_fenceBetween l D cy ad B _ _ _ _ h) xo_13 rfl (cwV 2 hts gX2_fenceAcross_X2_fenceBetween rfl rfl rfl (by decide +kernel) ⟨Nat.le_of_ble_eq_true rfl, Nat.le_of_ble_eq_true rfl⟩) rfl hl.1 rfl (Nat.le_of_ble_eq_true rfl) dX2_fenceAcross_121 ⟨Nat.zero_le _, Nat.zero_le _⟩ (fun r4 M4 H locs h S => ?_)
        refine lv_goto (tgt := 129) hx hb dX2_fenceAcross_124 (by decide) ?_
        exact x_iret hx hb hr hlocks S rfl h dX2_fenceAcross_129
    | 4, h, hl =>
      have hl : lv_has ls 8 [(0, .ref (ad 13)), (1, .int v1), (2, .int v2), (3, .int v3), (4, .int v4), (5, .int v5)] := hl
      have h : blk_X2_fenceAcross_4 v1 v2 Q P v3 v4 v5 v6 v7 M := h
      unfold blk_X2_fenceAcross_4 at h
      refine W.eq (g2 := F0 m 40 ls []) rfl ?_
      refine lv_iinc (v := (v5 + 1)) (lv' := [(5, .int (v5 + 1)), (0, .ref (ad 13)), (1, .int v1), (2, .int v2), (3, .int v3), (4, .int v4)]) hx hb dX2_fenceAcross_40 hl (k := 5) rfl rfl (by decide) rfl (fun ls hl => ?_)
      refine lv_goto (tgt := 10) hx hb dX2_fenceAcross_43 (by decide) ?_
      exact hJ _ _ _ _ _ _ _ h _ _ _ S (lv_sub hl [1, 2, 3, 4, 5, 0] rfl)
    | _ + 5, h, hl => exact h.elim
  have hl := lv_entry ([.ref (ad 13), .int v1, .int v2]) (n := 8) (Nat.le_of_ble_eq_true rfl)
  subst hargs
  rw [lg_entry_eq]
  generalize (lg_sl ([.ref (ad 13), .int v1, .int v2]) ++ List.replicate (8 - (lg_sl ([.ref (ad 13), .int v1, .int v2])).length) Slot.unset).toArray = ls at hl ⊢
  exact h _ (key _ (fun _ _ _ _ _ _ _ h => h)) s.heap [] ls ⟨hP, hD, va_S.rf⟩ hl
/-! X1_indexOf -/
def blk_X1_indexOf_0 (v1 : Int32) (Q : Int32 → Mem → Prop) (P : Nat → Int32 → Int32 → Mem → Prop) (v2 : Int32) (v3 : Int32) (M : Mem) : Prop :=
  P 1 0 128 M
theorem blk_X1_indexOf_0_mono {v1 : Int32} {Q Q' : Int32 → Mem → Prop} {P P' : Nat → Int32 → Int32 → Mem → Prop} (hQ : ∀ (r : Int32) (M : Mem), Q r M → Q' r M) (hP : ∀ (lab : Nat) (v2 : Int32) (v3 : Int32) (M : Mem), P lab v2 v3 M → P' lab v2 v3 M) (v2 : Int32) (v3 : Int32) (M : Mem) (h : blk_X1_indexOf_0 v1 Q P v2 v3 M) : blk_X1_indexOf_0 v1 Q' P' v2 v3 M := by
  unfold blk_X1_indexOf_0 at h ⊢
  exact hP _ _ _ _ h
def blk_X1_indexOf_1 (v1 : Int32) (Q : Int32 → Mem → Prop) (P : Nat → Int32 → Int32 → Mem → Prop) (v2 : Int32) (v3 : Int32) (M : Mem) : Prop :=
  ((v3 ≤ 0 → (vp_in v2 256 ∧ ((¬ (M.1 23 v2.toNatClampNeg) = v1 → Q (-9) M) ∧ ((M.1 23 v2.toNatClampNeg) = v1 → Q v2 M)))) ∧ (¬ v3 ≤ 0 → (((M.1 22 1) ≤ (v2 + v3) → P 2 v2 v3 M) ∧ (¬ (M.1 22 1) ≤ (v2 + v3) → (vp_in (v2 + v3) 256 ∧ ((v1 < (M.1 23 (v2 + v3).toNatClampNeg) → P 2 v2 v3 M) ∧ (¬ v1 < (M.1 23 (v2 + v3).toNatClampNeg) → P 2 (v2 + v3) v3 M)))))))
theorem blk_X1_indexOf_1_mono {v1 : Int32} {Q Q' : Int32 → Mem → Prop} {P P' : Nat → Int32 → Int32 → Mem → Prop} (hQ : ∀ (r : Int32) (M : Mem), Q r M → Q' r M) (hP : ∀ (lab : Nat) (v2 : Int32) (v3 : Int32) (M : Mem), P lab v2 v3 M → P' lab v2 v3 M) (v2 : Int32) (v3 : Int32) (M : Mem) (h : blk_X1_indexOf_1 v1 Q P v2 v3 M) : blk_X1_indexOf_1 v1 Q' P' v2 v3 M := by
  unfold blk_X1_indexOf_1 at h ⊢
  exact ⟨fun c => let h := h.1 c; ⟨h.1, let h := h.2; ⟨fun c => let h := h.1 c; hQ _ _ h, fun c => let h := h.2 c; hQ _ _ h⟩⟩, fun c => let h := h.2 c; ⟨fun c => let h := h.1 c; hP _ _ _ _ h, fun c => let h := h.2 c; ⟨h.1, let h := h.2; ⟨fun c => let h := h.1 c; hP _ _ _ _ h, fun c => let h := h.2 c; hP _ _ _ _ h⟩⟩⟩⟩
def blk_X1_indexOf_2 (v1 : Int32) (Q : Int32 → Mem → Prop) (P : Nat → Int32 → Int32 → Mem → Prop) (v2 : Int32) (v3 : Int32) (M : Mem) : Prop :=
  P 1 v2 (v3 / 2) M
theorem blk_X1_indexOf_2_mono {v1 : Int32} {Q Q' : Int32 → Mem → Prop} {P P' : Nat → Int32 → Int32 → Mem → Prop} (hQ : ∀ (r : Int32) (M : Mem), Q r M → Q' r M) (hP : ∀ (lab : Nat) (v2 : Int32) (v3 : Int32) (M : Mem), P lab v2 v3 M → P' lab v2 v3 M) (v2 : Int32) (v3 : Int32) (M : Mem) (h : blk_X1_indexOf_2 v1 Q P v2 v3 M) : blk_X1_indexOf_2 v1 Q' P' v2 v3 M := by
  unfold blk_X1_indexOf_2 at h ⊢
  exact hP _ _ _ _ h
def blk_X1_indexOf (v1 : Int32) (Q : Int32 → Mem → Prop) (P : Nat → Int32 → Int32 → Mem → Prop) : Nat → Int32 → Int32 → Mem → Prop := fun lab v2 v3 M => match lab with
  | 0 => blk_X1_indexOf_0 v1 Q P v2 v3 M
  | 1 => blk_X1_indexOf_1 v1 Q P v2 v3 M
  | 2 => blk_X1_indexOf_2 v1 Q P v2 v3 M
  | _ => False
theorem blk_X1_indexOf_mono {v1 : Int32} {Q Q' : Int32 → Mem → Prop} {P P' : Nat → Int32 → Int32 → Mem → Prop} (hQ : ∀ (r : Int32) (M : Mem), Q r M → Q' r M) (hP : ∀ (lab : Nat) (v2 : Int32) (v3 : Int32) (M : Mem), P lab v2 v3 M → P' lab v2 v3 M) : ∀ (lab : Nat) (v2 : Int32) (v3 : Int32) (M : Mem), blk_X1_indexOf v1 Q P lab v2 v3 M → blk_X1_indexOf v1 Q' P' lab v2 v3 M := fun lab v2 v3 M h => match lab, h with
  | 0, h => blk_X1_indexOf_0_mono (v1 := v1) hQ hP v2 v3 M h
  | 1, h => blk_X1_indexOf_1_mono (v1 := v1) hQ hP v2 v3 M h
  | 2, h => blk_X1_indexOf_2_mono (v1 := v1) hQ hP v2 v3 M h
  | _ + 3, h => False.elim h
def at_X1_indexOf (v1 : Int32) (Q : Int32 → Mem → Prop) : Nat → Int32 → Int32 → Mem → Prop := fun lab v2 v3 M => ∀ P : Nat → Int32 → Int32 → Mem → Prop, (∀ (lab : Nat) (v2 : Int32) (v3 : Int32) (M : Mem), blk_X1_indexOf v1 Q P lab v2 v3 M → P lab v2 v3 M) → P lab v2 v3 M
theorem at_X1_indexOf_fold {v1 : Int32} {Q : Int32 → Mem → Prop} {lab : Nat} {v2 : Int32} {v3 : Int32} {M : Mem} (h : blk_X1_indexOf v1 Q (at_X1_indexOf v1 Q) lab v2 v3 M) : at_X1_indexOf v1 Q lab v2 v3 M := fun P hP => hP _ _ _ _ (blk_X1_indexOf_mono (fun _ _ h => h) (fun _ _ _ _ h => h P hP) _ _ _ _ h)
theorem at_X1_indexOf_mono {v1 : Int32} {Q Q' : Int32 → Mem → Prop} (hQ : ∀ (r : Int32) (M : Mem), Q r M → Q' r M) {lab : Nat} {v2 : Int32} {v3 : Int32} {M : Mem} (h : at_X1_indexOf v1 Q lab v2 v3 M) : at_X1_indexOf v1 Q' lab v2 v3 M := fun P hP => h P (fun lab v2 v3 M hb => hP _ _ _ _ (blk_X1_indexOf_mono hQ (fun _ _ _ _ h => h) _ _ _ _ hb))
def wp_X1_indexOf (v1 : Int32) (M : Mem) (Q : Int32 → Mem → Prop) : Prop := at_X1_indexOf v1 Q 0 0 0 M
theorem wp_X1_indexOf_mono {v1 : Int32} {M : Mem} {Q Q' : Int32 → Mem → Prop} (hQ : ∀ (r : Int32) (M : Mem), Q r M → Q' r M) (h : wp_X1_indexOf v1 M Q) : wp_X1_indexOf v1 M Q' := at_X1_indexOf_mono hQ h
def pcl_X1_indexOf : Nat → Nat := fun lab => match lab with
  | 0 => 0
  | 1 => 6
  | 2 => 36
  | _ => 0
def lvl_X1_indexOf (ad : Nat → Nat) (v1 : Int32) : Nat → Int32 → Int32 → List (Nat × Value) := fun lab v2 v3 => match lab with
  | 0 => [(0, .ref (ad 22)), (1, .int v1)]
  | 1 => [(0, .ref (ad 22)), (1, .int v1), (2, .int v2), (3, .int v3)]
  | 2 => [(0, .ref (ad 22)), (1, .int v1), (2, .int v2), (3, .int v3)]
  | _ => []
abbrev rm_X1_indexOf : Jvm.Room := { frames := 1, cells := 0, slots := 0, locals := 15 }
set_option maxHeartbeats 4000000 in
set_option maxRecDepth 100000 in
theorem ct_X1_indexOf (l : Launch) (D : va_G) (cy : Nat → ClassId) (ad : Nat → Nat) (B : Nat → Prop) (v1 : Int32) (M : Mem) (Q : Int32 → Mem → Prop) (h : wp_X1_indexOf v1 M Q) : CTi l D cy (wX ad cy) B yX1_indexOf wsX1_indexOf rm_X1_indexOf [.ref (ad 22), .int v1] M Q := by
  intro sz
  refine Met.ofW (cc := cX1_indexOf) (maxL := 4) (ret := some .int) (by decide) rfl ?_
  intro p e s m args below meth c s₁ Bd hml hv
  obtain ⟨hargs, hsz, hP, hK, hD⟩ := hv
  subst hsz
  have hx := Bd.exec
  have hb := Bd.bytes
  have hr := Bd.returns
  have hts := atoms_spec (ws := wsX1_indexOf) Bd.pre
  have hown : s.vm.findClass RX1 = some m.cls := findClass_of_methodNamed Bd.named
  have hlocks := Bd.notSynchronized
  have hC1 : xC wsX1_indexOf 1 RX1 TX1 3 := ⟨by decide +kernel, rfl⟩
  have key : ∀ (P : Nat → Int32 → Int32 → Mem → Prop), (∀ (lab : Nat) (v2 : Int32) (v3 : Int32) (M : Mem), P lab v2 v3 M → ∀ (H : Heap) (locs : List Loc) (ls : Array Slot), xS D (wX ad cy) B s.heap H locs M → lv_has ls 4 (lvl_X1_indexOf ad v1 lab v2 v3 ) → W p l e (headSpec wsX1_indexOf rm_X1_indexOf).room s m args below meth c H locs 0 0 (MQ below (va_Qi (S := Mem) Q (xB D (wX ad cy) B) (xA B s.heap.size)) args s 0 0 (xA B s.heap.size)) (F0 m (pcl_X1_indexOf lab) ls [])) → ∀ (lab : Nat) (v2 : Int32) (v3 : Int32) (M : Mem), blk_X1_indexOf v1 Q P lab v2 v3 M → ∀ (H : Heap) (locs : List Loc) (ls : Array Slot), xS D (wX ad cy) B s.heap H locs M → lv_has ls 4 (lvl_X1_indexOf ad v1 lab v2 v3 ) → W p l e (headSpec wsX1_indexOf rm_X1_indexOf).room s m args below meth c H locs 0 0 (MQ below (va_Qi (S := Mem) Q (xB D (wX ad cy) B) (xA B s.heap.size)) args s 0 0 (xA B s.heap.size)) (F0 m (pcl_X1_indexOf lab) ls []) := by
    intro P hJ lab v2 v3 M h H locs ls S hl
    match lab, h, hl with
    | 0, h, hl =>
      have hl : lv_has ls 4 [(0, .ref (ad 22)), (1, .int v1)] := hl
      have h : blk_X1_indexOf_0 v1 Q P v2 v3 M := h
      unfold blk_X1_indexOf_0 at h
      refine W.eq (g2 := F0 m 0 ls []) rfl ?_
      refine lv_iconst (v := 0) hx hb dX1_indexOf_0 (by decide) ?_
      refine lv_istore_n (lv' := [(2, .int 0), (0, .ref (ad 22)), (1, .int v1)]) hx hb dX1_indexOf_1 rfl hl (by decide) rfl (fun ls hl => ?_)
      refine lv_sipush (v := 128) hx hb dX1_indexOf_2 (by decide) ?_
      refine lv_istore_n (lv' := [(3, .int 128), (2, .int 0), (0, .ref (ad 22)), (1, .int v1)]) hx hb dX1_indexOf_5 rfl hl (by decide) rfl (fun ls hl => ?_)
      exact hJ _ _ _ _ h _ _ _ S (lv_sub hl [2, 3, 1, 0] rfl)
    | 1, h, hl =>
      have hl : lv_has ls 4 [(0, .ref (ad 22)), (1, .int v1), (2, .int v2), (3, .int v3)] := hl
      have h : blk_X1_indexOf_1 v1 Q P v2 v3 M := h
      unfold blk_X1_indexOf_1 at h
      refine W.eq (g2 := F0 m 6 ls []) rfl ?_
      refine lv_iload_n hx hb dX1_indexOf_6 rfl (lv_at hl 3 rfl) ?_
      refine lv_if_le (tgt := 43) hx hb dX1_indexOf_7 (by decide) (fun c7 => ?_) (fun c7 => ?_)
      · replace h := h.1 c7
        refine lv_aload_n hx hb dX1_indexOf_43 rfl (lv_at hl 0 rfl) ?_
        refine x_getR hx hb hts (hC1) hown hK S 0 (by decide) xf_22_0 (index := 9) (hts _ (List.mem_of_getElem? (i := 2) rfl)) dX1_indexOf_44 ?_
        refine lv_iload_n hx hb dX1_indexOf_47 rfl (lv_at hl 2 rfl) ?_
        refine x_iald hx hb hK S xa_23 h.1 dX1_indexOf_48 ?_
        replace h := h.2
        refine lv_iload_n hx hb dX1_indexOf_49 rfl (lv_at hl 1 rfl) ?_
        refine lv_icmp_ne (tgt := 57) hx hb dX1_indexOf_50 (by decide) (fun c50 => ?_) (fun c50 => ?_)
        · replace h := h.1 c50
          refine lv_bipush (v := (-9)) hx hb dX1_indexOf_57 (by decide) ?_
          exact x_iret hx hb hr hlocks S rfl h dX1_indexOf_59
        · replace h := h.2 c50
          refine lv_iload_n hx hb dX1_indexOf_53 rfl (lv_at hl 2 rfl) ?_
          refine lv_goto (tgt := 59) hx hb dX1_indexOf_54 (by decide) ?_
          exact x_iret hx hb hr hlocks S rfl h dX1_indexOf_59
      · replace h := h.2 c7
        refine lv_iload_n hx hb dX1_indexOf_10 rfl (lv_at hl 2 rfl) ?_
        refine lv_iload_n hx hb dX1_indexOf_11 rfl (lv_at hl 3 rfl) ?_
        refine lv_iadd hx hb dX1_indexOf_12 ?_
        refine lv_aload_n hx hb dX1_indexOf_13 rfl (lv_at hl 0 rfl) ?_
        refine x_getI hx hb hts (hC1) hown hK S 1 (by decide) xf_22_1 (index := 18) (hts _ (List.mem_of_getElem? (i := 1) rfl)) dX1_indexOf_14 ?_
        refine lv_icmp_ge (tgt := 36) hx hb dX1_indexOf_17 (by decide) (fun c17 => ?_) (fun c17 => ?_)
        · replace h := h.1 c17
          exact hJ _ _ _ _ h _ _ _ S (lv_sub hl [0, 1, 2, 3] rfl)
        · replace h := h.2 c17
          refine lv_aload_n hx hb dX1_indexOf_20 rfl (lv_at hl 0 rfl) ?_
          refine x_getR hx hb hts (hC1) hown hK S 0 (by decide) xf_22_0 (index := 9) (hts _ (List.mem_of_getElem? (i := 2) rfl)) dX1_indexOf_21 ?_
          refine lv_iload_n hx hb dX1_indexOf_24 rfl (lv_at hl 2 rfl) ?_
          refine lv_iload_n hx hb dX1_indexOf_25 rfl (lv_at hl 3 rfl) ?_
          refine lv_iadd hx hb dX1_indexOf_26 ?_
          refine x_iald hx hb hK S xa_23 h.1 dX1_indexOf_27 ?_
          replace h := h.2
          refine lv_iload_n hx hb dX1_indexOf_28 rfl (lv_at hl 1 rfl) ?_
          refine lv_icmp_gt (tgt := 36) hx hb dX1_indexOf_29 (by decide) (fun c29 => ?_) (fun c29 => ?_)
          · replace h := h.1 c29
            exact hJ _ _ _ _ h _ _ _ S (lv_sub hl [0, 1, 2, 3] rfl)
          · replace h := h.2 c29
            refine lv_iload_n hx hb dX1_indexOf_32 rfl (lv_at hl 2 rfl) ?_
            refine lv_iload_n hx hb dX1_indexOf_33 rfl (lv_at hl 3 rfl) ?_
            refine lv_iadd hx hb dX1_indexOf_34 ?_
            refine lv_istore_n (lv' := [(2, .int (v2 + v3)), (0, .ref (ad 22)), (1, .int v1), (3, .int v3)]) hx hb dX1_indexOf_35 rfl hl (by decide) rfl (fun ls hl => ?_)
            exact hJ _ _ _ _ h _ _ _ S (lv_sub hl [1, 2, 0, 3] rfl)
    | 2, h, hl =>
      have hl : lv_has ls 4 [(0, .ref (ad 22)), (1, .int v1), (2, .int v2), (3, .int v3)] := hl
      have h : blk_X1_indexOf_2 v1 Q P v2 v3 M := h
      unfold blk_X1_indexOf_2 at h
      refine W.eq (g2 := F0 m 36 ls []) rfl ?_
      refine lv_iload_n hx hb dX1_indexOf_36 rfl (lv_at hl 3 rfl) ?_
      refine lv_iconst (v := 2) hx hb dX1_indexOf_37 (by decide) ?_
      refine lv_idiv hx hb dX1_indexOf_38 (by decide) ?_
      refine lv_istore_n (lv' := [(3, .int (v3 / 2)), (0, .ref (ad 22)), (1, .int v1), (2, .int v2)]) hx hb dX1_indexOf_39 rfl hl (by decide) rfl (fun ls hl => ?_)
      refine lv_goto (tgt := 6) hx hb dX1_indexOf_40 (by decide) ?_
      exact hJ _ _ _ _ h _ _ _ S (lv_sub hl [1, 2, 3, 0] rfl)
    | _ + 3, h, hl => exact h.elim
  have hl := lv_entry ([.ref (ad 22), .int v1]) (n := 4) (Nat.le_of_ble_eq_true rfl)
  subst hargs
  rw [lg_entry_eq]
  generalize (lg_sl ([.ref (ad 22), .int v1]) ++ List.replicate (4 - (lg_sl ([.ref (ad 22), .int v1])).length) Slot.unset).toArray = ls at hl ⊢
  exact h _ (key _ (fun _ _ _ _ h => h)) s.heap [] ls ⟨hP, hD, va_S.rf⟩ hl
/-! X1_findAfter -/
def blk_X1_findAfter_0 (v2 : Int32) (v3 : Int32) (Q : Int32 → Mem → Prop) (P : Nat → Int32 → Mem → Prop) (v4 : Int32) (M : Mem) : Prop :=
  (vp_in v2 256 ∧ wp_X7_isIn v3 (M.1 23 v2.toNatClampNeg) M (fun r1 M1 => ((r1 = 0 → P 1 (-9) M1) ∧ (¬ r1 = 0 → (vp_in v2 256 ∧ wp_X2_fenceAcross v3 (M1.1 23 v2.toNatClampNeg) M1 (fun r2 M2 => P 1 r2 M2))))))
theorem blk_X1_findAfter_0_mono {v2 : Int32} {v3 : Int32} {Q Q' : Int32 → Mem → Prop} {P P' : Nat → Int32 → Mem → Prop} (hQ : ∀ (r : Int32) (M : Mem), Q r M → Q' r M) (hP : ∀ (lab : Nat) (v4 : Int32) (M : Mem), P lab v4 M → P' lab v4 M) (v4 : Int32) (M : Mem) (h : blk_X1_findAfter_0 v2 v3 Q P v4 M) : blk_X1_findAfter_0 v2 v3 Q' P' v4 M := by
  unfold blk_X1_findAfter_0 at h ⊢
  exact ⟨h.1, let h := h.2; wp_X7_isIn_mono (fun r1 M1 h => ⟨fun c => let h := h.1 c; hP _ _ _ h, fun c => let h := h.2 c; ⟨h.1, let h := h.2; wp_X2_fenceAcross_mono (fun r2 M2 h => hP _ _ _ h) h⟩⟩) h⟩
def blk_X1_findAfter_1 (v2 : Int32) (v3 : Int32) (Q : Int32 → Mem → Prop) (P : Nat → Int32 → Mem → Prop) (v4 : Int32) (M : Mem) : Prop :=
  ((¬ v4 = (-9) → (vp_in v2 256 ∧ wp_X1_indexOf (((M.1 23 v2.toNatClampNeg) &&& (((1 : Int32) <<< (v3 &&& 31)) ^^^ ((-1) : Int32))) ||| ((1 : Int32) <<< (v4 &&& 31))) M (fun r3 M3 => Q r3 M3))) ∧ (v4 = (-9) → Q (-9) M))
theorem blk_X1_findAfter_1_mono {v2 : Int32} {v3 : Int32} {Q Q' : Int32 → Mem → Prop} {P P' : Nat → Int32 → Mem → Prop} (hQ : ∀ (r : Int32) (M : Mem), Q r M → Q' r M) (hP : ∀ (lab : Nat) (v4 : Int32) (M : Mem), P lab v4 M → P' lab v4 M) (v4 : Int32) (M : Mem) (h : blk_X1_findAfter_1 v2 v3 Q P v4 M) : blk_X1_findAfter_1 v2 v3 Q' P' v4 M := by
  unfold blk_X1_findAfter_1 at h ⊢
  exact ⟨fun c => let h := h.1 c; ⟨h.1, let h := h.2; wp_X1_indexOf_mono (fun r3 M3 h => hQ _ _ h) h⟩, fun c => let h := h.2 c; hQ _ _ h⟩
def blk_X1_findAfter (v2 : Int32) (v3 : Int32) (Q : Int32 → Mem → Prop) (P : Nat → Int32 → Mem → Prop) : Nat → Int32 → Mem → Prop := fun lab v4 M => match lab with
  | 0 => blk_X1_findAfter_0 v2 v3 Q P v4 M
  | 1 => blk_X1_findAfter_1 v2 v3 Q P v4 M
  | _ => False
theorem blk_X1_findAfter_mono {v2 : Int32} {v3 : Int32} {Q Q' : Int32 → Mem → Prop} {P P' : Nat → Int32 → Mem → Prop} (hQ : ∀ (r : Int32) (M : Mem), Q r M → Q' r M) (hP : ∀ (lab : Nat) (v4 : Int32) (M : Mem), P lab v4 M → P' lab v4 M) : ∀ (lab : Nat) (v4 : Int32) (M : Mem), blk_X1_findAfter v2 v3 Q P lab v4 M → blk_X1_findAfter v2 v3 Q' P' lab v4 M := fun lab v4 M h => match lab, h with
  | 0, h => blk_X1_findAfter_0_mono (v2 := v2) (v3 := v3) hQ hP v4 M h
  | 1, h => blk_X1_findAfter_1_mono (v2 := v2) (v3 := v3) hQ hP v4 M h
  | _ + 2, h => False.elim h
def at_X1_findAfter (v2 : Int32) (v3 : Int32) (Q : Int32 → Mem → Prop) : Nat → Int32 → Mem → Prop := fun lab v4 M => ∀ P : Nat → Int32 → Mem → Prop, (∀ (lab : Nat) (v4 : Int32) (M : Mem), blk_X1_findAfter v2 v3 Q P lab v4 M → P lab v4 M) → P lab v4 M
theorem at_X1_findAfter_fold {v2 : Int32} {v3 : Int32} {Q : Int32 → Mem → Prop} {lab : Nat} {v4 : Int32} {M : Mem} (h : blk_X1_findAfter v2 v3 Q (at_X1_findAfter v2 v3 Q) lab v4 M) : at_X1_findAfter v2 v3 Q lab v4 M := fun P hP => hP _ _ _ (blk_X1_findAfter_mono (fun _ _ h => h) (fun _ _ _ h => h P hP) _ _ _ h)
theorem at_X1_findAfter_mono {v2 : Int32} {v3 : Int32} {Q Q' : Int32 → Mem → Prop} (hQ : ∀ (r : Int32) (M : Mem), Q r M → Q' r M) {lab : Nat} {v4 : Int32} {M : Mem} (h : at_X1_findAfter v2 v3 Q lab v4 M) : at_X1_findAfter v2 v3 Q' lab v4 M := fun P hP => h P (fun lab v4 M hb => hP _ _ _ (blk_X1_findAfter_mono hQ (fun _ _ _ h => h) _ _ _ hb))
def wp_X1_findAfter (v2 : Int32) (v3 : Int32) (M : Mem) (Q : Int32 → Mem → Prop) : Prop := at_X1_findAfter v2 v3 Q 0 0 M
theorem wp_X1_findAfter_mono {v2 : Int32} {v3 : Int32} {M : Mem} {Q Q' : Int32 → Mem → Prop} (hQ : ∀ (r : Int32) (M : Mem), Q r M → Q' r M) (h : wp_X1_findAfter v2 v3 M Q) : wp_X1_findAfter v2 v3 M Q' := at_X1_findAfter_mono hQ h
def pcl_X1_findAfter : Nat → Nat := fun lab => match lab with
  | 0 => 0
  | 1 => 31
  | _ => 0
def lvl_X1_findAfter (ad : Nat → Nat) (v2 : Int32) (v3 : Int32) : Nat → Int32 → List (Nat × Value) := fun lab v4 => match lab with
  | 0 => [(0, .ref (ad 22)), (1, .ref (ad 13)), (2, .int v2), (3, .int v3)]
  | 1 => [(0, .ref (ad 22)), (2, .int v2), (3, .int v3), (4, .int v4)]
  | _ => []
abbrev rm_X1_findAfter : Jvm.Room := { frames := 4, cells := 0, slots := 0, locals := 91 }
set_option maxHeartbeats 4000000 in
set_option maxRecDepth 100000 in
theorem ct_X1_findAfter (l : Launch) (D : va_G) (cy : Nat → ClassId) (ad : Nat → Nat) (B : Nat → Prop) (v2 : Int32) (v3 : Int32) (M : Mem) (Q : Int32 → Mem → Prop) (h : wp_X1_findAfter v2 v3 M Q) : CTi l D cy (wX ad cy) B yX1_findAfter wsX1_findAfter rm_X1_findAfter [.ref (ad 22), .ref (ad 13), .int v2, .int v3] M Q := by
  intro sz
  refine Met.ofW (cc := cX1_findAfter) (maxL := 5) (ret := some .int) (by decide) rfl ?_
  intro p e s m args below meth c s₁ Bd hml hv
  obtain ⟨hargs, hsz, hP, hK, hD⟩ := hv
  subst hsz
  have hx := Bd.exec
  have hb := Bd.bytes
  have hr := Bd.returns
  have hts := atoms_spec (ws := wsX1_findAfter) Bd.pre
  have hown : s.vm.findClass RX1 = some m.cls := findClass_of_methodNamed Bd.named
  have hlocks := Bd.notSynchronized
  have hC1 : xC wsX1_findAfter 1 RX1 TX1 3 := ⟨by decide +kernel, rfl⟩
  have key : ∀ (P : Nat → Int32 → Mem → Prop), (∀ (lab : Nat) (v4 : Int32) (M : Mem), P lab v4 M → ∀ (H : Heap) (locs : List Loc) (ls : Array Slot), xS D (wX ad cy) B s.heap H locs M → lv_has ls 5 (lvl_X1_findAfter ad v2 v3 lab v4 ) → W p l e (headSpec wsX1_findAfter rm_X1_findAfter).room s m args below meth c H locs 0 0 (MQ below (va_Qi (S := Mem) Q (xB D (wX ad cy) B) (xA B s.heap.size)) args s 0 0 (xA B s.heap.size)) (F0 m (pcl_X1_findAfter lab) ls [])) → ∀ (lab : Nat) (v4 : Int32) (M : Mem), blk_X1_findAfter v2 v3 Q P lab v4 M → ∀ (H : Heap) (locs : List Loc) (ls : Array Slot), xS D (wX ad cy) B s.heap H locs M → lv_has ls 5 (lvl_X1_findAfter ad v2 v3 lab v4 ) → W p l e (headSpec wsX1_findAfter rm_X1_findAfter).room s m args below meth c H locs 0 0 (MQ below (va_Qi (S := Mem) Q (xB D (wX ad cy) B) (xA B s.heap.size)) args s 0 0 (xA B s.heap.size)) (F0 m (pcl_X1_findAfter lab) ls []) := by
    intro P hJ lab v4 M h H locs ls S hl
    match lab, h, hl with
    | 0, h, hl =>
      have hl : lv_has ls 5 [(0, .ref (ad 22)), (1, .ref (ad 13)), (2, .int v2), (3, .int v3)] := hl
      have h : blk_X1_findAfter_0 v2 v3 Q P v4 M := h
      unfold blk_X1_findAfter_0 at h
      refine W.eq (g2 := F0 m 0 ls []) rfl ?_
      refine lv_iload_n hx hb dX1_findAfter_0 rfl (lv_at hl 3 rfl) ?_
      refine lv_aload_n hx hb dX1_findAfter_1 rfl (lv_at hl 0 rfl) ?_
      refine x_getR hx hb hts (hC1) hown hK S 0 (by decide) xf_22_0 (index := 9) (hts _ (List.mem_of_getElem? (i := 1) rfl)) dX1_findAfter_2 ?_
      refine lv_iload_n hx hb dX1_findAfter_5 rfl (lv_at hl 2 rfl) ?_
      refine x_iald hx hb hK S xa_23 h.1 dX1_findAfter_6 ?_
      replace h := h.2
      refine x_callNi (As := [.int v3, .int (M.1 23 v2.toNatClampNeg)]) ⟨hx, hb, hml, hown, hts⟩ hK S (ct_X7_isIn l D cy ad B _ _ _ _ h) ⟨va_cnB 2 hts gX1_findAfter_X7_isIn_n46 rfl rfl rfl hK.2 (hts _ (List.mem_of_getElem? (i := 3) rfl)) (by decide +kernel) ⟨Nat.le_of_ble_eq_true rfl, Nat.le_of_ble_eq_true rfl⟩, hts _ (List.mem_of_getElem? (i := 2) rfl), trivial⟩ rfl hl.1 rfl (Nat.le_of_ble_eq_true rfl) dX1_findAfter_7 ⟨Nat.zero_le _, Nat.zero_le _⟩ (fun r1 M1 H locs h S => ?_)
      refine lv_if_eq (tgt := 27) hx hb dX1_findAfter_10 (by decide) (fun c10 => ?_) (fun c10 => ?_)
      · replace h := h.1 c10
        refine lv_bipush (v := (-9)) hx hb dX1_findAfter_27 (by decide) ?_
        refine lv_istore (lv' := [(4, .int (-9)), (0, .ref (ad 22)), (1, .ref (ad 13)), (2, .int v2), (3, .int v3)]) hx hb dX1_findAfter_29 hl (by decide) rfl (fun ls hl => ?_)
        exact hJ _ _ _ h _ _ _ S (lv_sub hl [1, 3, 4, 0] rfl)
      · replace h := h.2 c10
        refine lv_aload_n hx hb dX1_findAfter_13 rfl (lv_at hl 1 rfl) ?_
        refine lv_iload_n hx hb dX1_findAfter_14 rfl (lv_at hl 3 rfl) ?_
        refine lv_aload_n hx hb dX1_findAfter_15 rfl (lv_at hl 0 rfl) ?_
        refine x_getR hx hb hts (hC1) hown hK S 0 (by decide) xf_22_0 (index := 9) (hts _ (List.mem_of_getElem? (i := 1) rfl)) dX1_findAfter_16 ?_
        refine lv_iload_n hx hb dX1_findAfter_19 rfl (lv_at hl 2 rfl) ?_
        refine x_iald hx hb hK S xa_23 h.1 dX1_findAfter_20 ?_
        replace h := h.2
        refine x_callVi (As := [.int v3, .int (M1.1 23 v2.toNatClampNeg)]) ⟨hx, hb, hml, hown, hts⟩ hK S (ct_X2_fenceAcross l D cy ad B _ _ _ _ h) xo_13 rfl (cwV 2 hts gX1_findAfter_X2_fenceAcross rfl rfl rfl (by decide +kernel) ⟨Nat.le_of_ble_eq_true rfl, Nat.le_of_ble_eq_true rfl⟩) rfl hl.1 rfl (Nat.le_of_ble_eq_true rfl) dX1_findAfter_21 ⟨Nat.zero_le _, Nat.zero_le _⟩ (fun r2 M2 H locs h S => ?_)
        refine lv_goto (tgt := 29) hx hb dX1_findAfter_24 (by decide) ?_
        refine lv_istore (lv' := [(4, .int r2), (0, .ref (ad 22)), (1, .ref (ad 13)), (2, .int v2), (3, .int v3)]) hx hb dX1_findAfter_29 hl (by decide) rfl (fun ls hl => ?_)
        exact hJ _ _ _ h _ _ _ S (lv_sub hl [1, 3, 4, 0] rfl)
    | 1, h, hl =>
      have hl : lv_has ls 5 [(0, .ref (ad 22)), (2, .int v2), (3, .int v3), (4, .int v4)] := hl
      have h : blk_X1_findAfter_1 v2 v3 Q P v4 M := h
      unfold blk_X1_findAfter_1 at h
      refine W.eq (g2 := F0 m 31 ls []) rfl ?_
      refine lv_iload hx hb dX1_findAfter_31 (lv_at hl 3 rfl) ?_
      refine lv_bipush (v := (-9)) hx hb dX1_findAfter_33 (by decide) ?_
      refine lv_icmp_ne (tgt := 43) hx hb dX1_findAfter_35 (by decide) (fun c35 => ?_) (fun c35 => ?_)
      · replace h := h.1 c35
        refine lv_aload_n hx hb dX1_findAfter_43 rfl (lv_at hl 0 rfl) ?_
        refine lv_aload_n hx hb dX1_findAfter_44 rfl (lv_at hl 0 rfl) ?_
        refine x_getR hx hb hts (hC1) hown hK S 0 (by decide) xf_22_0 (index := 9) (hts _ (List.mem_of_getElem? (i := 1) rfl)) dX1_findAfter_45 ?_
        refine lv_iload_n hx hb dX1_findAfter_48 rfl (lv_at hl 1 rfl) ?_
        refine x_iald hx hb hK S xa_23 h.1 dX1_findAfter_49 ?_
        replace h := h.2
        refine lv_iconst (v := 1) hx hb dX1_findAfter_50 (by decide) ?_
        refine lv_iload_n hx hb dX1_findAfter_51 rfl (lv_at hl 2 rfl) ?_
        refine lv_ishl hx hb dX1_findAfter_52 ?_
        refine lv_iconst (v := (-1)) hx hb dX1_findAfter_53 (by decide) ?_
        refine lv_ixor hx hb dX1_findAfter_54 ?_
        refine lv_iand hx hb dX1_findAfter_55 ?_
        refine lv_iconst (v := 1) hx hb dX1_findAfter_56 (by decide) ?_
        refine lv_iload hx hb dX1_findAfter_57 (lv_at hl 3 rfl) ?_
        refine lv_ishl hx hb dX1_findAfter_59 ?_
        refine lv_ior hx hb dX1_findAfter_60 ?_
        refine x_callVi (As := [.int (((M.1 23 v2.toNatClampNeg) &&& (((1 : Int32) <<< (v3 &&& 31)) ^^^ ((-1) : Int32))) ||| ((1 : Int32) <<< (v4 &&& 31)))]) ⟨hx, hb, hml, hown, hts⟩ hK S (ct_X1_indexOf l D cy ad B _ _ _ h) xo_22 rfl (cwV 1 hts gX1_findAfter_X1_indexOf rfl rfl rfl (by decide +kernel) ⟨Nat.le_of_ble_eq_true rfl, Nat.le_of_ble_eq_true rfl⟩) rfl hl.1 rfl (Nat.le_of_ble_eq_true rfl) dX1_findAfter_61 ⟨Nat.zero_le _, Nat.zero_le _⟩ (fun r3 M3 H locs h S => ?_)
        exact x_iret hx hb hr hlocks S rfl h dX1_findAfter_64
      · replace h := h.2 c35
        refine lv_bipush (v := (-9)) hx hb dX1_findAfter_38 (by decide) ?_
        refine lv_goto (tgt := 64) hx hb dX1_findAfter_40 (by decide) ?_
        exact x_iret hx hb hr hlocks S rfl h dX1_findAfter_64
    | _ + 2, h, hl => exact h.elim
  have hl := lv_entry ([.ref (ad 22), .ref (ad 13), .int v2, .int v3]) (n := 5) (Nat.le_of_ble_eq_true rfl)
  subst hargs
  rw [lg_entry_eq]
  generalize (lg_sl ([.ref (ad 22), .ref (ad 13), .int v2, .int v3]) ++ List.replicate (5 - (lg_sl ([.ref (ad 22), .ref (ad 13), .int v2, .int v3])).length) Slot.unset).toArray = ls at hl ⊢
  exact h _ (key _ (fun _ _ _ h => h)) s.heap [] ls ⟨hP, hD, va_S.rf⟩ hl
/-! X1_cut -/
def blk_X1_cut_0 (Q : Mem → Prop) (P : Nat → Int32 → Int32 → Mem → Prop) (v2 : Int32) (v3 : Int32) (M : Mem) : Prop :=
  (∃ d : Nat, d ≤ 32 ∧ wp_X1_decide d (((upI M 22 1 0).1 13 4) - 1) 0 0 0 (upI M 22 1 0) (fun M1 => P 1 0 0 M1))
theorem blk_X1_cut_0_mono {Q Q' : Mem → Prop} {P P' : Nat → Int32 → Int32 → Mem → Prop} (hQ : ∀ M : Mem, Q M → Q' M) (hP : ∀ (lab : Nat) (v2 : Int32) (v3 : Int32) (M : Mem), P lab v2 v3 M → P' lab v2 v3 M) (v2 : Int32) (v3 : Int32) (M : Mem) (h : blk_X1_cut_0 Q P v2 v3 M) : blk_X1_cut_0 Q' P' v2 v3 M := by
  unfold blk_X1_cut_0 at h ⊢
  exact let ⟨d, hd, h⟩ := h; ⟨d, hd, wp_X1_decide_mono (fun M1 h => hP _ _ _ _ h) h⟩
def blk_X1_cut_1 (Q : Mem → Prop) (P : Nat → Int32 → Int32 → Mem → Prop) (v2 : Int32) (v3 : Int32) (M : Mem) : Prop :=
  (((M.1 22 1) ≤ v2 → Q M) ∧ (¬ (M.1 22 1) ≤ v2 → P 2 v2 0 M))
theorem blk_X1_cut_1_mono {Q Q' : Mem → Prop} {P P' : Nat → Int32 → Int32 → Mem → Prop} (hQ : ∀ M : Mem, Q M → Q' M) (hP : ∀ (lab : Nat) (v2 : Int32) (v3 : Int32) (M : Mem), P lab v2 v3 M → P' lab v2 v3 M) (v2 : Int32) (v3 : Int32) (M : Mem) (h : blk_X1_cut_1 Q P v2 v3 M) : blk_X1_cut_1 Q' P' v2 v3 M := by
  unfold blk_X1_cut_1 at h ⊢
  exact ⟨fun c => let h := h.1 c; hQ _ h, fun c => let h := h.2 c; hP _ _ _ _ h⟩
def blk_X1_cut_2 (Q : Mem → Prop) (P : Nat → Int32 → Int32 → Mem → Prop) (v2 : Int32) (v3 : Int32) (M : Mem) : Prop :=
  ((28 ≤ v3 → P 1 (v2 + 1) 0 M) ∧ (¬ 28 ≤ v3 → wp_X1_findAfter v2 v3 M (fun r2 M2 => (vp_in ((v2 * 28) + v3) 7168 ∧ P 2 v2 (v3 + 1) (upI M2 24 ((v2 * 28) + v3).toNatClampNeg r2)))))
theorem blk_X1_cut_2_mono {Q Q' : Mem → Prop} {P P' : Nat → Int32 → Int32 → Mem → Prop} (hQ : ∀ M : Mem, Q M → Q' M) (hP : ∀ (lab : Nat) (v2 : Int32) (v3 : Int32) (M : Mem), P lab v2 v3 M → P' lab v2 v3 M) (v2 : Int32) (v3 : Int32) (M : Mem) (h : blk_X1_cut_2 Q P v2 v3 M) : blk_X1_cut_2 Q' P' v2 v3 M := by
  unfold blk_X1_cut_2 at h ⊢
  exact ⟨fun c => let h := h.1 c; hP _ _ _ _ h, fun c => let h := h.2 c; wp_X1_findAfter_mono (fun r2 M2 h => ⟨h.1, let h := h.2; hP _ _ _ _ h⟩) h⟩
def blk_X1_cut (Q : Mem → Prop) (P : Nat → Int32 → Int32 → Mem → Prop) : Nat → Int32 → Int32 → Mem → Prop := fun lab v2 v3 M => match lab with
  | 0 => blk_X1_cut_0 Q P v2 v3 M
  | 1 => blk_X1_cut_1 Q P v2 v3 M
  | 2 => blk_X1_cut_2 Q P v2 v3 M
  | _ => False
theorem blk_X1_cut_mono {Q Q' : Mem → Prop} {P P' : Nat → Int32 → Int32 → Mem → Prop} (hQ : ∀ M : Mem, Q M → Q' M) (hP : ∀ (lab : Nat) (v2 : Int32) (v3 : Int32) (M : Mem), P lab v2 v3 M → P' lab v2 v3 M) : ∀ (lab : Nat) (v2 : Int32) (v3 : Int32) (M : Mem), blk_X1_cut Q P lab v2 v3 M → blk_X1_cut Q' P' lab v2 v3 M := fun lab v2 v3 M h => match lab, h with
  | 0, h => blk_X1_cut_0_mono hQ hP v2 v3 M h
  | 1, h => blk_X1_cut_1_mono hQ hP v2 v3 M h
  | 2, h => blk_X1_cut_2_mono hQ hP v2 v3 M h
  | _ + 3, h => False.elim h
def at_X1_cut (Q : Mem → Prop) : Nat → Int32 → Int32 → Mem → Prop := fun lab v2 v3 M => ∀ P : Nat → Int32 → Int32 → Mem → Prop, (∀ (lab : Nat) (v2 : Int32) (v3 : Int32) (M : Mem), blk_X1_cut Q P lab v2 v3 M → P lab v2 v3 M) → P lab v2 v3 M
theorem at_X1_cut_fold {Q : Mem → Prop} {lab : Nat} {v2 : Int32} {v3 : Int32} {M : Mem} (h : blk_X1_cut Q (at_X1_cut Q) lab v2 v3 M) : at_X1_cut Q lab v2 v3 M := fun P hP => hP _ _ _ _ (blk_X1_cut_mono (fun _ h => h) (fun _ _ _ _ h => h P hP) _ _ _ _ h)
theorem at_X1_cut_mono {Q Q' : Mem → Prop} (hQ : ∀ M : Mem, Q M → Q' M) {lab : Nat} {v2 : Int32} {v3 : Int32} {M : Mem} (h : at_X1_cut Q lab v2 v3 M) : at_X1_cut Q' lab v2 v3 M := fun P hP => h P (fun lab v2 v3 M hb => hP _ _ _ _ (blk_X1_cut_mono hQ (fun _ _ _ _ h => h) _ _ _ _ hb))
def wp_X1_cut (M : Mem) (Q : Mem → Prop) : Prop := at_X1_cut Q 0 0 0 M
theorem wp_X1_cut_mono {M : Mem} {Q Q' : Mem → Prop} (hQ : ∀ M : Mem, Q M → Q' M) (h : wp_X1_cut M Q) : wp_X1_cut M Q' := at_X1_cut_mono hQ h
def pcl_X1_cut : Nat → Nat := fun lab => match lab with
  | 0 => 0
  | 1 => 21
  | 2 => 31
  | _ => 0
def lvl_X1_cut (ad : Nat → Nat) : Nat → Int32 → Int32 → List (Nat × Value) := fun lab v2 v3 => match lab with
  | 0 => [(0, .ref (ad 22)), (1, .ref (ad 13))]
  | 1 => [(0, .ref (ad 22)), (1, .ref (ad 13)), (2, .int v2)]
  | 2 => [(0, .ref (ad 22)), (1, .ref (ad 13)), (2, .int v2), (3, .int v3)]
  | _ => []
abbrev rm_X1_cut : Jvm.Room := { frames := 36, cells := 0, slots := 0, locals := 983 }
set_option maxHeartbeats 4000000 in
set_option maxRecDepth 100000 in
theorem ct_X1_cut (l : Launch) (D : va_G) (cy : Nat → ClassId) (ad : Nat → Nat) (B : Nat → Prop) (M : Mem) (Q : Mem → Prop) (h : wp_X1_cut M Q) : CTv l D cy (wX ad cy) B yX1_cut wsX1_cut rm_X1_cut [.ref (ad 22), .ref (ad 13)] M Q := by
  intro sz
  refine Met.ofW (cc := cX1_cut) (maxL := 4) (ret := none) (by decide) rfl ?_
  intro p e s m args below meth c s₁ Bd hml hv
  obtain ⟨hargs, hsz, hP, hK, hD⟩ := hv
  subst hsz
  have hx := Bd.exec
  have hb := Bd.bytes
  have hr := Bd.returns
  have hts := atoms_spec (ws := wsX1_cut) Bd.pre
  have hown : s.vm.findClass RX1 = some m.cls := findClass_of_methodNamed Bd.named
  have hlocks := Bd.notSynchronized
  have hC1 : xC wsX1_cut 1 RX1 TX1 3 := ⟨by decide +kernel, rfl⟩
  have hC2 : xC wsX1_cut 2 RX2 TX2 8 := ⟨by decide +kernel, rfl⟩
  have key : ∀ (P : Nat → Int32 → Int32 → Mem → Prop), (∀ (lab : Nat) (v2 : Int32) (v3 : Int32) (M : Mem), P lab v2 v3 M → ∀ (H : Heap) (locs : List Loc) (ls : Array Slot), xS D (wX ad cy) B s.heap H locs M → lv_has ls 4 (lvl_X1_cut ad lab v2 v3 ) → W p l e (headSpec wsX1_cut rm_X1_cut).room s m args below meth c H locs 0 0 (MQ below (va_Qv (S := Mem) Q (xB D (wX ad cy) B) (xA B s.heap.size)) args s 0 0 (xA B s.heap.size)) (F0 m (pcl_X1_cut lab) ls [])) → ∀ (lab : Nat) (v2 : Int32) (v3 : Int32) (M : Mem), blk_X1_cut Q P lab v2 v3 M → ∀ (H : Heap) (locs : List Loc) (ls : Array Slot), xS D (wX ad cy) B s.heap H locs M → lv_has ls 4 (lvl_X1_cut ad lab v2 v3 ) → W p l e (headSpec wsX1_cut rm_X1_cut).room s m args below meth c H locs 0 0 (MQ below (va_Qv (S := Mem) Q (xB D (wX ad cy) B) (xA B s.heap.size)) args s 0 0 (xA B s.heap.size)) (F0 m (pcl_X1_cut lab) ls []) := by
    intro P hJ lab v2 v3 M h H locs ls S hl
    match lab, h, hl with
    | 0, h, hl =>
      have hl : lv_has ls 4 [(0, .ref (ad 22)), (1, .ref (ad 13))] := hl
      have h : blk_X1_cut_0 Q P v2 v3 M := h
      unfold blk_X1_cut_0 at h
      refine W.eq (g2 := F0 m 0 ls []) rfl ?_
      refine lv_aload_n hx hb dX1_cut_0 rfl (lv_at hl 0 rfl) ?_
      refine lv_iconst (v := 0) hx hb dX1_cut_1 (by decide) ?_
      refine x_putI hx hb hts (hC1) tyX1 tyX1_ok nmX1 hown hK S 1 (by decide) xf_22_1 (index := 18) (hts _ (List.mem_of_getElem? (i := 1) rfl)) rfl rfl rfl dX1_cut_2 (fun H locs S => ?_)
      refine lv_aload_n hx hb dX1_cut_5 rfl (lv_at hl 0 rfl) ?_
      refine lv_aload_n hx hb dX1_cut_6 rfl (lv_at hl 1 rfl) ?_
      refine lv_aload_n hx hb dX1_cut_7 rfl (lv_at hl 1 rfl) ?_
      refine x_getI hx hb hts (hC2) hown hK S 4 (by decide) xf_13_4 (index := 22) (hts _ (List.mem_of_getElem? (i := 2) rfl)) dX1_cut_8 ?_
      refine lv_iconst (v := 1) hx hb dX1_cut_11 (by decide) ?_
      refine lv_isub hx hb dX1_cut_12 ?_
      refine lv_iconst (v := 0) hx hb dX1_cut_13 (by decide) ?_
      refine lv_iconst (v := 0) hx hb dX1_cut_14 (by decide) ?_
      refine lv_iconst (v := 0) hx hb dX1_cut_15 (by decide) ?_
      obtain ⟨d, hd, h⟩ := h
      refine x_callSv (As := [.ref (ad 22), .ref (ad 13), .int (((upI M 22 1 0).1 13 4) - 1), .int 0, .int 0, .int 0]) ⟨hx, hb, hml, hown, hts⟩ hK S (ct_X1_decide l D cy ad B d _ _ _ _ _ _ h) (va_cwS 6 hts gX1_cut_X1_decide rfl rfl rfl (by decide +kernel) ⟨by show 3 + d + 1 ≤ 36; omega, by show 8 + (9 + 11) + (59 + 28 * d) ≤ 983; omega⟩) rfl hl.1 rfl (Nat.le_of_ble_eq_true rfl) dX1_cut_16 ⟨Nat.zero_le _, Nat.zero_le _⟩ (fun M1 H locs h S => ?_)
      refine lv_iconst (v := 0) hx hb dX1_cut_19 (by decide) ?_
      refine lv_istore_n (lv' := [(2, .int 0), (0, .ref (ad 22)), (1, .ref (ad 13))]) hx hb dX1_cut_20 rfl hl (by decide) rfl (fun ls hl => ?_)
      exact hJ _ _ _ _ h _ _ _ S (lv_sub hl [1, 2, 0] rfl)
    | 1, h, hl =>
      have hl : lv_has ls 4 [(0, .ref (ad 22)), (1, .ref (ad 13)), (2, .int v2)] := hl
      have h : blk_X1_cut_1 Q P v2 v3 M := h
      unfold blk_X1_cut_1 at h
      refine W.eq (g2 := F0 m 21 ls []) rfl ?_
      refine lv_iload_n hx hb dX1_cut_21 rfl (lv_at hl 2 rfl) ?_
      refine lv_aload_n hx hb dX1_cut_22 rfl (lv_at hl 0 rfl) ?_
      refine x_getI hx hb hts (hC1) hown hK S 1 (by decide) xf_22_1 (index := 18) (hts _ (List.mem_of_getElem? (i := 1) rfl)) dX1_cut_23 ?_
      refine lv_icmp_ge (tgt := 67) hx hb dX1_cut_26 (by decide) (fun c26 => ?_) (fun c26 => ?_)
      · replace h := h.1 c26
        exact x_vret hx hb hr hlocks S h dX1_cut_67
      · replace h := h.2 c26
        refine lv_iconst (v := 0) hx hb dX1_cut_29 (by decide) ?_
        refine lv_istore_n (lv' := [(3, .int 0), (0, .ref (ad 22)), (1, .ref (ad 13)), (2, .int v2)]) hx hb dX1_cut_30 rfl hl (by decide) rfl (fun ls hl => ?_)
        exact hJ _ _ _ _ h _ _ _ S (lv_sub hl [1, 2, 3, 0] rfl)
    | 2, h, hl =>
      have hl : lv_has ls 4 [(0, .ref (ad 22)), (1, .ref (ad 13)), (2, .int v2), (3, .int v3)] := hl
      have h : blk_X1_cut_2 Q P v2 v3 M := h
      unfold blk_X1_cut_2 at h
      refine W.eq (g2 := F0 m 31 ls []) rfl ?_
      refine lv_iload_n hx hb dX1_cut_31 rfl (lv_at hl 3 rfl) ?_
      refine lv_bipush (v := 28) hx hb dX1_cut_32 (by decide) ?_
      refine lv_icmp_ge (tgt := 61) hx hb dX1_cut_34 (by decide) (fun c34 => ?_) (fun c34 => ?_)
      · replace h := h.1 c34
        refine lv_iinc (v := (v2 + 1)) (lv' := [(2, .int (v2 + 1)), (0, .ref (ad 22)), (1, .ref (ad 13)), (3, .int v3)]) hx hb dX1_cut_61 hl (k := 2) rfl rfl (by decide) rfl (fun ls hl => ?_)
        refine lv_goto (tgt := 21) hx hb dX1_cut_64 (by decide) ?_
        exact hJ _ _ _ _ h _ _ _ S (lv_sub hl [1, 2, 0] rfl)
      · replace h := h.2 c34
        refine lv_aload_n hx hb dX1_cut_37 rfl (lv_at hl 0 rfl) ?_
        refine x_getR hx hb hts (hC1) hown hK S 2 (by decide) xf_22_2 (index := 15) (hts _ (List.mem_of_getElem? (i := 3) rfl)) dX1_cut_38 ?_
        refine lv_iload_n hx hb dX1_cut_41 rfl (lv_at hl 2 rfl) ?_
        refine lv_bipush (v := 28) hx hb dX1_cut_42 (by decide) ?_
        refine lv_imul hx hb dX1_cut_44 ?_
        refine lv_iload_n hx hb dX1_cut_45 rfl (lv_at hl 3 rfl) ?_
        refine lv_iadd hx hb dX1_cut_46 ?_
        refine lv_aload_n hx hb dX1_cut_47 rfl (lv_at hl 0 rfl) ?_
        refine lv_aload_n hx hb dX1_cut_48 rfl (lv_at hl 1 rfl) ?_
        refine lv_iload_n hx hb dX1_cut_49 rfl (lv_at hl 2 rfl) ?_
        refine lv_iload_n hx hb dX1_cut_50 rfl (lv_at hl 3 rfl) ?_
        refine x_callVi (As := [.ref (ad 13), .int v2, .int v3]) ⟨hx, hb, hml, hown, hts⟩ hK S (ct_X1_findAfter l D cy ad B _ _ _ _ h) xo_22 rfl (cwV 3 hts gX1_cut_X1_findAfter rfl rfl rfl (by decide +kernel) ⟨Nat.le_of_ble_eq_true rfl, Nat.le_of_ble_eq_true rfl⟩) rfl hl.1 rfl (Nat.le_of_ble_eq_true rfl) dX1_cut_51 ⟨Nat.zero_le _, Nat.zero_le _⟩ (fun r2 M2 H locs h S => ?_)
        refine x_iast hx hb hK S xa_24 h.1 dX1_cut_54 (fun H locs S => ?_)
        replace h := h.2
        refine lv_iinc (v := (v3 + 1)) (lv' := [(3, .int (v3 + 1)), (0, .ref (ad 22)), (1, .ref (ad 13)), (2, .int v2)]) hx hb dX1_cut_55 hl (k := 3) rfl rfl (by decide) rfl (fun ls hl => ?_)
        refine lv_goto (tgt := 31) hx hb dX1_cut_58 (by decide) ?_
        exact hJ _ _ _ _ h _ _ _ S (lv_sub hl [1, 2, 3, 0] rfl)
    | _ + 3, h, hl => exact h.elim
  have hl := lv_entry ([.ref (ad 22), .ref (ad 13)]) (n := 4) (Nat.le_of_ble_eq_true rfl)
  subst hargs
  rw [lg_entry_eq]
  generalize (lg_sl ([.ref (ad 22), .ref (ad 13)]) ++ List.replicate (4 - (lg_sl ([.ref (ad 22), .ref (ad 13)])).length) Slot.unset).toArray = ls at hl ⊢
  exact h _ (key _ (fun _ _ _ _ h => h)) s.heap [] ls ⟨hP, hD, va_S.rf⟩ hl
