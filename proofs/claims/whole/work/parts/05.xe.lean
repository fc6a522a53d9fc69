/-! X0_rankThem -/
def blk_X0_rankThem_0 (Q : Mem → Prop) (P : Nat → Int32 → Int32 → Mem → Prop) (v2 : Int32) (v3 : Int32) (M : Mem) : Prop :=
  P 1 0 0 (upI M 25 2 0)
theorem blk_X0_rankThem_0_mono {Q Q' : Mem → Prop} {P P' : Nat → Int32 → Int32 → Mem → Prop} (hQ : ∀ M : Mem, Q M → Q' M) (hP : ∀ (lab : Nat) (v2 : Int32) (v3 : Int32) (M : Mem), P lab v2 v3 M → P' lab v2 v3 M) (v2 : Int32) (v3 : Int32) (M : Mem) (h : blk_X0_rankThem_0 Q P v2 v3 M) : blk_X0_rankThem_0 Q' P' v2 v3 M := by
  unfold blk_X0_rankThem_0 at h ⊢
  exact hP _ _ _ _ h
def blk_X0_rankThem_1 (Q : Mem → Prop) (P : Nat → Int32 → Int32 → Mem → Prop) (v2 : Int32) (v3 : Int32) (M : Mem) : Prop :=
  (((M.1 22 1) ≤ v2 → Q M) ∧ (¬ (M.1 22 1) ≤ v2 → (vp_in v2 256 ∧ (vp_in v2 256 ∧ ∀ x3_1 : Int32, x3_1 = ((upI M 27 v2.toNatClampNeg (-9)).1 23 v2.toNatClampNeg) → ((¬ (x3_1 &&& ((upI M 27 v2.toNatClampNeg (-9)).1 25 3)) = ((upI M 27 v2.toNatClampNeg (-9)).1 25 3) → P 2 v2 0 (upI M 27 v2.toNatClampNeg (-9))) ∧ ((x3_1 &&& ((upI M 27 v2.toNatClampNeg (-9)).1 25 3)) = ((upI M 27 v2.toNatClampNeg (-9)).1 25 3) → ((¬ (x3_1 &&& ((upI M 27 v2.toNatClampNeg (-9)).1 25 4)) = 0 → P 2 v2 0 (upI M 27 v2.toNatClampNeg (-9))) ∧ ((x3_1 &&& ((upI M 27 v2.toNatClampNeg (-9)).1 25 4)) = 0 → (vp_in v2 256 ∧ (vp_in ((upI (upI M 27 v2.toNatClampNeg (-9)) 27 v2.toNatClampNeg ((upI M 27 v2.toNatClampNeg (-9)).1 25 2)).1 25 2) 256 ∧ P 2 v2 0 (upI (upI (upI (upI M 27 v2.toNatClampNeg (-9)) 27 v2.toNatClampNeg ((upI M 27 v2.toNatClampNeg (-9)).1 25 2)) 26 ((upI (upI M 27 v2.toNatClampNeg (-9)) 27 v2.toNatClampNeg ((upI M 27 v2.toNatClampNeg (-9)).1 25 2)).1 25 2).toNatClampNeg v2) 25 2 (((upI (upI (upI M 27 v2.toNatClampNeg (-9)) 27 v2.toNatClampNeg ((upI M 27 v2.toNatClampNeg (-9)).1 25 2)) 26 ((upI (upI M 27 v2.toNatClampNeg (-9)) 27 v2.toNatClampNeg ((upI M 27 v2.toNatClampNeg (-9)).1 25 2)).1 25 2).toNatClampNeg v2).1 25 2) + 1))))))))))))
theorem blk_X0_rankThem_1_mono {Q Q' : Mem → Prop} {P P' : Nat → Int32 → Int32 → Mem → Prop} (hQ : ∀ M : Mem, Q M → Q' M) (hP : ∀ (lab : Nat) (v2 : Int32) (v3 : Int32) (M : Mem), P lab v2 v3 M → P' lab v2 v3 M) (v2 : Int32) (v3 : Int32) (M : Mem) (h : blk_X0_rankThem_1 Q P v2 v3 M) : blk_X0_rankThem_1 Q' P' v2 v3 M := by
  unfold blk_X0_rankThem_1 at h ⊢
  exact ⟨fun c => let h := h.1 c; hQ _ h, fun c => let h := h.2 c; ⟨h.1, let h := h.2; ⟨h.1, let h := h.2; fun x3_1 ex3_1 => let h := h x3_1 ex3_1; ⟨fun c => let h := h.1 c; hP _ _ _ _ h, fun c => let h := h.2 c; ⟨fun c => let h := h.1 c; hP _ _ _ _ h, fun c => let h := h.2 c; ⟨h.1, let h := h.2; ⟨h.1, let h := h.2; hP _ _ _ _ h⟩⟩⟩⟩⟩⟩⟩
def blk_X0_rankThem_2 (Q : Mem → Prop) (P : Nat → Int32 → Int32 → Mem → Prop) (v2 : Int32) (v3 : Int32) (M : Mem) : Prop :=
  P 1 (v2 + 1) 0 M
theorem blk_X0_rankThem_2_mono {Q Q' : Mem → Prop} {P P' : Nat → Int32 → Int32 → Mem → Prop} (hQ : ∀ M : Mem, Q M → Q' M) (hP : ∀ (lab : Nat) (v2 : Int32) (v3 : Int32) (M : Mem), P lab v2 v3 M → P' lab v2 v3 M) (v2 : Int32) (v3 : Int32) (M : Mem) (h : blk_X0_rankThem_2 Q P v2 v3 M) : blk_X0_rankThem_2 Q' P' v2 v3 M := by
  unfold blk_X0_rankThem_2 at h ⊢
  exact hP _ _ _ _ h
def blk_X0_rankThem (Q : Mem → Prop) (P : Nat → Int32 → Int32 → Mem → Prop) : Nat → Int32 → Int32 → Mem → Prop := fun lab v2 v3 M => match lab with
  | 0 => blk_X0_rankThem_0 Q P v2 v3 M
  | 1 => blk_X0_rankThem_1 Q P v2 v3 M
  | 2 => blk_X0_rankThem_2 Q P v2 v3 M
  | _ => False
theorem blk_X0_rankThem_mono {Q Q' : Mem → Prop} {P P' : Nat → Int32 → Int32 → Mem → Prop} (hQ : ∀ M : Mem, Q M → Q' M) (hP : ∀ (lab : Nat) (v2 : Int32) (v3 : Int32) (M : Mem), P lab v2 v3 M → P' lab v2 v3 M) : ∀ (lab : Nat) (v2 : Int32) (v3 : Int32) (M : Mem), blk_X0_rankThem Q P lab v2 v3 M → blk_X0_rankThem Q' P' lab v2 v3 M := fun lab v2 v3 M h => match lab, h with
  | 0, h => blk_X0_rankThem_0_mono hQ hP v2 v3 M h
  | 1, h => blk_X0_rankThem_1_mono hQ hP v2 v3 M h
  | 2, h => blk_X0_rankThem_2_mono hQ hP v2 v3 M h
  | _ + 3, h => False.elim h
def at_X0_rankThem (Q : Mem → Prop) : Nat → Int32 → Int32 → Mem → Prop := fun lab v2 v3 M => ∀ P : Nat → Int32 → Int32 → Mem → Prop, (∀ (lab : Nat) (v2 : Int32) (v3 : Int32) (M : Mem), blk_X0_rankThem Q P lab v2 v3 M → P lab v2 v3 M) → P lab v2 v3 M
theorem at_X0_rankThem_fold {Q : Mem → Prop} {lab : Nat} {v2 : Int32} {v3 : Int32} {M : Mem} (h : blk_X0_rankThem Q (at_X0_rankThem Q) lab v2 v3 M) : at_X0_rankThem Q lab v2 v3 M := fun P hP => hP _ _ _ _ (blk_X0_rankThem_mono (fun _ h => h) (fun _ _ _ _ h => h P hP) _ _ _ _ h)
theorem at_X0_rankThem_mono {Q Q' : Mem → Prop} (hQ : ∀ M : Mem, Q M → Q' M) {lab : Nat} {v2 : Int32} {v3 : Int32} {M : Mem} (h : at_X0_rankThem Q lab v2 v3 M) : at_X0_rankThem Q' lab v2 v3 M := fun P hP => h P (fun lab v2 v3 M hb => hP _ _ _ _ (blk_X0_rankThem_mono hQ (fun _ _ _ _ h => h) _ _ _ _ hb))
def wp_X0_rankThem (M : Mem) (Q : Mem → Prop) : Prop := at_X0_rankThem Q 0 0 0 M
theorem wp_X0_rankThem_mono {M : Mem} {Q Q' : Mem → Prop} (hQ : ∀ M : Mem, Q M → Q' M) (h : wp_X0_rankThem M Q) : wp_X0_rankThem M Q' := at_X0_rankThem_mono hQ h
def pcl_X0_rankThem : Nat → Nat := fun lab => match lab with
  | 0 => 0
  | 1 => 7
  | 2 => 82
  | _ => 0
def lvl_X0_rankThem (ad : Nat → Nat) : Nat → Int32 → Int32 → List (Nat × Value) := fun lab v2 v3 => match lab with
  | 0 => [(0, .ref (ad 25)), (1, .ref (ad 22))]
  | 1 => [(0, .ref (ad 25)), (1, .ref (ad 22)), (2, .int v2)]
  | 2 => [(0, .ref (ad 25)), (1, .ref (ad 22)), (2, .int v2)]
  | _ => []
abbrev rm_X0_rankThem : Jvm.Room := { frames := 1, cells := 0, slots := 0, locals := 15 }
set_option maxHeartbeats 4000000 in
set_option maxRecDepth 100000 in
theorem ct_X0_rankThem (l : Launch) (D : va_G) (cy : Nat → ClassId) (ad : Nat → Nat) (B : Nat → Prop) (M : Mem) (Q : Mem → Prop) (h : wp_X0_rankThem M Q) : CTv l D cy (wX ad cy) B yX0_rankThem wsX0_rankThem rm_X0_rankThem [.ref (ad 25), .ref (ad 22)] M Q := by
  intro sz
  refine Met.ofW (cc := cX0_rankThem) (maxL := 4) (ret := none) (by decide) rfl ?_
  intro p e s m args below meth c s₁ Bd hml hv
  obtain ⟨hargs, hsz, hP, hK, hD⟩ := hv
  subst hsz
  have hx := Bd.exec
  have hb := Bd.bytes
  have hr := Bd.returns
  have hts := atoms_spec (ws := wsX0_rankThem) Bd.pre
  have hown : s.vm.findClass RX0 = some m.cls := findClass_of_methodNamed Bd.named
  have hlocks := Bd.notSynchronized
  have hC0 : xC wsX0_rankThem 0 RX0 TX0 5 := ⟨by decide +kernel, rfl⟩
  have hC1 : xC wsX0_rankThem 1 RX1 TX1 3 := ⟨by decide +kernel, rfl⟩
  have key : ∀ (P : Nat → Int32 → Int32 → Mem → Prop), (∀ (lab : Nat) (v2 : Int32) (v3 : Int32) (M : Mem), P lab v2 v3 M → ∀ (H : Heap) (locs : List Loc) (ls : Array Slot), xS D (wX ad cy) B s.heap H locs M → lv_has ls 4 (lvl_X0_rankThem ad lab v2 v3 ) → W p l e (headSpec wsX0_rankThem rm_X0_rankThem).room s m args below meth c H locs 0 0 (MQ below (va_Qv (S := Mem) Q (xB D (wX ad cy) B) (xA B s.heap.size)) args s 0 0 (xA B s.heap.size)) (F0 m (pcl_X0_rankThem lab) ls [])) → ∀ (lab : Nat) (v2 : Int32) (v3 : Int32) (M : Mem), blk_X0_rankThem Q P lab v2 v3 M → ∀ (H : Heap) (locs : List Loc) (ls : Array Slot), xS D (wX ad cy) B s.heap H locs M → lv_has ls 4 (lvl_X0_rankThem ad lab v2 v3 ) → W p l e (headSpec wsX0_rankThem rm_X0_rankThem).room s m args below meth c H locs 0 0 (MQ below (va_Qv (S := Mem) Q (xB D (wX ad cy) B) (xA B s.heap.size)) args s 0 0 (xA B s.heap.size)) (F0 m (pcl_X0_rankThem lab) ls []) := by
    intro P hJ lab v2 v3 M h H locs ls S hl
    match lab, h, hl with
    | 0, h, hl =>
      have hl : lv_has ls 4 [(0, .ref (ad 25)), (1, .ref (ad 22))] := hl
      have h : blk_X0_rankThem_0 Q P v2 v3 M := h
      unfold blk_X0_rankThem_0 at h
      refine W.eq (g2 := F0 m 0 ls []) rfl ?_
      refine lv_aload_n hx hb dX0_rankThem_0 rfl (lv_at hl 0 rfl) ?_
      refine lv_iconst (v := 0) hx hb dX0_rankThem_1 (by decide) ?_
      refine x_putI hx hb hts (hC0) tyX0 tyX0_ok nmX0 hown hK S 2 (by decide) xf_25_2 (index := 29) (hts _ (List.mem_of_getElem? (i := 1) rfl)) rfl rfl rfl dX0_rankThem_2 (fun H locs S => ?_)
      refine lv_iconst (v := 0) hx hb dX0_rankThem_5 (by decide) ?_
      refine lv_istore_n (lv' := [(2, .int 0), (0, .ref (ad 25)), (1, .ref (ad 22))]) hx hb dX0_rankThem_6 rfl hl (by decide) rfl (fun ls hl => ?_)
      exact hJ _ _ _ _ h _ _ _ S (lv_sub hl [1, 2, 0] rfl)
    | 1, h, hl =>
      have hl : lv_has ls 4 [(0, .ref (ad 25)), (1, .ref (ad 22)), (2, .int v2)] := hl
      have h : blk_X0_rankThem_1 Q P v2 v3 M := h
      unfold blk_X0_rankThem_1 at h
      refine W.eq (g2 := F0 m 7 ls []) rfl ?_
      refine lv_iload_n hx hb dX0_rankThem_7 rfl (lv_at hl 2 rfl) ?_
      refine lv_aload_n hx hb dX0_rankThem_8 rfl (lv_at hl 1 rfl) ?_
      refine x_getI hx hb hts (hC1) hown hK S 1 (by decide) xf_22_1 (index := 32) (hts _ (List.mem_of_getElem? (i := 2) rfl)) dX0_rankThem_9 ?_
      refine lv_icmp_ge (tgt := 88) hx hb dX0_rankThem_12 (by decide) (fun c12 => ?_) (fun c12 => ?_)
      · replace h := h.1 c12
        exact x_vret hx hb hr hlocks S h dX0_rankThem_88
      · replace h := h.2 c12
        refine lv_aload_n hx hb dX0_rankThem_15 rfl (lv_at hl 0 rfl) ?_
        refine x_getR hx hb hts (hC0) hown hK S 1 (by decide) xf_25_1 (index := 15) (hts _ (List.mem_of_getElem? (i := 3) rfl)) dX0_rankThem_16 ?_
        refine lv_iload_n hx hb dX0_rankThem_19 rfl (lv_at hl 2 rfl) ?_
        refine lv_bipush (v := (-9)) hx hb dX0_rankThem_20 (by decide) ?_
        refine x_iast hx hb hK S xa_27 h.1 dX0_rankThem_22 (fun H locs S => ?_)
        replace h := h.2
        refine lv_aload_n hx hb dX0_rankThem_23 rfl (lv_at hl 1 rfl) ?_
        refine x_getR hx hb hts (hC1) hown hK S 0 (by decide) xf_22_0 (index := 35) (hts _ (List.mem_of_getElem? (i := 4) rfl)) dX0_rankThem_24 ?_
        refine lv_iload_n hx hb dX0_rankThem_27 rfl (lv_at hl 2 rfl) ?_
        refine x_iald hx hb hK S xa_23 h.1 dX0_rankThem_28 ?_
        replace h := h.2
        refine lv_topi (fun x3_1 ex3_1 => ?_)
        replace h := h x3_1 ex3_1
        refine lv_istore_n (lv' := [(3, .int x3_1), (0, .ref (ad 25)), (1, .ref (ad 22)), (2, .int v2)]) hx hb dX0_rankThem_29 rfl hl (by decide) rfl (fun ls hl => ?_)
        refine lv_iload_n hx hb dX0_rankThem_30 rfl (lv_at hl 0 rfl) ?_
        refine lv_aload_n hx hb dX0_rankThem_31 rfl (lv_at hl 1 rfl) ?_
        refine x_getI hx hb hts (hC0) hown hK S 3 (by decide) xf_25_3 (index := 18) (hts _ (List.mem_of_getElem? (i := 5) rfl)) dX0_rankThem_32 ?_
        refine lv_iand hx hb dX0_rankThem_35 ?_
        refine lv_aload_n hx hb dX0_rankThem_36 rfl (lv_at hl 1 rfl) ?_
        refine x_getI hx hb hts (hC0) hown hK S 3 (by decide) xf_25_3 (index := 18) (hts _ (List.mem_of_getElem? (i := 5) rfl)) dX0_rankThem_37 ?_
        refine lv_icmp_ne (tgt := 82) hx hb dX0_rankThem_40 (by decide) (fun c40 => ?_) (fun c40 => ?_)
        · replace h := h.1 c40
          exact hJ _ _ _ _ h _ _ _ S (lv_sub hl [1, 2, 3] rfl)
        · replace h := h.2 c40
          refine lv_iload_n hx hb dX0_rankThem_43 rfl (lv_at hl 0 rfl) ?_
          refine lv_aload_n hx hb dX0_rankThem_44 rfl (lv_at hl 1 rfl) ?_
          refine x_getI hx hb hts (hC0) hown hK S 4 (by decide) xf_25_4 (index := 22) (hts _ (List.mem_of_getElem? (i := 6) rfl)) dX0_rankThem_45 ?_
          refine lv_iand hx hb dX0_rankThem_48 ?_
          refine lv_if_ne (tgt := 82) hx hb dX0_rankThem_49 (by decide) (fun c49 => ?_) (fun c49 => ?_)
          · replace h := h.1 c49
            exact hJ _ _ _ _ h _ _ _ S (lv_sub hl [1, 2, 3] rfl)
          · replace h := h.2 c49
            refine lv_aload_n hx hb dX0_rankThem_52 rfl (lv_at hl 1 rfl) ?_
            refine x_getR hx hb hts (hC0) hown hK S 1 (by decide) xf_25_1 (index := 15) (hts _ (List.mem_of_getElem? (i := 3) rfl)) dX0_rankThem_53 ?_
            refine lv_iload_n hx hb dX0_rankThem_56 rfl (lv_at hl 3 rfl) ?_
            refine lv_aload_n hx hb dX0_rankThem_57 rfl (lv_at hl 1 rfl) ?_
            refine x_getI hx hb hts (hC0) hown hK S 2 (by decide) xf_25_2 (index := 29) (hts _ (List.mem_of_getElem? (i := 1) rfl)) dX0_rankThem_58 ?_
            refine x_iast hx hb hK S xa_27 h.1 dX0_rankThem_61 (fun H locs S => ?_)
            replace h := h.2
            refine lv_aload_n hx hb dX0_rankThem_62 rfl (lv_at hl 1 rfl) ?_
            refine x_getR hx hb hts (hC0) hown hK S 0 (by decide) xf_25_0 (index := 9) (hts _ (List.mem_of_getElem? (i := 7) rfl)) dX0_rankThem_63 ?_
            refine lv_aload_n hx hb dX0_rankThem_66 rfl (lv_at hl 1 rfl) ?_
            refine x_getI hx hb hts (hC0) hown hK S 2 (by decide) xf_25_2 (index := 29) (hts _ (List.mem_of_getElem? (i := 1) rfl)) dX0_rankThem_67 ?_
            refine lv_iload_n hx hb dX0_rankThem_70 rfl (lv_at hl 3 rfl) ?_
            refine x_iast hx hb hK S xa_26 h.1 dX0_rankThem_71 (fun H locs S => ?_)
            replace h := h.2
            refine lv_aload_n hx hb dX0_rankThem_72 rfl (lv_at hl 1 rfl) ?_
            refine lv_dup hx hb dX0_rankThem_73 rfl ?_
            refine x_getI hx hb hts (hC0) hown hK S 2 (by decide) xf_25_2 (index := 29) (hts _ (List.mem_of_getElem? (i := 1) rfl)) dX0_rankThem_74 ?_
            refine lv_iconst (v := 1) hx hb dX0_rankThem_77 (by decide) ?_
            refine lv_iadd hx hb dX0_rankThem_78 ?_
            refine x_putI hx hb hts (hC0) tyX0 tyX0_ok nmX0 hown hK S 2 (by decide) xf_25_2 (index := 29) (hts _ (List.mem_of_getElem? (i := 1) rfl)) rfl rfl rfl dX0_rankThem_79 (fun H locs S => ?_)
            exact hJ _ _ _ _ h _ _ _ S (lv_sub hl [1, 2, 3] rfl)
    | 2, h, hl =>
      have hl : lv_has ls 4 [(0, .ref (ad 25)), (1, .ref (ad 22)), (2, .int v2)] := hl
      have h : blk_X0_rankThem_2 Q P v2 v3 M := h
      unfold blk_X0_rankThem_2 at h
      refine W.eq (g2 := F0 m 82 ls []) rfl ?_
      refine lv_iinc (v := (v2 + 1)) (lv' := [(2, .int (v2 + 1)), (0, .ref (ad 25)), (1, .ref (ad 22))]) hx hb dX0_rankThem_82 hl (k := 2) rfl rfl (by decide) rfl (fun ls hl => ?_)
      refine lv_goto (tgt := 7) hx hb dX0_rankThem_85 (by decide) ?_
      exact hJ _ _ _ _ h _ _ _ S (lv_sub hl [1, 2, 0] rfl)
    | _ + 3, h, hl => exact h.elim
  have hl := lv_entry ([.ref (ad 25), .ref (ad 22)]) (n := 4) (Nat.le_of_ble_eq_true rfl)
  subst hargs
  rw [lg_entry_eq]
  generalize (lg_sl ([.ref (ad 25), .ref (ad 22)]) ++ List.replicate (4 - (lg_sl ([.ref (ad 25), .ref (ad 22)])).length) Slot.unset).toArray = ls at hl ⊢
  exact h _ (key _ (fun _ _ _ _ h => h)) s.heap [] ls ⟨hP, hD, va_S.rf⟩ hl
/-! X0_askForAll -/
def wp_X0_askForAll (M : Mem) (Q : Mem → Prop) : Prop :=
  wp_X0_rankThem (upI (upI M 25 3 0) 25 4 0) (fun M1 => Q M1)
theorem wp_X0_askForAll_mono {M : Mem} {Q Q' : Mem → Prop} (hQ : ∀ M : Mem, Q M → Q' M) (h : wp_X0_askForAll M Q) : wp_X0_askForAll M Q' := by
  unfold wp_X0_askForAll at h ⊢
  exact wp_X0_rankThem_mono (fun M1 h => hQ _ h) h
abbrev rm_X0_askForAll : Jvm.Room := { frames := 2, cells := 0, slots := 0, locals := 38 }
set_option maxHeartbeats 4000000 in
set_option maxRecDepth 100000 in
theorem ct_X0_askForAll (l : Launch) (D : va_G) (cy : Nat → ClassId) (ad : Nat → Nat) (B : Nat → Prop) (M : Mem) (Q : Mem → Prop) (h : wp_X0_askForAll M Q) : CTv l D cy (wX ad cy) B yX0_askForAll wsX0_askForAll rm_X0_askForAll [.ref (ad 25), .ref (ad 22)] M Q := by
  intro sz
  refine Met.ofW (cc := cX0_askForAll) (maxL := 2) (ret := none) (by decide) rfl ?_
  intro p e s m args below meth c s₁ Bd hml hv
  obtain ⟨hargs, hsz, hP, hK, hD⟩ := hv
  subst hsz
  have hx := Bd.exec
  have hb := Bd.bytes
  have hr := Bd.returns
  have hts := atoms_spec (ws := wsX0_askForAll) Bd.pre
  have hown : s.vm.findClass RX0 = some m.cls := findClass_of_methodNamed Bd.named
  have hlocks := Bd.notSynchronized
  have hC0 : xC wsX0_askForAll 0 RX0 TX0 5 := ⟨by decide +kernel, rfl⟩
  have hl := lv_entry ([.ref (ad 25), .ref (ad 22)]) (n := 2) (Nat.le_of_ble_eq_true rfl)
  subst hargs
  rw [lg_entry_eq]
  generalize (lg_sl ([.ref (ad 25), .ref (ad 22)]) ++ List.replicate (2 - (lg_sl ([.ref (ad 25), .ref (ad 22)])).length) Slot.unset).toArray = ls at hl ⊢
  have hl : lv_has ls 2 [(0, .ref (ad 25)), (1, .ref (ad 22))] := hl
  have S : xS D (wX ad cy) B s.heap s.heap [] M := ⟨hP, hD, va_S.rf⟩
  unfold wp_X0_askForAll at h
  refine lv_aload_n hx hb dX0_askForAll_0 rfl (lv_at hl 0 rfl) ?_
  refine lv_iconst (v := 0) hx hb dX0_askForAll_1 (by decide) ?_
  refine x_putI hx hb hts (hC0) tyX0 tyX0_ok nmX0 hown hK S 3 (by decide) xf_25_3 (index := 18) (hts _ (List.mem_of_getElem? (i := 1) rfl)) rfl rfl rfl dX0_askForAll_2 (fun H locs S => ?_)
  refine lv_aload_n hx hb dX0_askForAll_5 rfl (lv_at hl 0 rfl) ?_
  refine lv_iconst (v := 0) hx hb dX0_askForAll_6 (by decide) ?_
  refine x_putI hx hb hts (hC0) tyX0 tyX0_ok nmX0 hown hK S 4 (by decide) xf_25_4 (index := 22) (hts _ (List.mem_of_getElem? (i := 2) rfl)) rfl rfl rfl dX0_askForAll_7 (fun H locs S => ?_)
  refine lv_aload_n hx hb dX0_askForAll_10 rfl (lv_at hl 0 rfl) ?_
  refine lv_aload_n hx hb dX0_askForAll_11 rfl (lv_at hl 1 rfl) ?_
  refine x_callVv (As := [.ref (ad 22)]) ⟨hx, hb, hml, hown, hts⟩ hK S (ct_X0_rankThem l D cy ad B _ _ h) xo_25 rfl (cwV 1 hts gX0_askForAll_X0_rankThem rfl rfl rfl (by decide +kernel) ⟨Nat.le_of_ble_eq_true rfl, Nat.le_of_ble_eq_true rfl⟩) rfl hl.1 rfl (Nat.le_of_ble_eq_true rfl) dX0_askForAll_12 ⟨Nat.zero_le _, Nat.zero_le _⟩ (fun M1 H locs h S => ?_)
  exact x_vret hx hb hr hlocks S h dX0_askForAll_15
/-! X3_forget -/
def wp_X3_forget (M : Mem) (Q : Mem → Prop) : Prop :=
  Q (upI M 31 0 0)
theorem wp_X3_forget_mono {M : Mem} {Q Q' : Mem → Prop} (hQ : ∀ M : Mem, Q M → Q' M) (h : wp_X3_forget M Q) : wp_X3_forget M Q' := by
  unfold wp_X3_forget at h ⊢
  exact hQ _ h
abbrev rm_X3_forget : Jvm.Room := { frames := 1, cells := 0, slots := 0, locals := 12 }
set_option maxHeartbeats 4000000 in
set_option maxRecDepth 100000 in
theorem ct_X3_forget (l : Launch) (D : va_G) (cy : Nat → ClassId) (ad : Nat → Nat) (B : Nat → Prop) (M : Mem) (Q : Mem → Prop) (h : wp_X3_forget M Q) : CTv l D cy (wX ad cy) B yX3_forget wsX3_forget rm_X3_forget [.ref (ad 31)] M Q := by
  intro sz
  refine Met.ofW (cc := cX3_forget) (maxL := 1) (ret := none) (by decide) rfl ?_
  intro p e s m args below meth c s₁ Bd hml hv
  obtain ⟨hargs, hsz, hP, hK, hD⟩ := hv
  subst hsz
  have hx := Bd.exec
  have hb := Bd.bytes
  have hr := Bd.returns
  have hts := atoms_spec (ws := wsX3_forget) Bd.pre
  have hown : s.vm.findClass RX3 = some m.cls := findClass_of_methodNamed Bd.named
  have hlocks := Bd.notSynchronized
  have hC3 : xC wsX3_forget 3 RX3 TX3 3 := ⟨by decide +kernel, rfl⟩
  have hl := lv_entry ([.ref (ad 31)]) (n := 1) (Nat.le_of_ble_eq_true rfl)
  subst hargs
  rw [lg_entry_eq]
  generalize (lg_sl ([.ref (ad 31)]) ++ List.replicate (1 - (lg_sl ([.ref (ad 31)])).length) Slot.unset).toArray = ls at hl ⊢
  have hl : lv_has ls 1 [(0, .ref (ad 31))] := hl
  have S : xS D (wX ad cy) B s.heap s.heap [] M := ⟨hP, hD, va_S.rf⟩
  unfold wp_X3_forget at h
  refine lv_aload_n hx hb dX3_forget_0 rfl (lv_at hl 0 rfl) ?_
  refine lv_iconst (v := 0) hx hb dX3_forget_1 (by decide) ?_
  refine x_putI hx hb hts (hC3) tyX3 tyX3_ok nmX3 hown hK S 0 (by decide) xf_31_0 (index := 15) (hts _ (List.mem_of_getElem? (i := 1) rfl)) rfl rfl rfl dX3_forget_2 (fun H locs S => ?_)
  exact x_vret hx hb hr hlocks S h dX3_forget_5
/-! X7_lay -/
def blk_X7_lay_0 (Q : Int32 → Mem → Prop) (P : Nat → Int32 → Mem → Prop) (v1 : Int32) (M : Mem) : Prop :=
  ((3 ≤ (M.1 10 2) → wp_X2_layOf M (fun M1 => wp_X1_cut M1 (fun M2 => wp_X0_askForAll M2 (fun M3 => wp_X3_forget M3 (fun M4 => P 1 0 M4))))) ∧ (¬ 3 ≤ (M.1 10 2) → Q (-3) M))
theorem blk_X7_lay_0_mono {Q Q' : Int32 → Mem → Prop} {P P' : Nat → Int32 → Mem → Prop} (hQ : ∀ (r : Int32) (M : Mem), Q r M → Q' r M) (hP : ∀ (lab : Nat) (v1 : Int32) (M : Mem), P lab v1 M → P' lab v1 M) (v1 : Int32) (M : Mem) (h : blk_X7_lay_0 Q P v1 M) : blk_X7_lay_0 Q' P' v1 M := by
  unfold blk_X7_lay_0 at h ⊢
  exact ⟨fun c => let h := h.1 c; wp_X2_layOf_mono (fun M1 h => wp_X1_cut_mono (fun M2 h => wp_X0_askForAll_mono (fun M3 h => wp_X3_forget_mono (fun M4 h => hP _ _ _ h) h) h) h) h, fun c => let h := h.2 c; hQ _ _ h⟩
def blk_X7_lay_1 (Q : Int32 → Mem → Prop) (P : Nat → Int32 → Mem → Prop) (v1 : Int32) (M : Mem) : Prop :=
  ((28 ≤ v1 → Q ((upI (upI M 0 9 0) 0 8 1).1 13 4) (upI (upI M 0 9 0) 0 8 1)) ∧ (¬ 28 ≤ v1 → (vp_in v1 28 ∧ P 1 (v1 + 1) (upI M 33 v1.toNatClampNeg 0))))
theorem blk_X7_lay_1_mono {Q Q' : Int32 → Mem → Prop} {P P' : Nat → Int32 → Mem → Prop} (hQ : ∀ (r : Int32) (M : Mem), Q r M → Q' r M) (hP : ∀ (lab : Nat) (v1 : Int32) (M : Mem), P lab v1 M → P' lab v1 M) (v1 : Int32) (M : Mem) (h : blk_X7_lay_1 Q P v1 M) : blk_X7_lay_1 Q' P' v1 M := by
  unfold blk_X7_lay_1 at h ⊢
  exact ⟨fun c => let h := h.1 c; hQ _ _ h, fun c => let h := h.2 c; ⟨h.1, let h := h.2; hP _ _ _ h⟩⟩
def blk_X7_lay (Q : Int32 → Mem → Prop) (P : Nat → Int32 → Mem → Prop) : Nat → Int32 → Mem → Prop := fun lab v1 M => match lab with
  | 0 => blk_X7_lay_0 Q P v1 M
  | 1 => blk_X7_lay_1 Q P v1 M
  | _ => False
theorem blk_X7_lay_mono {Q Q' : Int32 → Mem → Prop} {P P' : Nat → Int32 → Mem → Prop} (hQ : ∀ (r : Int32) (M : Mem), Q r M → Q' r M) (hP : ∀ (lab : Nat) (v1 : Int32) (M : Mem), P lab v1 M → P' lab v1 M) : ∀ (lab : Nat) (v1 : Int32) (M : Mem), blk_X7_lay Q P lab v1 M → blk_X7_lay Q' P' lab v1 M := fun lab v1 M h => match lab, h with
  | 0, h => blk_X7_lay_0_mono hQ hP v1 M h
  | 1, h => blk_X7_lay_1_mono hQ hP v1 M h
  | _ + 2, h => False.elim h
def at_X7_lay (Q : Int32 → Mem → Prop) : Nat → Int32 → Mem → Prop := fun lab v1 M => ∀ P : Nat → Int32 → Mem → Prop, (∀ (lab : Nat) (v1 : Int32) (M : Mem), blk_X7_lay Q P lab v1 M → P lab v1 M) → P lab v1 M
theorem at_X7_lay_fold {Q : Int32 → Mem → Prop} {lab : Nat} {v1 : Int32} {M : Mem} (h : blk_X7_lay Q (at_X7_lay Q) lab v1 M) : at_X7_lay Q lab v1 M := fun P hP => hP _ _ _ (blk_X7_lay_mono (fun _ _ h => h) (fun _ _ _ h => h P hP) _ _ _ h)
theorem at_X7_lay_mono {Q Q' : Int32 → Mem → Prop} (hQ : ∀ (r : Int32) (M : Mem), Q r M → Q' r M) {lab : Nat} {v1 : Int32} {M : Mem} (h : at_X7_lay Q lab v1 M) : at_X7_lay Q' lab v1 M := fun P hP => h P (fun lab v1 M hb => hP _ _ _ (blk_X7_lay_mono hQ (fun _ _ _ h => h) _ _ _ hb))
def wp_X7_lay (M : Mem) (Q : Int32 → Mem → Prop) : Prop := at_X7_lay Q 0 0 M
theorem wp_X7_lay_mono {M : Mem} {Q Q' : Int32 → Mem → Prop} (hQ : ∀ (r : Int32) (M : Mem), Q r M → Q' r M) (h : wp_X7_lay M Q) : wp_X7_lay M Q' := at_X7_lay_mono hQ h
def pcl_X7_lay : Nat → Nat := fun lab => match lab with
  | 0 => 0
  | 1 => 56
  | _ => 0
def lvl_X7_lay (ad : Nat → Nat) : Nat → Int32 → List (Nat × Value) := fun lab v1 => match lab with
  | 0 => [(0, .ref (ad 0))]
  | 1 => [(0, .ref (ad 0)), (1, .int v1)]
  | _ => []
abbrev rm_X7_lay : Jvm.Room := { frames := 37, cells := 0, slots := 0, locals := 1006 }
set_option maxHeartbeats 4000000 in
set_option maxRecDepth 100000 in
theorem ct_X7_lay (l : Launch) (D : va_G) (cy : Nat → ClassId) (ad : Nat → Nat) (B : Nat → Prop) (M : Mem) (Q : Int32 → Mem → Prop) (h : wp_X7_lay M Q) : CTi l D cy (wX ad cy) B yX7_lay wsX7_lay rm_X7_lay [.ref (ad 0)] M Q := by
  intro sz
  refine Met.ofW (cc := cX7_lay) (maxL := 2) (ret := some .int) (by decide) rfl ?_
  intro p e s m args below meth c s₁ Bd hml hv
  obtain ⟨hargs, hsz, hP, hK, hD⟩ := hv
  subst hsz
  have hx := Bd.exec
  have hb := Bd.bytes
  have hr := Bd.returns
  have hts := atoms_spec (ws := wsX7_lay) Bd.pre
  have hown : s.vm.findClass RX7 = some m.cls := findClass_of_methodNamed Bd.named
  have hlocks := Bd.notSynchronized
  have hC2 : xC wsX7_lay 2 RX2 TX2 8 := ⟨by decide +kernel, rfl⟩
  have hC4 : xC wsX7_lay 4 RX4 TX4 3 := ⟨by decide +kernel, rfl⟩
  have hC7 : xC wsX7_lay 7 RX7 TX7 11 := ⟨by decide +kernel, rfl⟩
  have key : ∀ (P : Nat → Int32 → Mem → Prop), (∀ (lab : Nat) (v1 : Int32) (M : Mem), P lab v1 M → ∀ (H : Heap) (locs : List Loc) (ls : Array Slot), xS D (wX ad cy) B s.heap H locs M → lv_has ls 2 (lvl_X7_lay ad lab v1 ) → W p l e (headSpec wsX7_lay rm_X7_lay).room s m args below meth c H locs 0 0 (MQ below (va_Qi (S := Mem) Q (xB D (wX ad cy) B) (xA B s.heap.size)) args s 0 0 (xA B s.heap.size)) (F0 m (pcl_X7_lay lab) ls [])) → ∀ (lab : Nat) (v1 : Int32) (M : Mem), blk_X7_lay Q P lab v1 M → ∀ (H : Heap) (locs : List Loc) (ls : Array Slot), xS D (wX ad cy) B s.heap H locs M → lv_has ls 2 (lvl_X7_lay ad lab v1 ) → W p l e (headSpec wsX7_lay rm_X7_lay).room s m args below meth c H locs 0 0 (MQ below (va_Qi (S := Mem) Q (xB D (wX ad cy) B) (xA B s.heap.size)) args s 0 0 (xA B s.heap.size)) (F0 m (pcl_X7_lay lab) ls []) := by
    intro P hJ lab v1 M h H locs ls S hl
    match lab, h, hl with
    | 0, h, hl =>
      have hl : lv_has ls 2 [(0, .ref (ad 0))] := hl
      have h : blk_X7_lay_0 Q P v1 M := h
      unfold blk_X7_lay_0 at h
      refine W.eq (g2 := F0 m 0 ls []) rfl ?_
      refine lv_aload_n hx hb dX7_lay_0 rfl (lv_at hl 0 rfl) ?_
      refine x_getR hx hb hts (hC7) hown hK S 1 (by decide) xf_0_1 (index := 18) (hts _ (List.mem_of_getElem? (i := 1) rfl)) dX7_lay_1 ?_
      refine x_getI hx hb hts (hC4) hown hK S 2 (by decide) xf_10_2 (index := 105) (hts _ (List.mem_of_getElem? (i := 2) rfl)) dX7_lay_4 ?_
      refine lv_iconst (v := 3) hx hb dX7_lay_7 (by decide) ?_
      refine lv_icmp_ge (tgt := 14) hx hb dX7_lay_8 (by decide) (fun c8 => ?_) (fun c8 => ?_)
      · replace h := h.1 c8
        refine lv_aload_n hx hb dX7_lay_14 rfl (lv_at hl 0 rfl) ?_
        refine x_getR hx hb hts (hC7) hown hK S 2 (by decide) xf_0_2 (index := 25) (hts _ (List.mem_of_getElem? (i := 3) rfl)) dX7_lay_15 ?_
        refine lv_aload_n hx hb dX7_lay_18 rfl (lv_at hl 0 rfl) ?_
        refine x_getR hx hb hts (hC7) hown hK S 1 (by decide) xf_0_1 (index := 18) (hts _ (List.mem_of_getElem? (i := 1) rfl)) dX7_lay_19 ?_
        refine x_callVv (As := [.ref (ad 10)]) ⟨hx, hb, hml, hown, hts⟩ hK S (ct_X2_layOf l D cy ad B _ _ h) xo_13 rfl (cwV 1 hts gX7_lay_X2_layOf rfl rfl rfl (by decide +kernel) ⟨Nat.le_of_ble_eq_true rfl, Nat.le_of_ble_eq_true rfl⟩) rfl hl.1 rfl (Nat.le_of_ble_eq_true rfl) dX7_lay_22 ⟨Nat.zero_le _, Nat.zero_le _⟩ (fun M1 H locs h S => ?_)
        refine lv_aload_n hx hb dX7_lay_25 rfl (lv_at hl 0 rfl) ?_
        refine x_getR hx hb hts (hC7) hown hK S 3 (by decide) xf_0_3 (index := 32) (hts _ (List.mem_of_getElem? (i := 4) rfl)) dX7_lay_26 ?_
        refine lv_aload_n hx hb dX7_lay_29 rfl (lv_at hl 0 rfl) ?_
        refine x_getR hx hb hts (hC7) hown hK S 2 (by decide) xf_0_2 (index := 25) (hts _ (List.mem_of_getElem? (i := 3) rfl)) dX7_lay_30 ?_
        refine x_callVv (As := [.ref (ad 13)]) ⟨hx, hb, hml, hown, hts⟩ hK S (ct_X1_cut l D cy ad B _ _ h) xo_22 rfl (cwV 1 hts gX7_lay_X1_cut rfl rfl rfl (by decide +kernel) ⟨Nat.le_of_ble_eq_true rfl, Nat.le_of_ble_eq_true rfl⟩) rfl hl.1 rfl (Nat.le_of_ble_eq_true rfl) dX7_lay_33 ⟨Nat.zero_le _, Nat.zero_le _⟩ (fun M2 H locs h S => ?_)
        refine lv_aload_n hx hb dX7_lay_36 rfl (lv_at hl 0 rfl) ?_
        refine x_getR hx hb hts (hC7) hown hK S 4 (by decide) xf_0_4 (index := 39) (hts _ (List.mem_of_getElem? (i := 5) rfl)) dX7_lay_37 ?_
        refine lv_aload_n hx hb dX7_lay_40 rfl (lv_at hl 0 rfl) ?_
        refine x_getR hx hb hts (hC7) hown hK S 3 (by decide) xf_0_3 (index := 32) (hts _ (List.mem_of_getElem? (i := 4) rfl)) dX7_lay_41 ?_
        refine x_callVv (As := [.ref (ad 22)]) ⟨hx, hb, hml, hown, hts⟩ hK S (ct_X0_askForAll l D cy ad B _ _ h) xo_25 rfl (cwV 1 hts gX7_lay_X0_askForAll rfl rfl rfl (by decide +kernel) ⟨Nat.le_of_ble_eq_true rfl, Nat.le_of_ble_eq_true rfl⟩) rfl hl.1 rfl (Nat.le_of_ble_eq_true rfl) dX7_lay_44 ⟨Nat.zero_le _, Nat.zero_le _⟩ (fun M3 H locs h S => ?_)
        refine lv_aload_n hx hb dX7_lay_47 rfl (lv_at hl 0 rfl) ?_
        refine x_getR hx hb hts (hC7) hown hK S 6 (by decide) xf_0_6 (index := 53) (hts _ (List.mem_of_getElem? (i := 6) rfl)) dX7_lay_48 ?_
        refine x_callVv (As := []) ⟨hx, hb, hml, hown, hts⟩ hK S (ct_X3_forget l D cy ad B _ _ h) xo_31 rfl (cwV 0 hts gX7_lay_X3_forget rfl rfl rfl (by decide +kernel) ⟨Nat.le_of_ble_eq_true rfl, Nat.le_of_ble_eq_true rfl⟩) rfl hl.1 rfl (Nat.le_of_ble_eq_true rfl) dX7_lay_51 ⟨Nat.zero_le _, Nat.zero_le _⟩ (fun M4 H locs h S => ?_)
        refine lv_iconst (v := 0) hx hb dX7_lay_54 (by decide) ?_
        refine lv_istore_n (lv' := [(1, .int 0), (0, .ref (ad 0))]) hx hb dX7_lay_55 rfl hl (by decide) rfl (fun ls hl => ?_)
        exact hJ _ _ _ h _ _ _ S (lv_sub hl [1, 0] rfl)
      · replace h := h.2 c8
        refine lv_bipush (v := (-3)) hx hb dX7_lay_11 (by decide) ?_
        exact x_iret hx hb hr hlocks S rfl h dX7_lay_13
    | 1, h, hl =>
      have hl : lv_has ls 2 [(0, .ref (ad 0)), (1, .int v1)] := hl
      have h : blk_X7_lay_1 Q P v1 M := h
      unfold blk_X7_lay_1 at h
      refine W.eq (g2 := F0 m 56 ls []) rfl ?_
      refine lv_iload_n hx hb dX7_lay_56 rfl (lv_at hl 1 rfl) ?_
      refine lv_bipush (v := 28) hx hb dX7_lay_57 (by decide) ?_
      refine lv_icmp_ge (tgt := 75) hx hb dX7_lay_59 (by decide) (fun c59 => ?_) (fun c59 => ?_)
      · replace h := h.1 c59
        refine lv_aload_n hx hb dX7_lay_75 rfl (lv_at hl 0 rfl) ?_
        refine lv_iconst (v := 0) hx hb dX7_lay_76 (by decide) ?_
        refine x_putI hx hb hts (hC7) tyX7 tyX7_ok nmX7 hown hK S 9 (by decide) xf_0_9 (index := 123) (hts _ (List.mem_of_getElem? (i := 8) rfl)) rfl rfl rfl dX7_lay_77 (fun H locs S => ?_)
        refine lv_aload_n hx hb dX7_lay_80 rfl (lv_at hl 0 rfl) ?_
        refine lv_iconst (v := 1) hx hb dX7_lay_81 (by decide) ?_
        refine x_putI hx hb hts (hC7) tyX7 tyX7_ok nmX7 hown hK S 8 (by decide) xf_0_8 (index := 126) (hts _ (List.mem_of_getElem? (i := 9) rfl)) rfl rfl rfl dX7_lay_82 (fun H locs S => ?_)
        refine lv_aload_n hx hb dX7_lay_85 rfl (lv_at hl 0 rfl) ?_
        refine x_getR hx hb hts (hC7) hown hK S 2 (by decide) xf_0_2 (index := 25) (hts _ (List.mem_of_getElem? (i := 3) rfl)) dX7_lay_86 ?_
        refine x_getI hx hb hts (hC2) hown hK S 4 (by decide) xf_13_4 (index := 129) (hts _ (List.mem_of_getElem? (i := 10) rfl)) dX7_lay_89 ?_
        exact x_iret hx hb hr hlocks S rfl h dX7_lay_92
      · replace h := h.2 c59
        refine lv_aload_n hx hb dX7_lay_62 rfl (lv_at hl 0 rfl) ?_
        refine x_getR hx hb hts (hC7) hown hK S 7 (by decide) xf_0_7 (index := 57) (hts _ (List.mem_of_getElem? (i := 7) rfl)) dX7_lay_63 ?_
        refine lv_iload_n hx hb dX7_lay_66 rfl (lv_at hl 1 rfl) ?_
        refine lv_iconst (v := 0) hx hb dX7_lay_67 (by decide) ?_
        refine x_iast hx hb hK S xa_33 h.1 dX7_lay_68 (fun H locs S => ?_)
        replace h := h.2
        refine lv_iinc (v := (v1 + 1)) (lv' := [(1, .int (v1 + 1)), (0, .ref (ad 0))]) hx hb dX7_lay_69 hl (k := 1) rfl rfl (by decide) rfl (fun ls hl => ?_)
        refine lv_goto (tgt := 56) hx hb dX7_lay_72 (by decide) ?_
        exact hJ _ _ _ h _ _ _ S (lv_sub hl [1, 0] rfl)
    | _ + 2, h, hl => exact h.elim
  have hl := lv_entry ([.ref (ad 0)]) (n := 2) (Nat.le_of_ble_eq_true rfl)
  subst hargs
  rw [lg_entry_eq]
  generalize (lg_sl ([.ref (ad 0)]) ++ List.replicate (2 - (lg_sl ([.ref (ad 0)])).length) Slot.unset).toArray = ls at hl ⊢
  exact h _ (key _ (fun _ _ _ h => h)) s.heap [] ls ⟨hP, hD, va_S.rf⟩ hl
/-! X2_isPost -/
def wp_X2_isPost (v1 : Int32) (M : Mem) (Q : Int32 → Mem → Prop) : Prop :=
  ((v1 < 0 → Q 0 M) ∧ (¬ v1 < 0 → (((M.1 14 2) ≤ v1 → Q 0 M) ∧ (¬ (M.1 14 2) ≤ v1 → Q 1 M))))
theorem wp_X2_isPost_mono {v1 : Int32} {M : Mem} {Q Q' : Int32 → Mem → Prop} (hQ : ∀ (r : Int32) (M : Mem), Q r M → Q' r M) (h : wp_X2_isPost v1 M Q) : wp_X2_isPost v1 M Q' := by
  unfold wp_X2_isPost at h ⊢
  exact ⟨fun c => let h := h.1 c; hQ _ _ h, fun c => let h := h.2 c; ⟨fun c => let h := h.1 c; hQ _ _ h, fun c => let h := h.2 c; hQ _ _ h⟩⟩
abbrev rm_X2_isPost : Jvm.Room := { frames := 1, cells := 0, slots := 0, locals := 13 }
set_option maxHeartbeats 4000000 in
set_option maxRecDepth 100000 in
theorem ct_X2_isPost (l : Launch) (D : va_G) (cy : Nat → ClassId) (ad : Nat → Nat) (B : Nat → Prop) (v1 : Int32) (M : Mem) (Q : Int32 → Mem → Prop) (h : wp_X2_isPost v1 M Q) : CTi l D cy (wX ad cy) B yX2_isPost wsX2_isPost rm_X2_isPost [.ref (ad 13), .int v1] M Q := by
  intro sz
  refine Met.ofW (cc := cX2_isPost) (maxL := 2) (ret := some .boolean) (by decide) rfl ?_
  intro p e s m args below meth c s₁ Bd hml hv
  obtain ⟨hargs, hsz, hP, hK, hD⟩ := hv
  subst hsz
  have hx := Bd.exec
  have hb := Bd.bytes
  have hr := Bd.returns
  have hts := atoms_spec (ws := wsX2_isPost) Bd.pre
  have hown : s.vm.findClass RX2 = some m.cls := findClass_of_methodNamed Bd.named
  have hlocks := Bd.notSynchronized
  have hC2 : xC wsX2_isPost 2 RX2 TX2 8 := ⟨by decide +kernel, rfl⟩
  have hC4 : xC wsX2_isPost 4 RX4 TX4 3 := ⟨by decide +kernel, rfl⟩
  have hl := lv_entry ([.ref (ad 13), .int v1]) (n := 2) (Nat.le_of_ble_eq_true rfl)
  subst hargs
  rw [lg_entry_eq]
  generalize (lg_sl ([.ref (ad 13), .int v1]) ++ List.replicate (2 - (lg_sl ([.ref (ad 13), .int v1])).length) Slot.unset).toArray = ls at hl ⊢
  have hl : lv_has ls 2 [(0, .ref (ad 13)), (1, .int v1)] := hl
  have S : xS D (wX ad cy) B s.heap s.heap [] M := ⟨hP, hD, va_S.rf⟩
  unfold wp_X2_isPost at h
  refine lv_iload_n hx hb dX2_isPost_0 rfl (lv_at hl 1 rfl) ?_
  refine lv_if_lt (tgt := 19) hx hb dX2_isPost_1 (by decide) (fun c1 => ?_) (fun c1 => ?_)
  · replace h := h.1 c1
    refine lv_iconst (v := 0) hx hb dX2_isPost_19 (by decide) ?_
    exact x_iret hx hb hr hlocks S rfl h dX2_isPost_20
  · replace h := h.2 c1
    refine lv_iload_n hx hb dX2_isPost_4 rfl (lv_at hl 1 rfl) ?_
    refine lv_aload_n hx hb dX2_isPost_5 rfl (lv_at hl 0 rfl) ?_
    refine x_getR hx hb hts (hC2) hown hK S 0 (by decide) xf_13_0 (index := 12) (hts _ (List.mem_of_getElem? (i := 1) rfl)) dX2_isPost_6 ?_
    refine x_getI hx hb hts (hC4) hown hK S 2 (by decide) xf_14_2 (index := 50) (hts _ (List.mem_of_getElem? (i := 2) rfl)) dX2_isPost_9 ?_
    refine lv_icmp_ge (tgt := 19) hx hb dX2_isPost_12 (by decide) (fun c12 => ?_) (fun c12 => ?_)
    · replace h := h.1 c12
      refine lv_iconst (v := 0) hx hb dX2_isPost_19 (by decide) ?_
      exact x_iret hx hb hr hlocks S rfl h dX2_isPost_20
    · replace h := h.2 c12
      refine lv_iconst (v := 1) hx hb dX2_isPost_15 (by decide) ?_
      refine lv_goto (tgt := 20) hx hb dX2_isPost_16 (by decide) ?_
      exact x_iret hx hb hr hlocks S rfl h dX2_isPost_20
/-! X7_fence -/
def wp_X7_fence (v1 : Int32) (v2 : Int32) (M : Mem) (Q : Int32 → Mem → Prop) : Prop :=
  ((¬ (M.1 0 8) = 0 → wp_X2_isPost v1 M (fun r1 M1 => ((r1 = 0 → Q (-1) M1) ∧ (¬ r1 = 0 → wp_X2_isPost v2 M1 (fun r2 M2 => ((¬ r2 = 0 → wp_X2_fenceBetween v1 v2 M2 (fun r3 M3 => Q r3 M3)) ∧ (r2 = 0 → Q (-1) M2))))))) ∧ ((M.1 0 8) = 0 → Q (-3) M))
theorem wp_X7_fence_mono {v1 : Int32} {v2 : Int32} {M : Mem} {Q Q' : Int32 → Mem → Prop} (hQ : ∀ (r : Int32) (M : Mem), Q r M → Q' r M) (h : wp_X7_fence v1 v2 M Q) : wp_X7_fence v1 v2 M Q' := by
  unfold wp_X7_fence at h ⊢
  exact ⟨fun c => let h := h.1 c; wp_X2_isPost_mono (fun r1 M1 h => ⟨fun c => let h := h.1 c; hQ _ _ h, fun c => let h := h.2 c; wp_X2_isPost_mono (fun r2 M2 h => ⟨fun c => let h := h.1 c; wp_X2_fenceBetween_mono (fun r3 M3 h => hQ _ _ h) h, fun c => let h := h.2 c; hQ _ _ h⟩) h⟩) h, fun c => let h := h.2 c; hQ _ _ h⟩
abbrev rm_X7_fence : Jvm.Room := { frames := 2, cells := 0, slots := 0, locals := 36 }
set_option maxHeartbeats 4000000 in
set_option maxRecDepth 100000 in
theorem ct_X7_fence (l : Launch) (D : va_G) (cy : Nat → ClassId) (ad : Nat → Nat) (B : Nat → Prop) (v1 : Int32) (v2 : Int32) (M : Mem) (Q : Int32 → Mem → Prop) (h : wp_X7_fence v1 v2 M Q) : CTi l D cy (wX ad cy) B yX7_fence wsX7_fence rm_X7_fence [.ref (ad 0), .int v1, .int v2] M Q := by
  intro sz
  refine Met.ofW (cc := cX7_fence) (maxL := 3) (ret := some .int) (by decide) rfl ?_
  intro p e s m args below meth c s₁ Bd hml hv
  obtain ⟨hargs, hsz, hP, hK, hD⟩ := hv
  subst hsz
  have hx := Bd.exec
  have hb := Bd.bytes
  have hr := Bd.returns
  have hts := atoms_spec (ws := wsX7_fence) Bd.pre
  have hown : s.vm.findClass RX7 = some m.cls := findClass_of_methodNamed Bd.named
  have hlocks := Bd.notSynchronized
  have hC7 : xC wsX7_fence 7 RX7 TX7 11 := ⟨by decide +kernel, rfl⟩
  have hl := lv_entry ([.ref (ad 0), .int v1, .int v2]) (n := 3) (Nat.le_of_ble_eq_true rfl)
  subst hargs
  rw [lg_entry_eq]
  generalize (lg_sl ([.ref (ad 0), .int v1, .int v2]) ++ List.replicate (3 - (lg_sl ([.ref (ad 0), .int v1, .int v2])).length) Slot.unset).toArray = ls at hl ⊢
  have hl : lv_has ls 3 [(0, .ref (ad 0)), (1, .int v1), (2, .int v2)] := hl
  have S : xS D (wX ad cy) B s.heap s.heap [] M := ⟨hP, hD, va_S.rf⟩
  unfold wp_X7_fence at h
  refine lv_aload_n hx hb dX7_fence_0 rfl (lv_at hl 0 rfl) ?_
  refine x_getI hx hb hts (hC7) hown hK S 8 (by decide) xf_0_8 (index := 126) (hts _ (List.mem_of_getElem? (i := 1) rfl)) dX7_fence_1 ?_
  refine lv_if_ne (tgt := 10) hx hb dX7_fence_4 (by decide) (fun c4 => ?_) (fun c4 => ?_)
  · replace h := h.1 c4
    refine lv_aload_n hx hb dX7_fence_10 rfl (lv_at hl 0 rfl) ?_
    refine x_getR hx hb hts (hC7) hown hK S 2 (by decide) xf_0_2 (index := 25) (hts _ (List.mem_of_getElem? (i := 2) rfl)) dX7_fence_11 ?_
    refine lv_iload_n hx hb dX7_fence_14 rfl (lv_at hl 1 rfl) ?_
    refine x_callVi (As := [.int v1]) ⟨hx, hb, hml, hown, hts⟩ hK S (ct_X2_isPost l D cy ad B _ _ _ h) xo_13 rfl (cwV 1 hts gX7_fence_X2_isPost rfl rfl rfl (by decide +kernel) ⟨Nat.le_of_ble_eq_true rfl, Nat.le_of_ble_eq_true rfl⟩) rfl hl.1 rfl (Nat.le_of_ble_eq_true rfl) dX7_fence_15 ⟨Nat.zero_le _, Nat.zero_le _⟩ (fun r1 M1 H locs h S => ?_)
    refine lv_if_eq (tgt := 32) hx hb dX7_fence_18 (by decide) (fun c18 => ?_) (fun c18 => ?_)
    · replace h := h.1 c18
      refine lv_iconst (v := (-1)) hx hb dX7_fence_32 (by decide) ?_
      exact x_iret hx hb hr hlocks S rfl h dX7_fence_33
    · replace h := h.2 c18
      refine lv_aload_n hx hb dX7_fence_21 rfl (lv_at hl 0 rfl) ?_
      refine x_getR hx hb hts (hC7) hown hK S 2 (by decide) xf_0_2 (index := 25) (hts _ (List.mem_of_getElem? (i := 2) rfl)) dX7_fence_22 ?_
      refine lv_iload_n hx hb dX7_fence_25 rfl (lv_at hl 2 rfl) ?_
      refine x_callVi (As := [.int v2]) ⟨hx, hb, hml, hown, hts⟩ hK S (ct_X2_isPost l D cy ad B _ _ _ h) xo_13 rfl (cwV 1 hts gX7_fence_X2_isPost rfl rfl rfl (by decide +kernel) ⟨Nat.le_of_ble_eq_true rfl, Nat.le_of_ble_eq_true rfl⟩) rfl hl.1 rfl (Nat.le_of_ble_eq_true rfl) dX7_fence_26 ⟨Nat.zero_le _, Nat.zero_le _⟩ (fun r2 M2 H locs h S => ?_)
      refine lv_if_ne (tgt := 34) hx hb dX7_fence_29 (by decide) (fun c29 => ?_) (fun c29 => ?_)
      · replace h := h.1 c29
        refine lv_aload_n hx hb dX7_fence_34 rfl (lv_at hl 0 rfl) ?_
        refine x_getR hx hb hts (hC7) hown hK S 2 (by decide) xf_0_2 (index := 25) (hts _ (List.mem_of_getElem? (i := 2) rfl)) dX7_fence_35 ?_
        refine lv_iload_n hx hb dX7_fence_38 rfl (lv_at hl 1 rfl) ?_
        refine lv_iload_n hx hb dX7_fence_39 rfl (lv_at hl 2 rfl) ?_
        refine x_callVi (As := [.int v1, .int v2]) ⟨hx, hb, hml, hown, hts⟩ hK S (ct_X2_fenceBetween l D cy ad B _ _ _ _ h) xo_13 rfl (cwV 2 hts gX7_fence_X2_fenceBetween rfl rfl rfl (by decide +kernel) ⟨Nat.le_of_ble_eq_true rfl, Nat.le_of_ble_eq_true rfl⟩) rfl hl.1 rfl (Nat.le_of_ble_eq_true rfl) dX7_fence_40 ⟨Nat.zero_le _, Nat.zero_le _⟩ (fun r3 M3 H locs h S => ?_)
        exact x_iret hx hb hr hlocks S rfl h dX7_fence_43
      · replace h := h.2 c29
        refine lv_iconst (v := (-1)) hx hb dX7_fence_32 (by decide) ?_
        exact x_iret hx hb hr hlocks S rfl h dX7_fence_33
  · replace h := h.2 c4
    refine lv_bipush (v := (-3)) hx hb dX7_fence_7 (by decide) ?_
    exact x_iret hx hb hr hlocks S rfl h dX7_fence_9
/-! X2_isFence -/
def wp_X2_isFence (v1 : Int32) (M : Mem) (Q : Int32 → Mem → Prop) : Prop :=
  ((v1 < 0 → Q 0 M) ∧ (¬ v1 < 0 → (((M.1 13 4) ≤ v1 → Q 0 M) ∧ (¬ (M.1 13 4) ≤ v1 → Q 1 M))))
theorem wp_X2_isFence_mono {v1 : Int32} {M : Mem} {Q Q' : Int32 → Mem → Prop} (hQ : ∀ (r : Int32) (M : Mem), Q r M → Q' r M) (h : wp_X2_isFence v1 M Q) : wp_X2_isFence v1 M Q' := by
  unfold wp_X2_isFence at h ⊢
  exact ⟨fun c => let h := h.1 c; hQ _ _ h, fun c => let h := h.2 c; ⟨fun c => let h := h.1 c; hQ _ _ h, fun c => let h := h.2 c; hQ _ _ h⟩⟩
abbrev rm_X2_isFence : Jvm.Room := { frames := 1, cells := 0, slots := 0, locals := 13 }
set_option maxHeartbeats 4000000 in
set_option maxRecDepth 100000 in
theorem ct_X2_isFence (l : Launch) (D : va_G) (cy : Nat → ClassId) (ad : Nat → Nat) (B : Nat → Prop) (v1 : Int32) (M : Mem) (Q : Int32 → Mem → Prop) (h : wp_X2_isFence v1 M Q) : CTi l D cy (wX ad cy) B yX2_isFence wsX2_isFence rm_X2_isFence [.ref (ad 13), .int v1] M Q := by
  intro sz
  refine Met.ofW (cc := cX2_isFence) (maxL := 2) (ret := some .boolean) (by decide) rfl ?_
  intro p e s m args below meth c s₁ Bd hml hv
  obtain ⟨hargs, hsz, hP, hK, hD⟩ := hv
  subst hsz
  have hx := Bd.exec
  have hb := Bd.bytes
  have hr := Bd.returns
  have hts := atoms_spec (ws := wsX2_isFence) Bd.pre
  have hown : s.vm.findClass RX2 = some m.cls := findClass_of_methodNamed Bd.named
  have hlocks := Bd.notSynchronized
  have hC2 : xC wsX2_isFence 2 RX2 TX2 8 := ⟨by decide +kernel, rfl⟩
  have hl := lv_entry ([.ref (ad 13), .int v1]) (n := 2) (Nat.le_of_ble_eq_true rfl)
  subst hargs
  rw [lg_entry_eq]
  generalize (lg_sl ([.ref (ad 13), .int v1]) ++ List.replicate (2 - (lg_sl ([.ref (ad 13), .int v1])).length) Slot.unset).toArray = ls at hl ⊢
  have hl : lv_has ls 2 [(0, .ref (ad 13)), (1, .int v1)] := hl
  have S : xS D (wX ad cy) B s.heap s.heap [] M := ⟨hP, hD, va_S.rf⟩
  unfold wp_X2_isFence at h
  refine lv_iload_n hx hb dX2_isFence_0 rfl (lv_at hl 1 rfl) ?_
  refine lv_if_lt (tgt := 16) hx hb dX2_isFence_1 (by decide) (fun c1 => ?_) (fun c1 => ?_)
  · replace h := h.1 c1
    refine lv_iconst (v := 0) hx hb dX2_isFence_16 (by decide) ?_
    exact x_iret hx hb hr hlocks S rfl h dX2_isFence_17
  · replace h := h.2 c1
    refine lv_iload_n hx hb dX2_isFence_4 rfl (lv_at hl 1 rfl) ?_
    refine lv_aload_n hx hb dX2_isFence_5 rfl (lv_at hl 0 rfl) ?_
    refine x_getI hx hb hts (hC2) hown hK S 4 (by decide) xf_13_4 (index := 54) (hts _ (List.mem_of_getElem? (i := 1) rfl)) dX2_isFence_6 ?_
    refine lv_icmp_ge (tgt := 16) hx hb dX2_isFence_9 (by decide) (fun c9 => ?_) (fun c9 => ?_)
    · replace h := h.1 c9
      refine lv_iconst (v := 0) hx hb dX2_isFence_16 (by decide) ?_
      exact x_iret hx hb hr hlocks S rfl h dX2_isFence_17
    · replace h := h.2 c9
      refine lv_iconst (v := 1) hx hb dX2_isFence_12 (by decide) ?_
      refine lv_goto (tgt := 17) hx hb dX2_isFence_13 (by decide) ?_
      exact x_iret hx hb hr hlocks S rfl h dX2_isFence_17
/-! X7_fenceRefusal -/
def wp_X7_fenceRefusal (v1 : Int32) (M : Mem) (Q : Int32 → Mem → Prop) : Prop :=
  ((¬ (M.1 0 8) = 0 → wp_X2_isFence v1 M (fun r1 M1 => ((r1 = 0 → Q (-1) M1) ∧ (¬ r1 = 0 → Q 0 M1)))) ∧ ((M.1 0 8) = 0 → Q (-3) M))
theorem wp_X7_fenceRefusal_mono {v1 : Int32} {M : Mem} {Q Q' : Int32 → Mem → Prop} (hQ : ∀ (r : Int32) (M : Mem), Q r M → Q' r M) (h : wp_X7_fenceRefusal v1 M Q) : wp_X7_fenceRefusal v1 M Q' := by
  unfold wp_X7_fenceRefusal at h ⊢
  exact ⟨fun c => let h := h.1 c; wp_X2_isFence_mono (fun r1 M1 h => ⟨fun c => let h := h.1 c; hQ _ _ h, fun c => let h := h.2 c; hQ _ _ h⟩) h, fun c => let h := h.2 c; hQ _ _ h⟩
abbrev rm_X7_fenceRefusal : Jvm.Room := { frames := 2, cells := 0, slots := 0, locals := 34 }
set_option maxHeartbeats 4000000 in
set_option maxRecDepth 100000 in
theorem ct_X7_fenceRefusal (l : Launch) (D : va_G) (cy : Nat → ClassId) (ad : Nat → Nat) (B : Nat → Prop) (v1 : Int32) (M : Mem) (Q : Int32 → Mem → Prop) (h : wp_X7_fenceRefusal v1 M Q) : CTi l D cy (wX ad cy) B yX7_fenceRefusal wsX7_fenceRefusal rm_X7_fenceRefusal [.ref (ad 0), .int v1] M Q := by
  intro sz
  refine Met.ofW (cc := cX7_fenceRefusal) (maxL := 2) (ret := some .int) (by decide) rfl ?_
  intro p e s m args below meth c s₁ Bd hml hv
  obtain ⟨hargs, hsz, hP, hK, hD⟩ := hv
  subst hsz
  have hx := Bd.exec
  have hb := Bd.bytes
  have hr := Bd.returns
  have hts := atoms_spec (ws := wsX7_fenceRefusal) Bd.pre
  have hown : s.vm.findClass RX7 = some m.cls := findClass_of_methodNamed Bd.named
  have hlocks := Bd.notSynchronized
  have hC7 : xC wsX7_fenceRefusal 7 RX7 TX7 11 := ⟨by decide +kernel, rfl⟩
  have hl := lv_entry ([.ref (ad 0), .int v1]) (n := 2) (Nat.le_of_ble_eq_true rfl)
  subst hargs
  rw [lg_entry_eq]
  generalize (lg_sl ([.ref (ad 0), .int v1]) ++ List.replicate (2 - (lg_sl ([.ref (ad 0), .int v1])).length) Slot.unset).toArray = ls at hl ⊢
  have hl : lv_has ls 2 [(0, .ref (ad 0)), (1, .int v1)] := hl
  have S : xS D (wX ad cy) B s.heap s.heap [] M := ⟨hP, hD, va_S.rf⟩
  unfold wp_X7_fenceRefusal at h
  refine lv_aload_n hx hb dX7_fenceRefusal_0 rfl (lv_at hl 0 rfl) ?_
  refine x_getI hx hb hts (hC7) hown hK S 8 (by decide) xf_0_8 (index := 126) (hts _ (List.mem_of_getElem? (i := 1) rfl)) dX7_fenceRefusal_1 ?_
  refine lv_if_ne (tgt := 10) hx hb dX7_fenceRefusal_4 (by decide) (fun c4 => ?_) (fun c4 => ?_)
  · replace h := h.1 c4
    refine lv_aload_n hx hb dX7_fenceRefusal_10 rfl (lv_at hl 0 rfl) ?_
    refine x_getR hx hb hts (hC7) hown hK S 2 (by decide) xf_0_2 (index := 25) (hts _ (List.mem_of_getElem? (i := 2) rfl)) dX7_fenceRefusal_11 ?_
    refine lv_iload_n hx hb dX7_fenceRefusal_14 rfl (lv_at hl 1 rfl) ?_
    refine x_callVi (As := [.int v1]) ⟨hx, hb, hml, hown, hts⟩ hK S (ct_X2_isFence l D cy ad B _ _ _ h) xo_13 rfl (cwV 1 hts gX7_fenceRefusal_X2_isFence rfl rfl rfl (by decide +kernel) ⟨Nat.le_of_ble_eq_true rfl, Nat.le_of_ble_eq_true rfl⟩) rfl hl.1 rfl (Nat.le_of_ble_eq_true rfl) dX7_fenceRefusal_15 ⟨Nat.zero_le _, Nat.zero_le _⟩ (fun r1 M1 H locs h S => ?_)
    refine lv_if_eq (tgt := 25) hx hb dX7_fenceRefusal_18 (by decide) (fun c18 => ?_) (fun c18 => ?_)
    · replace h := h.1 c18
      refine lv_iconst (v := (-1)) hx hb dX7_fenceRefusal_25 (by decide) ?_
      exact x_iret hx hb hr hlocks S rfl h dX7_fenceRefusal_26
    · replace h := h.2 c18
      refine lv_iconst (v := 0) hx hb dX7_fenceRefusal_21 (by decide) ?_
      refine lv_goto (tgt := 26) hx hb dX7_fenceRefusal_22 (by decide) ?_
      exact x_iret hx hb hr hlocks S rfl h dX7_fenceRefusal_26
  · replace h := h.2 c4
    refine lv_bipush (v := (-3)) hx hb dX7_fenceRefusal_7 (by decide) ?_
    exact x_iret hx hb hr hlocks S rfl h dX7_fenceRefusal_9
/-! X7_end -/
def blk_X7_end_0 (v1 : Int32) (v2 : Int32) (Q : Int32 → Mem → Prop) (P : Nat → Int32 → Mem → Prop) (v3 : Int32) (M : Mem) : Prop :=
  ((v2 = 0 → P 1 0 M) ∧ (¬ v2 = 0 → ((v2 = 1 → P 1 0 M) ∧ (¬ v2 = 1 → Q (-2) M))))
theorem blk_X7_end_0_mono {v1 : Int32} {v2 : Int32} {Q Q' : Int32 → Mem → Prop} {P P' : Nat → Int32 → Mem → Prop} (hQ : ∀ (r : Int32) (M : Mem), Q r M → Q' r M) (hP : ∀ (lab : Nat) (v3 : Int32) (M : Mem), P lab v3 M → P' lab v3 M) (v3 : Int32) (M : Mem) (h : blk_X7_end_0 v1 v2 Q P v3 M) : blk_X7_end_0 v1 v2 Q' P' v3 M := by
  unfold blk_X7_end_0 at h ⊢
  exact ⟨fun c => let h := h.1 c; hP _ _ _ h, fun c => let h := h.2 c; ⟨fun c => let h := h.1 c; hP _ _ _ h, fun c => let h := h.2 c; hQ _ _ h⟩⟩
def blk_X7_end_1 (v1 : Int32) (v2 : Int32) (Q : Int32 → Mem → Prop) (P : Nat → Int32 → Mem → Prop) (v3 : Int32) (M : Mem) : Prop :=
  wp_X7_fenceRefusal v1 M (fun r1 M1 => ((r1 = 0 → ((¬ v2 = 0 → (vp_in v1 28 ∧ Q (M1.1 18 v1.toNatClampNeg) M1)) ∧ (v2 = 0 → (vp_in v1 28 ∧ Q (M1.1 17 v1.toNatClampNeg) M1)))) ∧ (¬ r1 = 0 → Q r1 M1)))
theorem blk_X7_end_1_mono {v1 : Int32} {v2 : Int32} {Q Q' : Int32 → Mem → Prop} {P P' : Nat → Int32 → Mem → Prop} (hQ : ∀ (r : Int32) (M : Mem), Q r M → Q' r M) (hP : ∀ (lab : Nat) (v3 : Int32) (M : Mem), P lab v3 M → P' lab v3 M) (v3 : Int32) (M : Mem) (h : blk_X7_end_1 v1 v2 Q P v3 M) : blk_X7_end_1 v1 v2 Q' P' v3 M := by
  unfold blk_X7_end_1 at h ⊢
  exact wp_X7_fenceRefusal_mono (fun r1 M1 h => ⟨fun c => let h := h.1 c; ⟨fun c => let h := h.1 c; ⟨h.1, let h := h.2; hQ _ _ h⟩, fun c => let h := h.2 c; ⟨h.1, let h := h.2; hQ _ _ h⟩⟩, fun c => let h := h.2 c; hQ _ _ h⟩) h
def blk_X7_end (v1 : Int32) (v2 : Int32) (Q : Int32 → Mem → Prop) (P : Nat → Int32 → Mem → Prop) : Nat → Int32 → Mem → Prop := fun lab v3 M => match lab with
  | 0 => blk_X7_end_0 v1 v2 Q P v3 M
  | 1 => blk_X7_end_1 v1 v2 Q P v3 M
  | _ => False
theorem blk_X7_end_mono {v1 : Int32} {v2 : Int32} {Q Q' : Int32 → Mem → Prop} {P P' : Nat → Int32 → Mem → Prop} (hQ : ∀ (r : Int32) (M : Mem), Q r M → Q' r M) (hP : ∀ (lab : Nat) (v3 : Int32) (M : Mem), P lab v3 M → P' lab v3 M) : ∀ (lab : Nat) (v3 : Int32) (M : Mem), blk_X7_end v1 v2 Q P lab v3 M → blk_X7_end v1 v2 Q' P' lab v3 M := fun lab v3 M h => match lab, h with
  | 0, h => blk_X7_end_0_mono (v1 := v1) (v2 := v2) hQ hP v3 M h
  | 1, h => blk_X7_end_1_mono (v1 := v1) (v2 := v2) hQ hP v3 M h
  | _ + 2, h => False.elim h
def at_X7_end (v1 : Int32) (v2 : Int32) (Q : Int32 → Mem → Prop) : Nat → Int32 → Mem → Prop := fun lab v3 M => ∀ P : Nat → Int32 → Mem → Prop, (∀ (lab : Nat) (v3 : Int32) (M : Mem), blk_X7_end v1 v2 Q P lab v3 M → P lab v3 M) → P lab v3 M
theorem at_X7_end_fold {v1 : Int32} {v2 : Int32} {Q : Int32 → Mem → Prop} {lab : Nat} {v3 : Int32} {M : Mem} (h : blk_X7_end v1 v2 Q (at_X7_end v1 v2 Q) lab v3 M) : at_X7_end v1 v2 Q lab v3 M := fun P hP => hP _ _ _ (blk_X7_end_mono (fun _ _ h => h) (fun _ _ _ h => h P hP) _ _ _ h)
theorem at_X7_end_mono {v1 : Int32} {v2 : Int32} {Q Q' : Int32 → Mem → Prop} (hQ : ∀ (r : Int32) (M : Mem), Q r M → Q' r M) {lab : Nat} {v3 : Int32} {M : Mem} (h : at_X7_end v1 v2 Q lab v3 M) : at_X7_end v1 v2 Q' lab v3 M := fun P hP => h P (fun lab v3 M hb => hP _ _ _ (blk_X7_end_mono hQ (fun _ _ _ h => h) _ _ _ hb))
def wp_X7_end (v1 : Int32) (v2 : Int32) (M : Mem) (Q : Int32 → Mem → Prop) : Prop := at_X7_end v1 v2 Q 0 0 M
theorem wp_X7_end_mono {v1 : Int32} {v2 : Int32} {M : Mem} {Q Q' : Int32 → Mem → Prop} (hQ : ∀ (r : Int32) (M : Mem), Q r M → Q' r M) (h : wp_X7_end v1 v2 M Q) : wp_X7_end v1 v2 M Q' := at_X7_end_mono hQ h
def pcl_X7_end : Nat → Nat := fun lab => match lab with
  | 0 => 0
  | 1 => 12
  | _ => 0
def lvl_X7_end (ad : Nat → Nat) (v1 : Int32) (v2 : Int32) : Nat → Int32 → List (Nat × Value) := fun lab v3 => match lab with
  | 0 => [(0, .ref (ad 0)), (1, .int v1), (2, .int v2)]
  | 1 => [(0, .ref (ad 0)), (1, .int v1), (2, .int v2)]
  | _ => []
abbrev rm_X7_end : Jvm.Room := { frames := 3, cells := 0, slots := 0, locals := 55 }
set_option maxHeartbeats 4000000 in
set_option maxRecDepth 100000 in
theorem ct_X7_end (l : Launch) (D : va_G) (cy : Nat → ClassId) (ad : Nat → Nat) (B : Nat → Prop) (v1 : Int32) (v2 : Int32) (M : Mem) (Q : Int32 → Mem → Prop) (h : wp_X7_end v1 v2 M Q) : CTi l D cy (wX ad cy) B yX7_end wsX7_end rm_X7_end [.ref (ad 0), .int v1, .int v2] M Q := by
  intro sz
  refine Met.ofW (cc := cX7_end) (maxL := 4) (ret := some .int) (by decide) rfl ?_
  intro p e s m args below meth c s₁ Bd hml hv
  obtain ⟨hargs, hsz, hP, hK, hD⟩ := hv
  subst hsz
  have hx := Bd.exec
  have hb := Bd.bytes
  have hr := Bd.returns
  have hts := atoms_spec (ws := wsX7_end) Bd.pre
  have hown : s.vm.findClass RX7 = some m.cls := findClass_of_methodNamed Bd.named
  have hlocks := Bd.notSynchronized
  have hC2 : xC wsX7_end 2 RX2 TX2 8 := ⟨by decide +kernel, rfl⟩
  have hC7 : xC wsX7_end 7 RX7 TX7 11 := ⟨by decide +kernel, rfl⟩
  have key : ∀ (P : Nat → Int32 → Mem → Prop), (∀ (lab : Nat) (v3 : Int32) (M : Mem), P lab v3 M → ∀ (H : Heap) (locs : List Loc) (ls : Array Slot), xS D (wX ad cy) B s.heap H locs M → lv_has ls 4 (lvl_X7_end ad v1 v2 lab v3 ) → W p l e (headSpec wsX7_end rm_X7_end).room s m args below meth c H locs 0 0 (MQ below (va_Qi (S := Mem) Q (xB D (wX ad cy) B) (xA B s.heap.size)) args s 0 0 (xA B s.heap.size)) (F0 m (pcl_X7_end lab) ls [])) → ∀ (lab : Nat) (v3 : Int32) (M : Mem), blk_X7_end v1 v2 Q P lab v3 M → ∀ (H : Heap) (locs : List Loc) (ls : Array Slot), xS D (wX ad cy) B s.heap H locs M → lv_has ls 4 (lvl_X7_end ad v1 v2 lab v3 ) → W p l e (headSpec wsX7_end rm_X7_end).room s m args below meth c H locs 0 0 (MQ below (va_Qi (S := Mem) Q (xB D (wX ad cy) B) (xA B s.heap.size)) args s 0 0 (xA B s.heap.size)) (F0 m (pcl_X7_end lab) ls []) := by
    intro P hJ lab v3 M h H locs ls S hl
    match lab, h, hl with
    | 0, h, hl =>
      have hl : lv_has ls 4 [(0, .ref (ad 0)), (1, .int v1), (2, .int v2)] := hl
      have h : blk_X7_end_0 v1 v2 Q P v3 M := h
      unfold blk_X7_end_0 at h
      refine W.eq (g2 := F0 m 0 ls []) rfl ?_
      refine lv_iload_n hx hb dX7_end_0 rfl (lv_at hl 2 rfl) ?_
      refine lv_if_eq (tgt := 12) hx hb dX7_end_1 (by decide) (fun c1 => ?_) (fun c1 => ?_)
      · replace h := h.1 c1
        exact hJ _ _ _ h _ _ _ S (lv_sub hl [0, 1, 2] rfl)
      · replace h := h.2 c1
        refine lv_iload_n hx hb dX7_end_4 rfl (lv_at hl 2 rfl) ?_
        refine lv_iconst (v := 1) hx hb dX7_end_5 (by decide) ?_
        refine lv_icmp_eq (tgt := 12) hx hb dX7_end_6 (by decide) (fun c6 => ?_) (fun c6 => ?_)
        · replace h := h.1 c6
          exact hJ _ _ _ h _ _ _ S (lv_sub hl [0, 1, 2] rfl)
        · replace h := h.2 c6
          refine lv_bipush (v := (-2)) hx hb dX7_end_9 (by decide) ?_
          exact x_iret hx hb hr hlocks S rfl h dX7_end_11
    | 1, h, hl =>
      have hl : lv_has ls 4 [(0, .ref (ad 0)), (1, .int v1), (2, .int v2)] := hl
      have h : blk_X7_end_1 v1 v2 Q P v3 M := h
      unfold blk_X7_end_1 at h
      refine W.eq (g2 := F0 m 12 ls []) rfl ?_
      refine lv_aload_n hx hb dX7_end_12 rfl (lv_at hl 0 rfl) ?_
      refine lv_iload_n hx hb dX7_end_13 rfl (lv_at hl 1 rfl) ?_
      refine x_callVi (As := [.int v1]) ⟨hx, hb, hml, hown, hts⟩ hK S (ct_X7_fenceRefusal l D cy ad B _ _ _ h) xo_0 rfl (cwV 1 hts gX7_end_X7_fenceRefusal rfl rfl rfl (by decide +kernel) ⟨Nat.le_of_ble_eq_true rfl, Nat.le_of_ble_eq_true rfl⟩) rfl hl.1 rfl (Nat.le_of_ble_eq_true rfl) dX7_end_14 ⟨Nat.zero_le _, Nat.zero_le _⟩ (fun r1 M1 H locs h S => ?_)
      refine lv_istore_n (lv' := [(3, .int r1), (0, .ref (ad 0)), (1, .int v1), (2, .int v2)]) hx hb dX7_end_17 rfl hl (by decide) rfl (fun ls hl => ?_)
      refine lv_iload_n hx hb dX7_end_18 rfl (lv_at hl 0 rfl) ?_
      refine lv_if_eq (tgt := 24) hx hb dX7_end_19 (by decide) (fun c19 => ?_) (fun c19 => ?_)
      · replace h := h.1 c19
        refine lv_iload_n hx hb dX7_end_24 rfl (lv_at hl 3 rfl) ?_
        refine lv_if_ne (tgt := 40) hx hb dX7_end_25 (by decide) (fun c25 => ?_) (fun c25 => ?_)
        · replace h := h.1 c25
          refine lv_aload_n hx hb dX7_end_40 rfl (lv_at hl 1 rfl) ?_
          refine x_getR hx hb hts (hC7) hown hK S 2 (by decide) xf_0_2 (index := 25) (hts _ (List.mem_of_getElem? (i := 1) rfl)) dX7_end_41 ?_
          refine x_getR hx hb hts (hC2) hown hK S 2 (by decide) xf_13_2 (index := 145) (hts _ (List.mem_of_getElem? (i := 3) rfl)) dX7_end_44 ?_
          refine lv_iload_n hx hb dX7_end_47 rfl (lv_at hl 2 rfl) ?_
          refine x_iald hx hb hK S xa_18 h.1 dX7_end_48 ?_
          replace h := h.2
          exact x_iret hx hb hr hlocks S rfl h dX7_end_49
        · replace h := h.2 c25
          refine lv_aload_n hx hb dX7_end_28 rfl (lv_at hl 1 rfl) ?_
          refine x_getR hx hb hts (hC7) hown hK S 2 (by decide) xf_0_2 (index := 25) (hts _ (List.mem_of_getElem? (i := 1) rfl)) dX7_end_29 ?_
          refine x_getR hx hb hts (hC2) hown hK S 1 (by decide) xf_13_1 (index := 142) (hts _ (List.mem_of_getElem? (i := 2) rfl)) dX7_end_32 ?_
          refine lv_iload_n hx hb dX7_end_35 rfl (lv_at hl 2 rfl) ?_
          refine x_iald hx hb hK S xa_17 h.1 dX7_end_36 ?_
          replace h := h.2
          refine lv_goto (tgt := 49) hx hb dX7_end_37 (by decide) ?_
          exact x_iret hx hb hr hlocks S rfl h dX7_end_49
      · replace h := h.2 c19
        refine lv_iload_n hx hb dX7_end_22 rfl (lv_at hl 0 rfl) ?_
        exact x_iret hx hb hr hlocks S rfl h dX7_end_23
    | _ + 2, h, hl => exact h.elim
  have hl := lv_entry ([.ref (ad 0), .int v1, .int v2]) (n := 4) (Nat.le_of_ble_eq_true rfl)
  subst hargs
  rw [lg_entry_eq]
  generalize (lg_sl ([.ref (ad 0), .int v1, .int v2]) ++ List.replicate (4 - (lg_sl ([.ref (ad 0), .int v1, .int v2])).length) Slot.unset).toArray = ls at hl ⊢
  exact h _ (key _ (fun _ _ _ h => h)) s.heap [] ls ⟨hP, hD, va_S.rf⟩ hl
/-! X7_fencesNow -/
def wp_X7_fencesNow (M : Mem) (Q : Int32 → Mem → Prop) : Prop :=
  (vp_in (M.1 0 9) 256 ∧ Q (M.1 23 (M.1 0 9).toNatClampNeg) M)
theorem wp_X7_fencesNow_mono {M : Mem} {Q Q' : Int32 → Mem → Prop} (hQ : ∀ (r : Int32) (M : Mem), Q r M → Q' r M) (h : wp_X7_fencesNow M Q) : wp_X7_fencesNow M Q' := by
  unfold wp_X7_fencesNow at h ⊢
  exact ⟨h.1, let h := h.2; hQ _ _ h⟩
abbrev rm_X7_fencesNow : Jvm.Room := { frames := 1, cells := 0, slots := 0, locals := 12 }
set_option maxHeartbeats 4000000 in
set_option maxRecDepth 100000 in
theorem ct_X7_fencesNow (l : Launch) (D : va_G) (cy : Nat → ClassId) (ad : Nat → Nat) (B : Nat → Prop) (M : Mem) (Q : Int32 → Mem → Prop) (h : wp_X7_fencesNow M Q) : CTi l D cy (wX ad cy) B yX7_fencesNow wsX7_fencesNow rm_X7_fencesNow [.ref (ad 0)] M Q := by
  intro sz
  refine Met.ofW (cc := cX7_fencesNow) (maxL := 1) (ret := some .int) (by decide) rfl ?_
  intro p e s m args below meth c s₁ Bd hml hv
  obtain ⟨hargs, hsz, hP, hK, hD⟩ := hv
  subst hsz
  have hx := Bd.exec
  have hb := Bd.bytes
  have hr := Bd.returns
  have hts := atoms_spec (ws := wsX7_fencesNow) Bd.pre
  have hown : s.vm.findClass RX7 = some m.cls := findClass_of_methodNamed Bd.named
  have hlocks := Bd.notSynchronized
  have hC1 : xC wsX7_fencesNow 1 RX1 TX1 3 := ⟨by decide +kernel, rfl⟩
  have hC7 : xC wsX7_fencesNow 7 RX7 TX7 11 := ⟨by decide +kernel, rfl⟩
  have hl := lv_entry ([.ref (ad 0)]) (n := 1) (Nat.le_of_ble_eq_true rfl)
  subst hargs
  rw [lg_entry_eq]
  generalize (lg_sl ([.ref (ad 0)]) ++ List.replicate (1 - (lg_sl ([.ref (ad 0)])).length) Slot.unset).toArray = ls at hl ⊢
  have hl : lv_has ls 1 [(0, .ref (ad 0))] := hl
  have S : xS D (wX ad cy) B s.heap s.heap [] M := ⟨hP, hD, va_S.rf⟩
  unfold wp_X7_fencesNow at h
  refine lv_aload_n hx hb dX7_fencesNow_0 rfl (lv_at hl 0 rfl) ?_
  refine x_getR hx hb hts (hC7) hown hK S 3 (by decide) xf_0_3 (index := 32) (hts _ (List.mem_of_getElem? (i := 1) rfl)) dX7_fencesNow_1 ?_
  refine x_getR hx hb hts (hC1) hown hK S 0 (by decide) xf_22_0 (index := 266) (hts _ (List.mem_of_getElem? (i := 2) rfl)) dX7_fencesNow_4 ?_
  refine lv_aload_n hx hb dX7_fencesNow_7 rfl (lv_at hl 0 rfl) ?_
  refine x_getI hx hb hts (hC7) hown hK S 9 (by decide) xf_0_9 (index := 123) (hts _ (List.mem_of_getElem? (i := 3) rfl)) dX7_fencesNow_8 ?_
  refine x_iald hx hb hK S xa_23 h.1 dX7_fencesNow_11 ?_
  replace h := h.2
  exact x_iret hx hb hr hlocks S rfl h dX7_fencesNow_12
/-! J6_bitCount_0f7a4_X -/
def wp_J6_bitCount_0f7a4_X (v0 : Int32) (M : Mem) (Q : Int32 → Mem → Prop) : Prop :=
  ∀ x0_1 : Int32, x0_1 = (v0 - ((iushr v0 1) &&& (1431655765 : Int32))) → ∀ x0_2 : Int32, x0_2 = ((x0_1 &&& (858993459 : Int32)) + ((iushr x0_1 2) &&& (858993459 : Int32))) → ∀ x0_3 : Int32, x0_3 = ((x0_2 + (iushr x0_2 4)) &&& (252645135 : Int32)) → ∀ x0_4 : Int32, x0_4 = ((x0_3 + (iushr x0_3 8)) + (iushr (x0_3 + (iushr x0_3 8)) 16)) → Q (x0_4 &&& (63 : Int32)) M
theorem wp_J6_bitCount_0f7a4_X_mono {v0 : Int32} {M : Mem} {Q Q' : Int32 → Mem → Prop} (hQ : ∀ (r : Int32) (M : Mem), Q r M → Q' r M) (h : wp_J6_bitCount_0f7a4_X v0 M Q) : wp_J6_bitCount_0f7a4_X v0 M Q' := by
  unfold wp_J6_bitCount_0f7a4_X at h ⊢
  exact fun x0_1 ex0_1 => let h := h x0_1 ex0_1; fun x0_2 ex0_2 => let h := h x0_2 ex0_2; fun x0_3 ex0_3 => let h := h x0_3 ex0_3; fun x0_4 ex0_4 => let h := h x0_4 ex0_4; hQ _ _ h
abbrev rm_J6_bitCount_0f7a4_X : Jvm.Room := { frames := 1, cells := 0, slots := 0, locals := 12 }
set_option maxHeartbeats 4000000 in
set_option maxRecDepth 100000 in
theorem ct_J6_bitCount_0f7a4_X (l : Launch) (D : va_G) (cy : Nat → ClassId) (ad : Nat → Nat) (B : Nat → Prop) (v0 : Int32) (M : Mem) (Q : Int32 → Mem → Prop) (h : wp_J6_bitCount_0f7a4_X v0 M Q) : CTi l D cy (wX ad cy) B yJ6_bitCount_0f7a4 wsJ6_bitCount_0f7a4 rm_J6_bitCount_0f7a4_X [.int v0] M Q := by
  intro sz
  refine Met.ofW (cc := cJ6_bitCount_0f7a4) (maxL := 1) (ret := some .int) (by decide) rfl ?_
  intro p e s m args below meth c s₁ Bd hml hv
  obtain ⟨hargs, hsz, hP, hK, hD⟩ := hv
  subst hsz
  have hx := Bd.exec
  have hb := Bd.bytes
  have hr := Bd.returns
  have hts := atoms_spec (ws := wsJ6_bitCount_0f7a4) Bd.pre
  have hown : s.vm.findClass RJ6 = some m.cls := findClass_of_methodNamed Bd.named
  have hlocks := Bd.notSynchronized
  have hl := lv_entry ([.int v0]) (n := 1) (Nat.le_of_ble_eq_true rfl)
  subst hargs
  rw [lg_entry_eq]
  generalize (lg_sl ([.int v0]) ++ List.replicate (1 - (lg_sl ([.int v0])).length) Slot.unset).toArray = ls at hl ⊢
  have hl : lv_has ls 1 [(0, .int v0)] := hl
  have S : xS D (wX ad cy) B s.heap s.heap [] M := ⟨hP, hD, va_S.rf⟩
  unfold wp_J6_bitCount_0f7a4_X at h
  refine lv_iload_n hx hb dJ6_bitCount_0f7a4_0 rfl (lv_at hl 0 rfl) ?_
  refine lv_iload_n hx hb dJ6_bitCount_0f7a4_1 rfl (lv_at hl 0 rfl) ?_
  refine lv_iconst (v := 1) hx hb dJ6_bitCount_0f7a4_2 (by decide) ?_
  refine lv_iushr (v := (iushr v0 1)) hx hb dJ6_bitCount_0f7a4_3 rfl ?_
  refine lv_ldcw (v := 1431655765) hx hb hown (hts _ (List.mem_of_getElem? (i := 1) rfl)) dJ6_bitCount_0f7a4_4 ?_
  refine lv_iand hx hb dJ6_bitCount_0f7a4_7 ?_
  refine lv_isub hx hb dJ6_bitCount_0f7a4_8 ?_
  refine lv_topi (fun x0_1 ex0_1 => ?_)
  replace h := h x0_1 ex0_1
  refine lv_istore_n (lv' := [(0, .int x0_1)]) hx hb dJ6_bitCount_0f7a4_9 rfl hl (by decide) rfl (fun ls hl => ?_)
  refine lv_iload_n hx hb dJ6_bitCount_0f7a4_10 rfl (lv_at hl 0 rfl) ?_
  refine lv_ldcw (v := 858993459) hx hb hown (hts _ (List.mem_of_getElem? (i := 2) rfl)) dJ6_bitCount_0f7a4_11 ?_
  refine lv_iand hx hb dJ6_bitCount_0f7a4_14 ?_
  refine lv_iload_n hx hb dJ6_bitCount_0f7a4_15 rfl (lv_at hl 0 rfl) ?_
  refine lv_iconst (v := 2) hx hb dJ6_bitCount_0f7a4_16 (by decide) ?_
  refine lv_iushr (v := (iushr x0_1 2)) hx hb dJ6_bitCount_0f7a4_17 rfl ?_
  refine lv_ldcw (v := 858993459) hx hb hown (hts _ (List.mem_of_getElem? (i := 2) rfl)) dJ6_bitCount_0f7a4_18 ?_
  refine lv_iand hx hb dJ6_bitCount_0f7a4_21 ?_
  refine lv_iadd hx hb dJ6_bitCount_0f7a4_22 ?_
  refine lv_topi (fun x0_2 ex0_2 => ?_)
  replace h := h x0_2 ex0_2
  refine lv_istore_n (lv' := [(0, .int x0_2)]) hx hb dJ6_bitCount_0f7a4_23 rfl hl (by decide) rfl (fun ls hl => ?_)
  refine lv_iload_n hx hb dJ6_bitCount_0f7a4_24 rfl (lv_at hl 0 rfl) ?_
  refine lv_iload_n hx hb dJ6_bitCount_0f7a4_25 rfl (lv_at hl 0 rfl) ?_
  refine lv_iconst (v := 4) hx hb dJ6_bitCount_0f7a4_26 (by decide) ?_
  refine lv_iushr (v := (iushr x0_2 4)) hx hb dJ6_bitCount_0f7a4_27 rfl ?_
  refine lv_iadd hx hb dJ6_bitCount_0f7a4_28 ?_
  refine lv_ldcw (v := 252645135) hx hb hown (hts _ (List.mem_of_getElem? (i := 3) rfl)) dJ6_bitCount_0f7a4_29 ?_
  refine lv_iand hx hb dJ6_bitCount_0f7a4_32 ?_
  refine lv_topi (fun x0_3 ex0_3 => ?_)
  replace h := h x0_3 ex0_3
  refine lv_istore_n (lv' := [(0, .int x0_3)]) hx hb dJ6_bitCount_0f7a4_33 rfl hl (by decide) rfl (fun ls hl => ?_)
  refine lv_iload_n hx hb dJ6_bitCount_0f7a4_34 rfl (lv_at hl 0 rfl) ?_
  refine lv_iload_n hx hb dJ6_bitCount_0f7a4_35 rfl (lv_at hl 0 rfl) ?_
  refine lv_bipush (v := 8) hx hb dJ6_bitCount_0f7a4_36 (by decide) ?_
  refine lv_iushr (v := (iushr x0_3 8)) hx hb dJ6_bitCount_0f7a4_38 rfl ?_
  refine lv_iadd hx hb dJ6_bitCount_0f7a4_39 ?_
  refine lv_istore_n (lv' := [(0, .int (x0_3 + (iushr x0_3 8)))]) hx hb dJ6_bitCount_0f7a4_40 rfl hl (by decide) rfl (fun ls hl => ?_)
  refine lv_iload_n hx hb dJ6_bitCount_0f7a4_41 rfl (lv_at hl 0 rfl) ?_
  refine lv_iload_n hx hb dJ6_bitCount_0f7a4_42 rfl (lv_at hl 0 rfl) ?_
  refine lv_bipush (v := 16) hx hb dJ6_bitCount_0f7a4_43 (by decide) ?_
  refine lv_iushr (v := (iushr (x0_3 + (iushr x0_3 8)) 16)) hx hb dJ6_bitCount_0f7a4_45 rfl ?_
  refine lv_iadd hx hb dJ6_bitCount_0f7a4_46 ?_
  refine lv_topi (fun x0_4 ex0_4 => ?_)
  replace h := h x0_4 ex0_4
  refine lv_istore_n (lv' := [(0, .int x0_4)]) hx hb dJ6_bitCount_0f7a4_47 rfl hl (by decide) rfl (fun ls hl => ?_)
  refine lv_iload_n hx hb dJ6_bitCount_0f7a4_48 rfl (lv_at hl 0 rfl) ?_
  refine lv_bipush (v := 63) hx hb dJ6_bitCount_0f7a4_49 (by decide) ?_
  refine lv_iand hx hb dJ6_bitCount_0f7a4_51 ?_
  exact x_iret hx hb hr hlocks S rfl h dJ6_bitCount_0f7a4_52
/-! X2_isBare -/
def blk_X2_isBare_0 (v1 : Int32) (v2 : Int32) (Q : Int32 → Mem → Prop) (P : Nat → Int32 → Mem → Prop) (v3 : Int32) (M : Mem) : Prop :=
  P 1 0 M
theorem blk_X2_isBare_0_mono {v1 : Int32} {v2 : Int32} {Q Q' : Int32 → Mem → Prop} {P P' : Nat → Int32 → Mem → Prop} (hQ : ∀ (r : Int32) (M : Mem), Q r M → Q' r M) (hP : ∀ (lab : Nat) (v3 : Int32) (M : Mem), P lab v3 M → P' lab v3 M) (v3 : Int32) (M : Mem) (h : blk_X2_isBare_0 v1 v2 Q P v3 M) : blk_X2_isBare_0 v1 v2 Q' P' v3 M := by
  unfold blk_X2_isBare_0 at h ⊢
  exact hP _ _ _ h
def blk_X2_isBare_1 (v1 : Int32) (v2 : Int32) (Q : Int32 → Mem → Prop) (P : Nat → Int32 → Mem → Prop) (v3 : Int32) (M : Mem) : Prop :=
  (((M.1 14 2) ≤ v3 → Q 0 M) ∧ (¬ (M.1 14 2) ≤ v3 → wp_X2_isThird v1 v3 v2 M (fun r1 M1 => ((r1 = 0 → P 2 v3 M1) ∧ (¬ r1 = 0 → (vp_in ((v1 * 8) + v3) 224 ∧ wp_J6_bitCount_0f7a4_X ((M1.1 21 ((v1 * 8) + v3).toNatClampNeg) &&& (M1.1 13 5)) M1 (fun r2 M2 => ((r2 < 2 → P 2 v3 M2) ∧ (¬ r2 < 2 → Q 1 M2)))))))))
theorem blk_X2_isBare_1_mono {v1 : Int32} {v2 : Int32} {Q Q' : Int32 → Mem → Prop} {P P' : Nat → Int32 → Mem → Prop} (hQ : ∀ (r : Int32) (M : Mem), Q r M → Q' r M) (hP : ∀ (lab : Nat) (v3 : Int32) (M : Mem), P lab v3 M → P' lab v3 M) (v3 : Int32) (M : Mem) (h : blk_X2_isBare_1 v1 v2 Q P v3 M) : blk_X2_isBare_1 v1 v2 Q' P' v3 M := by
  unfold blk_X2_isBare_1 at h ⊢
  exact ⟨fun c => let h := h.1 c; hQ _ _ h, fun c => let h := h.2 c; wp_X2_isThird_mono (fun r1 M1 h => ⟨fun c => let h := h.1 c; hP _ _ _ h, fun c => let h := h.2 c; ⟨h.1, let h := h.2; wp_J6_bitCount_0f7a4_X_mono (fun r2 M2 h => ⟨fun c => let h := h.1 c; hP _ _ _ h, fun c => let h := h.2 c; hQ _ _ h⟩) h⟩⟩) h⟩
def blk_X2_isBare_2 (v1 : Int32) (v2 : Int32) (Q : Int32 → Mem → Prop) (P : Nat → Int32 → Mem → Prop) (v3 : Int32) (M : Mem) : Prop :=
  P 1 (v3 + 1) M
theorem blk_X2_isBare_2_mono {v1 : Int32} {v2 : Int32} {Q Q' : Int32 → Mem → Prop} {P P' : Nat → Int32 → Mem → Prop} (hQ : ∀ (r : Int32) (M : Mem), Q r M → Q' r M) (hP : ∀ (lab : Nat) (v3 : Int32) (M : Mem), P lab v3 M → P' lab v3 M) (v3 : Int32) (M : Mem) (h : blk_X2_isBare_2 v1 v2 Q P v3 M) : blk_X2_isBare_2 v1 v2 Q' P' v3 M := by
  unfold blk_X2_isBare_2 at h ⊢
  exact hP _ _ _ h
def blk_X2_isBare (v1 : Int32) (v2 : Int32) (Q : Int32 → Mem → Prop) (P : Nat → Int32 → Mem → Prop) : Nat → Int32 → Mem → Prop := fun lab v3 M => match lab with
  | 0 => blk_X2_isBare_0 v1 v2 Q P v3 M
  | 1 => blk_X2_isBare_1 v1 v2 Q P v3 M
  | 2 => blk_X2_isBare_2 v1 v2 Q P v3 M
  | _ => False
theorem blk_X2_isBare_mono {v1 : Int32} {v2 : Int32} {Q Q' : Int32 → Mem → Prop} {P P' : Nat → Int32 → Mem → Prop} (hQ : ∀ (r : Int32) (M : Mem), Q r M → Q' r M) (hP : ∀ (lab : Nat) (v3 : Int32) (M : Mem), P lab v3 M → P' lab v3 M) : ∀ (lab : Nat) (v3 : Int32) (M : Mem), blk_X2_isBare v1 v2 Q P lab v3 M → blk_X2_isBare v1 v2 Q' P' lab v3 M := fun lab v3 M h => match lab, h with
  | 0, h => blk_X2_isBare_0_mono (v1 := v1) (v2 := v2) hQ hP v3 M h
  | 1, h => blk_X2_isBare_1_mono (v1 := v1) (v2 := v2) hQ hP v3 M h
  | 2, h => blk_X2_isBare_2_mono (v1 := v1) (v2 := v2) hQ hP v3 M h
  | _ + 3, h => False.elim h
def at_X2_isBare (v1 : Int32) (v2 : Int32) (Q : Int32 → Mem → Prop) : Nat → Int32 → Mem → Prop := fun lab v3 M => ∀ P : Nat → Int32 → Mem → Prop, (∀ (lab : Nat) (v3 : Int32) (M : Mem), blk_X2_isBare v1 v2 Q P lab v3 M → P lab v3 M) → P lab v3 M
theorem at_X2_isBare_fold {v1 : Int32} {v2 : Int32} {Q : Int32 → Mem → Prop} {lab : Nat} {v3 : Int32} {M : Mem} (h : blk_X2_isBare v1 v2 Q (at_X2_isBare v1 v2 Q) lab v3 M) : at_X2_isBare v1 v2 Q lab v3 M := fun P hP => hP _ _ _ (blk_X2_isBare_mono (fun _ _ h => h) (fun _ _ _ h => h P hP) _ _ _ h)
theorem at_X2_isBare_mono {v1 : Int32} {v2 : Int32} {Q Q' : Int32 → Mem → Prop} (hQ : ∀ (r : Int32) (M : Mem), Q r M → Q' r M) {lab : Nat} {v3 : Int32} {M : Mem} (h : at_X2_isBare v1 v2 Q lab v3 M) : at_X2_isBare v1 v2 Q' lab v3 M := fun P hP => h P (fun lab v3 M hb => hP _ _ _ (blk_X2_isBare_mono hQ (fun _ _ _ h => h) _ _ _ hb))
def wp_X2_isBare (v1 : Int32) (v2 : Int32) (M : Mem) (Q : Int32 → Mem → Prop) : Prop := at_X2_isBare v1 v2 Q 0 0 M
theorem wp_X2_isBare_mono {v1 : Int32} {v2 : Int32} {M : Mem} {Q Q' : Int32 → Mem → Prop} (hQ : ∀ (r : Int32) (M : Mem), Q r M → Q' r M) (h : wp_X2_isBare v1 v2 M Q) : wp_X2_isBare v1 v2 M Q' := at_X2_isBare_mono hQ h
def pcl_X2_isBare : Nat → Nat := fun lab => match lab with
  | 0 => 0
  | 1 => 2
  | 2 => 48
  | _ => 0
def lvl_X2_isBare (ad : Nat → Nat) (v1 : Int32) (v2 : Int32) : Nat → Int32 → List (Nat × Value) := fun lab v3 => match lab with
  | 0 => [(0, .ref (ad 13)), (1, .int v1), (2, .int v2)]
  | 1 => [(0, .ref (ad 13)), (1, .int v1), (2, .int v2), (3, .int v3)]
  | 2 => [(0, .ref (ad 13)), (1, .int v1), (2, .int v2), (3, .int v3)]
  | _ => []
abbrev rm_X2_isBare : Jvm.Room := { frames := 2, cells := 0, slots := 0, locals := 40 }
set_option maxHeartbeats 4000000 in
set_option maxRecDepth 100000 in
theorem ct_X2_isBare (l : Launch) (D : va_G) (cy : Nat → ClassId) (ad : Nat → Nat) (B : Nat → Prop) (v1 : Int32) (v2 : Int32) (M : Mem) (Q : Int32 → Mem → Prop) (h : wp_X2_isBare v1 v2 M Q) : CTi l D cy (wX ad cy) B yX2_isBare wsX2_isBare rm_X2_isBare [.ref (ad 13), .int v1, .int v2] M Q := by
  intro sz
  refine Met.ofW (cc := cX2_isBare) (maxL := 4) (ret := some .boolean) (by decide) rfl ?_
  intro p e s m args below meth c s₁ Bd hml hv
  obtain ⟨hargs, hsz, hP, hK, hD⟩ := hv
  subst hsz
  have hx := Bd.exec
  have hb := Bd.bytes
  have hr := Bd.returns
  have hts := atoms_spec (ws := wsX2_isBare) Bd.pre
  have hown : s.vm.findClass RX2 = some m.cls := findClass_of_methodNamed Bd.named
  have hlocks := Bd.notSynchronized
  have hC2 : xC wsX2_isBare 2 RX2 TX2 8 := ⟨by decide +kernel, rfl⟩
  have hC4 : xC wsX2_isBare 4 RX4 TX4 3 := ⟨by decide +kernel, rfl⟩
  have key : ∀ (P : Nat → Int32 → Mem → Prop), (∀ (lab : Nat) (v3 : Int32) (M : Mem), P lab v3 M → ∀ (H : Heap) (locs : List Loc) (ls : Array Slot), xS D (wX ad cy) B s.heap H locs M → lv_has ls 4 (lvl_X2_isBare ad v1 v2 lab v3 ) → W p l e (headSpec wsX2_isBare rm_X2_isBare).room s m args below meth c H locs 0 0 (MQ below (va_Qi (S := Mem) Q (xB D (wX ad cy) B) (xA B s.heap.size)) args s 0 0 (xA B s.heap.size)) (F0 m (pcl_X2_isBare lab) ls [])) → ∀ (lab : Nat) (v3 : Int32) (M : Mem), blk_X2_isBare v1 v2 Q P lab v3 M → ∀ (H : Heap) (locs : List Loc) (ls : Array Slot), xS D (wX ad cy) B s.heap H locs M → lv_has ls 4 (lvl_X2_isBare ad v1 v2 lab v3 ) → W p l e (headSpec wsX2_isBare rm_X2_isBare).room s m args below meth c H locs 0 0 (MQ below (va_Qi (S := Mem) Q (xB D (wX ad cy) B) (xA B s.heap.size)) args s 0 0 (xA B s.heap.size)) (F0 m (pcl_X2_isBare lab) ls []) := by
    intro P hJ lab v3 M h H locs ls S hl
    match lab, h, hl with
    | 0, h, hl =>
      have hl : lv_has ls 4 [(0, .ref (ad 13)), (1, .int v1), (2, .int v2)] := hl
      have h : blk_X2_isBare_0 v1 v2 Q P v3 M := h
      unfold blk_X2_isBare_0 at h
      refine W.eq (g2 := F0 m 0 ls []) rfl ?_
      refine lv_iconst (v := 0) hx hb dX2_isBare_0 (by decide) ?_
      refine lv_istore_n (lv' := [(3, .int 0), (0, .ref (ad 13)), (1, .int v1), (2, .int v2)]) hx hb dX2_isBare_1 rfl hl (by decide) rfl (fun ls hl => ?_)
      exact hJ _ _ _ h _ _ _ S (lv_sub hl [1, 2, 3, 0] rfl)
    | 1, h, hl =>
      have hl : lv_has ls 4 [(0, .ref (ad 13)), (1, .int v1), (2, .int v2), (3, .int v3)] := hl
      have h : blk_X2_isBare_1 v1 v2 Q P v3 M := h
      unfold blk_X2_isBare_1 at h
      refine W.eq (g2 := F0 m 2 ls []) rfl ?_
      refine lv_iload_n hx hb dX2_isBare_2 rfl (lv_at hl 3 rfl) ?_
      refine lv_aload_n hx hb dX2_isBare_3 rfl (lv_at hl 0 rfl) ?_
      refine x_getR hx hb hts (hC2) hown hK S 0 (by decide) xf_13_0 (index := 12) (hts _ (List.mem_of_getElem? (i := 1) rfl)) dX2_isBare_4 ?_
      refine x_getI hx hb hts (hC4) hown hK S 2 (by decide) xf_14_2 (index := 50) (hts _ (List.mem_of_getElem? (i := 2) rfl)) dX2_isBare_7 ?_
      refine lv_icmp_ge (tgt := 54) hx hb dX2_isBare_10 (by decide) (fun c10 => ?_) (fun c10 => ?_)
      · replace h := h.1 c10
        refine lv_iconst (v := 0) hx hb dX2_isBare_54 (by decide) ?_
        exact x_iret hx hb hr hlocks S rfl h dX2_isBare_55
      · replace h := h.2 c10
        refine lv_aload_n hx hb dX2_isBare_13 rfl (lv_at hl 0 rfl) ?_
        refine lv_iload_n hx hb dX2_isBare_14 rfl (lv_at hl 1 rfl) ?_
        refine lv_iload_n hx hb dX2_isBare_15 rfl (lv_at hl 3 rfl) ?_
        refine lv_iload_n hx hb dX2_isBare_16 rfl (lv_at hl 2 rfl) ?_
        refine x_callVi (As := [.int v1, .int v3, .int v2]) ⟨hx, hb, hml, hown, hts⟩ hK S (ct_X2_isThird l D cy ad B _ _ _ _ _ h) xo_13 rfl (cwV 3 hts gX2_isBare_X2_isThird rfl rfl rfl (by decide +kernel) ⟨Nat.le_of_ble_eq_true rfl, Nat.le_of_ble_eq_true rfl⟩) rfl hl.1 rfl (Nat.le_of_ble_eq_true rfl) dX2_isBare_17 ⟨Nat.zero_le _, Nat.zero_le _⟩ (fun r1 M1 H locs h S => ?_)
        refine lv_if_eq (tgt := 48) hx hb dX2_isBare_20 (by decide) (fun c20 => ?_) (fun c20 => ?_)
        · replace h := h.1 c20
          exact hJ _ _ _ h _ _ _ S (lv_sub hl [0, 1, 2, 3] rfl)
        · replace h := h.2 c20
          refine lv_aload_n hx hb dX2_isBare_23 rfl (lv_at hl 0 rfl) ?_
          refine x_getR hx hb hts (hC2) hown hK S 7 (by decide) xf_13_7 (index := 31) (hts _ (List.mem_of_getElem? (i := 3) rfl)) dX2_isBare_24 ?_
          refine lv_iload_n hx hb dX2_isBare_27 rfl (lv_at hl 1 rfl) ?_
          refine lv_bipush (v := 8) hx hb dX2_isBare_28 (by decide) ?_
          refine lv_imul hx hb dX2_isBare_30 ?_
          refine lv_iload_n hx hb dX2_isBare_31 rfl (lv_at hl 3 rfl) ?_
          refine lv_iadd hx hb dX2_isBare_32 ?_
          refine x_iald hx hb hK S xa_21 h.1 dX2_isBare_33 ?_
          replace h := h.2
          refine lv_aload_n hx hb dX2_isBare_34 rfl (lv_at hl 0 rfl) ?_
          refine x_getI hx hb hts (hC2) hown hK S 5 (by decide) xf_13_5 (index := 65) (hts _ (List.mem_of_getElem? (i := 4) rfl)) dX2_isBare_35 ?_
          refine lv_iand hx hb dX2_isBare_38 ?_
          refine x_callSi (As := [.int ((M1.1 21 ((v1 * 8) + v3).toNatClampNeg) &&& (M1.1 13 5))]) ⟨hx, hb, hml, hown, hts⟩ hK S (ct_J6_bitCount_0f7a4_X l D cy ad B _ _ _ h) (va_cwS 1 hts gX2_isBare_J6_bitCount_0f7a4 rfl rfl rfl (by decide +kernel) ⟨Nat.le_of_ble_eq_true rfl, Nat.le_of_ble_eq_true rfl⟩) rfl hl.1 rfl (Nat.le_of_ble_eq_true rfl) dX2_isBare_39 ⟨Nat.zero_le _, Nat.zero_le _⟩ (fun r2 M2 H locs h S => ?_)
          refine lv_iconst (v := 2) hx hb dX2_isBare_42 (by decide) ?_
          refine lv_icmp_lt (tgt := 48) hx hb dX2_isBare_43 (by decide) (fun c43 => ?_) (fun c43 => ?_)
          · replace h := h.1 c43
            exact hJ _ _ _ h _ _ _ S (lv_sub hl [0, 1, 2, 3] rfl)
          · replace h := h.2 c43
            refine lv_iconst (v := 1) hx hb dX2_isBare_46 (by decide) ?_
            exact x_iret hx hb hr hlocks S rfl h dX2_isBare_47
    | 2, h, hl =>
      have hl : lv_has ls 4 [(0, .ref (ad 13)), (1, .int v1), (2, .int v2), (3, .int v3)] := hl
      have h : blk_X2_isBare_2 v1 v2 Q P v3 M := h
      unfold blk_X2_isBare_2 at h
      refine W.eq (g2 := F0 m 48 ls []) rfl ?_
      refine lv_iinc (v := (v3 + 1)) (lv' := [(3, .int (v3 + 1)), (0, .ref (ad 13)), (1, .int v1), (2, .int v2)]) hx hb dX2_isBare_48 hl (k := 3) rfl rfl (by decide) rfl (fun ls hl => ?_)
      refine lv_goto (tgt := 2) hx hb dX2_isBare_51 (by decide) ?_
      exact hJ _ _ _ h _ _ _ S (lv_sub hl [1, 2, 3, 0] rfl)
    | _ + 3, h, hl => exact h.elim
  have hl := lv_entry ([.ref (ad 13), .int v1, .int v2]) (n := 4) (Nat.le_of_ble_eq_true rfl)
  subst hargs
  rw [lg_entry_eq]
  generalize (lg_sl ([.ref (ad 13), .int v1, .int v2]) ++ List.replicate (4 - (lg_sl ([.ref (ad 13), .int v1, .int v2])).length) Slot.unset).toArray = ls at hl ⊢
  exact h _ (key _ (fun _ _ _ h => h)) s.heap [] ls ⟨hP, hD, va_S.rf⟩ hl
/-! X7_kindOf -/
def wp_X7_kindOf (v1 : Int32) (M : Mem) (Q : Int32 → Mem → Prop) : Prop :=
  wp_X7_isIn v1 (M.1 25 3) M (fun r1 M1 => ((r1 = 0 → wp_X7_isIn v1 (M1.1 25 4) M1 (fun r2 M2 => ((r2 = 0 → wp_X7_isIn v1 (M2.1 13 5) M2 (fun r3 M3 => ((¬ r3 = 0 → wp_X7_fencesNow M3 (fun r4 M4 => wp_X2_isBare v1 r4 M4 (fun r5 M5 => ((r5 = 0 → Q 1 M5) ∧ (¬ r5 = 0 → Q 2 M5))))) ∧ (r3 = 0 → Q 0 M3)))) ∧ (¬ r2 = 0 → Q 3 M2)))) ∧ (¬ r1 = 0 → Q 4 M1)))
theorem wp_X7_kindOf_mono {v1 : Int32} {M : Mem} {Q Q' : Int32 → Mem → Prop} (hQ : ∀ (r : Int32) (M : Mem), Q r M → Q' r M) (h : wp_X7_kindOf v1 M Q) : wp_X7_kindOf v1 M Q' := by
  unfold wp_X7_kindOf at h ⊢
  exact wp_X7_isIn_mono (fun r1 M1 h => ⟨fun c => let h := h.1 c; wp_X7_isIn_mono (fun r2 M2 h => ⟨fun c => let h := h.1 c; wp_X7_isIn_mono (fun r3 M3 h => ⟨fun c => let h := h.1 c; wp_X7_fencesNow_mono (fun r4 M4 h => wp_X2_isBare_mono (fun r5 M5 h => ⟨fun c => let h := h.1 c; hQ _ _ h, fun c => let h := h.2 c; hQ _ _ h⟩) h) h, fun c => let h := h.2 c; hQ _ _ h⟩) h, fun c => let h := h.2 c; hQ _ _ h⟩) h, fun c => let h := h.2 c; hQ _ _ h⟩) h
abbrev rm_X7_kindOf : Jvm.Room := { frames := 3, cells := 0, slots := 0, locals := 63 }
set_option maxHeartbeats 4000000 in
set_option maxRecDepth 100000 in
theorem ct_X7_kindOf (l : Launch) (D : va_G) (cy : Nat → ClassId) (ad : Nat → Nat) (B : Nat → Prop) (v1 : Int32) (M : Mem) (Q : Int32 → Mem → Prop) (h : wp_X7_kindOf v1 M Q) : CTi l D cy (wX ad cy) B yX7_kindOf wsX7_kindOf rm_X7_kindOf [.ref (ad 0), .int v1] M Q := by
  intro sz
  refine Met.ofW (cc := cX7_kindOf) (maxL := 2) (ret := some .int) (by decide) rfl ?_
  intro p e s m args below meth c s₁ Bd hml hv
  obtain ⟨hargs, hsz, hP, hK, hD⟩ := hv
  subst hsz
  have hx := Bd.exec
  have hb := Bd.bytes
  have hr := Bd.returns
  have hts := atoms_spec (ws := wsX7_kindOf) Bd.pre
  have hown : s.vm.findClass RX7 = some m.cls := findClass_of_methodNamed Bd.named
  have hlocks := Bd.notSynchronized
  have hC0 : xC wsX7_kindOf 0 RX0 TX0 5 := ⟨by decide +kernel, rfl⟩
  have hC2 : xC wsX7_kindOf 2 RX2 TX2 8 := ⟨by decide +kernel, rfl⟩
  have hC7 : xC wsX7_kindOf 7 RX7 TX7 11 := ⟨by decide +kernel, rfl⟩
  have hl := lv_entry ([.ref (ad 0), .int v1]) (n := 2) (Nat.le_of_ble_eq_true rfl)
  subst hargs
  rw [lg_entry_eq]
  generalize (lg_sl ([.ref (ad 0), .int v1]) ++ List.replicate (2 - (lg_sl ([.ref (ad 0), .int v1])).length) Slot.unset).toArray = ls at hl ⊢
  have hl : lv_has ls 2 [(0, .ref (ad 0)), (1, .int v1)] := hl
  have S : xS D (wX ad cy) B s.heap s.heap [] M := ⟨hP, hD, va_S.rf⟩
  unfold wp_X7_kindOf at h
  refine lv_iload_n hx hb dX7_kindOf_0 rfl (lv_at hl 1 rfl) ?_
  refine lv_aload_n hx hb dX7_kindOf_1 rfl (lv_at hl 0 rfl) ?_
  refine x_getR hx hb hts (hC7) hown hK S 4 (by decide) xf_0_4 (index := 39) (hts _ (List.mem_of_getElem? (i := 1) rfl)) dX7_kindOf_2 ?_
  refine x_getI hx hb hts (hC0) hown hK S 3 (by decide) xf_25_3 (index := 239) (hts _ (List.mem_of_getElem? (i := 2) rfl)) dX7_kindOf_5 ?_
  refine x_callSi (As := [.int v1, .int (M.1 25 3)]) ⟨hx, hb, hml, hown, hts⟩ hK S (ct_X7_isIn l D cy ad B _ _ _ _ h) (va_cwS 2 hts gX7_kindOf_X7_isIn rfl rfl rfl (by decide +kernel) ⟨Nat.le_of_ble_eq_true rfl, Nat.le_of_ble_eq_true rfl⟩) rfl hl.1 rfl (Nat.le_of_ble_eq_true rfl) dX7_kindOf_8 ⟨Nat.zero_le _, Nat.zero_le _⟩ (fun r1 M1 H locs h S => ?_)
  refine lv_if_eq (tgt := 16) hx hb dX7_kindOf_11 (by decide) (fun c11 => ?_) (fun c11 => ?_)
  · replace h := h.1 c11
    refine lv_iload_n hx hb dX7_kindOf_16 rfl (lv_at hl 1 rfl) ?_
    refine lv_aload_n hx hb dX7_kindOf_17 rfl (lv_at hl 0 rfl) ?_
    refine x_getR hx hb hts (hC7) hown hK S 4 (by decide) xf_0_4 (index := 39) (hts _ (List.mem_of_getElem? (i := 1) rfl)) dX7_kindOf_18 ?_
    refine x_getI hx hb hts (hC0) hown hK S 4 (by decide) xf_25_4 (index := 242) (hts _ (List.mem_of_getElem? (i := 3) rfl)) dX7_kindOf_21 ?_
    refine x_callSi (As := [.int v1, .int (M1.1 25 4)]) ⟨hx, hb, hml, hown, hts⟩ hK S (ct_X7_isIn l D cy ad B _ _ _ _ h) (va_cwS 2 hts gX7_kindOf_X7_isIn rfl rfl rfl (by decide +kernel) ⟨Nat.le_of_ble_eq_true rfl, Nat.le_of_ble_eq_true rfl⟩) rfl hl.1 rfl (Nat.le_of_ble_eq_true rfl) dX7_kindOf_24 ⟨Nat.zero_le _, Nat.zero_le _⟩ (fun r2 M2 H locs h S => ?_)
    refine lv_if_eq (tgt := 32) hx hb dX7_kindOf_27 (by decide) (fun c27 => ?_) (fun c27 => ?_)
    · replace h := h.1 c27
      refine lv_iload_n hx hb dX7_kindOf_32 rfl (lv_at hl 1 rfl) ?_
      refine lv_aload_n hx hb dX7_kindOf_33 rfl (lv_at hl 0 rfl) ?_
      refine x_getR hx hb hts (hC7) hown hK S 2 (by decide) xf_0_2 (index := 25) (hts _ (List.mem_of_getElem? (i := 4) rfl)) dX7_kindOf_34 ?_
      refine x_getI hx hb hts (hC2) hown hK S 5 (by decide) xf_13_5 (index := 236) (hts _ (List.mem_of_getElem? (i := 5) rfl)) dX7_kindOf_37 ?_
      refine x_callSi (As := [.int v1, .int (M2.1 13 5)]) ⟨hx, hb, hml, hown, hts⟩ hK S (ct_X7_isIn l D cy ad B _ _ _ _ h) (va_cwS 2 hts gX7_kindOf_X7_isIn rfl rfl rfl (by decide +kernel) ⟨Nat.le_of_ble_eq_true rfl, Nat.le_of_ble_eq_true rfl⟩) rfl hl.1 rfl (Nat.le_of_ble_eq_true rfl) dX7_kindOf_40 ⟨Nat.zero_le _, Nat.zero_le _⟩ (fun r3 M3 H locs h S => ?_)
      refine lv_if_ne (tgt := 48) hx hb dX7_kindOf_43 (by decide) (fun c43 => ?_) (fun c43 => ?_)
      · replace h := h.1 c43
        refine lv_aload_n hx hb dX7_kindOf_48 rfl (lv_at hl 0 rfl) ?_
        refine x_getR hx hb hts (hC7) hown hK S 2 (by decide) xf_0_2 (index := 25) (hts _ (List.mem_of_getElem? (i := 4) rfl)) dX7_kindOf_49 ?_
        refine lv_iload_n hx hb dX7_kindOf_52 rfl (lv_at hl 1 rfl) ?_
        refine lv_aload_n hx hb dX7_kindOf_53 rfl (lv_at hl 0 rfl) ?_
        refine x_callVi (As := []) ⟨hx, hb, hml, hown, hts⟩ hK S (ct_X7_fencesNow l D cy ad B _ _ h) xo_0 rfl (cwV 0 hts gX7_kindOf_X7_fencesNow rfl rfl rfl (by decide +kernel) ⟨Nat.le_of_ble_eq_true rfl, Nat.le_of_ble_eq_true rfl⟩) rfl hl.1 rfl (Nat.le_of_ble_eq_true rfl) dX7_kindOf_54 ⟨Nat.zero_le _, Nat.zero_le _⟩ (fun r4 M4 H locs h S => ?_)
        refine x_callVi (As := [.int v1, .int r4]) ⟨hx, hb, hml, hown, hts⟩ hK S (ct_X2_isBare l D cy ad B _ _ _ _ h) xo_13 rfl (cwV 2 hts gX7_kindOf_X2_isBare rfl rfl rfl (by decide +kernel) ⟨Nat.le_of_ble_eq_true rfl, Nat.le_of_ble_eq_true rfl⟩) rfl hl.1 rfl (Nat.le_of_ble_eq_true rfl) dX7_kindOf_57 ⟨Nat.zero_le _, Nat.zero_le _⟩ (fun r5 M5 H locs h S => ?_)
        refine lv_if_eq (tgt := 67) hx hb dX7_kindOf_60 (by decide) (fun c60 => ?_) (fun c60 => ?_)
        · replace h := h.1 c60
          refine lv_iconst (v := 1) hx hb dX7_kindOf_67 (by decide) ?_
          exact x_iret hx hb hr hlocks S rfl h dX7_kindOf_68
        · replace h := h.2 c60
          refine lv_iconst (v := 2) hx hb dX7_kindOf_63 (by decide) ?_
          refine lv_goto (tgt := 68) hx hb dX7_kindOf_64 (by decide) ?_
          exact x_iret hx hb hr hlocks S rfl h dX7_kindOf_68
      · replace h := h.2 c43
        refine lv_iconst (v := 0) hx hb dX7_kindOf_46 (by decide) ?_
        exact x_iret hx hb hr hlocks S rfl h dX7_kindOf_47
    · replace h := h.2 c27
      refine lv_iconst (v := 3) hx hb dX7_kindOf_30 (by decide) ?_
      exact x_iret hx hb hr hlocks S rfl h dX7_kindOf_31
  · replace h := h.2 c11
    refine lv_iconst (v := 4) hx hb dX7_kindOf_14 (by decide) ?_
    exact x_iret hx hb hr hlocks S rfl h dX7_kindOf_15
/-! X7_kind -/
def wp_X7_kind (v1 : Int32) (M : Mem) (Q : Int32 → Mem → Prop) : Prop :=
  wp_X7_fenceRefusal v1 M (fun r1 M1 => ((r1 = 0 → wp_X7_kindOf v1 M1 (fun r2 M2 => Q r2 M2)) ∧ (¬ r1 = 0 → Q r1 M1)))
theorem wp_X7_kind_mono {v1 : Int32} {M : Mem} {Q Q' : Int32 → Mem → Prop} (hQ : ∀ (r : Int32) (M : Mem), Q r M → Q' r M) (h : wp_X7_kind v1 M Q) : wp_X7_kind v1 M Q' := by
  unfold wp_X7_kind at h ⊢
  exact wp_X7_fenceRefusal_mono (fun r1 M1 h => ⟨fun c => let h := h.1 c; wp_X7_kindOf_mono (fun r2 M2 h => hQ _ _ h) h, fun c => let h := h.2 c; hQ _ _ h⟩) h
abbrev rm_X7_kind : Jvm.Room := { frames := 4, cells := 0, slots := 0, locals := 84 }
set_option maxHeartbeats 4000000 in
set_option maxRecDepth 100000 in
theorem ct_X7_kind (l : Launch) (D : va_G) (cy : Nat → ClassId) (ad : Nat → Nat) (B : Nat → Prop) (v1 : Int32) (M : Mem) (Q : Int32 → Mem → Prop) (h : wp_X7_kind v1 M Q) : CTi l D cy (wX ad cy) B yX7_kind wsX7_kind rm_X7_kind [.ref (ad 0), .int v1] M Q := by
  intro sz
  refine Met.ofW (cc := cX7_kind) (maxL := 3) (ret := some .int) (by decide) rfl ?_
  intro p e s m args below meth c s₁ Bd hml hv
  obtain ⟨hargs, hsz, hP, hK, hD⟩ := hv
  subst hsz
  have hx := Bd.exec
  have hb := Bd.bytes
  have hr := Bd.returns
  have hts := atoms_spec (ws := wsX7_kind) Bd.pre
  have hown : s.vm.findClass RX7 = some m.cls := findClass_of_methodNamed Bd.named
  have hlocks := Bd.notSynchronized
  have hl := lv_entry ([.ref (ad 0), .int v1]) (n := 3) (Nat.le_of_ble_eq_true rfl)
  subst hargs
  rw [lg_entry_eq]
  generalize (lg_sl ([.ref (ad 0), .int v1]) ++ List.replicate (3 - (lg_sl ([.ref (ad 0), .int v1])).length) Slot.unset).toArray = ls at hl ⊢
  have hl : lv_has ls 3 [(0, .ref (ad 0)), (1, .int v1)] := hl
  have S : xS D (wX ad cy) B s.heap s.heap [] M := ⟨hP, hD, va_S.rf⟩
  unfold wp_X7_kind at h
  refine lv_aload_n hx hb dX7_kind_0 rfl (lv_at hl 0 rfl) ?_
  refine lv_iload_n hx hb dX7_kind_1 rfl (lv_at hl 1 rfl) ?_
  refine x_callVi (As := [.int v1]) ⟨hx, hb, hml, hown, hts⟩ hK S (ct_X7_fenceRefusal l D cy ad B _ _ _ h) xo_0 rfl (cwV 1 hts gX7_kind_X7_fenceRefusal rfl rfl rfl (by decide +kernel) ⟨Nat.le_of_ble_eq_true rfl, Nat.le_of_ble_eq_true rfl⟩) rfl hl.1 rfl (Nat.le_of_ble_eq_true rfl) dX7_kind_2 ⟨Nat.zero_le _, Nat.zero_le _⟩ (fun r1 M1 H locs h S => ?_)
  refine lv_istore_n (lv' := [(2, .int r1), (0, .ref (ad 0)), (1, .int v1)]) hx hb dX7_kind_5 rfl hl (by decide) rfl (fun ls hl => ?_)
  refine lv_iload_n hx hb dX7_kind_6 rfl (lv_at hl 0 rfl) ?_
  refine lv_if_eq (tgt := 14) hx hb dX7_kind_7 (by decide) (fun c7 => ?_) (fun c7 => ?_)
  · replace h := h.1 c7
    refine lv_aload_n hx hb dX7_kind_14 rfl (lv_at hl 1 rfl) ?_
    refine lv_iload_n hx hb dX7_kind_15 rfl (lv_at hl 2 rfl) ?_
    refine x_callVi (As := [.int v1]) ⟨hx, hb, hml, hown, hts⟩ hK S (ct_X7_kindOf l D cy ad B _ _ _ h) xo_0 rfl (cwV 1 hts gX7_kind_X7_kindOf rfl rfl rfl (by decide +kernel) ⟨Nat.le_of_ble_eq_true rfl, Nat.le_of_ble_eq_true rfl⟩) rfl hl.1 rfl (Nat.le_of_ble_eq_true rfl) dX7_kind_16 ⟨Nat.zero_le _, Nat.zero_le _⟩ (fun r2 M2 H locs h S => ?_)
    exact x_iret hx hb hr hlocks S rfl h dX7_kind_19
  · replace h := h.2 c7
    refine lv_iload_n hx hb dX7_kind_10 rfl (lv_at hl 0 rfl) ?_
    refine lv_goto (tgt := 19) hx hb dX7_kind_11 (by decide) ?_
    exact x_iret hx hb hr hlocks S rfl h dX7_kind_19
/-! X7_isOneOf -/
def blk_X7_isOneOf_0 (v0 : Int32) (v1 : Int32) (Q : Int32 → Mem → Prop) (P : Nat → Mem → Prop) (M : Mem) : Prop :=
  ((v1 = 0 → P 1 M) ∧ (¬ v1 = 0 → ((v0 = v1 → P 1 M) ∧ (¬ v0 = v1 → ((¬ v1 = 1 → Q 0 M) ∧ (v1 = 1 → ((¬ v0 = 2 → Q 0 M) ∧ (v0 = 2 → P 1 M))))))))
theorem blk_X7_isOneOf_0_mono {v0 : Int32} {v1 : Int32} {Q Q' : Int32 → Mem → Prop} {P P' : Nat → Mem → Prop} (hQ : ∀ (r : Int32) (M : Mem), Q r M → Q' r M) (hP : ∀ (lab : Nat) (M : Mem), P lab M → P' lab M) (M : Mem) (h : blk_X7_isOneOf_0 v0 v1 Q P M) : blk_X7_isOneOf_0 v0 v1 Q' P' M := by
  unfold blk_X7_isOneOf_0 at h ⊢
  exact ⟨fun c => let h := h.1 c; hP _ _ h, fun c => let h := h.2 c; ⟨fun c => let h := h.1 c; hP _ _ h, fun c => let h := h.2 c; ⟨fun c => let h := h.1 c; hQ _ _ h, fun c => let h := h.2 c; ⟨fun c => let h := h.1 c; hQ _ _ h, fun c => let h := h.2 c; hP _ _ h⟩⟩⟩⟩
def blk_X7_isOneOf_1 (v0 : Int32) (v1 : Int32) (Q : Int32 → Mem → Prop) (P : Nat → Mem → Prop) (M : Mem) : Prop :=
  Q 1 M
theorem blk_X7_isOneOf_1_mono {v0 : Int32} {v1 : Int32} {Q Q' : Int32 → Mem → Prop} {P P' : Nat → Mem → Prop} (hQ : ∀ (r : Int32) (M : Mem), Q r M → Q' r M) (hP : ∀ (lab : Nat) (M : Mem), P lab M → P' lab M) (M : Mem) (h : blk_X7_isOneOf_1 v0 v1 Q P M) : blk_X7_isOneOf_1 v0 v1 Q' P' M := by
  unfold blk_X7_isOneOf_1 at h ⊢
  exact hQ _ _ h
def blk_X7_isOneOf (v0 : Int32) (v1 : Int32) (Q : Int32 → Mem → Prop) (P : Nat → Mem → Prop) : Nat → Mem → Prop := fun lab M => match lab with
  | 0 => blk_X7_isOneOf_0 v0 v1 Q P M
  | 1 => blk_X7_isOneOf_1 v0 v1 Q P M
  | _ => False
theorem blk_X7_isOneOf_mono {v0 : Int32} {v1 : Int32} {Q Q' : Int32 → Mem → Prop} {P P' : Nat → Mem → Prop} (hQ : ∀ (r : Int32) (M : Mem), Q r M → Q' r M) (hP : ∀ (lab : Nat) (M : Mem), P lab M → P' lab M) : ∀ (lab : Nat) (M : Mem), blk_X7_isOneOf v0 v1 Q P lab M → blk_X7_isOneOf v0 v1 Q' P' lab M := fun lab M h => match lab, h with
  | 0, h => blk_X7_isOneOf_0_mono (v0 := v0) (v1 := v1) hQ hP M h
  | 1, h => blk_X7_isOneOf_1_mono (v0 := v0) (v1 := v1) hQ hP M h
  | _ + 2, h => False.elim h
def at_X7_isOneOf (v0 : Int32) (v1 : Int32) (Q : Int32 → Mem → Prop) : Nat → Mem → Prop := fun lab M => ∀ P : Nat → Mem → Prop, (∀ (lab : Nat) (M : Mem), blk_X7_isOneOf v0 v1 Q P lab M → P lab M) → P lab M
theorem at_X7_isOneOf_fold {v0 : Int32} {v1 : Int32} {Q : Int32 → Mem → Prop} {lab : Nat} {M : Mem} (h : blk_X7_isOneOf v0 v1 Q (at_X7_isOneOf v0 v1 Q) lab M) : at_X7_isOneOf v0 v1 Q lab M := fun P hP => hP _ _ (blk_X7_isOneOf_mono (fun _ _ h => h) (fun _ _ h => h P hP) _ _ h)
theorem at_X7_isOneOf_mono {v0 : Int32} {v1 : Int32} {Q Q' : Int32 → Mem → Prop} (hQ : ∀ (r : Int32) (M : Mem), Q r M → Q' r M) {lab : Nat} {M : Mem} (h : at_X7_isOneOf v0 v1 Q lab M) : at_X7_isOneOf v0 v1 Q' lab M := fun P hP => h P (fun lab M hb => hP _ _ (blk_X7_isOneOf_mono hQ (fun _ _ h => h) _ _ hb))
def wp_X7_isOneOf (v0 : Int32) (v1 : Int32) (M : Mem) (Q : Int32 → Mem → Prop) : Prop := at_X7_isOneOf v0 v1 Q 0 M
theorem wp_X7_isOneOf_mono {v0 : Int32} {v1 : Int32} {M : Mem} {Q Q' : Int32 → Mem → Prop} (hQ : ∀ (r : Int32) (M : Mem), Q r M → Q' r M) (h : wp_X7_isOneOf v0 v1 M Q) : wp_X7_isOneOf v0 v1 M Q' := at_X7_isOneOf_mono hQ h
def pcl_X7_isOneOf : Nat → Nat := fun lab => match lab with
  | 0 => 0
  | 1 => 19
  | _ => 0
def lvl_X7_isOneOf (ad : Nat → Nat) (v0 : Int32) (v1 : Int32) : Nat → List (Nat × Value) := fun lab => match lab with
  | 0 => [(0, .int v0), (1, .int v1)]
  | 1 => []
  | _ => []
abbrev rm_X7_isOneOf : Jvm.Room := { frames := 1, cells := 0, slots := 0, locals := 13 }
set_option maxHeartbeats 4000000 in
set_option maxRecDepth 100000 in
theorem ct_X7_isOneOf (l : Launch) (D : va_G) (cy : Nat → ClassId) (ad : Nat → Nat) (B : Nat → Prop) (v0 : Int32) (v1 : Int32) (M : Mem) (Q : Int32 → Mem → Prop) (h : wp_X7_isOneOf v0 v1 M Q) : CTi l D cy (wX ad cy) B yX7_isOneOf wsX7_isOneOf rm_X7_isOneOf [.int v0, .int v1] M Q := by
  intro sz
  refine Met.ofW (cc := cX7_isOneOf) (maxL := 2) (ret := some .boolean) (by decide) rfl ?_
  intro p e s m args below meth c s₁ Bd hml hv
  obtain ⟨hargs, hsz, hP, hK, hD⟩ := hv
  subst hsz
  have hx := Bd.exec
  have hb := Bd.bytes
  have hr := Bd.returns
  have hts := atoms_spec (ws := wsX7_isOneOf) Bd.pre
  have hown : s.vm.findClass RX7 = some m.cls := findClass_of_methodNamed Bd.named
  have hlocks := Bd.notSynchronized
  have key : ∀ (P : Nat → Mem → Prop), (∀ (lab : Nat) (M : Mem), P lab M → ∀ (H : Heap) (locs : List Loc) (ls : Array Slot), xS D (wX ad cy) B s.heap H locs M → lv_has ls 2 (lvl_X7_isOneOf ad v0 v1 lab ) → W p l e (headSpec wsX7_isOneOf rm_X7_isOneOf).room s m args below meth c H locs 0 0 (MQ below (va_Qi (S := Mem) Q (xB D (wX ad cy) B) (xA B s.heap.size)) args s 0 0 (xA B s.heap.size)) (F0 m (pcl_X7_isOneOf lab) ls [])) → ∀ (lab : Nat) (M : Mem), blk_X7_isOneOf v0 v1 Q P lab M → ∀ (H : Heap) (locs : List Loc) (ls : Array Slot), xS D (wX ad cy) B s.heap H locs M → lv_has ls 2 (lvl_X7_isOneOf ad v0 v1 lab ) → W p l e (headSpec wsX7_isOneOf rm_X7_isOneOf).room s m args below meth c H locs 0 0 (MQ below (va_Qi (S := Mem) Q (xB D (wX ad cy) B) (xA B s.heap.size)) args s 0 0 (xA B s.heap.size)) (F0 m (pcl_X7_isOneOf lab) ls []) := by
    intro P hJ lab M h H locs ls S hl
    match lab, h, hl with
    | 0, h, hl =>
      have hl : lv_has ls 2 [(0, .int v0), (1, .int v1)] := hl
      have h : blk_X7_isOneOf_0 v0 v1 Q P M := h
      unfold blk_X7_isOneOf_0 at h
      refine W.eq (g2 := F0 m 0 ls []) rfl ?_
      refine lv_iload_n hx hb dX7_isOneOf_0 rfl (lv_at hl 1 rfl) ?_
      refine lv_if_eq (tgt := 19) hx hb dX7_isOneOf_1 (by decide) (fun c1 => ?_) (fun c1 => ?_)
      · replace h := h.1 c1
        exact hJ _ _ h _ _ _ S (lv_sub hl [] rfl)
      · replace h := h.2 c1
        refine lv_iload_n hx hb dX7_isOneOf_4 rfl (lv_at hl 0 rfl) ?_
        refine lv_iload_n hx hb dX7_isOneOf_5 rfl (lv_at hl 1 rfl) ?_
        refine lv_icmp_eq (tgt := 19) hx hb dX7_isOneOf_6 (by decide) (fun c6 => ?_) (fun c6 => ?_)
        · replace h := h.1 c6
          exact hJ _ _ h _ _ _ S (lv_sub hl [] rfl)
        · replace h := h.2 c6
          refine lv_iload_n hx hb dX7_isOneOf_9 rfl (lv_at hl 1 rfl) ?_
          refine lv_iconst (v := 1) hx hb dX7_isOneOf_10 (by decide) ?_
          refine lv_icmp_ne (tgt := 23) hx hb dX7_isOneOf_11 (by decide) (fun c11 => ?_) (fun c11 => ?_)
          · replace h := h.1 c11
            refine lv_iconst (v := 0) hx hb dX7_isOneOf_23 (by decide) ?_
            exact x_iret hx hb hr hlocks S rfl h dX7_isOneOf_24
          · replace h := h.2 c11
            refine lv_iload_n hx hb dX7_isOneOf_14 rfl (lv_at hl 0 rfl) ?_
            refine lv_iconst (v := 2) hx hb dX7_isOneOf_15 (by decide) ?_
            refine lv_icmp_ne (tgt := 23) hx hb dX7_isOneOf_16 (by decide) (fun c16 => ?_) (fun c16 => ?_)
            · replace h := h.1 c16
              refine lv_iconst (v := 0) hx hb dX7_isOneOf_23 (by decide) ?_
              exact x_iret hx hb hr hlocks S rfl h dX7_isOneOf_24
            · replace h := h.2 c16
              exact hJ _ _ h _ _ _ S (lv_sub hl [] rfl)
    | 1, h, hl =>
      have hl : lv_has ls 2 [] := hl
      have h : blk_X7_isOneOf_1 v0 v1 Q P M := h
      unfold blk_X7_isOneOf_1 at h
      refine W.eq (g2 := F0 m 19 ls []) rfl ?_
      refine lv_iconst (v := 1) hx hb dX7_isOneOf_19 (by decide) ?_
      refine lv_goto (tgt := 24) hx hb dX7_isOneOf_20 (by decide) ?_
      exact x_iret hx hb hr hlocks S rfl h dX7_isOneOf_24
    | _ + 2, h, hl => exact h.elim
  have hl := lv_entry ([.int v0, .int v1]) (n := 2) (Nat.le_of_ble_eq_true rfl)
  subst hargs
  rw [lg_entry_eq]
  generalize (lg_sl ([.int v0, .int v1]) ++ List.replicate (2 - (lg_sl ([.int v0, .int v1])).length) Slot.unset).toArray = ls at hl ⊢
  exact h _ (key _ (fun _ _ h => h)) s.heap [] ls ⟨hP, hD, va_S.rf⟩ hl
/-! X7_weightAs -/
def wp_X7_weightAs (v1 : Int32) (v2 : Int32) (M : Mem) (Q : Int32 → Mem → Prop) : Prop :=
  ((v2 < 0 → Q (-2) M) ∧ (¬ v2 < 0 → ((v2 ≤ 4 → wp_X7_fenceRefusal v1 M (fun r1 M1 => ((r1 = 0 → wp_X7_kindOf v1 M1 (fun r2 M2 => wp_X7_isOneOf r2 v2 M2 (fun r3 M3 => ((r3 = 0 → wp_X7_found (-13) M3 (fun r4 M4 => Q r4 M4)) ∧ (¬ r3 = 0 → (vp_in v1 28 ∧ Q (M3.1 33 v1.toNatClampNeg) M3)))))) ∧ (¬ r1 = 0 → Q r1 M1)))) ∧ (¬ v2 ≤ 4 → Q (-2) M))))
theorem wp_X7_weightAs_mono {v1 : Int32} {v2 : Int32} {M : Mem} {Q Q' : Int32 → Mem → Prop} (hQ : ∀ (r : Int32) (M : Mem), Q r M → Q' r M) (h : wp_X7_weightAs v1 v2 M Q) : wp_X7_weightAs v1 v2 M Q' := by
  unfold wp_X7_weightAs at h ⊢
  exact ⟨fun c => let h := h.1 c; hQ _ _ h, fun c => let h := h.2 c; ⟨fun c => let h := h.1 c; wp_X7_fenceRefusal_mono (fun r1 M1 h => ⟨fun c => let h := h.1 c; wp_X7_kindOf_mono (fun r2 M2 h => wp_X7_isOneOf_mono (fun r3 M3 h => ⟨fun c => let h := h.1 c; wp_X7_found_mono (fun r4 M4 h => hQ _ _ h) h, fun c => let h := h.2 c; ⟨h.1, let h := h.2; hQ _ _ h⟩⟩) h) h, fun c => let h := h.2 c; hQ _ _ h⟩) h, fun c => let h := h.2 c; hQ _ _ h⟩⟩
abbrev rm_X7_weightAs : Jvm.Room := { frames := 4, cells := 0, slots := 0, locals := 84 }
set_option maxHeartbeats 4000000 in
set_option maxRecDepth 100000 in
theorem ct_X7_weightAs (l : Launch) (D : va_G) (cy : Nat → ClassId) (ad : Nat → Nat) (B : Nat → Prop) (v1 : Int32) (v2 : Int32) (M : Mem) (Q : Int32 → Mem → Prop) (h : wp_X7_weightAs v1 v2 M Q) : CTi l D cy (wX ad cy) B yX7_weightAs wsX7_weightAs rm_X7_weightAs [.ref (ad 0), .int v1, .int v2] M Q := by
  intro sz
  refine Met.ofW (cc := cX7_weightAs) (maxL := 4) (ret := some .int) (by decide) rfl ?_
  intro p e s m args below meth c s₁ Bd hml hv
  obtain ⟨hargs, hsz, hP, hK, hD⟩ := hv
  subst hsz
  have hx := Bd.exec
  have hb := Bd.bytes
  have hr := Bd.returns
  have hts := atoms_spec (ws := wsX7_weightAs) Bd.pre
  have hown : s.vm.findClass RX7 = some m.cls := findClass_of_methodNamed Bd.named
  have hlocks := Bd.notSynchronized
  have hC7 : xC wsX7_weightAs 7 RX7 TX7 11 := ⟨by decide +kernel, rfl⟩
  have hl := lv_entry ([.ref (ad 0), .int v1, .int v2]) (n := 4) (Nat.le_of_ble_eq_true rfl)
  subst hargs
  rw [lg_entry_eq]
  generalize (lg_sl ([.ref (ad 0), .int v1, .int v2]) ++ List.replicate (4 - (lg_sl ([.ref (ad 0), .int v1, .int v2])).length) Slot.unset).toArray = ls at hl ⊢
  have hl : lv_has ls 4 [(0, .ref (ad 0)), (1, .int v1), (2, .int v2)] := hl
  have S : xS D (wX ad cy) B s.heap s.heap [] M := ⟨hP, hD, va_S.rf⟩
  unfold wp_X7_weightAs at h
  refine lv_iload_n hx hb dX7_weightAs_0 rfl (lv_at hl 2 rfl) ?_
  refine lv_if_lt (tgt := 9) hx hb dX7_weightAs_1 (by decide) (fun c1 => ?_) (fun c1 => ?_)
  · replace h := h.1 c1
    refine lv_bipush (v := (-2)) hx hb dX7_weightAs_9 (by decide) ?_
    exact x_iret hx hb hr hlocks S rfl h dX7_weightAs_11
  · replace h := h.2 c1
    refine lv_iload_n hx hb dX7_weightAs_4 rfl (lv_at hl 2 rfl) ?_
    refine lv_iconst (v := 4) hx hb dX7_weightAs_5 (by decide) ?_
    refine lv_icmp_le (tgt := 12) hx hb dX7_weightAs_6 (by decide) (fun c6 => ?_) (fun c6 => ?_)
    · replace h := h.1 c6
      refine lv_aload_n hx hb dX7_weightAs_12 rfl (lv_at hl 0 rfl) ?_
      refine lv_iload_n hx hb dX7_weightAs_13 rfl (lv_at hl 1 rfl) ?_
      refine x_callVi (As := [.int v1]) ⟨hx, hb, hml, hown, hts⟩ hK S (ct_X7_fenceRefusal l D cy ad B _ _ _ h) xo_0 rfl (cwV 1 hts gX7_weightAs_X7_fenceRefusal rfl rfl rfl (by decide +kernel) ⟨Nat.le_of_ble_eq_true rfl, Nat.le_of_ble_eq_true rfl⟩) rfl hl.1 rfl (Nat.le_of_ble_eq_true rfl) dX7_weightAs_14 ⟨Nat.zero_le _, Nat.zero_le _⟩ (fun r1 M1 H locs h S => ?_)
      refine lv_istore_n (lv' := [(3, .int r1), (0, .ref (ad 0)), (1, .int v1), (2, .int v2)]) hx hb dX7_weightAs_17 rfl hl (by decide) rfl (fun ls hl => ?_)
      refine lv_iload_n hx hb dX7_weightAs_18 rfl (lv_at hl 0 rfl) ?_
      refine lv_if_eq (tgt := 24) hx hb dX7_weightAs_19 (by decide) (fun c19 => ?_) (fun c19 => ?_)
      · replace h := h.1 c19
        refine lv_aload_n hx hb dX7_weightAs_24 rfl (lv_at hl 1 rfl) ?_
        refine lv_iload_n hx hb dX7_weightAs_25 rfl (lv_at hl 2 rfl) ?_
        refine x_callVi (As := [.int v1]) ⟨hx, hb, hml, hown, hts⟩ hK S (ct_X7_kindOf l D cy ad B _ _ _ h) xo_0 rfl (cwV 1 hts gX7_weightAs_X7_kindOf rfl rfl rfl (by decide +kernel) ⟨Nat.le_of_ble_eq_true rfl, Nat.le_of_ble_eq_true rfl⟩) rfl hl.1 rfl (Nat.le_of_ble_eq_true rfl) dX7_weightAs_26 ⟨Nat.zero_le _, Nat.zero_le _⟩ (fun r2 M2 H locs h S => ?_)
        refine lv_iload_n hx hb dX7_weightAs_29 rfl (lv_at hl 3 rfl) ?_
        refine x_callSi (As := [.int r2, .int v2]) ⟨hx, hb, hml, hown, hts⟩ hK S (ct_X7_isOneOf l D cy ad B _ _ _ _ h) (va_cwS 2 hts gX7_weightAs_X7_isOneOf rfl rfl rfl (by decide +kernel) ⟨Nat.le_of_ble_eq_true rfl, Nat.le_of_ble_eq_true rfl⟩) rfl hl.1 rfl (Nat.le_of_ble_eq_true rfl) dX7_weightAs_30 ⟨Nat.zero_le _, Nat.zero_le _⟩ (fun r3 M3 H locs h S => ?_)
        refine lv_if_eq (tgt := 45) hx hb dX7_weightAs_33 (by decide) (fun c33 => ?_) (fun c33 => ?_)
        · replace h := h.1 c33
          refine lv_aload_n hx hb dX7_weightAs_45 rfl (lv_at hl 1 rfl) ?_
          refine lv_bipush (v := (-13)) hx hb dX7_weightAs_46 (by decide) ?_
          refine x_callVi (As := [.int (-13)]) ⟨hx, hb, hml, hown, hts⟩ hK S (ct_X7_found l D cy ad B _ _ _ h) xo_0 rfl (cwV 1 hts gX7_weightAs_X7_found rfl rfl rfl (by decide +kernel) ⟨Nat.le_of_ble_eq_true rfl, Nat.le_of_ble_eq_true rfl⟩) rfl hl.1 rfl (Nat.le_of_ble_eq_true rfl) dX7_weightAs_48 ⟨Nat.zero_le _, Nat.zero_le _⟩ (fun r4 M4 H locs h S => ?_)
          exact x_iret hx hb hr hlocks S rfl h dX7_weightAs_51
        · replace h := h.2 c33
          refine lv_aload_n hx hb dX7_weightAs_36 rfl (lv_at hl 1 rfl) ?_
          refine x_getR hx hb hts (hC7) hown hK S 7 (by decide) xf_0_7 (index := 57) (hts _ (List.mem_of_getElem? (i := 1) rfl)) dX7_weightAs_37 ?_
          refine lv_iload_n hx hb dX7_weightAs_40 rfl (lv_at hl 2 rfl) ?_
          refine x_iald hx hb hK S xa_33 h.1 dX7_weightAs_41 ?_
          replace h := h.2
          refine lv_goto (tgt := 51) hx hb dX7_weightAs_42 (by decide) ?_
          exact x_iret hx hb hr hlocks S rfl h dX7_weightAs_51
      · replace h := h.2 c19
        refine lv_iload_n hx hb dX7_weightAs_22 rfl (lv_at hl 0 rfl) ?_
        exact x_iret hx hb hr hlocks S rfl h dX7_weightAs_23
    · replace h := h.2 c6
      refine lv_bipush (v := (-2)) hx hb dX7_weightAs_9 (by decide) ?_
      exact x_iret hx hb hr hlocks S rfl h dX7_weightAs_11
/-! X7_crosses -/
def blk_X7_crosses_0 (v1 : Int32) (v2 : Int32) (Q : Int32 → Mem → Prop) (P : Nat → Int32 → Mem → Prop) (v3 : Int32) (M : Mem) : Prop :=
  wp_X7_fenceRefusal v1 M (fun r1 M1 => ((¬ r1 = 0 → P 1 r1 M1) ∧ (r1 = 0 → wp_X7_fenceRefusal v2 M1 (fun r2 M2 => P 1 r2 M2))))
theorem blk_X7_crosses_0_mono {v1 : Int32} {v2 : Int32} {Q Q' : Int32 → Mem → Prop} {P P' : Nat → Int32 → Mem → Prop} (hQ : ∀ (r : Int32) (M : Mem), Q r M → Q' r M) (hP : ∀ (lab : Nat) (v3 : Int32) (M : Mem), P lab v3 M → P' lab v3 M) (v3 : Int32) (M : Mem) (h : blk_X7_crosses_0 v1 v2 Q P v3 M) : blk_X7_crosses_0 v1 v2 Q' P' v3 M := by
  unfold blk_X7_crosses_0 at h ⊢
  exact wp_X7_fenceRefusal_mono (fun r1 M1 h => ⟨fun c => let h := h.1 c; hP _ _ _ h, fun c => let h := h.2 c; wp_X7_fenceRefusal_mono (fun r2 M2 h => hP _ _ _ h) h⟩) h
def blk_X7_crosses_1 (v1 : Int32) (v2 : Int32) (Q : Int32 → Mem → Prop) (P : Nat → Int32 → Mem → Prop) (v3 : Int32) (M : Mem) : Prop :=
  ((v3 = 0 → (vp_in v1 28 ∧ wp_X7_isIn v2 (M.1 19 v1.toNatClampNeg) M (fun r3 M3 => ((r3 = 0 → Q 0 M3) ∧ (¬ r3 = 0 → Q 1 M3))))) ∧ (¬ v3 = 0 → Q v3 M))
theorem blk_X7_crosses_1_mono {v1 : Int32} {v2 : Int32} {Q Q' : Int32 → Mem → Prop} {P P' : Nat → Int32 → Mem → Prop} (hQ : ∀ (r : Int32) (M : Mem), Q r M → Q' r M) (hP : ∀ (lab : Nat) (v3 : Int32) (M : Mem), P lab v3 M → P' lab v3 M) (v3 : Int32) (M : Mem) (h : blk_X7_crosses_1 v1 v2 Q P v3 M) : blk_X7_crosses_1 v1 v2 Q' P' v3 M := by
  unfold blk_X7_crosses_1 at h ⊢
  exact ⟨fun c => let h := h.1 c; ⟨h.1, let h := h.2; wp_X7_isIn_mono (fun r3 M3 h => ⟨fun c => let h := h.1 c; hQ _ _ h, fun c => let h := h.2 c; hQ _ _ h⟩) h⟩, fun c => let h := h.2 c; hQ _ _ h⟩
def blk_X7_crosses (v1 : Int32) (v2 : Int32) (Q : Int32 → Mem → Prop) (P : Nat → Int32 → Mem → Prop) : Nat → Int32 → Mem → Prop := fun lab v3 M => match lab with
  | 0 => blk_X7_crosses_0 v1 v2 Q P v3 M
  | 1 => blk_X7_crosses_1 v1 v2 Q P v3 M
  | _ => False
theorem blk_X7_crosses_mono {v1 : Int32} {v2 : Int32} {Q Q' : Int32 → Mem → Prop} {P P' : Nat → Int32 → Mem → Prop} (hQ : ∀ (r : Int32) (M : Mem), Q r M → Q' r M) (hP : ∀ (lab : Nat) (v3 : Int32) (M : Mem), P lab v3 M → P' lab v3 M) : ∀ (lab : Nat) (v3 : Int32) (M : Mem), blk_X7_crosses v1 v2 Q P lab v3 M → blk_X7_crosses v1 v2 Q' P' lab v3 M := fun lab v3 M h => match lab, h with
  | 0, h => blk_X7_crosses_0_mono (v1 := v1) (v2 := v2) hQ hP v3 M h
  | 1, h => blk_X7_crosses_1_mono (v1 := v1) (v2 := v2) hQ hP v3 M h
  | _ + 2, h => False.elim h
def at_X7_crosses (v1 : Int32) (v2 : Int32) (Q : Int32 → Mem → Prop) : Nat → Int32 → Mem → Prop := fun lab v3 M => ∀ P : Nat → Int32 → Mem → Prop, (∀ (lab : Nat) (v3 : Int32) (M : Mem), blk_X7_crosses v1 v2 Q P lab v3 M → P lab v3 M) → P lab v3 M
theorem at_X7_crosses_fold {v1 : Int32} {v2 : Int32} {Q : Int32 → Mem → Prop} {lab : Nat} {v3 : Int32} {M : Mem} (h : blk_X7_crosses v1 v2 Q (at_X7_crosses v1 v2 Q) lab v3 M) : at_X7_crosses v1 v2 Q lab v3 M := fun P hP => hP _ _ _ (blk_X7_crosses_mono (fun _ _ h => h) (fun _ _ _ h => h P hP) _ _ _ h)
theorem at_X7_crosses_mono {v1 : Int32} {v2 : Int32} {Q Q' : Int32 → Mem → Prop} (hQ : ∀ (r : Int32) (M : Mem), Q r M → Q' r M) {lab : Nat} {v3 : Int32} {M : Mem} (h : at_X7_crosses v1 v2 Q lab v3 M) : at_X7_crosses v1 v2 Q' lab v3 M := fun P hP => h P (fun lab v3 M hb => hP _ _ _ (blk_X7_crosses_mono hQ (fun _ _ _ h => h) _ _ _ hb))
def wp_X7_crosses (v1 : Int32) (v2 : Int32) (M : Mem) (Q : Int32 → Mem → Prop) : Prop := at_X7_crosses v1 v2 Q 0 0 M
theorem wp_X7_crosses_mono {v1 : Int32} {v2 : Int32} {M : Mem} {Q Q' : Int32 → Mem → Prop} (hQ : ∀ (r : Int32) (M : Mem), Q r M → Q' r M) (h : wp_X7_crosses v1 v2 M Q) : wp_X7_crosses v1 v2 M Q' := at_X7_crosses_mono hQ h
def pcl_X7_crosses : Nat → Nat := fun lab => match lab with
  | 0 => 0
  | 1 => 16
  | _ => 0
def lvl_X7_crosses (ad : Nat → Nat) (v1 : Int32) (v2 : Int32) : Nat → Int32 → List (Nat × Value) := fun lab v3 => match lab with
  | 0 => [(0, .ref (ad 0)), (1, .int v1), (2, .int v2)]
  | 1 => [(0, .ref (ad 0)), (1, .int v1), (2, .int v2), (3, .int v3)]
  | _ => []
abbrev rm_X7_crosses : Jvm.Room := { frames := 3, cells := 0, slots := 0, locals := 55 }
set_option maxHeartbeats 4000000 in
set_option maxRecDepth 100000 in
theorem ct_X7_crosses (l : Launch) (D : va_G) (cy : Nat → ClassId) (ad : Nat → Nat) (B : Nat → Prop) (v1 : Int32) (v2 : Int32) (M : Mem) (Q : Int32 → Mem → Prop) (h : wp_X7_crosses v1 v2 M Q) : CTi l D cy (wX ad cy) B yX7_crosses wsX7_crosses rm_X7_crosses [.ref (ad 0), .int v1, .int v2] M Q := by
  intro sz
  refine Met.ofW (cc := cX7_crosses) (maxL := 4) (ret := some .int) (by decide) rfl ?_
  intro p e s m args below meth c s₁ Bd hml hv
  obtain ⟨hargs, hsz, hP, hK, hD⟩ := hv
  subst hsz
  have hx := Bd.exec
  have hb := Bd.bytes
  have hr := Bd.returns
  have hts := atoms_spec (ws := wsX7_crosses) Bd.pre
  have hown : s.vm.findClass RX7 = some m.cls := findClass_of_methodNamed Bd.named
  have hlocks := Bd.notSynchronized
  have hC2 : xC wsX7_crosses 2 RX2 TX2 8 := ⟨by decide +kernel, rfl⟩
  have hC7 : xC wsX7_crosses 7 RX7 TX7 11 := ⟨by decide +kernel, rfl⟩
  have key : ∀ (P : Nat → Int32 → Mem → Prop), (∀ (lab : Nat) (v3 : Int32) (M : Mem), P lab v3 M → ∀ (H : Heap) (locs : List Loc) (ls : Array Slot), xS D (wX ad cy) B s.heap H locs M → lv_has ls 4 (lvl_X7_crosses ad v1 v2 lab v3 ) → W p l e (headSpec wsX7_crosses rm_X7_crosses).room s m args below meth c H locs 0 0 (MQ below (va_Qi (S := Mem) Q (xB D (wX ad cy) B) (xA B s.heap.size)) args s 0 0 (xA B s.heap.size)) (F0 m (pcl_X7_crosses lab) ls [])) → ∀ (lab : Nat) (v3 : Int32) (M : Mem), blk_X7_crosses v1 v2 Q P lab v3 M → ∀ (H : Heap) (locs : List Loc) (ls : Array Slot), xS D (wX ad cy) B s.heap H locs M → lv_has ls 4 (lvl_X7_crosses ad v1 v2 lab v3 ) → W p l e (headSpec wsX7_crosses rm_X7_crosses).room s m args below meth c H locs 0 0 (MQ below (va_Qi (S := Mem) Q (xB D (wX ad cy) B) (xA B s.heap.size)) args s 0 0 (xA B s.heap.size)) (F0 m (pcl_X7_crosses lab) ls []) := by
    intro P hJ lab v3 M h H locs ls S hl
    match lab, h, hl with
    | 0, h, hl =>
      have hl : lv_has ls 4 [(0, .ref (ad 0)), (1, .int v1), (2, .int v2)] := hl
      have h : blk_X7_crosses_0 v1 v2 Q P v3 M := h
      unfold blk_X7_crosses_0 at h
      refine W.eq (g2 := F0 m 0 ls []) rfl ?_
      refine lv_aload_n hx hb dX7_crosses_0 rfl (lv_at hl 0 rfl) ?_
      refine lv_iload_n hx hb dX7_crosses_1 rfl (lv_at hl 1 rfl) ?_
      refine x_callVi (As := [.int v1]) ⟨hx, hb, hml, hown, hts⟩ hK S (ct_X7_fenceRefusal l D cy ad B _ _ _ h) xo_0 rfl (cwV 1 hts gX7_crosses_X7_fenceRefusal rfl rfl rfl (by decide +kernel) ⟨Nat.le_of_ble_eq_true rfl, Nat.le_of_ble_eq_true rfl⟩) rfl hl.1 rfl (Nat.le_of_ble_eq_true rfl) dX7_crosses_2 ⟨Nat.zero_le _, Nat.zero_le _⟩ (fun r1 M1 H locs h S => ?_)
      refine lv_istore_n (lv' := [(3, .int r1), (0, .ref (ad 0)), (1, .int v1), (2, .int v2)]) hx hb dX7_crosses_5 rfl hl (by decide) rfl (fun ls hl => ?_)
      refine lv_iload_n hx hb dX7_crosses_6 rfl (lv_at hl 0 rfl) ?_
      refine lv_if_ne (tgt := 16) hx hb dX7_crosses_7 (by decide) (fun c7 => ?_) (fun c7 => ?_)
      · replace h := h.1 c7
        exact hJ _ _ _ h _ _ _ S (lv_sub hl [1, 2, 3, 0] rfl)
      · replace h := h.2 c7
        refine lv_aload_n hx hb dX7_crosses_10 rfl (lv_at hl 1 rfl) ?_
        refine lv_iload_n hx hb dX7_crosses_11 rfl (lv_at hl 3 rfl) ?_
        refine x_callVi (As := [.int v2]) ⟨hx, hb, hml, hown, hts⟩ hK S (ct_X7_fenceRefusal l D cy ad B _ _ _ h) xo_0 rfl (cwV 1 hts gX7_crosses_X7_fenceRefusal rfl rfl rfl (by decide +kernel) ⟨Nat.le_of_ble_eq_true rfl, Nat.le_of_ble_eq_true rfl⟩) rfl hl.1 rfl (Nat.le_of_ble_eq_true rfl) dX7_crosses_12 ⟨Nat.zero_le _, Nat.zero_le _⟩ (fun r2 M2 H locs h S => ?_)
        refine lv_istore_n (lv' := [(3, .int r2), (0, .ref (ad 0)), (1, .int v1), (2, .int v2)]) hx hb dX7_crosses_15 rfl hl (by decide) rfl (fun ls hl => ?_)
        exact hJ _ _ _ h _ _ _ S (lv_sub hl [1, 2, 3, 0] rfl)
    | 1, h, hl =>
      have hl : lv_has ls 4 [(0, .ref (ad 0)), (1, .int v1), (2, .int v2), (3, .int v3)] := hl
      have h : blk_X7_crosses_1 v1 v2 Q P v3 M := h
      unfold blk_X7_crosses_1 at h
      refine W.eq (g2 := F0 m 16 ls []) rfl ?_
      refine lv_iload_n hx hb dX7_crosses_16 rfl (lv_at hl 3 rfl) ?_
      refine lv_if_eq (tgt := 22) hx hb dX7_crosses_17 (by decide) (fun c17 => ?_) (fun c17 => ?_)
      · replace h := h.1 c17
        refine lv_iload_n hx hb dX7_crosses_22 rfl (lv_at hl 2 rfl) ?_
        refine lv_aload_n hx hb dX7_crosses_23 rfl (lv_at hl 0 rfl) ?_
        refine x_getR hx hb hts (hC7) hown hK S 2 (by decide) xf_0_2 (index := 25) (hts _ (List.mem_of_getElem? (i := 1) rfl)) dX7_crosses_24 ?_
        refine x_getR hx hb hts (hC2) hown hK S 3 (by decide) xf_13_3 (index := 155) (hts _ (List.mem_of_getElem? (i := 2) rfl)) dX7_crosses_27 ?_
        refine lv_iload_n hx hb dX7_crosses_30 rfl (lv_at hl 1 rfl) ?_
        refine x_iald hx hb hK S xa_19 h.1 dX7_crosses_31 ?_
        replace h := h.2
        refine x_callSi (As := [.int v2, .int (M.1 19 v1.toNatClampNeg)]) ⟨hx, hb, hml, hown, hts⟩ hK S (ct_X7_isIn l D cy ad B _ _ _ _ h) (va_cwS 2 hts gX7_crosses_X7_isIn rfl rfl rfl (by decide +kernel) ⟨Nat.le_of_ble_eq_true rfl, Nat.le_of_ble_eq_true rfl⟩) rfl hl.1 rfl (Nat.le_of_ble_eq_true rfl) dX7_crosses_32 ⟨Nat.zero_le _, Nat.zero_le _⟩ (fun r3 M3 H locs h S => ?_)
        refine lv_if_eq (tgt := 42) hx hb dX7_crosses_35 (by decide) (fun c35 => ?_) (fun c35 => ?_)
        · replace h := h.1 c35
          refine lv_iconst (v := 0) hx hb dX7_crosses_42 (by decide) ?_
          exact x_iret hx hb hr hlocks S rfl h dX7_crosses_43
        · replace h := h.2 c35
          refine lv_iconst (v := 1) hx hb dX7_crosses_38 (by decide) ?_
          refine lv_goto (tgt := 43) hx hb dX7_crosses_39 (by decide) ?_
          exact x_iret hx hb hr hlocks S rfl h dX7_crosses_43
      · replace h := h.2 c17
        refine lv_iload_n hx hb dX7_crosses_20 rfl (lv_at hl 3 rfl) ?_
        exact x_iret hx hb hr hlocks S rfl h dX7_crosses_21
    | _ + 2, h, hl => exact h.elim
  have hl := lv_entry ([.ref (ad 0), .int v1, .int v2]) (n := 4) (Nat.le_of_ble_eq_true rfl)
  subst hargs
  rw [lg_entry_eq]
  generalize (lg_sl ([.ref (ad 0), .int v1, .int v2]) ++ List.replicate (4 - (lg_sl ([.ref (ad 0), .int v1, .int v2])).length) Slot.unset).toArray = ls at hl ⊢
  exact h _ (key _ (fun _ _ _ h => h)) s.heap [] ls ⟨hP, hD, va_S.rf⟩ hl
