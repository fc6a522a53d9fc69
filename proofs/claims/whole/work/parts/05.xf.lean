/-! X0_askAnew -/
def blk_X0_askAnew_0 (v2 : Int32) (v3 : Int32) (Q : Mem → Prop) (P : Nat → Int32 → Mem → Prop) (v4 : Int32) (M : Mem) : Prop :=
  ((¬ v3 = 1 → P 1 ((1 : Int32) <<< (v2 &&& 31)) (upI (upI M 25 3 ((M.1 25 3) &&& (((1 : Int32) <<< (v2 &&& 31)) ^^^ ((-1) : Int32)))) 25 4 (((upI M 25 3 ((M.1 25 3) &&& (((1 : Int32) <<< (v2 &&& 31)) ^^^ ((-1) : Int32)))).1 25 4) &&& (((1 : Int32) <<< (v2 &&& 31)) ^^^ ((-1) : Int32))))) ∧ (v3 = 1 → P 1 ((1 : Int32) <<< (v2 &&& 31)) (upI (upI (upI M 25 3 ((M.1 25 3) &&& (((1 : Int32) <<< (v2 &&& 31)) ^^^ ((-1) : Int32)))) 25 4 (((upI M 25 3 ((M.1 25 3) &&& (((1 : Int32) <<< (v2 &&& 31)) ^^^ ((-1) : Int32)))).1 25 4) &&& (((1 : Int32) <<< (v2 &&& 31)) ^^^ ((-1) : Int32)))) 25 3 (((upI (upI M 25 3 ((M.1 25 3) &&& (((1 : Int32) <<< (v2 &&& 31)) ^^^ ((-1) : Int32)))) 25 4 (((upI M 25 3 ((M.1 25 3) &&& (((1 : Int32) <<< (v2 &&& 31)) ^^^ ((-1) : Int32)))).1 25 4) &&& (((1 : Int32) <<< (v2 &&& 31)) ^^^ ((-1) : Int32)))).1 25 3) ||| ((1 : Int32) <<< (v2 &&& 31))))))
theorem blk_X0_askAnew_0_mono {v2 : Int32} {v3 : Int32} {Q Q' : Mem → Prop} {P P' : Nat → Int32 → Mem → Prop} (hQ : ∀ M : Mem, Q M → Q' M) (hP : ∀ (lab : Nat) (v4 : Int32) (M : Mem), P lab v4 M → P' lab v4 M) (v4 : Int32) (M : Mem) (h : blk_X0_askAnew_0 v2 v3 Q P v4 M) : blk_X0_askAnew_0 v2 v3 Q' P' v4 M := by
  unfold blk_X0_askAnew_0 at h ⊢
  exact ⟨fun c => let h := h.1 c; hP _ _ _ h, fun c => let h := h.2 c; hP _ _ _ h⟩
def blk_X0_askAnew_1 (v2 : Int32) (v3 : Int32) (Q : Mem → Prop) (P : Nat → Int32 → Mem → Prop) (v4 : Int32) (M : Mem) : Prop :=
  ((¬ v3 = 2 → P 2 0 M) ∧ (v3 = 2 → P 2 0 (upI M 25 4 ((M.1 25 4) ||| v4))))
theorem blk_X0_askAnew_1_mono {v2 : Int32} {v3 : Int32} {Q Q' : Mem → Prop} {P P' : Nat → Int32 → Mem → Prop} (hQ : ∀ M : Mem, Q M → Q' M) (hP : ∀ (lab : Nat) (v4 : Int32) (M : Mem), P lab v4 M → P' lab v4 M) (v4 : Int32) (M : Mem) (h : blk_X0_askAnew_1 v2 v3 Q P v4 M) : blk_X0_askAnew_1 v2 v3 Q' P' v4 M := by
  unfold blk_X0_askAnew_1 at h ⊢
  exact ⟨fun c => let h := h.1 c; hP _ _ _ h, fun c => let h := h.2 c; hP _ _ _ h⟩
def blk_X0_askAnew_2 (v2 : Int32) (v3 : Int32) (Q : Mem → Prop) (P : Nat → Int32 → Mem → Prop) (v4 : Int32) (M : Mem) : Prop :=
  wp_X0_rankThem M (fun M1 => Q M1)
theorem blk_X0_askAnew_2_mono {v2 : Int32} {v3 : Int32} {Q Q' : Mem → Prop} {P P' : Nat → Int32 → Mem → Prop} (hQ : ∀ M : Mem, Q M → Q' M) (hP : ∀ (lab : Nat) (v4 : Int32) (M : Mem), P lab v4 M → P' lab v4 M) (v4 : Int32) (M : Mem) (h : blk_X0_askAnew_2 v2 v3 Q P v4 M) : blk_X0_askAnew_2 v2 v3 Q' P' v4 M := by
  unfold blk_X0_askAnew_2 at h ⊢
  exact wp_X0_rankThem_mono (fun M1 h => hQ _ h) h
def blk_X0_askAnew (v2 : Int32) (v3 : Int32) (Q : Mem → Prop) (P : Nat → Int32 → Mem → Prop) : Nat → Int32 → Mem → Prop := fun lab v4 M => match lab with
  | 0 => blk_X0_askAnew_0 v2 v3 Q P v4 M
  | 1 => blk_X0_askAnew_1 v2 v3 Q P v4 M
  | 2 => blk_X0_askAnew_2 v2 v3 Q P v4 M
  | _ => False
theorem blk_X0_askAnew_mono {v2 : Int32} {v3 : Int32} {Q Q' : Mem → Prop} {P P' : Nat → Int32 → Mem → Prop} (hQ : ∀ M : Mem, Q M → Q' M) (hP : ∀ (lab : Nat) (v4 : Int32) (M : Mem), P lab v4 M → P' lab v4 M) : ∀ (lab : Nat) (v4 : Int32) (M : Mem), blk_X0_askAnew v2 v3 Q P lab v4 M → blk_X0_askAnew v2 v3 Q' P' lab v4 M := fun lab v4 M h => match lab, h with
  | 0, h => blk_X0_askAnew_0_mono (v2 := v2) (v3 := v3) hQ hP v4 M h
  | 1, h => blk_X0_askAnew_1_mono (v2 := v2) (v3 := v3) hQ hP v4 M h
  | 2, h => blk_X0_askAnew_2_mono (v2 := v2) (v3 := v3) hQ hP v4 M h
  | _ + 3, h => False.elim h
def at_X0_askAnew (v2 : Int32) (v3 : Int32) (Q : Mem → Prop) : Nat → Int32 → Mem → Prop := fun lab v4 M => ∀ P : Nat → Int32 → Mem → Prop, (∀ (lab : Nat) (v4 : Int32) (M : Mem), blk_X0_askAnew v2 v3 Q P lab v4 M → P lab v4 M) → P lab v4 M
theorem at_X0_askAnew_fold {v2 : Int32} {v3 : Int32} {Q : Mem → Prop} {lab : Nat} {v4 : Int32} {M : Mem} (h : blk_X0_askAnew v2 v3 Q (at_X0_askAnew v2 v3 Q) lab v4 M) : at_X0_askAnew v2 v3 Q lab v4 M := fun P hP => hP _ _ _ (blk_X0_askAnew_mono (fun _ h => h) (fun _ _ _ h => h P hP) _ _ _ h)
theorem at_X0_askAnew_mono {v2 : Int32} {v3 : Int32} {Q Q' : Mem → Prop} (hQ : ∀ M : Mem, Q M → Q' M) {lab : Nat} {v4 : Int32} {M : Mem} (h : at_X0_askAnew v2 v3 Q lab v4 M) : at_X0_askAnew v2 v3 Q' lab v4 M := fun P hP => h P (fun lab v4 M hb => hP _ _ _ (blk_X0_askAnew_mono hQ (fun _ _ _ h => h) _ _ _ hb))
def wp_X0_askAnew (v2 : Int32) (v3 : Int32) (M : Mem) (Q : Mem → Prop) : Prop := at_X0_askAnew v2 v3 Q 0 0 M
theorem wp_X0_askAnew_mono {v2 : Int32} {v3 : Int32} {M : Mem} {Q Q' : Mem → Prop} (hQ : ∀ M : Mem, Q M → Q' M) (h : wp_X0_askAnew v2 v3 M Q) : wp_X0_askAnew v2 v3 M Q' := at_X0_askAnew_mono hQ h
def pcl_X0_askAnew : Nat → Nat := fun lab => match lab with
  | 0 => 0
  | 1 => 47
  | 2 => 63
  | _ => 0
def lvl_X0_askAnew (ad : Nat → Nat) (v2 : Int32) (v3 : Int32) : Nat → Int32 → List (Nat × Value) := fun lab v4 => match lab with
  | 0 => [(0, .ref (ad 25)), (1, .ref (ad 22)), (2, .int v2), (3, .int v3)]
  | 1 => [(0, .ref (ad 25)), (1, .ref (ad 22)), (3, .int v3), (4, .int v4)]
  | 2 => [(0, .ref (ad 25)), (1, .ref (ad 22))]
  | _ => []
abbrev rm_X0_askAnew : Jvm.Room := { frames := 2, cells := 0, slots := 0, locals := 38 }
set_option maxHeartbeats 4000000 in
set_option maxRecDepth 100000 in
theorem ct_X0_askAnew (l : Launch) (D : va_G) (cy : Nat → ClassId) (ad : Nat → Nat) (B : Nat → Prop) (v2 : Int32) (v3 : Int32) (M : Mem) (Q : Mem → Prop) (h : wp_X0_askAnew v2 v3 M Q) : CTv l D cy (wX ad cy) B yX0_askAnew wsX0_askAnew rm_X0_askAnew [.ref (ad 25), .ref (ad 22), .int v2, .int v3] M Q := by
  intro sz
  refine Met.ofW (cc := cX0_askAnew) (maxL := 5) (ret := none) (by decide) rfl ?_
  intro p e s m args below meth c s₁ Bd hml hv
  obtain ⟨hargs, hsz, hP, hK, hD⟩ := hv
  subst hsz
  have hx := Bd.exec
  have hb := Bd.bytes
  have hr := Bd.returns
  have hts := atoms_spec (ws := wsX0_askAnew) Bd.pre
  have hown : s.vm.findClass RX0 = some m.cls := findClass_of_methodNamed Bd.named
  have hlocks := Bd.notSynchronized
  have hC0 : xC wsX0_askAnew 0 RX0 TX0 5 := ⟨by decide +kernel, rfl⟩
  have key : ∀ (P : Nat → Int32 → Mem → Prop), (∀ (lab : Nat) (v4 : Int32) (M : Mem), P lab v4 M → ∀ (H : Heap) (locs : List Loc) (ls : Array Slot), xS D (wX ad cy) B s.heap H locs M → lv_has ls 5 (lvl_X0_askAnew ad v2 v3 lab v4 ) → W p l e (headSpec wsX0_askAnew rm_X0_askAnew).room s m args below meth c H locs 0 0 (MQ below (va_Qv (S := Mem) Q (xB D (wX ad cy) B) (xA B s.heap.size)) args s 0 0 (xA B s.heap.size)) (F0 m (pcl_X0_askAnew lab) ls [])) → ∀ (lab : Nat) (v4 : Int32) (M : Mem), blk_X0_askAnew v2 v3 Q P lab v4 M → ∀ (H : Heap) (locs : List Loc) (ls : Array Slot), xS D (wX ad cy) B s.heap H locs M → lv_has ls 5 (lvl_X0_askAnew ad v2 v3 lab v4 ) → W p l e (headSpec wsX0_askAnew rm_X0_askAnew).room s m args below meth c H locs 0 0 (MQ below (va_Qv (S := Mem) Q (xB D (wX ad cy) B) (xA B s.heap.size)) args s 0 0 (xA B s.heap.size)) (F0 m (pcl_X0_askAnew lab) ls []) := by
    intro P hJ lab v4 M h H locs ls S hl
    match lab, h, hl with
    | 0, h, hl =>
      have hl : lv_has ls 5 [(0, .ref (ad 25)), (1, .ref (ad 22)), (2, .int v2), (3, .int v3)] := hl
      have h : blk_X0_askAnew_0 v2 v3 Q P v4 M := h
      unfold blk_X0_askAnew_0 at h
      refine W.eq (g2 := F0 m 0 ls []) rfl ?_
      refine lv_iconst (v := 1) hx hb dX0_askAnew_0 (by decide) ?_
      refine lv_iload_n hx hb dX0_askAnew_1 rfl (lv_at hl 2 rfl) ?_
      refine lv_ishl hx hb dX0_askAnew_2 ?_
      refine lv_istore (lv' := [(4, .int ((1 : Int32) <<< (v2 &&& 31))), (0, .ref (ad 25)), (1, .ref (ad 22)), (2, .int v2), (3, .int v3)]) hx hb dX0_askAnew_3 hl (by decide) rfl (fun ls hl => ?_)
      refine lv_aload_n hx hb dX0_askAnew_5 rfl (lv_at hl 1 rfl) ?_
      refine lv_dup hx hb dX0_askAnew_6 rfl ?_
      refine x_getI hx hb hts (hC0) hown hK S 3 (by decide) xf_25_3 (index := 18) (hts _ (List.mem_of_getElem? (i := 1) rfl)) dX0_askAnew_7 ?_
      refine lv_iload hx hb dX0_askAnew_10 (lv_at hl 0 rfl) ?_
      refine lv_iconst (v := (-1)) hx hb dX0_askAnew_12 (by decide) ?_
      refine lv_ixor hx hb dX0_askAnew_13 ?_
      refine lv_iand hx hb dX0_askAnew_14 ?_
      refine x_putI hx hb hts (hC0) tyX0 tyX0_ok nmX0 hown hK S 3 (by decide) xf_25_3 (index := 18) (hts _ (List.mem_of_getElem? (i := 1) rfl)) rfl rfl rfl dX0_askAnew_15 (fun H locs S => ?_)
      refine lv_aload_n hx hb dX0_askAnew_18 rfl (lv_at hl 1 rfl) ?_
      refine lv_dup hx hb dX0_askAnew_19 rfl ?_
      refine x_getI hx hb hts (hC0) hown hK S 4 (by decide) xf_25_4 (index := 22) (hts _ (List.mem_of_getElem? (i := 2) rfl)) dX0_askAnew_20 ?_
      refine lv_iload hx hb dX0_askAnew_23 (lv_at hl 0 rfl) ?_
      refine lv_iconst (v := (-1)) hx hb dX0_askAnew_25 (by decide) ?_
      refine lv_ixor hx hb dX0_askAnew_26 ?_
      refine lv_iand hx hb dX0_askAnew_27 ?_
      refine x_putI hx hb hts (hC0) tyX0 tyX0_ok nmX0 hown hK S 4 (by decide) xf_25_4 (index := 22) (hts _ (List.mem_of_getElem? (i := 2) rfl)) rfl rfl rfl dX0_askAnew_28 (fun H locs S => ?_)
      refine lv_iload_n hx hb dX0_askAnew_31 rfl (lv_at hl 4 rfl) ?_
      refine lv_iconst (v := 1) hx hb dX0_askAnew_32 (by decide) ?_
      refine lv_icmp_ne (tgt := 47) hx hb dX0_askAnew_33 (by decide) (fun c33 => ?_) (fun c33 => ?_)
      · replace h := h.1 c33
        exact hJ _ _ _ h _ _ _ S (lv_sub hl [1, 2, 4, 0] rfl)
      · replace h := h.2 c33
        refine lv_aload_n hx hb dX0_askAnew_36 rfl (lv_at hl 1 rfl) ?_
        refine lv_dup hx hb dX0_askAnew_37 rfl ?_
        refine x_getI hx hb hts (hC0) hown hK S 3 (by decide) xf_25_3 (index := 18) (hts _ (List.mem_of_getElem? (i := 1) rfl)) dX0_askAnew_38 ?_
        refine lv_iload hx hb dX0_askAnew_41 (lv_at hl 0 rfl) ?_
        refine lv_ior hx hb dX0_askAnew_43 ?_
        refine x_putI hx hb hts (hC0) tyX0 tyX0_ok nmX0 hown hK S 3 (by decide) xf_25_3 (index := 18) (hts _ (List.mem_of_getElem? (i := 1) rfl)) rfl rfl rfl dX0_askAnew_44 (fun H locs S => ?_)
        exact hJ _ _ _ h _ _ _ S (lv_sub hl [1, 2, 4, 0] rfl)
    | 1, h, hl =>
      have hl : lv_has ls 5 [(0, .ref (ad 25)), (1, .ref (ad 22)), (3, .int v3), (4, .int v4)] := hl
      have h : blk_X0_askAnew_1 v2 v3 Q P v4 M := h
      unfold blk_X0_askAnew_1 at h
      refine W.eq (g2 := F0 m 47 ls []) rfl ?_
      refine lv_iload_n hx hb dX0_askAnew_47 rfl (lv_at hl 2 rfl) ?_
      refine lv_iconst (v := 2) hx hb dX0_askAnew_48 (by decide) ?_
      refine lv_icmp_ne (tgt := 63) hx hb dX0_askAnew_49 (by decide) (fun c49 => ?_) (fun c49 => ?_)
      · replace h := h.1 c49
        exact hJ _ _ _ h _ _ _ S (lv_sub hl [0, 1] rfl)
      · replace h := h.2 c49
        refine lv_aload_n hx hb dX0_askAnew_52 rfl (lv_at hl 0 rfl) ?_
        refine lv_dup hx hb dX0_askAnew_53 rfl ?_
        refine x_getI hx hb hts (hC0) hown hK S 4 (by decide) xf_25_4 (index := 22) (hts _ (List.mem_of_getElem? (i := 2) rfl)) dX0_askAnew_54 ?_
        refine lv_iload hx hb dX0_askAnew_57 (lv_at hl 3 rfl) ?_
        refine lv_ior hx hb dX0_askAnew_59 ?_
        refine x_putI hx hb hts (hC0) tyX0 tyX0_ok nmX0 hown hK S 4 (by decide) xf_25_4 (index := 22) (hts _ (List.mem_of_getElem? (i := 2) rfl)) rfl rfl rfl dX0_askAnew_60 (fun H locs S => ?_)
        exact hJ _ _ _ h _ _ _ S (lv_sub hl [0, 1] rfl)
    | 2, h, hl =>
      have hl : lv_has ls 5 [(0, .ref (ad 25)), (1, .ref (ad 22))] := hl
      have h : blk_X0_askAnew_2 v2 v3 Q P v4 M := h
      unfold blk_X0_askAnew_2 at h
      refine W.eq (g2 := F0 m 63 ls []) rfl ?_
      refine lv_aload_n hx hb dX0_askAnew_63 rfl (lv_at hl 0 rfl) ?_
      refine lv_aload_n hx hb dX0_askAnew_64 rfl (lv_at hl 1 rfl) ?_
      refine x_callVv (As := [.ref (ad 22)]) ⟨hx, hb, hml, hown, hts⟩ hK S (ct_X0_rankThem l D cy ad B _ _ h) xo_25 rfl (cwV 1 hts gX0_askAnew_X0_rankThem rfl rfl rfl (by decide +kernel) ⟨Nat.le_of_ble_eq_true rfl, Nat.le_of_ble_eq_true rfl⟩) rfl hl.1 rfl (Nat.le_of_ble_eq_true rfl) dX0_askAnew_65 ⟨Nat.zero_le _, Nat.zero_le _⟩ (fun M1 H locs h S => ?_)
      exact x_vret hx hb hr hlocks S h dX0_askAnew_68
    | _ + 3, h, hl => exact h.elim
  have hl := lv_entry ([.ref (ad 25), .ref (ad 22), .int v2, .int v3]) (n := 5) (Nat.le_of_ble_eq_true rfl)
  subst hargs
  rw [lg_entry_eq]
  generalize (lg_sl ([.ref (ad 25), .ref (ad 22), .int v2, .int v3]) ++ List.replicate (5 - (lg_sl ([.ref (ad 25), .ref (ad 22), .int v2, .int v3])).length) Slot.unset).toArray = ls at hl ⊢
  exact h _ (key _ (fun _ _ _ h => h)) s.heap [] ls ⟨hP, hD, va_S.rf⟩ hl
/-! X7_tell -/
def blk_X7_tell_0 (v1 : Int32) (v2 : Int32) (Q : Int32 → Mem → Prop) (P : Nat → Int32 → Int32 → Mem → Prop) (v3 : Int32) (v4 : Int32) (M : Mem) : Prop :=
  ((v2 < 0 → Q (-2) M) ∧ (¬ v2 < 0 → ((v2 ≤ 2 → wp_X7_fenceRefusal v1 M (fun r1 M1 => ((r1 = 0 → wp_X7_fencesNow M1 (fun r2 M2 => wp_X7_isIn v1 r2 M2 (fun r3 M3 => ((¬ v2 = 1 → P 1 0 r3 M3) ∧ (v2 = 1 → ((r3 = 0 → Q (-3) M3) ∧ (¬ r3 = 0 → P 1 0 r3 M3))))))) ∧ (¬ r1 = 0 → Q r1 M1)))) ∧ (¬ v2 ≤ 2 → Q (-2) M))))
theorem blk_X7_tell_0_mono {v1 : Int32} {v2 : Int32} {Q Q' : Int32 → Mem → Prop} {P P' : Nat → Int32 → Int32 → Mem → Prop} (hQ : ∀ (r : Int32) (M : Mem), Q r M → Q' r M) (hP : ∀ (lab : Nat) (v3 : Int32) (v4 : Int32) (M : Mem), P lab v3 v4 M → P' lab v3 v4 M) (v3 : Int32) (v4 : Int32) (M : Mem) (h : blk_X7_tell_0 v1 v2 Q P v3 v4 M) : blk_X7_tell_0 v1 v2 Q' P' v3 v4 M := by
  unfold blk_X7_tell_0 at h ⊢
  exact ⟨fun c => let h := h.1 c; hQ _ _ h, fun c => let h := h.2 c; ⟨fun c => let h := h.1 c; wp_X7_fenceRefusal_mono (fun r1 M1 h => ⟨fun c => let h := h.1 c; wp_X7_fencesNow_mono (fun r2 M2 h => wp_X7_isIn_mono (fun r3 M3 h => ⟨fun c => let h := h.1 c; hP _ _ _ _ h, fun c => let h := h.2 c; ⟨fun c => let h := h.1 c; hQ _ _ h, fun c => let h := h.2 c; hP _ _ _ _ h⟩⟩) h) h, fun c => let h := h.2 c; hQ _ _ h⟩) h, fun c => let h := h.2 c; hQ _ _ h⟩⟩
def blk_X7_tell_1 (v1 : Int32) (v2 : Int32) (Q : Int32 → Mem → Prop) (P : Nat → Int32 → Int32 → Mem → Prop) (v3 : Int32) (v4 : Int32) (M : Mem) : Prop :=
  ((¬ v2 = 2 → P 2 0 0 M) ∧ (v2 = 2 → ((v4 = 0 → P 2 0 0 M) ∧ (¬ v4 = 0 → Q (-3) M))))
theorem blk_X7_tell_1_mono {v1 : Int32} {v2 : Int32} {Q Q' : Int32 → Mem → Prop} {P P' : Nat → Int32 → Int32 → Mem → Prop} (hQ : ∀ (r : Int32) (M : Mem), Q r M → Q' r M) (hP : ∀ (lab : Nat) (v3 : Int32) (v4 : Int32) (M : Mem), P lab v3 v4 M → P' lab v3 v4 M) (v3 : Int32) (v4 : Int32) (M : Mem) (h : blk_X7_tell_1 v1 v2 Q P v3 v4 M) : blk_X7_tell_1 v1 v2 Q' P' v3 v4 M := by
  unfold blk_X7_tell_1 at h ⊢
  exact ⟨fun c => let h := h.1 c; hP _ _ _ _ h, fun c => let h := h.2 c; ⟨fun c => let h := h.1 c; hP _ _ _ _ h, fun c => let h := h.2 c; hQ _ _ h⟩⟩
def blk_X7_tell_2 (v1 : Int32) (v2 : Int32) (Q : Int32 → Mem → Prop) (P : Nat → Int32 → Int32 → Mem → Prop) (v3 : Int32) (v4 : Int32) (M : Mem) : Prop :=
  wp_X0_askAnew v1 v2 M (fun M4 => wp_X3_forget M4 (fun M5 => Q (M5.1 25 2) M5))
theorem blk_X7_tell_2_mono {v1 : Int32} {v2 : Int32} {Q Q' : Int32 → Mem → Prop} {P P' : Nat → Int32 → Int32 → Mem → Prop} (hQ : ∀ (r : Int32) (M : Mem), Q r M → Q' r M) (hP : ∀ (lab : Nat) (v3 : Int32) (v4 : Int32) (M : Mem), P lab v3 v4 M → P' lab v3 v4 M) (v3 : Int32) (v4 : Int32) (M : Mem) (h : blk_X7_tell_2 v1 v2 Q P v3 v4 M) : blk_X7_tell_2 v1 v2 Q' P' v3 v4 M := by
  unfold blk_X7_tell_2 at h ⊢
  exact wp_X0_askAnew_mono (fun M4 h => wp_X3_forget_mono (fun M5 h => hQ _ _ h) h) h
def blk_X7_tell (v1 : Int32) (v2 : Int32) (Q : Int32 → Mem → Prop) (P : Nat → Int32 → Int32 → Mem → Prop) : Nat → Int32 → Int32 → Mem → Prop := fun lab v3 v4 M => match lab with
  | 0 => blk_X7_tell_0 v1 v2 Q P v3 v4 M
  | 1 => blk_X7_tell_1 v1 v2 Q P v3 v4 M
  | 2 => blk_X7_tell_2 v1 v2 Q P v3 v4 M
  | _ => False
theorem blk_X7_tell_mono {v1 : Int32} {v2 : Int32} {Q Q' : Int32 → Mem → Prop} {P P' : Nat → Int32 → Int32 → Mem → Prop} (hQ : ∀ (r : Int32) (M : Mem), Q r M → Q' r M) (hP : ∀ (lab : Nat) (v3 : Int32) (v4 : Int32) (M : Mem), P lab v3 v4 M → P' lab v3 v4 M) : ∀ (lab : Nat) (v3 : Int32) (v4 : Int32) (M : Mem), blk_X7_tell v1 v2 Q P lab v3 v4 M → blk_X7_tell v1 v2 Q' P' lab v3 v4 M := fun lab v3 v4 M h => match lab, h with
  | 0, h => blk_X7_tell_0_mono (v1 := v1) (v2 := v2) hQ hP v3 v4 M h
  | 1, h => blk_X7_tell_1_mono (v1 := v1) (v2 := v2) hQ hP v3 v4 M h
  | 2, h => blk_X7_tell_2_mono (v1 := v1) (v2 := v2) hQ hP v3 v4 M h
  | _ + 3, h => False.elim h
def at_X7_tell (v1 : Int32) (v2 : Int32) (Q : Int32 → Mem → Prop) : Nat → Int32 → Int32 → Mem → Prop := fun lab v3 v4 M => ∀ P : Nat → Int32 → Int32 → Mem → Prop, (∀ (lab : Nat) (v3 : Int32) (v4 : Int32) (M : Mem), blk_X7_tell v1 v2 Q P lab v3 v4 M → P lab v3 v4 M) → P lab v3 v4 M
theorem at_X7_tell_fold {v1 : Int32} {v2 : Int32} {Q : Int32 → Mem → Prop} {lab : Nat} {v3 : Int32} {v4 : Int32} {M : Mem} (h : blk_X7_tell v1 v2 Q (at_X7_tell v1 v2 Q) lab v3 v4 M) : at_X7_tell v1 v2 Q lab v3 v4 M := fun P hP => hP _ _ _ _ (blk_X7_tell_mono (fun _ _ h => h) (fun _ _ _ _ h => h P hP) _ _ _ _ h)
theorem at_X7_tell_mono {v1 : Int32} {v2 : Int32} {Q Q' : Int32 → Mem → Prop} (hQ : ∀ (r : Int32) (M : Mem), Q r M → Q' r M) {lab : Nat} {v3 : Int32} {v4 : Int32} {M : Mem} (h : at_X7_tell v1 v2 Q lab v3 v4 M) : at_X7_tell v1 v2 Q' lab v3 v4 M := fun P hP => h P (fun lab v3 v4 M hb => hP _ _ _ _ (blk_X7_tell_mono hQ (fun _ _ _ _ h => h) _ _ _ _ hb))
def wp_X7_tell (v1 : Int32) (v2 : Int32) (M : Mem) (Q : Int32 → Mem → Prop) : Prop := at_X7_tell v1 v2 Q 0 0 0 M
theorem wp_X7_tell_mono {v1 : Int32} {v2 : Int32} {M : Mem} {Q Q' : Int32 → Mem → Prop} (hQ : ∀ (r : Int32) (M : Mem), Q r M → Q' r M) (h : wp_X7_tell v1 v2 M Q) : wp_X7_tell v1 v2 M Q' := at_X7_tell_mono hQ h
def pcl_X7_tell : Nat → Nat := fun lab => match lab with
  | 0 => 0
  | 1 => 44
  | 2 => 57
  | _ => 0
def lvl_X7_tell (ad : Nat → Nat) (v1 : Int32) (v2 : Int32) : Nat → Int32 → Int32 → List (Nat × Value) := fun lab v3 v4 => match lab with
  | 0 => [(0, .ref (ad 0)), (1, .int v1), (2, .int v2)]
  | 1 => [(0, .ref (ad 0)), (1, .int v1), (2, .int v2), (4, .int v4)]
  | 2 => [(0, .ref (ad 0)), (1, .int v1), (2, .int v2)]
  | _ => []
abbrev rm_X7_tell : Jvm.Room := { frames := 3, cells := 0, slots := 0, locals := 62 }
set_option maxHeartbeats 4000000 in
set_option maxRecDepth 100000 in
theorem ct_X7_tell (l : Launch) (D : va_G) (cy : Nat → ClassId) (ad : Nat → Nat) (B : Nat → Prop) (v1 : Int32) (v2 : Int32) (M : Mem) (Q : Int32 → Mem → Prop) (h : wp_X7_tell v1 v2 M Q) : CTi l D cy (wX ad cy) B yX7_tell wsX7_tell rm_X7_tell [.ref (ad 0), .int v1, .int v2] M Q := by
  intro sz
  refine Met.ofW (cc := cX7_tell) (maxL := 5) (ret := some .int) (by decide) rfl ?_
  intro p e s m args below meth c s₁ Bd hml hv
  obtain ⟨hargs, hsz, hP, hK, hD⟩ := hv
  subst hsz
  have hx := Bd.exec
  have hb := Bd.bytes
  have hr := Bd.returns
  have hts := atoms_spec (ws := wsX7_tell) Bd.pre
  have hown : s.vm.findClass RX7 = some m.cls := findClass_of_methodNamed Bd.named
  have hlocks := Bd.notSynchronized
  have hC0 : xC wsX7_tell 0 RX0 TX0 5 := ⟨by decide +kernel, rfl⟩
  have hC7 : xC wsX7_tell 7 RX7 TX7 11 := ⟨by decide +kernel, rfl⟩
  have key : ∀ (P : Nat → Int32 → Int32 → Mem → Prop), (∀ (lab : Nat) (v3 : Int32) (v4 : Int32) (M : Mem), P lab v3 v4 M → ∀ (H : Heap) (locs : List Loc) (ls : Array Slot), xS D (wX ad cy) B s.heap H locs M → lv_has ls 5 (lvl_X7_tell ad v1 v2 lab v3 v4 ) → W p l e (headSpec wsX7_tell rm_X7_tell).room s m args below meth c H locs 0 0 (MQ below (va_Qi (S := Mem) Q (xB D (wX ad cy) B) (xA B s.heap.size)) args s 0 0 (xA B s.heap.size)) (F0 m (pcl_X7_tell lab) ls [])) → ∀ (lab : Nat) (v3 : Int32) (v4 : Int32) (M : Mem), blk_X7_tell v1 v2 Q P lab v3 v4 M → ∀ (H : Heap) (locs : List Loc) (ls : Array Slot), xS D (wX ad cy) B s.heap H locs M → lv_has ls 5 (lvl_X7_tell ad v1 v2 lab v3 v4 ) → W p l e (headSpec wsX7_tell rm_X7_tell).room s m args below meth c H locs 0 0 (MQ below (va_Qi (S := Mem) Q (xB D (wX ad cy) B) (xA B s.heap.size)) args s 0 0 (xA B s.heap.size)) (F0 m (pcl_X7_tell lab) ls []) := by
    intro P hJ lab v3 v4 M h H locs ls S hl
    match lab, h, hl with
    | 0, h, hl =>
      have hl : lv_has ls 5 [(0, .ref (ad 0)), (1, .int v1), (2, .int v2)] := hl
      have h : blk_X7_tell_0 v1 v2 Q P v3 v4 M := h
      unfold blk_X7_tell_0 at h
      refine W.eq (g2 := F0 m 0 ls []) rfl ?_
      refine lv_iload_n hx hb dX7_tell_0 rfl (lv_at hl 2 rfl) ?_
      refine lv_if_lt (tgt := 9) hx hb dX7_tell_1 (by decide) (fun c1 => ?_) (fun c1 => ?_)
      · replace h := h.1 c1
        refine lv_bipush (v := (-2)) hx hb dX7_tell_9 (by decide) ?_
        exact x_iret hx hb hr hlocks S rfl h dX7_tell_11
      · replace h := h.2 c1
        refine lv_iload_n hx hb dX7_tell_4 rfl (lv_at hl 2 rfl) ?_
        refine lv_iconst (v := 2) hx hb dX7_tell_5 (by decide) ?_
        refine lv_icmp_le (tgt := 12) hx hb dX7_tell_6 (by decide) (fun c6 => ?_) (fun c6 => ?_)
        · replace h := h.1 c6
          refine lv_aload_n hx hb dX7_tell_12 rfl (lv_at hl 0 rfl) ?_
          refine lv_iload_n hx hb dX7_tell_13 rfl (lv_at hl 1 rfl) ?_
          refine x_callVi (As := [.int v1]) ⟨hx, hb, hml, hown, hts⟩ hK S (ct_X7_fenceRefusal l D cy ad B _ _ _ h) xo_0 rfl (cwV 1 hts gX7_tell_X7_fenceRefusal rfl rfl rfl (by decide +kernel) ⟨Nat.le_of_ble_eq_true rfl, Nat.le_of_ble_eq_true rfl⟩) rfl hl.1 rfl (Nat.le_of_ble_eq_true rfl) dX7_tell_14 ⟨Nat.zero_le _, Nat.zero_le _⟩ (fun r1 M1 H locs h S => ?_)
          refine lv_istore_n (lv' := [(3, .int r1), (0, .ref (ad 0)), (1, .int v1), (2, .int v2)]) hx hb dX7_tell_17 rfl hl (by decide) rfl (fun ls hl => ?_)
          refine lv_iload_n hx hb dX7_tell_18 rfl (lv_at hl 0 rfl) ?_
          refine lv_if_eq (tgt := 24) hx hb dX7_tell_19 (by decide) (fun c19 => ?_) (fun c19 => ?_)
          · replace h := h.1 c19
            refine lv_iload_n hx hb dX7_tell_24 rfl (lv_at hl 2 rfl) ?_
            refine lv_aload_n hx hb dX7_tell_25 rfl (lv_at hl 1 rfl) ?_
            refine x_callVi (As := []) ⟨hx, hb, hml, hown, hts⟩ hK S (ct_X7_fencesNow l D cy ad B _ _ h) xo_0 rfl (cwV 0 hts gX7_tell_X7_fencesNow rfl rfl rfl (by decide +kernel) ⟨Nat.le_of_ble_eq_true rfl, Nat.le_of_ble_eq_true rfl⟩) rfl hl.1 rfl (Nat.le_of_ble_eq_true rfl) dX7_tell_26 ⟨Nat.zero_le _, Nat.zero_le _⟩ (fun r2 M2 H locs h S => ?_)
            refine x_callSi (As := [.int v1, .int r2]) ⟨hx, hb, hml, hown, hts⟩ hK S (ct_X7_isIn l D cy ad B _ _ _ _ h) (va_cwS 2 hts gX7_tell_X7_isIn rfl rfl rfl (by decide +kernel) ⟨Nat.le_of_ble_eq_true rfl, Nat.le_of_ble_eq_true rfl⟩) rfl hl.1 rfl (Nat.le_of_ble_eq_true rfl) dX7_tell_29 ⟨Nat.zero_le _, Nat.zero_le _⟩ (fun r3 M3 H locs h S => ?_)
            refine lv_istore (lv' := [(4, .int r3), (3, .int r1), (0, .ref (ad 0)), (1, .int v1), (2, .int v2)]) hx hb dX7_tell_32 hl (by decide) rfl (fun ls hl => ?_)
            refine lv_iload_n hx hb dX7_tell_34 rfl (lv_at hl 4 rfl) ?_
            refine lv_iconst (v := 1) hx hb dX7_tell_35 (by decide) ?_
            refine lv_icmp_ne (tgt := 44) hx hb dX7_tell_36 (by decide) (fun c36 => ?_) (fun c36 => ?_)
            · replace h := h.1 c36
              exact hJ _ _ _ _ h _ _ _ S (lv_sub hl [2, 3, 4, 0] rfl)
            · replace h := h.2 c36
              refine lv_iload hx hb dX7_tell_39 (lv_at hl 0 rfl) ?_
              refine lv_if_eq (tgt := 54) hx hb dX7_tell_41 (by decide) (fun c41 => ?_) (fun c41 => ?_)
              · replace h := h.1 c41
                refine lv_bipush (v := (-3)) hx hb dX7_tell_54 (by decide) ?_
                exact x_iret hx hb hr hlocks S rfl h dX7_tell_56
              · replace h := h.2 c41
                exact hJ _ _ _ _ h _ _ _ S (lv_sub hl [2, 3, 4, 0] rfl)
          · replace h := h.2 c19
            refine lv_iload_n hx hb dX7_tell_22 rfl (lv_at hl 0 rfl) ?_
            exact x_iret hx hb hr hlocks S rfl h dX7_tell_23
        · replace h := h.2 c6
          refine lv_bipush (v := (-2)) hx hb dX7_tell_9 (by decide) ?_
          exact x_iret hx hb hr hlocks S rfl h dX7_tell_11
    | 1, h, hl =>
      have hl : lv_has ls 5 [(0, .ref (ad 0)), (1, .int v1), (2, .int v2), (4, .int v4)] := hl
      have h : blk_X7_tell_1 v1 v2 Q P v3 v4 M := h
      unfold blk_X7_tell_1 at h
      refine W.eq (g2 := F0 m 44 ls []) rfl ?_
      refine lv_iload_n hx hb dX7_tell_44 rfl (lv_at hl 2 rfl) ?_
      refine lv_iconst (v := 2) hx hb dX7_tell_45 (by decide) ?_
      refine lv_icmp_ne (tgt := 57) hx hb dX7_tell_46 (by decide) (fun c46 => ?_) (fun c46 => ?_)
      · replace h := h.1 c46
        exact hJ _ _ _ _ h _ _ _ S (lv_sub hl [0, 1, 2] rfl)
      · replace h := h.2 c46
        refine lv_iload hx hb dX7_tell_49 (lv_at hl 3 rfl) ?_
        refine lv_if_eq (tgt := 57) hx hb dX7_tell_51 (by decide) (fun c51 => ?_) (fun c51 => ?_)
        · replace h := h.1 c51
          exact hJ _ _ _ _ h _ _ _ S (lv_sub hl [0, 1, 2] rfl)
        · replace h := h.2 c51
          refine lv_bipush (v := (-3)) hx hb dX7_tell_54 (by decide) ?_
          exact x_iret hx hb hr hlocks S rfl h dX7_tell_56
    | 2, h, hl =>
      have hl : lv_has ls 5 [(0, .ref (ad 0)), (1, .int v1), (2, .int v2)] := hl
      have h : blk_X7_tell_2 v1 v2 Q P v3 v4 M := h
      unfold blk_X7_tell_2 at h
      refine W.eq (g2 := F0 m 57 ls []) rfl ?_
      refine lv_aload_n hx hb dX7_tell_57 rfl (lv_at hl 0 rfl) ?_
      refine x_getR hx hb hts (hC7) hown hK S 4 (by decide) xf_0_4 (index := 39) (hts _ (List.mem_of_getElem? (i := 1) rfl)) dX7_tell_58 ?_
      refine lv_aload_n hx hb dX7_tell_61 rfl (lv_at hl 0 rfl) ?_
      refine x_getR hx hb hts (hC7) hown hK S 3 (by decide) xf_0_3 (index := 32) (hts _ (List.mem_of_getElem? (i := 2) rfl)) dX7_tell_62 ?_
      refine lv_iload_n hx hb dX7_tell_65 rfl (lv_at hl 1 rfl) ?_
      refine lv_iload_n hx hb dX7_tell_66 rfl (lv_at hl 2 rfl) ?_
      refine x_callVv (As := [.ref (ad 22), .int v1, .int v2]) ⟨hx, hb, hml, hown, hts⟩ hK S (ct_X0_askAnew l D cy ad B _ _ _ _ h) xo_25 rfl (cwV 3 hts gX7_tell_X0_askAnew rfl rfl rfl (by decide +kernel) ⟨Nat.le_of_ble_eq_true rfl, Nat.le_of_ble_eq_true rfl⟩) rfl hl.1 rfl (Nat.le_of_ble_eq_true rfl) dX7_tell_67 ⟨Nat.zero_le _, Nat.zero_le _⟩ (fun M4 H locs h S => ?_)
      refine lv_aload_n hx hb dX7_tell_70 rfl (lv_at hl 0 rfl) ?_
      refine x_getR hx hb hts (hC7) hown hK S 6 (by decide) xf_0_6 (index := 53) (hts _ (List.mem_of_getElem? (i := 3) rfl)) dX7_tell_71 ?_
      refine x_callVv (As := []) ⟨hx, hb, hml, hown, hts⟩ hK S (ct_X3_forget l D cy ad B _ _ h) xo_31 rfl (cwV 0 hts gX7_tell_X3_forget rfl rfl rfl (by decide +kernel) ⟨Nat.le_of_ble_eq_true rfl, Nat.le_of_ble_eq_true rfl⟩) rfl hl.1 rfl (Nat.le_of_ble_eq_true rfl) dX7_tell_74 ⟨Nat.zero_le _, Nat.zero_le _⟩ (fun M5 H locs h S => ?_)
      refine lv_aload_n hx hb dX7_tell_77 rfl (lv_at hl 0 rfl) ?_
      refine x_getR hx hb hts (hC7) hown hK S 4 (by decide) xf_0_4 (index := 39) (hts _ (List.mem_of_getElem? (i := 1) rfl)) dX7_tell_78 ?_
      refine x_getI hx hb hts (hC0) hown hK S 2 (by decide) xf_25_2 (index := 169) (hts _ (List.mem_of_getElem? (i := 4) rfl)) dX7_tell_81 ?_
      exact x_iret hx hb hr hlocks S rfl h dX7_tell_84
    | _ + 3, h, hl => exact h.elim
  have hl := lv_entry ([.ref (ad 0), .int v1, .int v2]) (n := 5) (Nat.le_of_ble_eq_true rfl)
  subst hargs
  rw [lg_entry_eq]
  generalize (lg_sl ([.ref (ad 0), .int v1, .int v2]) ++ List.replicate (5 - (lg_sl ([.ref (ad 0), .int v1, .int v2])).length) Slot.unset).toArray = ls at hl ⊢
  exact h _ (key _ (fun _ _ _ _ h => h)) s.heap [] ls ⟨hP, hD, va_S.rf⟩ hl
/-! X7_weigh -/
def wp_X7_weigh (v1 : Int32) (v2 : Int32) (M : Mem) (Q : Int32 → Mem → Prop) : Prop :=
  ((v2 < (-1000) → Q (-2) M) ∧ (¬ v2 < (-1000) → ((v2 ≤ 1000 → wp_X7_fenceRefusal v1 M (fun r1 M1 => ((r1 = 0 → (vp_in v1 28 ∧ (vp_in v1 28 ∧ Q (M1.1 33 v1.toNatClampNeg) (upI M1 33 v1.toNatClampNeg v2)))) ∧ (¬ r1 = 0 → Q r1 M1)))) ∧ (¬ v2 ≤ 1000 → Q (-2) M))))
theorem wp_X7_weigh_mono {v1 : Int32} {v2 : Int32} {M : Mem} {Q Q' : Int32 → Mem → Prop} (hQ : ∀ (r : Int32) (M : Mem), Q r M → Q' r M) (h : wp_X7_weigh v1 v2 M Q) : wp_X7_weigh v1 v2 M Q' := by
  unfold wp_X7_weigh at h ⊢
  exact ⟨fun c => let h := h.1 c; hQ _ _ h, fun c => let h := h.2 c; ⟨fun c => let h := h.1 c; wp_X7_fenceRefusal_mono (fun r1 M1 h => ⟨fun c => let h := h.1 c; ⟨h.1, let h := h.2; ⟨h.1, let h := h.2; hQ _ _ h⟩⟩, fun c => let h := h.2 c; hQ _ _ h⟩) h, fun c => let h := h.2 c; hQ _ _ h⟩⟩
abbrev rm_X7_weigh : Jvm.Room := { frames := 3, cells := 0, slots := 0, locals := 55 }
set_option maxHeartbeats 4000000 in
set_option maxRecDepth 100000 in
theorem ct_X7_weigh (l : Launch) (D : va_G) (cy : Nat → ClassId) (ad : Nat → Nat) (B : Nat → Prop) (v1 : Int32) (v2 : Int32) (M : Mem) (Q : Int32 → Mem → Prop) (h : wp_X7_weigh v1 v2 M Q) : CTi l D cy (wX ad cy) B yX7_weigh wsX7_weigh rm_X7_weigh [.ref (ad 0), .int v1, .int v2] M Q := by
  intro sz
  refine Met.ofW (cc := cX7_weigh) (maxL := 5) (ret := some .int) (by decide) rfl ?_
  intro p e s m args below meth c s₁ Bd hml hv
  obtain ⟨hargs, hsz, hP, hK, hD⟩ := hv
  subst hsz
  have hx := Bd.exec
  have hb := Bd.bytes
  have hr := Bd.returns
  have hts := atoms_spec (ws := wsX7_weigh) Bd.pre
  have hown : s.vm.findClass RX7 = some m.cls := findClass_of_methodNamed Bd.named
  have hlocks := Bd.notSynchronized
  have hC7 : xC wsX7_weigh 7 RX7 TX7 11 := ⟨by decide +kernel, rfl⟩
  have hl := lv_entry ([.ref (ad 0), .int v1, .int v2]) (n := 5) (Nat.le_of_ble_eq_true rfl)
  subst hargs
  rw [lg_entry_eq]
  generalize (lg_sl ([.ref (ad 0), .int v1, .int v2]) ++ List.replicate (5 - (lg_sl ([.ref (ad 0), .int v1, .int v2])).length) Slot.unset).toArray = ls at hl ⊢
  have hl : lv_has ls 5 [(0, .ref (ad 0)), (1, .int v1), (2, .int v2)] := hl
  have S : xS D (wX ad cy) B s.heap s.heap [] M := ⟨hP, hD, va_S.rf⟩
  unfold wp_X7_weigh at h
  refine lv_iload_n hx hb dX7_weigh_0 rfl (lv_at hl 2 rfl) ?_
  refine lv_sipush (v := (-1000)) hx hb dX7_weigh_1 (by decide) ?_
  refine lv_icmp_lt (tgt := 14) hx hb dX7_weigh_4 (by decide) (fun c4 => ?_) (fun c4 => ?_)
  · replace h := h.1 c4
    refine lv_bipush (v := (-2)) hx hb dX7_weigh_14 (by decide) ?_
    exact x_iret hx hb hr hlocks S rfl h dX7_weigh_16
  · replace h := h.2 c4
    refine lv_iload_n hx hb dX7_weigh_7 rfl (lv_at hl 2 rfl) ?_
    refine lv_sipush (v := 1000) hx hb dX7_weigh_8 (by decide) ?_
    refine lv_icmp_le (tgt := 17) hx hb dX7_weigh_11 (by decide) (fun c11 => ?_) (fun c11 => ?_)
    · replace h := h.1 c11
      refine lv_aload_n hx hb dX7_weigh_17 rfl (lv_at hl 0 rfl) ?_
      refine lv_iload_n hx hb dX7_weigh_18 rfl (lv_at hl 1 rfl) ?_
      refine x_callVi (As := [.int v1]) ⟨hx, hb, hml, hown, hts⟩ hK S (ct_X7_fenceRefusal l D cy ad B _ _ _ h) xo_0 rfl (cwV 1 hts gX7_weigh_X7_fenceRefusal rfl rfl rfl (by decide +kernel) ⟨Nat.le_of_ble_eq_true rfl, Nat.le_of_ble_eq_true rfl⟩) rfl hl.1 rfl (Nat.le_of_ble_eq_true rfl) dX7_weigh_19 ⟨Nat.zero_le _, Nat.zero_le _⟩ (fun r1 M1 H locs h S => ?_)
      refine lv_istore_n (lv' := [(3, .int r1), (0, .ref (ad 0)), (1, .int v1), (2, .int v2)]) hx hb dX7_weigh_22 rfl hl (by decide) rfl (fun ls hl => ?_)
      refine lv_iload_n hx hb dX7_weigh_23 rfl (lv_at hl 0 rfl) ?_
      refine lv_if_eq (tgt := 29) hx hb dX7_weigh_24 (by decide) (fun c24 => ?_) (fun c24 => ?_)
      · replace h := h.1 c24
        refine lv_aload_n hx hb dX7_weigh_29 rfl (lv_at hl 1 rfl) ?_
        refine x_getR hx hb hts (hC7) hown hK S 7 (by decide) xf_0_7 (index := 57) (hts _ (List.mem_of_getElem? (i := 1) rfl)) dX7_weigh_30 ?_
        refine lv_iload_n hx hb dX7_weigh_33 rfl (lv_at hl 2 rfl) ?_
        refine x_iald hx hb hK S xa_33 h.1 dX7_weigh_34 ?_
        replace h := h.2
        refine lv_istore (lv' := [(4, .int (M1.1 33 v1.toNatClampNeg)), (3, .int r1), (0, .ref (ad 0)), (1, .int v1), (2, .int v2)]) hx hb dX7_weigh_35 hl (by decide) rfl (fun ls hl => ?_)
        refine lv_aload_n hx hb dX7_weigh_37 rfl (lv_at hl 2 rfl) ?_
        refine x_getR hx hb hts (hC7) hown hK S 7 (by decide) xf_0_7 (index := 57) (hts _ (List.mem_of_getElem? (i := 1) rfl)) dX7_weigh_38 ?_
        refine lv_iload_n hx hb dX7_weigh_41 rfl (lv_at hl 3 rfl) ?_
        refine lv_iload_n hx hb dX7_weigh_42 rfl (lv_at hl 4 rfl) ?_
        refine x_iast hx hb hK S xa_33 h.1 dX7_weigh_43 (fun H locs S => ?_)
        replace h := h.2
        refine lv_iload hx hb dX7_weigh_44 (lv_at hl 0 rfl) ?_
        exact x_iret hx hb hr hlocks S rfl h dX7_weigh_46
      · replace h := h.2 c24
        refine lv_iload_n hx hb dX7_weigh_27 rfl (lv_at hl 0 rfl) ?_
        exact x_iret hx hb hr hlocks S rfl h dX7_weigh_28
    · replace h := h.2 c11
      refine lv_bipush (v := (-2)) hx hb dX7_weigh_14 (by decide) ?_
      exact x_iret hx hb hr hlocks S rfl h dX7_weigh_16
/-! X7_cutting -/
def wp_X7_cutting (M : Mem) (Q : Int64 → Mem → Prop) : Prop :=
  (((M.1 0 8) = 0 → Q (-3 : Int64) M) ∧ (¬ (M.1 0 8) = 0 → wp_X7_fencesNow M (fun r1 M1 => Q r1.toInt64 M1)))
theorem wp_X7_cutting_mono {M : Mem} {Q Q' : Int64 → Mem → Prop} (hQ : ∀ (r : Int64) (M : Mem), Q r M → Q' r M) (h : wp_X7_cutting M Q) : wp_X7_cutting M Q' := by
  unfold wp_X7_cutting at h ⊢
  exact ⟨fun c => let h := h.1 c; hQ _ _ h, fun c => let h := h.2 c; wp_X7_fencesNow_mono (fun r1 M1 h => hQ _ _ h) h⟩
abbrev rm_X7_cutting : Jvm.Room := { frames := 2, cells := 0, slots := 0, locals := 32 }
set_option maxHeartbeats 4000000 in
set_option maxRecDepth 100000 in
theorem ct_X7_cutting (l : Launch) (D : va_G) (cy : Nat → ClassId) (ad : Nat → Nat) (B : Nat → Prop) (M : Mem) (Q : Int64 → Mem → Prop) (h : wp_X7_cutting M Q) : CTl l D cy (wX ad cy) B yX7_cutting wsX7_cutting rm_X7_cutting [.ref (ad 0)] M Q := by
  intro sz
  refine Met.ofW (cc := cX7_cutting) (maxL := 1) (ret := some .long) (by decide) rfl ?_
  intro p e s m args below meth c s₁ Bd hml hv
  obtain ⟨hargs, hsz, hP, hK, hD⟩ := hv
  subst hsz
  have hx := Bd.exec
  have hb := Bd.bytes
  have hr := Bd.returns
  have hts := atoms_spec (ws := wsX7_cutting) Bd.pre
  have hown : s.vm.findClass RX7 = some m.cls := findClass_of_methodNamed Bd.named
  have hlocks := Bd.notSynchronized
  have hC7 : xC wsX7_cutting 7 RX7 TX7 11 := ⟨by decide +kernel, rfl⟩
  have hl := lv_entry ([.ref (ad 0)]) (n := 1) (Nat.le_of_ble_eq_true rfl)
  subst hargs
  rw [lg_entry_eq]
  generalize (lg_sl ([.ref (ad 0)]) ++ List.replicate (1 - (lg_sl ([.ref (ad 0)])).length) Slot.unset).toArray = ls at hl ⊢
  have hl : lv_has ls 1 [(0, .ref (ad 0))] := hl
  have S : xS D (wX ad cy) B s.heap s.heap [] M := ⟨hP, hD, va_S.rf⟩
  unfold wp_X7_cutting at h
  refine lv_aload_n hx hb dX7_cutting_0 rfl (lv_at hl 0 rfl) ?_
  refine x_getI hx hb hts (hC7) hown hK S 8 (by decide) xf_0_8 (index := 126) (hts _ (List.mem_of_getElem? (i := 1) rfl)) dX7_cutting_1 ?_
  refine lv_if_eq (tgt := 15) hx hb dX7_cutting_4 (by decide) (fun c4 => ?_) (fun c4 => ?_)
  · replace h := h.1 c4
    refine lv_ldc2 (v := (-3)) hx hb hown (hts _ (List.mem_of_getElem? (i := 2) rfl)) dX7_cutting_15 ?_
    exact x_lret hx hb hr hlocks S h dX7_cutting_18
  · replace h := h.2 c4
    refine lv_aload_n hx hb dX7_cutting_7 rfl (lv_at hl 0 rfl) ?_
    refine x_callVi (As := []) ⟨hx, hb, hml, hown, hts⟩ hK S (ct_X7_fencesNow l D cy ad B _ _ h) xo_0 rfl (cwV 0 hts gX7_cutting_X7_fencesNow rfl rfl rfl (by decide +kernel) ⟨Nat.le_of_ble_eq_true rfl, Nat.le_of_ble_eq_true rfl⟩) rfl hl.1 rfl (Nat.le_of_ble_eq_true rfl) dX7_cutting_8 ⟨Nat.zero_le _, Nat.zero_le _⟩ (fun r1 M1 H locs h S => ?_)
    refine lv_i2l (v := r1.toInt64) hx hb dX7_cutting_11 rfl ?_
    refine lv_goto (tgt := 18) hx hb dX7_cutting_12 (by decide) ?_
    exact x_lret hx hb hr hlocks S h dX7_cutting_18
/-! X7_has -/
def wp_X7_has (v1 : Int32) (M : Mem) (Q : Int32 → Mem → Prop) : Prop :=
  wp_X7_fenceRefusal v1 M (fun r1 M1 => ((r1 = 0 → wp_X7_fencesNow M1 (fun r2 M2 => wp_X7_isIn v1 r2 M2 (fun r3 M3 => ((r3 = 0 → Q 0 M3) ∧ (¬ r3 = 0 → Q 1 M3))))) ∧ (¬ r1 = 0 → Q r1 M1)))
theorem wp_X7_has_mono {v1 : Int32} {M : Mem} {Q Q' : Int32 → Mem → Prop} (hQ : ∀ (r : Int32) (M : Mem), Q r M → Q' r M) (h : wp_X7_has v1 M Q) : wp_X7_has v1 M Q' := by
  unfold wp_X7_has at h ⊢
  exact wp_X7_fenceRefusal_mono (fun r1 M1 h => ⟨fun c => let h := h.1 c; wp_X7_fencesNow_mono (fun r2 M2 h => wp_X7_isIn_mono (fun r3 M3 h => ⟨fun c => let h := h.1 c; hQ _ _ h, fun c => let h := h.2 c; hQ _ _ h⟩) h) h, fun c => let h := h.2 c; hQ _ _ h⟩) h
abbrev rm_X7_has : Jvm.Room := { frames := 3, cells := 0, slots := 0, locals := 55 }
set_option maxHeartbeats 4000000 in
set_option maxRecDepth 100000 in
theorem ct_X7_has (l : Launch) (D : va_G) (cy : Nat → ClassId) (ad : Nat → Nat) (B : Nat → Prop) (v1 : Int32) (M : Mem) (Q : Int32 → Mem → Prop) (h : wp_X7_has v1 M Q) : CTi l D cy (wX ad cy) B yX7_has wsX7_has rm_X7_has [.ref (ad 0), .int v1] M Q := by
  intro sz
  refine Met.ofW (cc := cX7_has) (maxL := 3) (ret := some .int) (by decide) rfl ?_
  intro p e s m args below meth c s₁ Bd hml hv
  obtain ⟨hargs, hsz, hP, hK, hD⟩ := hv
  subst hsz
  have hx := Bd.exec
  have hb := Bd.bytes
  have hr := Bd.returns
  have hts := atoms_spec (ws := wsX7_has) Bd.pre
  have hown : s.vm.findClass RX7 = some m.cls := findClass_of_methodNamed Bd.named
  have hlocks := Bd.notSynchronized
  have hl := lv_entry ([.ref (ad 0), .int v1]) (n := 3) (Nat.le_of_ble_eq_true rfl)
  subst hargs
  rw [lg_entry_eq]
  generalize (lg_sl ([.ref (ad 0), .int v1]) ++ List.replicate (3 - (lg_sl ([.ref (ad 0), .int v1])).length) Slot.unset).toArray = ls at hl ⊢
  have hl : lv_has ls 3 [(0, .ref (ad 0)), (1, .int v1)] := hl
  have S : xS D (wX ad cy) B s.heap s.heap [] M := ⟨hP, hD, va_S.rf⟩
  unfold wp_X7_has at h
  refine lv_aload_n hx hb dX7_has_0 rfl (lv_at hl 0 rfl) ?_
  refine lv_iload_n hx hb dX7_has_1 rfl (lv_at hl 1 rfl) ?_
  refine x_callVi (As := [.int v1]) ⟨hx, hb, hml, hown, hts⟩ hK S (ct_X7_fenceRefusal l D cy ad B _ _ _ h) xo_0 rfl (cwV 1 hts gX7_has_X7_fenceRefusal rfl rfl rfl (by decide +kernel) ⟨Nat.le_of_ble_eq_true rfl, Nat.le_of_ble_eq_true rfl⟩) rfl hl.1 rfl (Nat.le_of_ble_eq_true rfl) dX7_has_2 ⟨Nat.zero_le _, Nat.zero_le _⟩ (fun r1 M1 H locs h S => ?_)
  refine lv_istore_n (lv' := [(2, .int r1), (0, .ref (ad 0)), (1, .int v1)]) hx hb dX7_has_5 rfl hl (by decide) rfl (fun ls hl => ?_)
  refine lv_iload_n hx hb dX7_has_6 rfl (lv_at hl 0 rfl) ?_
  refine lv_if_eq (tgt := 12) hx hb dX7_has_7 (by decide) (fun c7 => ?_) (fun c7 => ?_)
  · replace h := h.1 c7
    refine lv_iload_n hx hb dX7_has_12 rfl (lv_at hl 2 rfl) ?_
    refine lv_aload_n hx hb dX7_has_13 rfl (lv_at hl 1 rfl) ?_
    refine x_callVi (As := []) ⟨hx, hb, hml, hown, hts⟩ hK S (ct_X7_fencesNow l D cy ad B _ _ h) xo_0 rfl (cwV 0 hts gX7_has_X7_fencesNow rfl rfl rfl (by decide +kernel) ⟨Nat.le_of_ble_eq_true rfl, Nat.le_of_ble_eq_true rfl⟩) rfl hl.1 rfl (Nat.le_of_ble_eq_true rfl) dX7_has_14 ⟨Nat.zero_le _, Nat.zero_le _⟩ (fun r2 M2 H locs h S => ?_)
    refine x_callSi (As := [.int v1, .int r2]) ⟨hx, hb, hml, hown, hts⟩ hK S (ct_X7_isIn l D cy ad B _ _ _ _ h) (va_cwS 2 hts gX7_has_X7_isIn rfl rfl rfl (by decide +kernel) ⟨Nat.le_of_ble_eq_true rfl, Nat.le_of_ble_eq_true rfl⟩) rfl hl.1 rfl (Nat.le_of_ble_eq_true rfl) dX7_has_17 ⟨Nat.zero_le _, Nat.zero_le _⟩ (fun r3 M3 H locs h S => ?_)
    refine lv_if_eq (tgt := 27) hx hb dX7_has_20 (by decide) (fun c20 => ?_) (fun c20 => ?_)
    · replace h := h.1 c20
      refine lv_iconst (v := 0) hx hb dX7_has_27 (by decide) ?_
      exact x_iret hx hb hr hlocks S rfl h dX7_has_28
    · replace h := h.2 c20
      refine lv_iconst (v := 1) hx hb dX7_has_23 (by decide) ?_
      refine lv_goto (tgt := 28) hx hb dX7_has_24 (by decide) ?_
      exact x_iret hx hb hr hlocks S rfl h dX7_has_28
  · replace h := h.2 c7
    refine lv_iload_n hx hb dX7_has_10 rfl (lv_at hl 0 rfl) ?_
    exact x_iret hx hb hr hlocks S rfl h dX7_has_11
/-! X2_thirdsOf -/
def blk_X2_thirdsOf_0 (v1 : Int32) (Q : Int32 → Mem → Prop) (P : Nat → Int32 → Int32 → Int32 → Mem → Prop) (v2 : Int32) (v3 : Int32) (v4 : Int32) (M : Mem) : Prop :=
  P 1 0 0 0 M
theorem blk_X2_thirdsOf_0_mono {v1 : Int32} {Q Q' : Int32 → Mem → Prop} {P P' : Nat → Int32 → Int32 → Int32 → Mem → Prop} (hQ : ∀ (r : Int32) (M : Mem), Q r M → Q' r M) (hP : ∀ (lab : Nat) (v2 : Int32) (v3 : Int32) (v4 : Int32) (M : Mem), P lab v2 v3 v4 M → P' lab v2 v3 v4 M) (v2 : Int32) (v3 : Int32) (v4 : Int32) (M : Mem) (h : blk_X2_thirdsOf_0 v1 Q P v2 v3 v4 M) : blk_X2_thirdsOf_0 v1 Q' P' v2 v3 v4 M := by
  unfold blk_X2_thirdsOf_0 at h ⊢
  exact hP _ _ _ _ _ h
def blk_X2_thirdsOf_1 (v1 : Int32) (Q : Int32 → Mem → Prop) (P : Nat → Int32 → Int32 → Int32 → Mem → Prop) (v2 : Int32) (v3 : Int32) (v4 : Int32) (M : Mem) : Prop :=
  (((M.1 13 4) ≤ v3 → Q v2 M) ∧ (¬ (M.1 13 4) ≤ v3 → (vp_in v3 28 ∧ P 2 v2 v3 ((M.1 18 v3.toNatClampNeg) + 1) M)))
theorem blk_X2_thirdsOf_1_mono {v1 : Int32} {Q Q' : Int32 → Mem → Prop} {P P' : Nat → Int32 → Int32 → Int32 → Mem → Prop} (hQ : ∀ (r : Int32) (M : Mem), Q r M → Q' r M) (hP : ∀ (lab : Nat) (v2 : Int32) (v3 : Int32) (v4 : Int32) (M : Mem), P lab v2 v3 v4 M → P' lab v2 v3 v4 M) (v2 : Int32) (v3 : Int32) (v4 : Int32) (M : Mem) (h : blk_X2_thirdsOf_1 v1 Q P v2 v3 v4 M) : blk_X2_thirdsOf_1 v1 Q' P' v2 v3 v4 M := by
  unfold blk_X2_thirdsOf_1 at h ⊢
  exact ⟨fun c => let h := h.1 c; hQ _ _ h, fun c => let h := h.2 c; ⟨h.1, let h := h.2; hP _ _ _ _ _ h⟩⟩
def blk_X2_thirdsOf_2 (v1 : Int32) (Q : Int32 → Mem → Prop) (P : Nat → Int32 → Int32 → Int32 → Mem → Prop) (v2 : Int32) (v3 : Int32) (v4 : Int32) (M : Mem) : Prop :=
  (((M.1 14 2) ≤ v4 → P 1 v2 (v3 + 1) 0 M) ∧ (¬ (M.1 14 2) ≤ v4 → wp_X2_isThird v3 v4 v1 M (fun r1 M1 => ((r1 = 0 → P 3 v2 v3 v4 M1) ∧ (¬ r1 = 0 → P 3 (v2 + 1) v3 v4 M1)))))
theorem blk_X2_thirdsOf_2_mono {v1 : Int32} {Q Q' : Int32 → Mem → Prop} {P P' : Nat → Int32 → Int32 → Int32 → Mem → Prop} (hQ : ∀ (r : Int32) (M : Mem), Q r M → Q' r M) (hP : ∀ (lab : Nat) (v2 : Int32) (v3 : Int32) (v4 : Int32) (M : Mem), P lab v2 v3 v4 M → P' lab v2 v3 v4 M) (v2 : Int32) (v3 : Int32) (v4 : Int32) (M : Mem) (h : blk_X2_thirdsOf_2 v1 Q P v2 v3 v4 M) : blk_X2_thirdsOf_2 v1 Q' P' v2 v3 v4 M := by
  unfold blk_X2_thirdsOf_2 at h ⊢
  exact ⟨fun c => let h := h.1 c; hP _ _ _ _ _ h, fun c => let h := h.2 c; wp_X2_isThird_mono (fun r1 M1 h => ⟨fun c => let h := h.1 c; hP _ _ _ _ _ h, fun c => let h := h.2 c; hP _ _ _ _ _ h⟩) h⟩
def blk_X2_thirdsOf_3 (v1 : Int32) (Q : Int32 → Mem → Prop) (P : Nat → Int32 → Int32 → Int32 → Mem → Prop) (v2 : Int32) (v3 : Int32) (v4 : Int32) (M : Mem) : Prop :=
  P 2 v2 v3 (v4 + 1) M
theorem blk_X2_thirdsOf_3_mono {v1 : Int32} {Q Q' : Int32 → Mem → Prop} {P P' : Nat → Int32 → Int32 → Int32 → Mem → Prop} (hQ : ∀ (r : Int32) (M : Mem), Q r M → Q' r M) (hP : ∀ (lab : Nat) (v2 : Int32) (v3 : Int32) (v4 : Int32) (M : Mem), P lab v2 v3 v4 M → P' lab v2 v3 v4 M) (v2 : Int32) (v3 : Int32) (v4 : Int32) (M : Mem) (h : blk_X2_thirdsOf_3 v1 Q P v2 v3 v4 M) : blk_X2_thirdsOf_3 v1 Q' P' v2 v3 v4 M := by
  unfold blk_X2_thirdsOf_3 at h ⊢
  exact hP _ _ _ _ _ h
def blk_X2_thirdsOf (v1 : Int32) (Q : Int32 → Mem → Prop) (P : Nat → Int32 → Int32 → Int32 → Mem → Prop) : Nat → Int32 → Int32 → Int32 → Mem → Prop := fun lab v2 v3 v4 M => match lab with
  | 0 => blk_X2_thirdsOf_0 v1 Q P v2 v3 v4 M
  | 1 => blk_X2_thirdsOf_1 v1 Q P v2 v3 v4 M
  | 2 => blk_X2_thirdsOf_2 v1 Q P v2 v3 v4 M
  | 3 => blk_X2_thirdsOf_3 v1 Q P v2 v3 v4 M
  | _ => False
theorem blk_X2_thirdsOf_mono {v1 : Int32} {Q Q' : Int32 → Mem → Prop} {P P' : Nat → Int32 → Int32 → Int32 → Mem → Prop} (hQ : ∀ (r : Int32) (M : Mem), Q r M → Q' r M) (hP : ∀ (lab : Nat) (v2 : Int32) (v3 : Int32) (v4 : Int32) (M : Mem), P lab v2 v3 v4 M → P' lab v2 v3 v4 M) : ∀ (lab : Nat) (v2 : Int32) (v3 : Int32) (v4 : Int32) (M : Mem), blk_X2_thirdsOf v1 Q P lab v2 v3 v4 M → blk_X2_thirdsOf v1 Q' P' lab v2 v3 v4 M := fun lab v2 v3 v4 M h => match lab, h with
  | 0, h => blk_X2_thirdsOf_0_mono (v1 := v1) hQ hP v2 v3 v4 M h
  | 1, h => blk_X2_thirdsOf_1_mono (v1 := v1) hQ hP v2 v3 v4 M h
  | 2, h => blk_X2_thirdsOf_2_mono (v1 := v1) hQ hP v2 v3 v4 M h
  | 3, h => blk_X2_thirdsOf_3_mono (v1 := v1) hQ hP v2 v3 v4 M h
  | _ + 4, h => False.elim h
def at_X2_thirdsOf (v1 : Int32) (Q : Int32 → Mem → Prop) : Nat → Int32 → Int32 → Int32 → Mem → Prop := fun lab v2 v3 v4 M => ∀ P : Nat → Int32 → Int32 → Int32 → Mem → Prop, (∀ (lab : Nat) (v2 : Int32) (v3 : Int32) (v4 : Int32) (M : Mem), blk_X2_thirdsOf v1 Q P lab v2 v3 v4 M → P lab v2 v3 v4 M) → P lab v2 v3 v4 M
theorem at_X2_thirdsOf_fold {v1 : Int32} {Q : Int32 → Mem → Prop} {lab : Nat} {v2 : Int32} {v3 : Int32} {v4 : Int32} {M : Mem} (h : blk_X2_thirdsOf v1 Q (at_X2_thirdsOf v1 Q) lab v2 v3 v4 M) : at_X2_thirdsOf v1 Q lab v2 v3 v4 M := fun P hP => hP _ _ _ _ _ (blk_X2_thirdsOf_mono (fun _ _ h => h) (fun _ _ _ _ _ h => h P hP) _ _ _ _ _ h)
theorem at_X2_thirdsOf_mono {v1 : Int32} {Q Q' : Int32 → Mem → Prop} (hQ : ∀ (r : Int32) (M : Mem), Q r M → Q' r M) {lab : Nat} {v2 : Int32} {v3 : Int32} {v4 : Int32} {M : Mem} (h : at_X2_thirdsOf v1 Q lab v2 v3 v4 M) : at_X2_thirdsOf v1 Q' lab v2 v3 v4 M := fun P hP => h P (fun lab v2 v3 v4 M hb => hP _ _ _ _ _ (blk_X2_thirdsOf_mono hQ (fun _ _ _ _ _ h => h) _ _ _ _ _ hb))
def wp_X2_thirdsOf (v1 : Int32) (M : Mem) (Q : Int32 → Mem → Prop) : Prop := at_X2_thirdsOf v1 Q 0 0 0 0 M
theorem wp_X2_thirdsOf_mono {v1 : Int32} {M : Mem} {Q Q' : Int32 → Mem → Prop} (hQ : ∀ (r : Int32) (M : Mem), Q r M → Q' r M) (h : wp_X2_thirdsOf v1 M Q) : wp_X2_thirdsOf v1 M Q' := at_X2_thirdsOf_mono hQ h
def pcl_X2_thirdsOf : Nat → Nat := fun lab => match lab with
  | 0 => 0
  | 1 => 4
  | 2 => 22
  | 3 => 48
  | _ => 0
def lvl_X2_thirdsOf (ad : Nat → Nat) (v1 : Int32) : Nat → Int32 → Int32 → Int32 → List (Nat × Value) := fun lab v2 v3 v4 => match lab with
  | 0 => [(0, .ref (ad 13)), (1, .int v1)]
  | 1 => [(0, .ref (ad 13)), (1, .int v1), (2, .int v2), (3, .int v3)]
  | 2 => [(0, .ref (ad 13)), (1, .int v1), (2, .int v2), (3, .int v3), (4, .int v4)]
  | 3 => [(0, .ref (ad 13)), (1, .int v1), (2, .int v2), (3, .int v3), (4, .int v4)]
  | _ => []
abbrev rm_X2_thirdsOf : Jvm.Room := { frames := 2, cells := 0, slots := 0, locals := 40 }
set_option maxHeartbeats 4000000 in
set_option maxRecDepth 100000 in
theorem ct_X2_thirdsOf (l : Launch) (D : va_G) (cy : Nat → ClassId) (ad : Nat → Nat) (B : Nat → Prop) (v1 : Int32) (M : Mem) (Q : Int32 → Mem → Prop) (h : wp_X2_thirdsOf v1 M Q) : CTi l D cy (wX ad cy) B yX2_thirdsOf wsX2_thirdsOf rm_X2_thirdsOf [.ref (ad 13), .int v1] M Q := by
  intro sz
  refine Met.ofW (cc := cX2_thirdsOf) (maxL := 5) (ret := some .int) (by decide) rfl ?_
  intro p e s m args below meth c s₁ Bd hml hv
  obtain ⟨hargs, hsz, hP, hK, hD⟩ := hv
  subst hsz
  have hx := Bd.exec
  have hb := Bd.bytes
  have hr := Bd.returns
  have hts := atoms_spec (ws := wsX2_thirdsOf) Bd.pre
  have hown : s.vm.findClass RX2 = some m.cls := findClass_of_methodNamed Bd.named
  have hlocks := Bd.notSynchronized
  have hC2 : xC wsX2_thirdsOf 2 RX2 TX2 8 := ⟨by decide +kernel, rfl⟩
  have hC4 : xC wsX2_thirdsOf 4 RX4 TX4 3 := ⟨by decide +kernel, rfl⟩
  have key : ∀ (P : Nat → Int32 → Int32 → Int32 → Mem → Prop), (∀ (lab : Nat) (v2 : Int32) (v3 : Int32) (v4 : Int32) (M : Mem), P lab v2 v3 v4 M → ∀ (H : Heap) (locs : List Loc) (ls : Array Slot), xS D (wX ad cy) B s.heap H locs M → lv_has ls 5 (lvl_X2_thirdsOf ad v1 lab v2 v3 v4 ) → W p l e (headSpec wsX2_thirdsOf rm_X2_thirdsOf).room s m args below meth c H locs 0 0 (MQ below (va_Qi (S := Mem) Q (xB D (wX ad cy) B) (xA B s.heap.size)) args s 0 0 (xA B s.heap.size)) (F0 m (pcl_X2_thirdsOf lab) ls [])) → ∀ (lab : Nat) (v2 : Int32) (v3 : Int32) (v4 : Int32) (M : Mem), blk_X2_thirdsOf v1 Q P lab v2 v3 v4 M → ∀ (H : Heap) (locs : List Loc) (ls : Array Slot), xS D (wX ad cy) B s.heap H locs M → lv_has ls 5 (lvl_X2_thirdsOf ad v1 lab v2 v3 v4 ) → W p l e (headSpec wsX2_thirdsOf rm_X2_thirdsOf).room s m args below meth c H locs 0 0 (MQ below (va_Qi (S := Mem) Q (xB D (wX ad cy) B) (xA B s.heap.size)) args s 0 0 (xA B s.heap.size)) (F0 m (pcl_X2_thirdsOf lab) ls []) := by
    intro P hJ lab v2 v3 v4 M h H locs ls S hl
    match lab, h, hl with
    | 0, h, hl =>
      have hl : lv_has ls 5 [(0, .ref (ad 13)), (1, .int v1)] := hl
      have h : blk_X2_thirdsOf_0 v1 Q P v2 v3 v4 M := h
      unfold blk_X2_thirdsOf_0 at h
      refine W.eq (g2 := F0 m 0 ls []) rfl ?_
      refine lv_iconst (v := 0) hx hb dX2_thirdsOf_0 (by decide) ?_
      refine lv_istore_n (lv' := [(2, .int 0), (0, .ref (ad 13)), (1, .int v1)]) hx hb dX2_thirdsOf_1 rfl hl (by decide) rfl (fun ls hl => ?_)
      refine lv_iconst (v := 0) hx hb dX2_thirdsOf_2 (by decide) ?_
      refine lv_istore_n (lv' := [(3, .int 0), (2, .int 0), (0, .ref (ad 13)), (1, .int v1)]) hx hb dX2_thirdsOf_3 rfl hl (by decide) rfl (fun ls hl => ?_)
      exact hJ _ _ _ _ _ h _ _ _ S (lv_sub hl [2, 3, 1, 0] rfl)
    | 1, h, hl =>
      have hl : lv_has ls 5 [(0, .ref (ad 13)), (1, .int v1), (2, .int v2), (3, .int v3)] := hl
      have h : blk_X2_thirdsOf_1 v1 Q P v2 v3 v4 M := h
      unfold blk_X2_thirdsOf_1 at h
      refine W.eq (g2 := F0 m 4 ls []) rfl ?_
      refine lv_iload_n hx hb dX2_thirdsOf_4 rfl (lv_at hl 3 rfl) ?_
      refine lv_aload_n hx hb dX2_thirdsOf_5 rfl (lv_at hl 0 rfl) ?_
      refine x_getI hx hb hts (hC2) hown hK S 4 (by decide) xf_13_4 (index := 54) (hts _ (List.mem_of_getElem? (i := 1) rfl)) dX2_thirdsOf_6 ?_
      refine lv_icmp_ge (tgt := 60) hx hb dX2_thirdsOf_9 (by decide) (fun c9 => ?_) (fun c9 => ?_)
      · replace h := h.1 c9
        refine lv_iload_n hx hb dX2_thirdsOf_60 rfl (lv_at hl 2 rfl) ?_
        exact x_iret hx hb hr hlocks S rfl h dX2_thirdsOf_61
      · replace h := h.2 c9
        refine lv_aload_n hx hb dX2_thirdsOf_12 rfl (lv_at hl 0 rfl) ?_
        refine x_getR hx hb hts (hC2) hown hK S 2 (by decide) xf_13_2 (index := 22) (hts _ (List.mem_of_getElem? (i := 2) rfl)) dX2_thirdsOf_13 ?_
        refine lv_iload_n hx hb dX2_thirdsOf_16 rfl (lv_at hl 3 rfl) ?_
        refine x_iald hx hb hK S xa_18 h.1 dX2_thirdsOf_17 ?_
        replace h := h.2
        refine lv_iconst (v := 1) hx hb dX2_thirdsOf_18 (by decide) ?_
        refine lv_iadd hx hb dX2_thirdsOf_19 ?_
        refine lv_istore (lv' := [(4, .int ((M.1 18 v3.toNatClampNeg) + 1)), (0, .ref (ad 13)), (1, .int v1), (2, .int v2), (3, .int v3)]) hx hb dX2_thirdsOf_20 hl (by decide) rfl (fun ls hl => ?_)
        exact hJ _ _ _ _ _ h _ _ _ S (lv_sub hl [1, 2, 3, 4, 0] rfl)
    | 2, h, hl =>
      have hl : lv_has ls 5 [(0, .ref (ad 13)), (1, .int v1), (2, .int v2), (3, .int v3), (4, .int v4)] := hl
      have h : blk_X2_thirdsOf_2 v1 Q P v2 v3 v4 M := h
      unfold blk_X2_thirdsOf_2 at h
      refine W.eq (g2 := F0 m 22 ls []) rfl ?_
      refine lv_iload hx hb dX2_thirdsOf_22 (lv_at hl 4 rfl) ?_
      refine lv_aload_n hx hb dX2_thirdsOf_24 rfl (lv_at hl 0 rfl) ?_
      refine x_getR hx hb hts (hC2) hown hK S 0 (by decide) xf_13_0 (index := 12) (hts _ (List.mem_of_getElem? (i := 3) rfl)) dX2_thirdsOf_25 ?_
      refine x_getI hx hb hts (hC4) hown hK S 2 (by decide) xf_14_2 (index := 50) (hts _ (List.mem_of_getElem? (i := 4) rfl)) dX2_thirdsOf_28 ?_
      refine lv_icmp_ge (tgt := 54) hx hb dX2_thirdsOf_31 (by decide) (fun c31 => ?_) (fun c31 => ?_)
      · replace h := h.1 c31
        refine lv_iinc (v := (v3 + 1)) (lv' := [(3, .int (v3 + 1)), (0, .ref (ad 13)), (1, .int v1), (2, .int v2), (4, .int v4)]) hx hb dX2_thirdsOf_54 hl (k := 3) rfl rfl (by decide) rfl (fun ls hl => ?_)
        refine lv_goto (tgt := 4) hx hb dX2_thirdsOf_57 (by decide) ?_
        exact hJ _ _ _ _ _ h _ _ _ S (lv_sub hl [1, 2, 3, 0] rfl)
      · replace h := h.2 c31
        refine lv_aload_n hx hb dX2_thirdsOf_34 rfl (lv_at hl 0 rfl) ?_
        refine lv_iload_n hx hb dX2_thirdsOf_35 rfl (lv_at hl 3 rfl) ?_
        refine lv_iload hx hb dX2_thirdsOf_36 (lv_at hl 4 rfl) ?_
        refine lv_iload_n hx hb dX2_thirdsOf_38 rfl (lv_at hl 1 rfl) ?_
        refine x_callVi (As := [.int v3, .int v4, .int v1]) ⟨hx, hb, hml, hown, hts⟩ hK S (ct_X2_isThird l D cy ad B _ _ _ _ _ h) xo_13 rfl (cwV 3 hts gX2_thirdsOf_X2_isThird rfl rfl rfl (by decide +kernel) ⟨Nat.le_of_ble_eq_true rfl, Nat.le_of_ble_eq_true rfl⟩) rfl hl.1 rfl (Nat.le_of_ble_eq_true rfl) dX2_thirdsOf_39 ⟨Nat.zero_le _, Nat.zero_le _⟩ (fun r1 M1 H locs h S => ?_)
        refine lv_if_eq (tgt := 48) hx hb dX2_thirdsOf_42 (by decide) (fun c42 => ?_) (fun c42 => ?_)
        · replace h := h.1 c42
          exact hJ _ _ _ _ _ h _ _ _ S (lv_sub hl [0, 1, 2, 3, 4] rfl)
        · replace h := h.2 c42
          refine lv_iinc (v := (v2 + 1)) (lv' := [(2, .int (v2 + 1)), (0, .ref (ad 13)), (1, .int v1), (3, .int v3), (4, .int v4)]) hx hb dX2_thirdsOf_45 hl (k := 2) rfl rfl (by decide) rfl (fun ls hl => ?_)
          exact hJ _ _ _ _ _ h _ _ _ S (lv_sub hl [1, 2, 0, 3, 4] rfl)
    | 3, h, hl =>
      have hl : lv_has ls 5 [(0, .ref (ad 13)), (1, .int v1), (2, .int v2), (3, .int v3), (4, .int v4)] := hl
      have h : blk_X2_thirdsOf_3 v1 Q P v2 v3 v4 M := h
      unfold blk_X2_thirdsOf_3 at h
      refine W.eq (g2 := F0 m 48 ls []) rfl ?_
      refine lv_iinc (v := (v4 + 1)) (lv' := [(4, .int (v4 + 1)), (0, .ref (ad 13)), (1, .int v1), (2, .int v2), (3, .int v3)]) hx hb dX2_thirdsOf_48 hl (k := 4) rfl rfl (by decide) rfl (fun ls hl => ?_)
      refine lv_goto (tgt := 22) hx hb dX2_thirdsOf_51 (by decide) ?_
      exact hJ _ _ _ _ _ h _ _ _ S (lv_sub hl [1, 2, 3, 4, 0] rfl)
    | _ + 4, h, hl => exact h.elim
  have hl := lv_entry ([.ref (ad 13), .int v1]) (n := 5) (Nat.le_of_ble_eq_true rfl)
  subst hargs
  rw [lg_entry_eq]
  generalize (lg_sl ([.ref (ad 13), .int v1]) ++ List.replicate (5 - (lg_sl ([.ref (ad 13), .int v1])).length) Slot.unset).toArray = ls at hl ⊢
  exact h _ (key _ (fun _ _ _ _ _ h => h)) s.heap [] ls ⟨hP, hD, va_S.rf⟩ hl
/-! X7_thirds -/
def wp_X7_thirds (M : Mem) (Q : Int32 → Mem → Prop) : Prop :=
  (((M.1 0 8) = 0 → Q (-3) M) ∧ (¬ (M.1 0 8) = 0 → wp_X7_fencesNow M (fun r1 M1 => wp_X2_thirdsOf r1 M1 (fun r2 M2 => Q r2 M2))))
theorem wp_X7_thirds_mono {M : Mem} {Q Q' : Int32 → Mem → Prop} (hQ : ∀ (r : Int32) (M : Mem), Q r M → Q' r M) (h : wp_X7_thirds M Q) : wp_X7_thirds M Q' := by
  unfold wp_X7_thirds at h ⊢
  exact ⟨fun c => let h := h.1 c; hQ _ _ h, fun c => let h := h.2 c; wp_X7_fencesNow_mono (fun r1 M1 h => wp_X2_thirdsOf_mono (fun r2 M2 h => hQ _ _ h) h) h⟩
abbrev rm_X7_thirds : Jvm.Room := { frames := 3, cells := 0, slots := 0, locals := 64 }
set_option maxHeartbeats 4000000 in
set_option maxRecDepth 100000 in
theorem ct_X7_thirds (l : Launch) (D : va_G) (cy : Nat → ClassId) (ad : Nat → Nat) (B : Nat → Prop) (M : Mem) (Q : Int32 → Mem → Prop) (h : wp_X7_thirds M Q) : CTi l D cy (wX ad cy) B yX7_thirds wsX7_thirds rm_X7_thirds [.ref (ad 0)] M Q := by
  intro sz
  refine Met.ofW (cc := cX7_thirds) (maxL := 1) (ret := some .int) (by decide) rfl ?_
  intro p e s m args below meth c s₁ Bd hml hv
  obtain ⟨hargs, hsz, hP, hK, hD⟩ := hv
  subst hsz
  have hx := Bd.exec
  have hb := Bd.bytes
  have hr := Bd.returns
  have hts := atoms_spec (ws := wsX7_thirds) Bd.pre
  have hown : s.vm.findClass RX7 = some m.cls := findClass_of_methodNamed Bd.named
  have hlocks := Bd.notSynchronized
  have hC7 : xC wsX7_thirds 7 RX7 TX7 11 := ⟨by decide +kernel, rfl⟩
  have hl := lv_entry ([.ref (ad 0)]) (n := 1) (Nat.le_of_ble_eq_true rfl)
  subst hargs
  rw [lg_entry_eq]
  generalize (lg_sl ([.ref (ad 0)]) ++ List.replicate (1 - (lg_sl ([.ref (ad 0)])).length) Slot.unset).toArray = ls at hl ⊢
  have hl : lv_has ls 1 [(0, .ref (ad 0))] := hl
  have S : xS D (wX ad cy) B s.heap s.heap [] M := ⟨hP, hD, va_S.rf⟩
  unfold wp_X7_thirds at h
  refine lv_aload_n hx hb dX7_thirds_0 rfl (lv_at hl 0 rfl) ?_
  refine x_getI hx hb hts (hC7) hown hK S 8 (by decide) xf_0_8 (index := 126) (hts _ (List.mem_of_getElem? (i := 1) rfl)) dX7_thirds_1 ?_
  refine lv_if_eq (tgt := 21) hx hb dX7_thirds_4 (by decide) (fun c4 => ?_) (fun c4 => ?_)
  · replace h := h.1 c4
    refine lv_bipush (v := (-3)) hx hb dX7_thirds_21 (by decide) ?_
    exact x_iret hx hb hr hlocks S rfl h dX7_thirds_23
  · replace h := h.2 c4
    refine lv_aload_n hx hb dX7_thirds_7 rfl (lv_at hl 0 rfl) ?_
    refine x_getR hx hb hts (hC7) hown hK S 2 (by decide) xf_0_2 (index := 25) (hts _ (List.mem_of_getElem? (i := 2) rfl)) dX7_thirds_8 ?_
    refine lv_aload_n hx hb dX7_thirds_11 rfl (lv_at hl 0 rfl) ?_
    refine x_callVi (As := []) ⟨hx, hb, hml, hown, hts⟩ hK S (ct_X7_fencesNow l D cy ad B _ _ h) xo_0 rfl (cwV 0 hts gX7_thirds_X7_fencesNow rfl rfl rfl (by decide +kernel) ⟨Nat.le_of_ble_eq_true rfl, Nat.le_of_ble_eq_true rfl⟩) rfl hl.1 rfl (Nat.le_of_ble_eq_true rfl) dX7_thirds_12 ⟨Nat.zero_le _, Nat.zero_le _⟩ (fun r1 M1 H locs h S => ?_)
    refine x_callVi (As := [.int r1]) ⟨hx, hb, hml, hown, hts⟩ hK S (ct_X2_thirdsOf l D cy ad B _ _ _ h) xo_13 rfl (cwV 1 hts gX7_thirds_X2_thirdsOf rfl rfl rfl (by decide +kernel) ⟨Nat.le_of_ble_eq_true rfl, Nat.le_of_ble_eq_true rfl⟩) rfl hl.1 rfl (Nat.le_of_ble_eq_true rfl) dX7_thirds_15 ⟨Nat.zero_le _, Nat.zero_le _⟩ (fun r2 M2 H locs h S => ?_)
    refine lv_goto (tgt := 23) hx hb dX7_thirds_18 (by decide) ?_
    exact x_iret hx hb hr hlocks S rfl h dX7_thirds_23
/-! X2_cornerOf -/
def blk_X2_cornerOf_0 (v1 : Int32) (v2 : Int32) (v3 : Int32) (Q : Int32 → Mem → Prop) (P : Nat → Int32 → Int32 → Int32 → Mem → Prop) (v4 : Int32) (v5 : Int32) (v6 : Int32) (M : Mem) : Prop :=
  P 1 0 0 0 M
theorem blk_X2_cornerOf_0_mono {v1 : Int32} {v2 : Int32} {v3 : Int32} {Q Q' : Int32 → Mem → Prop} {P P' : Nat → Int32 → Int32 → Int32 → Mem → Prop} (hQ : ∀ (r : Int32) (M : Mem), Q r M → Q' r M) (hP : ∀ (lab : Nat) (v4 : Int32) (v5 : Int32) (v6 : Int32) (M : Mem), P lab v4 v5 v6 M → P' lab v4 v5 v6 M) (v4 : Int32) (v5 : Int32) (v6 : Int32) (M : Mem) (h : blk_X2_cornerOf_0 v1 v2 v3 Q P v4 v5 v6 M) : blk_X2_cornerOf_0 v1 v2 v3 Q' P' v4 v5 v6 M := by
  unfold blk_X2_cornerOf_0 at h ⊢
  exact hP _ _ _ _ _ h
def blk_X2_cornerOf_1 (v1 : Int32) (v2 : Int32) (v3 : Int32) (Q : Int32 → Mem → Prop) (P : Nat → Int32 → Int32 → Int32 → Mem → Prop) (v4 : Int32) (v5 : Int32) (v6 : Int32) (M : Mem) : Prop :=
  (((M.1 13 4) ≤ v5 → Q (-9) M) ∧ (¬ (M.1 13 4) ≤ v5 → (vp_in v5 28 ∧ P 2 v4 v5 ((M.1 18 v5.toNatClampNeg) + 1) M)))
theorem blk_X2_cornerOf_1_mono {v1 : Int32} {v2 : Int32} {v3 : Int32} {Q Q' : Int32 → Mem → Prop} {P P' : Nat → Int32 → Int32 → Int32 → Mem → Prop} (hQ : ∀ (r : Int32) (M : Mem), Q r M → Q' r M) (hP : ∀ (lab : Nat) (v4 : Int32) (v5 : Int32) (v6 : Int32) (M : Mem), P lab v4 v5 v6 M → P' lab v4 v5 v6 M) (v4 : Int32) (v5 : Int32) (v6 : Int32) (M : Mem) (h : blk_X2_cornerOf_1 v1 v2 v3 Q P v4 v5 v6 M) : blk_X2_cornerOf_1 v1 v2 v3 Q' P' v4 v5 v6 M := by
  unfold blk_X2_cornerOf_1 at h ⊢
  exact ⟨fun c => let h := h.1 c; hQ _ _ h, fun c => let h := h.2 c; ⟨h.1, let h := h.2; hP _ _ _ _ _ h⟩⟩
def blk_X2_cornerOf_2 (v1 : Int32) (v2 : Int32) (v3 : Int32) (Q : Int32 → Mem → Prop) (P : Nat → Int32 → Int32 → Int32 → Mem → Prop) (v4 : Int32) (v5 : Int32) (v6 : Int32) (M : Mem) : Prop :=
  (((M.1 14 2) ≤ v6 → P 1 v4 (v5 + 1) 0 M) ∧ (¬ (M.1 14 2) ≤ v6 → wp_X2_isThird v5 v6 v1 M (fun r1 M1 => ((¬ r1 = 0 → ((¬ v4 = v2 → P 3 (v4 + 1) v5 v6 M1) ∧ (v4 = v2 → ((¬ v3 = 0 → ((¬ v3 = 1 → Q v6 M1) ∧ (v3 = 1 → (vp_in v5 28 ∧ Q (M1.1 18 v5.toNatClampNeg) M1)))) ∧ (v3 = 0 → (vp_in v5 28 ∧ Q (M1.1 17 v5.toNatClampNeg) M1)))))) ∧ (r1 = 0 → P 3 v4 v5 v6 M1)))))
theorem blk_X2_cornerOf_2_mono {v1 : Int32} {v2 : Int32} {v3 : Int32} {Q Q' : Int32 → Mem → Prop} {P P' : Nat → Int32 → Int32 → Int32 → Mem → Prop} (hQ : ∀ (r : Int32) (M : Mem), Q r M → Q' r M) (hP : ∀ (lab : Nat) (v4 : Int32) (v5 : Int32) (v6 : Int32) (M : Mem), P lab v4 v5 v6 M → P' lab v4 v5 v6 M) (v4 : Int32) (v5 : Int32) (v6 : Int32) (M : Mem) (h : blk_X2_cornerOf_2 v1 v2 v3 Q P v4 v5 v6 M) : blk_X2_cornerOf_2 v1 v2 v3 Q' P' v4 v5 v6 M := by
  unfold blk_X2_cornerOf_2 at h ⊢
  exact ⟨fun c => let h := h.1 c; hP _ _ _ _ _ h, fun c => let h := h.2 c; wp_X2_isThird_mono (fun r1 M1 h => ⟨fun c => let h := h.1 c; ⟨fun c => let h := h.1 c; hP _ _ _ _ _ h, fun c => let h := h.2 c; ⟨fun c => let h := h.1 c; ⟨fun c => let h := h.1 c; hQ _ _ h, fun c => let h := h.2 c; ⟨h.1, let h := h.2; hQ _ _ h⟩⟩, fun c => let h := h.2 c; ⟨h.1, let h := h.2; hQ _ _ h⟩⟩⟩, fun c => let h := h.2 c; hP _ _ _ _ _ h⟩) h⟩
def blk_X2_cornerOf_3 (v1 : Int32) (v2 : Int32) (v3 : Int32) (Q : Int32 → Mem → Prop) (P : Nat → Int32 → Int32 → Int32 → Mem → Prop) (v4 : Int32) (v5 : Int32) (v6 : Int32) (M : Mem) : Prop :=
  P 2 v4 v5 (v6 + 1) M
theorem blk_X2_cornerOf_3_mono {v1 : Int32} {v2 : Int32} {v3 : Int32} {Q Q' : Int32 → Mem → Prop} {P P' : Nat → Int32 → Int32 → Int32 → Mem → Prop} (hQ : ∀ (r : Int32) (M : Mem), Q r M → Q' r M) (hP : ∀ (lab : Nat) (v4 : Int32) (v5 : Int32) (v6 : Int32) (M : Mem), P lab v4 v5 v6 M → P' lab v4 v5 v6 M) (v4 : Int32) (v5 : Int32) (v6 : Int32) (M : Mem) (h : blk_X2_cornerOf_3 v1 v2 v3 Q P v4 v5 v6 M) : blk_X2_cornerOf_3 v1 v2 v3 Q' P' v4 v5 v6 M := by
  unfold blk_X2_cornerOf_3 at h ⊢
  exact hP _ _ _ _ _ h
def blk_X2_cornerOf (v1 : Int32) (v2 : Int32) (v3 : Int32) (Q : Int32 → Mem → Prop) (P : Nat → Int32 → Int32 → Int32 → Mem → Prop) : Nat → Int32 → Int32 → Int32 → Mem → Prop := fun lab v4 v5 v6 M => match lab with
  | 0 => blk_X2_cornerOf_0 v1 v2 v3 Q P v4 v5 v6 M
  | 1 => blk_X2_cornerOf_1 v1 v2 v3 Q P v4 v5 v6 M
  | 2 => blk_X2_cornerOf_2 v1 v2 v3 Q P v4 v5 v6 M
  | 3 => blk_X2_cornerOf_3 v1 v2 v3 Q P v4 v5 v6 M
  | _ => False
theorem blk_X2_cornerOf_mono {v1 : Int32} {v2 : Int32} {v3 : Int32} {Q Q' : Int32 → Mem → Prop} {P P' : Nat → Int32 → Int32 → Int32 → Mem → Prop} (hQ : ∀ (r : Int32) (M : Mem), Q r M → Q' r M) (hP : ∀ (lab : Nat) (v4 : Int32) (v5 : Int32) (v6 : Int32) (M : Mem), P lab v4 v5 v6 M → P' lab v4 v5 v6 M) : ∀ (lab : Nat) (v4 : Int32) (v5 : Int32) (v6 : Int32) (M : Mem), blk_X2_cornerOf v1 v2 v3 Q P lab v4 v5 v6 M → blk_X2_cornerOf v1 v2 v3 Q' P' lab v4 v5 v6 M := fun lab v4 v5 v6 M h => match lab, h with
  | 0, h => blk_X2_cornerOf_0_mono (v1 := v1) (v2 := v2) (v3 := v3) hQ hP v4 v5 v6 M h
  | 1, h => blk_X2_cornerOf_1_mono (v1 := v1) (v2 := v2) (v3 := v3) hQ hP v4 v5 v6 M h
  | 2, h => blk_X2_cornerOf_2_mono (v1 := v1) (v2 := v2) (v3 := v3) hQ hP v4 v5 v6 M h
  | 3, h => blk_X2_cornerOf_3_mono (v1 := v1) (v2 := v2) (v3 := v3) hQ hP v4 v5 v6 M h
  | _ + 4, h => False.elim h
def at_X2_cornerOf (v1 : Int32) (v2 : Int32) (v3 : Int32) (Q : Int32 → Mem → Prop) : Nat → Int32 → Int32 → Int32 → Mem → Prop := fun lab v4 v5 v6 M => ∀ P : Nat → Int32 → Int32 → Int32 → Mem → Prop, (∀ (lab : Nat) (v4 : Int32) (v5 : Int32) (v6 : Int32) (M : Mem), blk_X2_cornerOf v1 v2 v3 Q P lab v4 v5 v6 M → P lab v4 v5 v6 M) → P lab v4 v5 v6 M
theorem at_X2_cornerOf_fold {v1 : Int32} {v2 : Int32} {v3 : Int32} {Q : Int32 → Mem → Prop} {lab : Nat} {v4 : Int32} {v5 : Int32} {v6 : Int32} {M : Mem} (h : blk_X2_cornerOf v1 v2 v3 Q (at_X2_cornerOf v1 v2 v3 Q) lab v4 v5 v6 M) : at_X2_cornerOf v1 v2 v3 Q lab v4 v5 v6 M := fun P hP => hP _ _ _ _ _ (blk_X2_cornerOf_mono (fun _ _ h => h) (fun _ _ _ _ _ h => h P hP) _ _ _ _ _ h)
theorem at_X2_cornerOf_mono {v1 : Int32} {v2 : Int32} {v3 : Int32} {Q Q' : Int32 → Mem → Prop} (hQ : ∀ (r : Int32) (M : Mem), Q r M → Q' r M) {lab : Nat} {v4 : Int32} {v5 : Int32} {v6 : Int32} {M : Mem} (h : at_X2_cornerOf v1 v2 v3 Q lab v4 v5 v6 M) : at_X2_cornerOf v1 v2 v3 Q' lab v4 v5 v6 M := fun P hP => h P (fun lab v4 v5 v6 M hb => hP _ _ _ _ _ (blk_X2_cornerOf_mono hQ (fun _ _ _ _ _ h => h) _ _ _ _ _ hb))
def wp_X2_cornerOf (v1 : Int32) (v2 : Int32) (v3 : Int32) (M : Mem) (Q : Int32 → Mem → Prop) : Prop := at_X2_cornerOf v1 v2 v3 Q 0 0 0 0 M
theorem wp_X2_cornerOf_mono {v1 : Int32} {v2 : Int32} {v3 : Int32} {M : Mem} {Q Q' : Int32 → Mem → Prop} (hQ : ∀ (r : Int32) (M : Mem), Q r M → Q' r M) (h : wp_X2_cornerOf v1 v2 v3 M Q) : wp_X2_cornerOf v1 v2 v3 M Q' := at_X2_cornerOf_mono hQ h
def pcl_X2_cornerOf : Nat → Nat := fun lab => match lab with
  | 0 => 0
  | 1 => 6
  | 2 => 26
  | 3 => 94
  | _ => 0
def lvl_X2_cornerOf (ad : Nat → Nat) (v1 : Int32) (v2 : Int32) (v3 : Int32) : Nat → Int32 → Int32 → Int32 → List (Nat × Value) := fun lab v4 v5 v6 => match lab with
  | 0 => [(0, .ref (ad 13)), (1, .int v1), (2, .int v2), (3, .int v3)]
  | 1 => [(0, .ref (ad 13)), (1, .int v1), (2, .int v2), (3, .int v3), (4, .int v4), (5, .int v5)]
  | 2 => [(0, .ref (ad 13)), (1, .int v1), (2, .int v2), (3, .int v3), (4, .int v4), (5, .int v5), (6, .int v6)]
  | 3 => [(0, .ref (ad 13)), (1, .int v1), (2, .int v2), (3, .int v3), (4, .int v4), (5, .int v5), (6, .int v6)]
  | _ => []
abbrev rm_X2_cornerOf : Jvm.Room := { frames := 2, cells := 0, slots := 0, locals := 40 }
set_option maxHeartbeats 4000000 in
set_option maxRecDepth 100000 in
theorem ct_X2_cornerOf (l : Launch) (D : va_G) (cy : Nat → ClassId) (ad : Nat → Nat) (B : Nat → Prop) (v1 : Int32) (v2 : Int32) (v3 : Int32) (M : Mem) (Q : Int32 → Mem → Prop) (h : wp_X2_cornerOf v1 v2 v3 M Q) : CTi l D cy (wX ad cy) B yX2_cornerOf wsX2_cornerOf rm_X2_cornerOf [.ref (ad 13), .int v1, .int v2, .int v3] M Q := by
  intro sz
  refine Met.ofW (cc := cX2_cornerOf) (maxL := 7) (ret := some .int) (by decide) rfl ?_
  intro p e s m args below meth c s₁ Bd hml hv
  obtain ⟨hargs, hsz, hP, hK, hD⟩ := hv
  subst hsz
  have hx := Bd.exec
  have hb := Bd.bytes
  have hr := Bd.returns
  have hts := atoms_spec (ws := wsX2_cornerOf) Bd.pre
  have hown : s.vm.findClass RX2 = some m.cls := findClass_of_methodNamed Bd.named
  have hlocks := Bd.notSynchronized
  have hC2 : xC wsX2_cornerOf 2 RX2 TX2 8 := ⟨by decide +kernel, rfl⟩
  have hC4 : xC wsX2_cornerOf 4 RX4 TX4 3 := ⟨by decide +kernel, rfl⟩
  have key : ∀ (P : Nat → Int32 → Int32 → Int32 → Mem → Prop), (∀ (lab : Nat) (v4 : Int32) (v5 : Int32) (v6 : Int32) (M : Mem), P lab v4 v5 v6 M → ∀ (H : Heap) (locs : List Loc) (ls : Array Slot), xS D (wX ad cy) B s.heap H locs M → lv_has ls 7 (lvl_X2_cornerOf ad v1 v2 v3 lab v4 v5 v6 ) → W p l e (headSpec wsX2_cornerOf rm_X2_cornerOf).room s m args below meth c H locs 0 0 (MQ below (va_Qi (S := Mem) Q (xB D (wX ad cy) B) (xA B s.heap.size)) args s 0 0 (xA B s.heap.size)) (F0 m (pcl_X2_cornerOf lab) ls [])) → ∀ (lab : Nat) (v4 : Int32) (v5 : Int32) (v6 : Int32) (M : Mem), blk_X2_cornerOf v1 v2 v3 Q P lab v4 v5 v6 M → ∀ (H : Heap) (locs : List Loc) (ls : Array Slot), xS D (wX ad cy) B s.heap H locs M → lv_has ls 7 (lvl_X2_cornerOf ad v1 v2 v3 lab v4 v5 v6 ) → W p l e (headSpec wsX2_cornerOf rm_X2_cornerOf).room s m args below meth c H locs 0 0 (MQ below (va_Qi (S := Mem) Q (xB D (wX ad cy) B) (xA B s.heap.size)) args s 0 0 (xA B s.heap.size)) (F0 m (pcl_X2_cornerOf lab) ls []) := by
    intro P hJ lab v4 v5 v6 M h H locs ls S hl
    match lab, h, hl with
    | 0, h, hl =>
      have hl : lv_has ls 7 [(0, .ref (ad 13)), (1, .int v1), (2, .int v2), (3, .int v3)] := hl
      have h : blk_X2_cornerOf_0 v1 v2 v3 Q P v4 v5 v6 M := h
      unfold blk_X2_cornerOf_0 at h
      refine W.eq (g2 := F0 m 0 ls []) rfl ?_
      refine lv_iconst (v := 0) hx hb dX2_cornerOf_0 (by decide) ?_
      refine lv_istore (lv' := [(4, .int 0), (0, .ref (ad 13)), (1, .int v1), (2, .int v2), (3, .int v3)]) hx hb dX2_cornerOf_1 hl (by decide) rfl (fun ls hl => ?_)
      refine lv_iconst (v := 0) hx hb dX2_cornerOf_3 (by decide) ?_
      refine lv_istore (lv' := [(5, .int 0), (4, .int 0), (0, .ref (ad 13)), (1, .int v1), (2, .int v2), (3, .int v3)]) hx hb dX2_cornerOf_4 hl (by decide) rfl (fun ls hl => ?_)
      exact hJ _ _ _ _ _ h _ _ _ S (lv_sub hl [2, 3, 4, 5, 1, 0] rfl)
    | 1, h, hl =>
      have hl : lv_has ls 7 [(0, .ref (ad 13)), (1, .int v1), (2, .int v2), (3, .int v3), (4, .int v4), (5, .int v5)] := hl
      have h : blk_X2_cornerOf_1 v1 v2 v3 Q P v4 v5 v6 M := h
      unfold blk_X2_cornerOf_1 at h
      refine W.eq (g2 := F0 m 6 ls []) rfl ?_
      refine lv_iload hx hb dX2_cornerOf_6 (lv_at hl 5 rfl) ?_
      refine lv_aload_n hx hb dX2_cornerOf_8 rfl (lv_at hl 0 rfl) ?_
      refine x_getI hx hb hts (hC2) hown hK S 4 (by decide) xf_13_4 (index := 54) (hts _ (List.mem_of_getElem? (i := 1) rfl)) dX2_cornerOf_9 ?_
      refine lv_icmp_ge (tgt := 106) hx hb dX2_cornerOf_12 (by decide) (fun c12 => ?_) (fun c12 => ?_)
      · replace h := h.1 c12
        refine lv_bipush (v := (-9)) hx hb dX2_cornerOf_106 (by decide) ?_
        exact x_iret hx hb hr hlocks S rfl h dX2_cornerOf_108
      · replace h := h.2 c12
        refine lv_aload_n hx hb dX2_cornerOf_15 rfl (lv_at hl 0 rfl) ?_
        refine x_getR hx hb hts (hC2) hown hK S 2 (by decide) xf_13_2 (index := 22) (hts _ (List.mem_of_getElem? (i := 2) rfl)) dX2_cornerOf_16 ?_
        refine lv_iload hx hb dX2_cornerOf_19 (lv_at hl 5 rfl) ?_
        refine x_iald hx hb hK S xa_18 h.1 dX2_cornerOf_21 ?_
        replace h := h.2
        refine lv_iconst (v := 1) hx hb dX2_cornerOf_22 (by decide) ?_
        refine lv_iadd hx hb dX2_cornerOf_23 ?_
        refine lv_istore (lv' := [(6, .int ((M.1 18 v5.toNatClampNeg) + 1)), (0, .ref (ad 13)), (1, .int v1), (2, .int v2), (3, .int v3), (4, .int v4), (5, .int v5)]) hx hb dX2_cornerOf_24 hl (by decide) rfl (fun ls hl => ?_)
        exact hJ _ _ _ _ _ h _ _ _ S (lv_sub hl [1, 2, 3, 4, 5, 6, 0] rfl)
    | 2, h, hl =>
      have hl : lv_has ls 7 [(0, .ref (ad 13)), (1, .int v1), (2, .int v2), (3, .int v3), (4, .int v4), (5, .int v5), (6, .int v6)] := hl
      have h : blk_X2_cornerOf_2 v1 v2 v3 Q P v4 v5 v6 M := h
      unfold blk_X2_cornerOf_2 at h
      refine W.eq (g2 := F0 m 26 ls []) rfl ?_
      refine lv_iload hx hb dX2_cornerOf_26 (lv_at hl 6 rfl) ?_
      refine lv_aload_n hx hb dX2_cornerOf_28 rfl (lv_at hl 0 rfl) ?_
      refine x_getR hx hb hts (hC2) hown hK S 0 (by decide) xf_13_0 (index := 12) (hts _ (List.mem_of_getElem? (i := 3) rfl)) dX2_cornerOf_29 ?_
      refine x_getI hx hb hts (hC4) hown hK S 2 (by decide) xf_14_2 (index := 50) (hts _ (List.mem_of_getElem? (i := 4) rfl)) dX2_cornerOf_32 ?_
      refine lv_icmp_ge (tgt := 100) hx hb dX2_cornerOf_35 (by decide) (fun c35 => ?_) (fun c35 => ?_)
      · replace h := h.1 c35
        refine lv_iinc (v := (v5 + 1)) (lv' := [(5, .int (v5 + 1)), (0, .ref (ad 13)), (1, .int v1), (2, .int v2), (3, .int v3), (4, .int v4), (6, .int v6)]) hx hb dX2_cornerOf_100 hl (k := 5) rfl rfl (by decide) rfl (fun ls hl => ?_)
        refine lv_goto (tgt := 6) hx hb dX2_cornerOf_103 (by decide) ?_
        exact hJ _ _ _ _ _ h _ _ _ S (lv_sub hl [1, 2, 3, 4, 5, 0] rfl)
      · replace h := h.2 c35
        refine lv_aload_n hx hb dX2_cornerOf_38 rfl (lv_at hl 0 rfl) ?_
        refine lv_iload hx hb dX2_cornerOf_39 (lv_at hl 5 rfl) ?_
        refine lv_iload hx hb dX2_cornerOf_41 (lv_at hl 6 rfl) ?_
        refine lv_iload_n hx hb dX2_cornerOf_43 rfl (lv_at hl 1 rfl) ?_
        refine x_callVi (As := [.int v5, .int v6, .int v1]) ⟨hx, hb, hml, hown, hts⟩ hK S (ct_X2_isThird l D cy ad B _ _ _ _ _ h) xo_13 rfl (cwV 3 hts gX2_cornerOf_X2_isThird rfl rfl rfl (by decide +kernel) ⟨Nat.le_of_ble_eq_true rfl, Nat.le_of_ble_eq_true rfl⟩) rfl hl.1 rfl (Nat.le_of_ble_eq_true rfl) dX2_cornerOf_44 ⟨Nat.zero_le _, Nat.zero_le _⟩ (fun r1 M1 H locs h S => ?_)
        refine lv_if_ne (tgt := 53) hx hb dX2_cornerOf_47 (by decide) (fun c47 => ?_) (fun c47 => ?_)
        · replace h := h.1 c47
          refine lv_iload hx hb dX2_cornerOf_53 (lv_at hl 4 rfl) ?_
          refine lv_iload_n hx hb dX2_cornerOf_55 rfl (lv_at hl 2 rfl) ?_
          refine lv_icmp_ne (tgt := 91) hx hb dX2_cornerOf_56 (by decide) (fun c56 => ?_) (fun c56 => ?_)
          · replace h := h.1 c56
            refine lv_iinc (v := (v4 + 1)) (lv' := [(4, .int (v4 + 1)), (0, .ref (ad 13)), (1, .int v1), (2, .int v2), (3, .int v3), (5, .int v5), (6, .int v6)]) hx hb dX2_cornerOf_91 hl (k := 4) rfl rfl (by decide) rfl (fun ls hl => ?_)
            exact hJ _ _ _ _ _ h _ _ _ S (lv_sub hl [1, 2, 3, 4, 0, 5, 6] rfl)
          · replace h := h.2 c56
            refine lv_iload_n hx hb dX2_cornerOf_59 rfl (lv_at hl 3 rfl) ?_
            refine lv_if_ne (tgt := 73) hx hb dX2_cornerOf_60 (by decide) (fun c60 => ?_) (fun c60 => ?_)
            · replace h := h.1 c60
              refine lv_iload_n hx hb dX2_cornerOf_73 rfl (lv_at hl 3 rfl) ?_
              refine lv_iconst (v := 1) hx hb dX2_cornerOf_74 (by decide) ?_
              refine lv_icmp_ne (tgt := 88) hx hb dX2_cornerOf_75 (by decide) (fun c75 => ?_) (fun c75 => ?_)
              · replace h := h.1 c75
                refine lv_iload hx hb dX2_cornerOf_88 (lv_at hl 6 rfl) ?_
                exact x_iret hx hb hr hlocks S rfl h dX2_cornerOf_90
              · replace h := h.2 c75
                refine lv_aload_n hx hb dX2_cornerOf_78 rfl (lv_at hl 0 rfl) ?_
                refine x_getR hx hb hts (hC2) hown hK S 2 (by decide) xf_13_2 (index := 22) (hts _ (List.mem_of_getElem? (i := 2) rfl)) dX2_cornerOf_79 ?_
                refine lv_iload hx hb dX2_cornerOf_82 (lv_at hl 5 rfl) ?_
                refine x_iald hx hb hK S xa_18 h.1 dX2_cornerOf_84 ?_
                replace h := h.2
                refine lv_goto (tgt := 90) hx hb dX2_cornerOf_85 (by decide) ?_
                exact x_iret hx hb hr hlocks S rfl h dX2_cornerOf_90
            · replace h := h.2 c60
              refine lv_aload_n hx hb dX2_cornerOf_63 rfl (lv_at hl 0 rfl) ?_
              refine x_getR hx hb hts (hC2) hown hK S 1 (by decide) xf_13_1 (index := 18) (hts _ (List.mem_of_getElem? (i := 5) rfl)) dX2_cornerOf_64 ?_
              refine lv_iload hx hb dX2_cornerOf_67 (lv_at hl 5 rfl) ?_
              refine x_iald hx hb hK S xa_17 h.1 dX2_cornerOf_69 ?_
              replace h := h.2
              refine lv_goto (tgt := 90) hx hb dX2_cornerOf_70 (by decide) ?_
              exact x_iret hx hb hr hlocks S rfl h dX2_cornerOf_90
        · replace h := h.2 c47
          refine lv_goto (tgt := 94) hx hb dX2_cornerOf_50 (by decide) ?_
          exact hJ _ _ _ _ _ h _ _ _ S (lv_sub hl [0, 1, 2, 3, 4, 5, 6] rfl)
    | 3, h, hl =>
      have hl : lv_has ls 7 [(0, .ref (ad 13)), (1, .int v1), (2, .int v2), (3, .int v3), (4, .int v4), (5, .int v5), (6, .int v6)] := hl
      have h : blk_X2_cornerOf_3 v1 v2 v3 Q P v4 v5 v6 M := h
      unfold blk_X2_cornerOf_3 at h
      refine W.eq (g2 := F0 m 94 ls []) rfl ?_
      refine lv_iinc (v := (v6 + 1)) (lv' := [(6, .int (v6 + 1)), (0, .ref (ad 13)), (1, .int v1), (2, .int v2), (3, .int v3), (4, .int v4), (5, .int v5)]) hx hb dX2_cornerOf_94 hl (k := 6) rfl rfl (by decide) rfl (fun ls hl => ?_)
      refine lv_goto (tgt := 26) hx hb dX2_cornerOf_97 (by decide) ?_
      exact hJ _ _ _ _ _ h _ _ _ S (lv_sub hl [1, 2, 3, 4, 5, 6, 0] rfl)
    | _ + 4, h, hl => exact h.elim
  have hl := lv_entry ([.ref (ad 13), .int v1, .int v2, .int v3]) (n := 7) (Nat.le_of_ble_eq_true rfl)
  subst hargs
  rw [lg_entry_eq]
  generalize (lg_sl ([.ref (ad 13), .int v1, .int v2, .int v3]) ++ List.replicate (7 - (lg_sl ([.ref (ad 13), .int v1, .int v2, .int v3])).length) Slot.unset).toArray = ls at hl ⊢
  exact h _ (key _ (fun _ _ _ _ _ h => h)) s.heap [] ls ⟨hP, hD, va_S.rf⟩ hl
/-! X7_third -/
def wp_X7_third (v1 : Int32) (v2 : Int32) (M : Mem) (Q : Int32 → Mem → Prop) : Prop :=
  ((v2 < 0 → Q (-2) M) ∧ (¬ v2 < 0 → ((v2 ≤ 2 → (((M.1 0 8) = 0 → Q (-3) M) ∧ (¬ (M.1 0 8) = 0 → wp_X7_fencesNow M (fun r1 M1 => wp_X2_cornerOf r1 v1 v2 M1 (fun r2 M2 => Q r2 M2))))) ∧ (¬ v2 ≤ 2 → Q (-2) M))))
theorem wp_X7_third_mono {v1 : Int32} {v2 : Int32} {M : Mem} {Q Q' : Int32 → Mem → Prop} (hQ : ∀ (r : Int32) (M : Mem), Q r M → Q' r M) (h : wp_X7_third v1 v2 M Q) : wp_X7_third v1 v2 M Q' := by
  unfold wp_X7_third at h ⊢
  exact ⟨fun c => let h := h.1 c; hQ _ _ h, fun c => let h := h.2 c; ⟨fun c => let h := h.1 c; ⟨fun c => let h := h.1 c; hQ _ _ h, fun c => let h := h.2 c; wp_X7_fencesNow_mono (fun r1 M1 h => wp_X2_cornerOf_mono (fun r2 M2 h => hQ _ _ h) h) h⟩, fun c => let h := h.2 c; hQ _ _ h⟩⟩
abbrev rm_X7_third : Jvm.Room := { frames := 3, cells := 0, slots := 0, locals := 66 }
set_option maxHeartbeats 4000000 in
set_option maxRecDepth 100000 in
theorem ct_X7_third (l : Launch) (D : va_G) (cy : Nat → ClassId) (ad : Nat → Nat) (B : Nat → Prop) (v1 : Int32) (v2 : Int32) (M : Mem) (Q : Int32 → Mem → Prop) (h : wp_X7_third v1 v2 M Q) : CTi l D cy (wX ad cy) B yX7_third wsX7_third rm_X7_third [.ref (ad 0), .int v1, .int v2] M Q := by
  intro sz
  refine Met.ofW (cc := cX7_third) (maxL := 3) (ret := some .int) (by decide) rfl ?_
  intro p e s m args below meth c s₁ Bd hml hv
  obtain ⟨hargs, hsz, hP, hK, hD⟩ := hv
  subst hsz
  have hx := Bd.exec
  have hb := Bd.bytes
  have hr := Bd.returns
  have hts := atoms_spec (ws := wsX7_third) Bd.pre
  have hown : s.vm.findClass RX7 = some m.cls := findClass_of_methodNamed Bd.named
  have hlocks := Bd.notSynchronized
  have hC7 : xC wsX7_third 7 RX7 TX7 11 := ⟨by decide +kernel, rfl⟩
  have hl := lv_entry ([.ref (ad 0), .int v1, .int v2]) (n := 3) (Nat.le_of_ble_eq_true rfl)
  subst hargs
  rw [lg_entry_eq]
  generalize (lg_sl ([.ref (ad 0), .int v1, .int v2]) ++ List.replicate (3 - (lg_sl ([.ref (ad 0), .int v1, .int v2])).length) Slot.unset).toArray = ls at hl ⊢
  have hl : lv_has ls 3 [(0, .ref (ad 0)), (1, .int v1), (2, .int v2)] := hl
  have S : xS D (wX ad cy) B s.heap s.heap [] M := ⟨hP, hD, va_S.rf⟩
  unfold wp_X7_third at h
  refine lv_iload_n hx hb dX7_third_0 rfl (lv_at hl 2 rfl) ?_
  refine lv_if_lt (tgt := 9) hx hb dX7_third_1 (by decide) (fun c1 => ?_) (fun c1 => ?_)
  · replace h := h.1 c1
    refine lv_bipush (v := (-2)) hx hb dX7_third_9 (by decide) ?_
    exact x_iret hx hb hr hlocks S rfl h dX7_third_11
  · replace h := h.2 c1
    refine lv_iload_n hx hb dX7_third_4 rfl (lv_at hl 2 rfl) ?_
    refine lv_iconst (v := 2) hx hb dX7_third_5 (by decide) ?_
    refine lv_icmp_le (tgt := 12) hx hb dX7_third_6 (by decide) (fun c6 => ?_) (fun c6 => ?_)
    · replace h := h.1 c6
      refine lv_aload_n hx hb dX7_third_12 rfl (lv_at hl 0 rfl) ?_
      refine x_getI hx hb hts (hC7) hown hK S 8 (by decide) xf_0_8 (index := 126) (hts _ (List.mem_of_getElem? (i := 1) rfl)) dX7_third_13 ?_
      refine lv_if_eq (tgt := 35) hx hb dX7_third_16 (by decide) (fun c16 => ?_) (fun c16 => ?_)
      · replace h := h.1 c16
        refine lv_bipush (v := (-3)) hx hb dX7_third_35 (by decide) ?_
        exact x_iret hx hb hr hlocks S rfl h dX7_third_37
      · replace h := h.2 c16
        refine lv_aload_n hx hb dX7_third_19 rfl (lv_at hl 0 rfl) ?_
        refine x_getR hx hb hts (hC7) hown hK S 2 (by decide) xf_0_2 (index := 25) (hts _ (List.mem_of_getElem? (i := 2) rfl)) dX7_third_20 ?_
        refine lv_aload_n hx hb dX7_third_23 rfl (lv_at hl 0 rfl) ?_
        refine x_callVi (As := []) ⟨hx, hb, hml, hown, hts⟩ hK S (ct_X7_fencesNow l D cy ad B _ _ h) xo_0 rfl (cwV 0 hts gX7_third_X7_fencesNow rfl rfl rfl (by decide +kernel) ⟨Nat.le_of_ble_eq_true rfl, Nat.le_of_ble_eq_true rfl⟩) rfl hl.1 rfl (Nat.le_of_ble_eq_true rfl) dX7_third_24 ⟨Nat.zero_le _, Nat.zero_le _⟩ (fun r1 M1 H locs h S => ?_)
        refine lv_iload_n hx hb dX7_third_27 rfl (lv_at hl 1 rfl) ?_
        refine lv_iload_n hx hb dX7_third_28 rfl (lv_at hl 2 rfl) ?_
        refine x_callVi (As := [.int r1, .int v1, .int v2]) ⟨hx, hb, hml, hown, hts⟩ hK S (ct_X2_cornerOf l D cy ad B _ _ _ _ _ h) xo_13 rfl (cwV 3 hts gX7_third_X2_cornerOf rfl rfl rfl (by decide +kernel) ⟨Nat.le_of_ble_eq_true rfl, Nat.le_of_ble_eq_true rfl⟩) rfl hl.1 rfl (Nat.le_of_ble_eq_true rfl) dX7_third_29 ⟨Nat.zero_le _, Nat.zero_le _⟩ (fun r2 M2 H locs h S => ?_)
        refine lv_goto (tgt := 37) hx hb dX7_third_32 (by decide) ?_
        exact x_iret hx hb hr hlocks S rfl h dX7_third_37
    · replace h := h.2 c6
      refine lv_bipush (v := (-2)) hx hb dX7_third_9 (by decide) ?_
      exact x_iret hx hb hr hlocks S rfl h dX7_third_11
/-! X2_fencesAt -/
def blk_X2_fencesAt_0 (v1 : Int32) (Q : Int32 → Mem → Prop) (P : Nat → Int32 → Int32 → Int32 → Mem → Prop) (v2 : Int32) (v3 : Int32) (v4 : Int32) (M : Mem) : Prop :=
  P 1 0 0 0 M
theorem blk_X2_fencesAt_0_mono {v1 : Int32} {Q Q' : Int32 → Mem → Prop} {P P' : Nat → Int32 → Int32 → Int32 → Mem → Prop} (hQ : ∀ (r : Int32) (M : Mem), Q r M → Q' r M) (hP : ∀ (lab : Nat) (v2 : Int32) (v3 : Int32) (v4 : Int32) (M : Mem), P lab v2 v3 v4 M → P' lab v2 v3 v4 M) (v2 : Int32) (v3 : Int32) (v4 : Int32) (M : Mem) (h : blk_X2_fencesAt_0 v1 Q P v2 v3 v4 M) : blk_X2_fencesAt_0 v1 Q' P' v2 v3 v4 M := by
  unfold blk_X2_fencesAt_0 at h ⊢
  exact hP _ _ _ _ _ h
def blk_X2_fencesAt_1 (v1 : Int32) (Q : Int32 → Mem → Prop) (P : Nat → Int32 → Int32 → Int32 → Mem → Prop) (v2 : Int32) (v3 : Int32) (v4 : Int32) (M : Mem) : Prop :=
  (((M.1 14 2) ≤ v3 → Q v2 M) ∧ (¬ (M.1 14 2) ≤ v3 → wp_X2_fenceBetween v1 v3 M (fun r1 M1 => ((r1 = (-9) → P 2 v2 v3 0 M1) ∧ (¬ r1 = (-9) → P 2 (v2 ||| ((1 : Int32) <<< (r1 &&& 31))) v3 0 M1)))))
theorem blk_X2_fencesAt_1_mono {v1 : Int32} {Q Q' : Int32 → Mem → Prop} {P P' : Nat → Int32 → Int32 → Int32 → Mem → Prop} (hQ : ∀ (r : Int32) (M : Mem), Q r M → Q' r M) (hP : ∀ (lab : Nat) (v2 : Int32) (v3 : Int32) (v4 : Int32) (M : Mem), P lab v2 v3 v4 M → P' lab v2 v3 v4 M) (v2 : Int32) (v3 : Int32) (v4 : Int32) (M : Mem) (h : blk_X2_fencesAt_1 v1 Q P v2 v3 v4 M) : blk_X2_fencesAt_1 v1 Q' P' v2 v3 v4 M := by
  unfold blk_X2_fencesAt_1 at h ⊢
  exact ⟨fun c => let h := h.1 c; hQ _ _ h, fun c => let h := h.2 c; wp_X2_fenceBetween_mono (fun r1 M1 h => ⟨fun c => let h := h.1 c; hP _ _ _ _ _ h, fun c => let h := h.2 c; hP _ _ _ _ _ h⟩) h⟩
def blk_X2_fencesAt_2 (v1 : Int32) (Q : Int32 → Mem → Prop) (P : Nat → Int32 → Int32 → Int32 → Mem → Prop) (v2 : Int32) (v3 : Int32) (v4 : Int32) (M : Mem) : Prop :=
  P 1 v2 (v3 + 1) 0 M
theorem blk_X2_fencesAt_2_mono {v1 : Int32} {Q Q' : Int32 → Mem → Prop} {P P' : Nat → Int32 → Int32 → Int32 → Mem → Prop} (hQ : ∀ (r : Int32) (M : Mem), Q r M → Q' r M) (hP : ∀ (lab : Nat) (v2 : Int32) (v3 : Int32) (v4 : Int32) (M : Mem), P lab v2 v3 v4 M → P' lab v2 v3 v4 M) (v2 : Int32) (v3 : Int32) (v4 : Int32) (M : Mem) (h : blk_X2_fencesAt_2 v1 Q P v2 v3 v4 M) : blk_X2_fencesAt_2 v1 Q' P' v2 v3 v4 M := by
  unfold blk_X2_fencesAt_2 at h ⊢
  exact hP _ _ _ _ _ h
def blk_X2_fencesAt (v1 : Int32) (Q : Int32 → Mem → Prop) (P : Nat → Int32 → Int32 → Int32 → Mem → Prop) : Nat → Int32 → Int32 → Int32 → Mem → Prop := fun lab v2 v3 v4 M => match lab with
  | 0 => blk_X2_fencesAt_0 v1 Q P v2 v3 v4 M
  | 1 => blk_X2_fencesAt_1 v1 Q P v2 v3 v4 M
  | 2 => blk_X2_fencesAt_2 v1 Q P v2 v3 v4 M
  | _ => False
theorem blk_X2_fencesAt_mono {v1 : Int32} {Q Q' : Int32 → Mem → Prop} {P P' : Nat → Int32 → Int32 → Int32 → Mem → Prop} (hQ : ∀ (r : Int32) (M : Mem), Q r M → Q' r M) (hP : ∀ (lab : Nat) (v2 : Int32) (v3 : Int32) (v4 : Int32) (M : Mem), P lab v2 v3 v4 M → P' lab v2 v3 v4 M) : ∀ (lab : Nat) (v2 : Int32) (v3 : Int32) (v4 : Int32) (M : Mem), blk_X2_fencesAt v1 Q P lab v2 v3 v4 M → blk_X2_fencesAt v1 Q' P' lab v2 v3 v4 M := fun lab v2 v3 v4 M h => match lab, h with
  | 0, h => blk_X2_fencesAt_0_mono (v1 := v1) hQ hP v2 v3 v4 M h
  | 1, h => blk_X2_fencesAt_1_mono (v1 := v1) hQ hP v2 v3 v4 M h
  | 2, h => blk_X2_fencesAt_2_mono (v1 := v1) hQ hP v2 v3 v4 M h
  | _ + 3, h => False.elim h
def at_X2_fencesAt (v1 : Int32) (Q : Int32 → Mem → Prop) : Nat → Int32 → Int32 → Int32 → Mem → Prop := fun lab v2 v3 v4 M => ∀ P : Nat → Int32 → Int32 → Int32 → Mem → Prop, (∀ (lab : Nat) (v2 : Int32) (v3 : Int32) (v4 : Int32) (M : Mem), blk_X2_fencesAt v1 Q P lab v2 v3 v4 M → P lab v2 v3 v4 M) → P lab v2 v3 v4 M
theorem at_X2_fencesAt_fold {v1 : Int32} {Q : Int32 → Mem → Prop} {lab : Nat} {v2 : Int32} {v3 : Int32} {v4 : Int32} {M : Mem} (h : blk_X2_fencesAt v1 Q (at_X2_fencesAt v1 Q) lab v2 v3 v4 M) : at_X2_fencesAt v1 Q lab v2 v3 v4 M := fun P hP => hP _ _ _ _ _ (blk_X2_fencesAt_mono (fun _ _ h => h) (fun _ _ _ _ _ h => h P hP) _ _ _ _ _ h)
theorem at_X2_fencesAt_mono {v1 : Int32} {Q Q' : Int32 → Mem → Prop} (hQ : ∀ (r : Int32) (M : Mem), Q r M → Q' r M) {lab : Nat} {v2 : Int32} {v3 : Int32} {v4 : Int32} {M : Mem} (h : at_X2_fencesAt v1 Q lab v2 v3 v4 M) : at_X2_fencesAt v1 Q' lab v2 v3 v4 M := fun P hP => h P (fun lab v2 v3 v4 M hb => hP _ _ _ _ _ (blk_X2_fencesAt_mono hQ (fun _ _ _ _ _ h => h) _ _ _ _ _ hb))
def wp_X2_fencesAt (v1 : Int32) (M : Mem) (Q : Int32 → Mem → Prop) : Prop := at_X2_fencesAt v1 Q 0 0 0 0 M
theorem wp_X2_fencesAt_mono {v1 : Int32} {M : Mem} {Q Q' : Int32 → Mem → Prop} (hQ : ∀ (r : Int32) (M : Mem), Q r M → Q' r M) (h : wp_X2_fencesAt v1 M Q) : wp_X2_fencesAt v1 M Q' := at_X2_fencesAt_mono hQ h
def pcl_X2_fencesAt : Nat → Nat := fun lab => match lab with
  | 0 => 0
  | 1 => 4
  | 2 => 37
  | _ => 0
def lvl_X2_fencesAt (ad : Nat → Nat) (v1 : Int32) : Nat → Int32 → Int32 → Int32 → List (Nat × Value) := fun lab v2 v3 v4 => match lab with
  | 0 => [(0, .ref (ad 13)), (1, .int v1)]
  | 1 => [(0, .ref (ad 13)), (1, .int v1), (2, .int v2), (3, .int v3)]
  | 2 => [(0, .ref (ad 13)), (1, .int v1), (2, .int v2), (3, .int v3)]
  | _ => []
abbrev rm_X2_fencesAt : Jvm.Room := { frames := 2, cells := 0, slots := 0, locals := 36 }
set_option maxHeartbeats 4000000 in
set_option maxRecDepth 100000 in
theorem ct_X2_fencesAt (l : Launch) (D : va_G) (cy : Nat → ClassId) (ad : Nat → Nat) (B : Nat → Prop) (v1 : Int32) (M : Mem) (Q : Int32 → Mem → Prop) (h : wp_X2_fencesAt v1 M Q) : CTi l D cy (wX ad cy) B yX2_fencesAt wsX2_fencesAt rm_X2_fencesAt [.ref (ad 13), .int v1] M Q := by
  intro sz
  refine Met.ofW (cc := cX2_fencesAt) (maxL := 5) (ret := some .int) (by decide) rfl ?_
  intro p e s m args below meth c s₁ Bd hml hv
  obtain ⟨hargs, hsz, hP, hK, hD⟩ := hv
  subst hsz
  have hx := Bd.exec
  have hb := Bd.bytes
  have hr := Bd.returns
  have hts := atoms_spec (ws := wsX2_fencesAt) Bd.pre
  have hown : s.vm.findClass RX2 = some m.cls := findClass_of_methodNamed Bd.named
  have hlocks := Bd.notSynchronized
  have hC2 : xC wsX2_fencesAt 2 RX2 TX2 8 := ⟨by decide +kernel, rfl⟩
  have hC4 : xC wsX2_fencesAt 4 RX4 TX4 3 := ⟨by decide +kernel, rfl⟩
  have key : ∀ (P : Nat → Int32 → Int32 → Int32 → Mem → Prop), (∀ (lab : Nat) (v2 : Int32) (v3 : Int32) (v4 : Int32) (M : Mem), P lab v2 v3 v4 M → ∀ (H : Heap) (locs : List Loc) (ls : Array Slot), xS D (wX ad cy) B s.heap H locs M → lv_has ls 5 (lvl_X2_fencesAt ad v1 lab v2 v3 v4 ) → W p l e (headSpec wsX2_fencesAt rm_X2_fencesAt).room s m args below meth c H locs 0 0 (MQ below (va_Qi (S := Mem) Q (xB D (wX ad cy) B) (xA B s.heap.size)) args s 0 0 (xA B s.heap.size)) (F0 m (pcl_X2_fencesAt lab) ls [])) → ∀ (lab : Nat) (v2 : Int32) (v3 : Int32) (v4 : Int32) (M : Mem), blk_X2_fencesAt v1 Q P lab v2 v3 v4 M → ∀ (H : Heap) (locs : List Loc) (ls : Array Slot), xS D (wX ad cy) B s.heap H locs M → lv_has ls 5 (lvl_X2_fencesAt ad v1 lab v2 v3 v4 ) → W p l e (headSpec wsX2_fencesAt rm_X2_fencesAt).room s m args below meth c H locs 0 0 (MQ below (va_Qi (S := Mem) Q (xB D (wX ad cy) B) (xA B s.heap.size)) args s 0 0 (xA B s.heap.size)) (F0 m (pcl_X2_fencesAt lab) ls []) := by
    intro P hJ lab v2 v3 v4 M h H locs ls S hl
    match lab, h, hl with
    | 0, h, hl =>
      have hl : lv_has ls 5 [(0, .ref (ad 13)), (1, .int v1)] := hl
      have h : blk_X2_fencesAt_0 v1 Q P v2 v3 v4 M := h
      unfold blk_X2_fencesAt_0 at h
      refine W.eq (g2 := F0 m 0 ls []) rfl ?_
      refine lv_iconst (v := 0) hx hb dX2_fencesAt_0 (by decide) ?_
      refine lv_istore_n (lv' := [(2, .int 0), (0, .ref (ad 13)), (1, .int v1)]) hx hb dX2_fencesAt_1 rfl hl (by decide) rfl (fun ls hl => ?_)
      refine lv_iconst (v := 0) hx hb dX2_fencesAt_2 (by decide) ?_
      refine lv_istore_n (lv' := [(3, .int 0), (2, .int 0), (0, .ref (ad 13)), (1, .int v1)]) hx hb dX2_fencesAt_3 rfl hl (by decide) rfl (fun ls hl => ?_)
      exact hJ _ _ _ _ _ h _ _ _ S (lv_sub hl [2, 3, 1, 0] rfl)
    | 1, h, hl =>
      have hl : lv_has ls 5 [(0, .ref (ad 13)), (1, .int v1), (2, .int v2), (3, .int v3)] := hl
      have h : blk_X2_fencesAt_1 v1 Q P v2 v3 v4 M := h
      unfold blk_X2_fencesAt_1 at h
      refine W.eq (g2 := F0 m 4 ls []) rfl ?_
      refine lv_iload_n hx hb dX2_fencesAt_4 rfl (lv_at hl 3 rfl) ?_
      refine lv_aload_n hx hb dX2_fencesAt_5 rfl (lv_at hl 0 rfl) ?_
      refine x_getR hx hb hts (hC2) hown hK S 0 (by decide) xf_13_0 (index := 12) (hts _ (List.mem_of_getElem? (i := 1) rfl)) dX2_fencesAt_6 ?_
      refine x_getI hx hb hts (hC4) hown hK S 2 (by decide) xf_14_2 (index := 50) (hts _ (List.mem_of_getElem? (i := 2) rfl)) dX2_fencesAt_9 ?_
      refine lv_icmp_ge (tgt := 43) hx hb dX2_fencesAt_12 (by decide) (fun c12 => ?_) (fun c12 => ?_)
      · replace h := h.1 c12
        refine lv_iload_n hx hb dX2_fencesAt_43 rfl (lv_at hl 2 rfl) ?_
        exact x_iret hx hb hr hlocks S rfl h dX2_fencesAt_44
      · replace h := h.2 c12
        refine lv_aload_n hx hb dX2_fencesAt_15 rfl (lv_at hl 0 rfl) ?_
        refine lv_iload_n hx hb dX2_fencesAt_16 rfl (lv_at hl 1 rfl) ?_
        refine lv_iload_n hx hb dX2_fencesAt_17 rfl (lv_at hl 3 rfl) ?_
        refine x_callVi (As := [.int v1, .int v3]) ⟨hx, hb, hml, hown, hts⟩ hK S (ct_X2_fenceBetween l D cy ad B _ _ _ _ h) xo_13 rfl (cwV 2 hts gX2_fencesAt_X2_fenceBetween rfl rfl rfl (by decide +kernel) ⟨Nat.le_of_ble_eq_true rfl, Nat.le_of_ble_eq_true rfl⟩) rfl hl.1 rfl (Nat.le_of_ble_eq_true rfl) dX2_fencesAt_18 ⟨Nat.zero_le _, Nat.zero_le _⟩ (fun r1 M1 H locs h S => ?_)
        refine lv_istore (lv' := [(4, .int r1), (0, .ref (ad 13)), (1, .int v1), (2, .int v2), (3, .int v3)]) hx hb dX2_fencesAt_21 hl (by decide) rfl (fun ls hl => ?_)
        refine lv_iload hx hb dX2_fencesAt_23 (lv_at hl 0 rfl) ?_
        refine lv_bipush (v := (-9)) hx hb dX2_fencesAt_25 (by decide) ?_
        refine lv_icmp_eq (tgt := 37) hx hb dX2_fencesAt_27 (by decide) (fun c27 => ?_) (fun c27 => ?_)
        · replace h := h.1 c27
          exact hJ _ _ _ _ _ h _ _ _ S (lv_sub hl [1, 2, 3, 4] rfl)
        · replace h := h.2 c27
          refine lv_iload_n hx hb dX2_fencesAt_30 rfl (lv_at hl 3 rfl) ?_
          refine lv_iconst (v := 1) hx hb dX2_fencesAt_31 (by decide) ?_
          refine lv_iload hx hb dX2_fencesAt_32 (lv_at hl 0 rfl) ?_
          refine lv_ishl hx hb dX2_fencesAt_34 ?_
          refine lv_ior hx hb dX2_fencesAt_35 ?_
          refine lv_istore_n (lv' := [(2, .int (v2 ||| ((1 : Int32) <<< (r1 &&& 31)))), (4, .int r1), (0, .ref (ad 13)), (1, .int v1), (3, .int v3)]) hx hb dX2_fencesAt_36 rfl hl (by decide) rfl (fun ls hl => ?_)
          exact hJ _ _ _ _ _ h _ _ _ S (lv_sub hl [2, 3, 0, 4] rfl)
    | 2, h, hl =>
      have hl : lv_has ls 5 [(0, .ref (ad 13)), (1, .int v1), (2, .int v2), (3, .int v3)] := hl
      have h : blk_X2_fencesAt_2 v1 Q P v2 v3 v4 M := h
      unfold blk_X2_fencesAt_2 at h
      refine W.eq (g2 := F0 m 37 ls []) rfl ?_
      refine lv_iinc (v := (v3 + 1)) (lv' := [(3, .int (v3 + 1)), (0, .ref (ad 13)), (1, .int v1), (2, .int v2)]) hx hb dX2_fencesAt_37 hl (k := 3) rfl rfl (by decide) rfl (fun ls hl => ?_)
      refine lv_goto (tgt := 4) hx hb dX2_fencesAt_40 (by decide) ?_
      exact hJ _ _ _ _ _ h _ _ _ S (lv_sub hl [1, 2, 3, 0] rfl)
    | _ + 3, h, hl => exact h.elim
  have hl := lv_entry ([.ref (ad 13), .int v1]) (n := 5) (Nat.le_of_ble_eq_true rfl)
  subst hargs
  rw [lg_entry_eq]
  generalize (lg_sl ([.ref (ad 13), .int v1]) ++ List.replicate (5 - (lg_sl ([.ref (ad 13), .int v1])).length) Slot.unset).toArray = ls at hl ⊢
  exact h _ (key _ (fun _ _ _ _ _ h => h)) s.heap [] ls ⟨hP, hD, va_S.rf⟩ hl
/-! X7_degree -/
def wp_X7_degree (v1 : Int32) (M : Mem) (Q : Int32 → Mem → Prop) : Prop :=
  ((¬ (M.1 0 8) = 0 → wp_X2_isPost v1 M (fun r1 M1 => ((¬ r1 = 0 → wp_X2_fencesAt v1 M1 (fun r2 M2 => wp_X7_fencesNow M2 (fun r3 M3 => wp_J6_bitCount_0f7a4_X (r2 &&& r3) M3 (fun r4 M4 => Q r4 M4)))) ∧ (r1 = 0 → Q (-1) M1)))) ∧ ((M.1 0 8) = 0 → Q (-3) M))
theorem wp_X7_degree_mono {v1 : Int32} {M : Mem} {Q Q' : Int32 → Mem → Prop} (hQ : ∀ (r : Int32) (M : Mem), Q r M → Q' r M) (h : wp_X7_degree v1 M Q) : wp_X7_degree v1 M Q' := by
  unfold wp_X7_degree at h ⊢
  exact ⟨fun c => let h := h.1 c; wp_X2_isPost_mono (fun r1 M1 h => ⟨fun c => let h := h.1 c; wp_X2_fencesAt_mono (fun r2 M2 h => wp_X7_fencesNow_mono (fun r3 M3 h => wp_J6_bitCount_0f7a4_X_mono (fun r4 M4 h => hQ _ _ h) h) h) h, fun c => let h := h.2 c; hQ _ _ h⟩) h, fun c => let h := h.2 c; hQ _ _ h⟩
abbrev rm_X7_degree : Jvm.Room := { frames := 3, cells := 0, slots := 0, locals := 60 }
set_option maxHeartbeats 4000000 in
set_option maxRecDepth 100000 in
theorem ct_X7_degree (l : Launch) (D : va_G) (cy : Nat → ClassId) (ad : Nat → Nat) (B : Nat → Prop) (v1 : Int32) (M : Mem) (Q : Int32 → Mem → Prop) (h : wp_X7_degree v1 M Q) : CTi l D cy (wX ad cy) B yX7_degree wsX7_degree rm_X7_degree [.ref (ad 0), .int v1] M Q := by
  intro sz
  refine Met.ofW (cc := cX7_degree) (maxL := 2) (ret := some .int) (by decide) rfl ?_
  intro p e s m args below meth c s₁ Bd hml hv
  obtain ⟨hargs, hsz, hP, hK, hD⟩ := hv
  subst hsz
  have hx := Bd.exec
  have hb := Bd.bytes
  have hr := Bd.returns
  have hts := atoms_spec (ws := wsX7_degree) Bd.pre
  have hown : s.vm.findClass RX7 = some m.cls := findClass_of_methodNamed Bd.named
  have hlocks := Bd.notSynchronized
  have hC7 : xC wsX7_degree 7 RX7 TX7 11 := ⟨by decide +kernel, rfl⟩
  have hl := lv_entry ([.ref (ad 0), .int v1]) (n := 2) (Nat.le_of_ble_eq_true rfl)
  subst hargs
  rw [lg_entry_eq]
  generalize (lg_sl ([.ref (ad 0), .int v1]) ++ List.replicate (2 - (lg_sl ([.ref (ad 0), .int v1])).length) Slot.unset).toArray = ls at hl ⊢
  have hl : lv_has ls 2 [(0, .ref (ad 0)), (1, .int v1)] := hl
  have S : xS D (wX ad cy) B s.heap s.heap [] M := ⟨hP, hD, va_S.rf⟩
  unfold wp_X7_degree at h
  refine lv_aload_n hx hb dX7_degree_0 rfl (lv_at hl 0 rfl) ?_
  refine x_getI hx hb hts (hC7) hown hK S 8 (by decide) xf_0_8 (index := 126) (hts _ (List.mem_of_getElem? (i := 1) rfl)) dX7_degree_1 ?_
  refine lv_if_ne (tgt := 10) hx hb dX7_degree_4 (by decide) (fun c4 => ?_) (fun c4 => ?_)
  · replace h := h.1 c4
    refine lv_aload_n hx hb dX7_degree_10 rfl (lv_at hl 0 rfl) ?_
    refine x_getR hx hb hts (hC7) hown hK S 2 (by decide) xf_0_2 (index := 25) (hts _ (List.mem_of_getElem? (i := 2) rfl)) dX7_degree_11 ?_
    refine lv_iload_n hx hb dX7_degree_14 rfl (lv_at hl 1 rfl) ?_
    refine x_callVi (As := [.int v1]) ⟨hx, hb, hml, hown, hts⟩ hK S (ct_X2_isPost l D cy ad B _ _ _ h) xo_13 rfl (cwV 1 hts gX7_degree_X2_isPost rfl rfl rfl (by decide +kernel) ⟨Nat.le_of_ble_eq_true rfl, Nat.le_of_ble_eq_true rfl⟩) rfl hl.1 rfl (Nat.le_of_ble_eq_true rfl) dX7_degree_15 ⟨Nat.zero_le _, Nat.zero_le _⟩ (fun r1 M1 H locs h S => ?_)
    refine lv_if_ne (tgt := 23) hx hb dX7_degree_18 (by decide) (fun c18 => ?_) (fun c18 => ?_)
    · replace h := h.1 c18
      refine lv_aload_n hx hb dX7_degree_23 rfl (lv_at hl 0 rfl) ?_
      refine x_getR hx hb hts (hC7) hown hK S 2 (by decide) xf_0_2 (index := 25) (hts _ (List.mem_of_getElem? (i := 2) rfl)) dX7_degree_24 ?_
      refine lv_iload_n hx hb dX7_degree_27 rfl (lv_at hl 1 rfl) ?_
      refine x_callVi (As := [.int v1]) ⟨hx, hb, hml, hown, hts⟩ hK S (ct_X2_fencesAt l D cy ad B _ _ _ h) xo_13 rfl (cwV 1 hts gX7_degree_X2_fencesAt rfl rfl rfl (by decide +kernel) ⟨Nat.le_of_ble_eq_true rfl, Nat.le_of_ble_eq_true rfl⟩) rfl hl.1 rfl (Nat.le_of_ble_eq_true rfl) dX7_degree_28 ⟨Nat.zero_le _, Nat.zero_le _⟩ (fun r2 M2 H locs h S => ?_)
      refine lv_aload_n hx hb dX7_degree_31 rfl (lv_at hl 0 rfl) ?_
      refine x_callVi (As := []) ⟨hx, hb, hml, hown, hts⟩ hK S (ct_X7_fencesNow l D cy ad B _ _ h) xo_0 rfl (cwV 0 hts gX7_degree_X7_fencesNow rfl rfl rfl (by decide +kernel) ⟨Nat.le_of_ble_eq_true rfl, Nat.le_of_ble_eq_true rfl⟩) rfl hl.1 rfl (Nat.le_of_ble_eq_true rfl) dX7_degree_32 ⟨Nat.zero_le _, Nat.zero_le _⟩ (fun r3 M3 H locs h S => ?_)
      refine lv_iand hx hb dX7_degree_35 ?_
      refine x_callSi (As := [.int (r2 &&& r3)]) ⟨hx, hb, hml, hown, hts⟩ hK S (ct_J6_bitCount_0f7a4_X l D cy ad B _ _ _ h) (va_cwS 1 hts gX7_degree_J6_bitCount_0f7a4 rfl rfl rfl (by decide +kernel) ⟨Nat.le_of_ble_eq_true rfl, Nat.le_of_ble_eq_true rfl⟩) rfl hl.1 rfl (Nat.le_of_ble_eq_true rfl) dX7_degree_36 ⟨Nat.zero_le _, Nat.zero_le _⟩ (fun r4 M4 H locs h S => ?_)
      exact x_iret hx hb hr hlocks S rfl h dX7_degree_39
    · replace h := h.2 c18
      refine lv_iconst (v := (-1)) hx hb dX7_degree_21 (by decide) ?_
      exact x_iret hx hb hr hlocks S rfl h dX7_degree_22
  · replace h := h.2 c4
    refine lv_bipush (v := (-3)) hx hb dX7_degree_7 (by decide) ?_
    exact x_iret hx hb hr hlocks S rfl h dX7_degree_9
/-! X1_afterTurn -/
def wp_X1_afterTurn (v1 : Int32) (v2 : Int32) (M : Mem) (Q : Int32 → Mem → Prop) : Prop :=
  (vp_in ((v1 * 28) + v2) 7168 ∧ Q (M.1 24 ((v1 * 28) + v2).toNatClampNeg) M)
theorem wp_X1_afterTurn_mono {v1 : Int32} {v2 : Int32} {M : Mem} {Q Q' : Int32 → Mem → Prop} (hQ : ∀ (r : Int32) (M : Mem), Q r M → Q' r M) (h : wp_X1_afterTurn v1 v2 M Q) : wp_X1_afterTurn v1 v2 M Q' := by
  unfold wp_X1_afterTurn at h ⊢
  exact ⟨h.1, let h := h.2; hQ _ _ h⟩
abbrev rm_X1_afterTurn : Jvm.Room := { frames := 1, cells := 0, slots := 0, locals := 14 }
set_option maxHeartbeats 4000000 in
set_option maxRecDepth 100000 in
theorem ct_X1_afterTurn (l : Launch) (D : va_G) (cy : Nat → ClassId) (ad : Nat → Nat) (B : Nat → Prop) (v1 : Int32) (v2 : Int32) (M : Mem) (Q : Int32 → Mem → Prop) (h : wp_X1_afterTurn v1 v2 M Q) : CTi l D cy (wX ad cy) B yX1_afterTurn wsX1_afterTurn rm_X1_afterTurn [.ref (ad 22), .int v1, .int v2] M Q := by
  intro sz
  refine Met.ofW (cc := cX1_afterTurn) (maxL := 3) (ret := some .int) (by decide) rfl ?_
  intro p e s m args below meth c s₁ Bd hml hv
  obtain ⟨hargs, hsz, hP, hK, hD⟩ := hv
  subst hsz
  have hx := Bd.exec
  have hb := Bd.bytes
  have hr := Bd.returns
  have hts := atoms_spec (ws := wsX1_afterTurn) Bd.pre
  have hown : s.vm.findClass RX1 = some m.cls := findClass_of_methodNamed Bd.named
  have hlocks := Bd.notSynchronized
  have hC1 : xC wsX1_afterTurn 1 RX1 TX1 3 := ⟨by decide +kernel, rfl⟩
  have hl := lv_entry ([.ref (ad 22), .int v1, .int v2]) (n := 3) (Nat.le_of_ble_eq_true rfl)
  subst hargs
  rw [lg_entry_eq]
  generalize (lg_sl ([.ref (ad 22), .int v1, .int v2]) ++ List.replicate (3 - (lg_sl ([.ref (ad 22), .int v1, .int v2])).length) Slot.unset).toArray = ls at hl ⊢
  have hl : lv_has ls 3 [(0, .ref (ad 22)), (1, .int v1), (2, .int v2)] := hl
  have S : xS D (wX ad cy) B s.heap s.heap [] M := ⟨hP, hD, va_S.rf⟩
  unfold wp_X1_afterTurn at h
  refine lv_aload_n hx hb dX1_afterTurn_0 rfl (lv_at hl 0 rfl) ?_
  refine x_getR hx hb hts (hC1) hown hK S 2 (by decide) xf_22_2 (index := 15) (hts _ (List.mem_of_getElem? (i := 1) rfl)) dX1_afterTurn_1 ?_
  refine lv_iload_n hx hb dX1_afterTurn_4 rfl (lv_at hl 1 rfl) ?_
  refine lv_bipush (v := 28) hx hb dX1_afterTurn_5 (by decide) ?_
  refine lv_imul hx hb dX1_afterTurn_7 ?_
  refine lv_iload_n hx hb dX1_afterTurn_8 rfl (lv_at hl 2 rfl) ?_
  refine lv_iadd hx hb dX1_afterTurn_9 ?_
  refine x_iald hx hb hK S xa_24 h.1 dX1_afterTurn_10 ?_
  replace h := h.2
  exact x_iret hx hb hr hlocks S rfl h dX1_afterTurn_11
/-! X7_comingFor -/
def wp_X7_comingFor (v1 : Int32) (M : Mem) (Q : Int32 → Mem → Prop) : Prop :=
  wp_X1_afterTurn (M.1 0 9) v1 M (fun r1 M1 => ((r1 = (-9) → Q (-9) M1) ∧ (¬ r1 = (-9) → (vp_in r1 256 ∧ ((¬ (M1.1 27 r1.toNatClampNeg) = (-9) → wp_X7_fencesNow M1 (fun r2 M2 => wp_X2_fenceAcross v1 r2 M2 (fun r3 M3 => Q r3 M3))) ∧ ((M1.1 27 r1.toNatClampNeg) = (-9) → Q (-9) M1))))))
theorem wp_X7_comingFor_mono {v1 : Int32} {M : Mem} {Q Q' : Int32 → Mem → Prop} (hQ : ∀ (r : Int32) (M : Mem), Q r M → Q' r M) (h : wp_X7_comingFor v1 M Q) : wp_X7_comingFor v1 M Q' := by
  unfold wp_X7_comingFor at h ⊢
  exact wp_X1_afterTurn_mono (fun r1 M1 h => ⟨fun c => let h := h.1 c; hQ _ _ h, fun c => let h := h.2 c; ⟨h.1, let h := h.2; ⟨fun c => let h := h.1 c; wp_X7_fencesNow_mono (fun r2 M2 h => wp_X2_fenceAcross_mono (fun r3 M3 h => hQ _ _ h) h) h, fun c => let h := h.2 c; hQ _ _ h⟩⟩⟩) h
abbrev rm_X7_comingFor : Jvm.Room := { frames := 4, cells := 0, slots := 0, locals := 91 }
set_option maxHeartbeats 4000000 in
set_option maxRecDepth 100000 in
theorem ct_X7_comingFor (l : Launch) (D : va_G) (cy : Nat → ClassId) (ad : Nat → Nat) (B : Nat → Prop) (v1 : Int32) (M : Mem) (Q : Int32 → Mem → Prop) (h : wp_X7_comingFor v1 M Q) : CTi l D cy (wX ad cy) B yX7_comingFor wsX7_comingFor rm_X7_comingFor [.ref (ad 0), .int v1] M Q := by
  intro sz
  refine Met.ofW (cc := cX7_comingFor) (maxL := 3) (ret := some .int) (by decide) rfl ?_
  intro p e s m args below meth c s₁ Bd hml hv
  obtain ⟨hargs, hsz, hP, hK, hD⟩ := hv
  subst hsz
  have hx := Bd.exec
  have hb := Bd.bytes
  have hr := Bd.returns
  have hts := atoms_spec (ws := wsX7_comingFor) Bd.pre
  have hown : s.vm.findClass RX7 = some m.cls := findClass_of_methodNamed Bd.named
  have hlocks := Bd.notSynchronized
  have hC0 : xC wsX7_comingFor 0 RX0 TX0 5 := ⟨by decide +kernel, rfl⟩
  have hC7 : xC wsX7_comingFor 7 RX7 TX7 11 := ⟨by decide +kernel, rfl⟩
  have hl := lv_entry ([.ref (ad 0), .int v1]) (n := 3) (Nat.le_of_ble_eq_true rfl)
  subst hargs
  rw [lg_entry_eq]
  generalize (lg_sl ([.ref (ad 0), .int v1]) ++ List.replicate (3 - (lg_sl ([.ref (ad 0), .int v1])).length) Slot.unset).toArray = ls at hl ⊢
  have hl : lv_has ls 3 [(0, .ref (ad 0)), (1, .int v1)] := hl
  have S : xS D (wX ad cy) B s.heap s.heap [] M := ⟨hP, hD, va_S.rf⟩
  unfold wp_X7_comingFor at h
  refine lv_aload_n hx hb dX7_comingFor_0 rfl (lv_at hl 0 rfl) ?_
  refine x_getR hx hb hts (hC7) hown hK S 3 (by decide) xf_0_3 (index := 32) (hts _ (List.mem_of_getElem? (i := 1) rfl)) dX7_comingFor_1 ?_
  refine lv_aload_n hx hb dX7_comingFor_4 rfl (lv_at hl 0 rfl) ?_
  refine x_getI hx hb hts (hC7) hown hK S 9 (by decide) xf_0_9 (index := 123) (hts _ (List.mem_of_getElem? (i := 2) rfl)) dX7_comingFor_5 ?_
  refine lv_iload_n hx hb dX7_comingFor_8 rfl (lv_at hl 1 rfl) ?_
  refine x_callVi (As := [.int (M.1 0 9), .int v1]) ⟨hx, hb, hml, hown, hts⟩ hK S (ct_X1_afterTurn l D cy ad B _ _ _ _ h) xo_22 rfl (cwV 2 hts gX7_comingFor_X1_afterTurn rfl rfl rfl (by decide +kernel) ⟨Nat.le_of_ble_eq_true rfl, Nat.le_of_ble_eq_true rfl⟩) rfl hl.1 rfl (Nat.le_of_ble_eq_true rfl) dX7_comingFor_9 ⟨Nat.zero_le _, Nat.zero_le _⟩ (fun r1 M1 H locs h S => ?_)
  refine lv_istore_n (lv' := [(2, .int r1), (0, .ref (ad 0)), (1, .int v1)]) hx hb dX7_comingFor_12 rfl hl (by decide) rfl (fun ls hl => ?_)
  refine lv_iload_n hx hb dX7_comingFor_13 rfl (lv_at hl 0 rfl) ?_
  refine lv_bipush (v := (-9)) hx hb dX7_comingFor_14 (by decide) ?_
  refine lv_icmp_eq (tgt := 33) hx hb dX7_comingFor_16 (by decide) (fun c16 => ?_) (fun c16 => ?_)
  · replace h := h.1 c16
    refine lv_bipush (v := (-9)) hx hb dX7_comingFor_33 (by decide) ?_
    exact x_iret hx hb hr hlocks S rfl h dX7_comingFor_35
  · replace h := h.2 c16
    refine lv_aload_n hx hb dX7_comingFor_19 rfl (lv_at hl 1 rfl) ?_
    refine x_getR hx hb hts (hC7) hown hK S 4 (by decide) xf_0_4 (index := 39) (hts _ (List.mem_of_getElem? (i := 3) rfl)) dX7_comingFor_20 ?_
    refine x_getR hx hb hts (hC0) hown hK S 1 (by decide) xf_25_1 (index := 201) (hts _ (List.mem_of_getElem? (i := 4) rfl)) dX7_comingFor_23 ?_
    refine lv_iload_n hx hb dX7_comingFor_26 rfl (lv_at hl 0 rfl) ?_
    refine x_iald hx hb hK S xa_27 h.1 dX7_comingFor_27 ?_
    replace h := h.2
    refine lv_bipush (v := (-9)) hx hb dX7_comingFor_28 (by decide) ?_
    refine lv_icmp_ne (tgt := 36) hx hb dX7_comingFor_30 (by decide) (fun c30 => ?_) (fun c30 => ?_)
    · replace h := h.1 c30
      refine lv_aload_n hx hb dX7_comingFor_36 rfl (lv_at hl 1 rfl) ?_
      refine x_getR hx hb hts (hC7) hown hK S 2 (by decide) xf_0_2 (index := 25) (hts _ (List.mem_of_getElem? (i := 5) rfl)) dX7_comingFor_37 ?_
      refine lv_iload_n hx hb dX7_comingFor_40 rfl (lv_at hl 2 rfl) ?_
      refine lv_aload_n hx hb dX7_comingFor_41 rfl (lv_at hl 1 rfl) ?_
      refine x_callVi (As := []) ⟨hx, hb, hml, hown, hts⟩ hK S (ct_X7_fencesNow l D cy ad B _ _ h) xo_0 rfl (cwV 0 hts gX7_comingFor_X7_fencesNow rfl rfl rfl (by decide +kernel) ⟨Nat.le_of_ble_eq_true rfl, Nat.le_of_ble_eq_true rfl⟩) rfl hl.1 rfl (Nat.le_of_ble_eq_true rfl) dX7_comingFor_42 ⟨Nat.zero_le _, Nat.zero_le _⟩ (fun r2 M2 H locs h S => ?_)
      refine x_callVi (As := [.int v1, .int r2]) ⟨hx, hb, hml, hown, hts⟩ hK S (ct_X2_fenceAcross l D cy ad B _ _ _ _ h) xo_13 rfl (cwV 2 hts gX7_comingFor_X2_fenceAcross rfl rfl rfl (by decide +kernel) ⟨Nat.le_of_ble_eq_true rfl, Nat.le_of_ble_eq_true rfl⟩) rfl hl.1 rfl (Nat.le_of_ble_eq_true rfl) dX7_comingFor_45 ⟨Nat.zero_le _, Nat.zero_le _⟩ (fun r3 M3 H locs h S => ?_)
      exact x_iret hx hb hr hlocks S rfl h dX7_comingFor_48
    · replace h := h.2 c30
      refine lv_bipush (v := (-9)) hx hb dX7_comingFor_33 (by decide) ?_
      exact x_iret hx hb hr hlocks S rfl h dX7_comingFor_35
/-! X7_turns -/
def wp_X7_turns (v1 : Int32) (M : Mem) (Q : Int32 → Mem → Prop) : Prop :=
  wp_X7_fenceRefusal v1 M (fun r1 M1 => ((r1 = 0 → wp_X7_comingFor v1 M1 (fun r2 M2 => Q r2 M2)) ∧ (¬ r1 = 0 → Q r1 M1)))
theorem wp_X7_turns_mono {v1 : Int32} {M : Mem} {Q Q' : Int32 → Mem → Prop} (hQ : ∀ (r : Int32) (M : Mem), Q r M → Q' r M) (h : wp_X7_turns v1 M Q) : wp_X7_turns v1 M Q' := by
  unfold wp_X7_turns at h ⊢
  exact wp_X7_fenceRefusal_mono (fun r1 M1 h => ⟨fun c => let h := h.1 c; wp_X7_comingFor_mono (fun r2 M2 h => hQ _ _ h) h, fun c => let h := h.2 c; hQ _ _ h⟩) h
abbrev rm_X7_turns : Jvm.Room := { frames := 5, cells := 0, slots := 0, locals := 113 }
set_option maxHeartbeats 4000000 in
set_option maxRecDepth 100000 in
theorem ct_X7_turns (l : Launch) (D : va_G) (cy : Nat → ClassId) (ad : Nat → Nat) (B : Nat → Prop) (v1 : Int32) (M : Mem) (Q : Int32 → Mem → Prop) (h : wp_X7_turns v1 M Q) : CTi l D cy (wX ad cy) B yX7_turns wsX7_turns rm_X7_turns [.ref (ad 0), .int v1] M Q := by
  intro sz
  refine Met.ofW (cc := cX7_turns) (maxL := 3) (ret := some .int) (by decide) rfl ?_
  intro p e s m args below meth c s₁ Bd hml hv
  obtain ⟨hargs, hsz, hP, hK, hD⟩ := hv
  subst hsz
  have hx := Bd.exec
  have hb := Bd.bytes
  have hr := Bd.returns
  have hts := atoms_spec (ws := wsX7_turns) Bd.pre
  have hown : s.vm.findClass RX7 = some m.cls := findClass_of_methodNamed Bd.named
  have hlocks := Bd.notSynchronized
  have hl := lv_entry ([.ref (ad 0), .int v1]) (n := 3) (Nat.le_of_ble_eq_true rfl)
  subst hargs
  rw [lg_entry_eq]
  generalize (lg_sl ([.ref (ad 0), .int v1]) ++ List.replicate (3 - (lg_sl ([.ref (ad 0), .int v1])).length) Slot.unset).toArray = ls at hl ⊢
  have hl : lv_has ls 3 [(0, .ref (ad 0)), (1, .int v1)] := hl
  have S : xS D (wX ad cy) B s.heap s.heap [] M := ⟨hP, hD, va_S.rf⟩
  unfold wp_X7_turns at h
  refine lv_aload_n hx hb dX7_turns_0 rfl (lv_at hl 0 rfl) ?_
  refine lv_iload_n hx hb dX7_turns_1 rfl (lv_at hl 1 rfl) ?_
  refine x_callVi (As := [.int v1]) ⟨hx, hb, hml, hown, hts⟩ hK S (ct_X7_fenceRefusal l D cy ad B _ _ _ h) xo_0 rfl (cwV 1 hts gX7_turns_X7_fenceRefusal rfl rfl rfl (by decide +kernel) ⟨Nat.le_of_ble_eq_true rfl, Nat.le_of_ble_eq_true rfl⟩) rfl hl.1 rfl (Nat.le_of_ble_eq_true rfl) dX7_turns_2 ⟨Nat.zero_le _, Nat.zero_le _⟩ (fun r1 M1 H locs h S => ?_)
  refine lv_istore_n (lv' := [(2, .int r1), (0, .ref (ad 0)), (1, .int v1)]) hx hb dX7_turns_5 rfl hl (by decide) rfl (fun ls hl => ?_)
  refine lv_iload_n hx hb dX7_turns_6 rfl (lv_at hl 0 rfl) ?_
  refine lv_if_eq (tgt := 14) hx hb dX7_turns_7 (by decide) (fun c7 => ?_) (fun c7 => ?_)
  · replace h := h.1 c7
    refine lv_aload_n hx hb dX7_turns_14 rfl (lv_at hl 1 rfl) ?_
    refine lv_iload_n hx hb dX7_turns_15 rfl (lv_at hl 2 rfl) ?_
    refine x_callVi (As := [.int v1]) ⟨hx, hb, hml, hown, hts⟩ hK S (ct_X7_comingFor l D cy ad B _ _ _ h) xo_0 rfl (cwV 1 hts gX7_turns_X7_comingFor rfl rfl rfl (by decide +kernel) ⟨Nat.le_of_ble_eq_true rfl, Nat.le_of_ble_eq_true rfl⟩) rfl hl.1 rfl (Nat.le_of_ble_eq_true rfl) dX7_turns_16 ⟨Nat.zero_le _, Nat.zero_le _⟩ (fun r2 M2 H locs h S => ?_)
    exact x_iret hx hb hr hlocks S rfl h dX7_turns_19
  · replace h := h.2 c7
    refine lv_iload_n hx hb dX7_turns_10 rfl (lv_at hl 0 rfl) ?_
    refine lv_goto (tgt := 19) hx hb dX7_turns_11 (by decide) ?_
    exact x_iret hx hb hr hlocks S rfl h dX7_turns_19
/-! X3_keep -/
def wp_X3_keep (v1 : Int32) (M : Mem) (Q : Mem → Prop) : Prop :=
  (vp_in (M.1 31 2) 10 ∧ Q (upI (upI (upI M 32 (M.1 31 2).toNatClampNeg v1) 31 2 ((((upI M 32 (M.1 31 2).toNatClampNeg v1).1 31 2) + 1) - (((upI M 32 (M.1 31 2).toNatClampNeg v1).1 31 2) + 1) / 10 * 10)) 31 0 (if 10 < (((upI (upI M 32 (M.1 31 2).toNatClampNeg v1) 31 2 ((((upI M 32 (M.1 31 2).toNatClampNeg v1).1 31 2) + 1) - (((upI M 32 (M.1 31 2).toNatClampNeg v1).1 31 2) + 1) / 10 * 10)).1 31 0) + 1) then 10 else (((upI (upI M 32 (M.1 31 2).toNatClampNeg v1) 31 2 ((((upI M 32 (M.1 31 2).toNatClampNeg v1).1 31 2) + 1) - (((upI M 32 (M.1 31 2).toNatClampNeg v1).1 31 2) + 1) / 10 * 10)).1 31 0) + 1))))
theorem wp_X3_keep_mono {v1 : Int32} {M : Mem} {Q Q' : Mem → Prop} (hQ : ∀ M : Mem, Q M → Q' M) (h : wp_X3_keep v1 M Q) : wp_X3_keep v1 M Q' := by
  unfold wp_X3_keep at h ⊢
  exact ⟨h.1, let h := h.2; hQ _ h⟩
abbrev rm_X3_keep : Jvm.Room := { frames := 2, cells := 0, slots := 0, locals := 40 }
set_option maxHeartbeats 4000000 in
set_option maxRecDepth 100000 in
theorem ct_X3_keep (l : Launch) (D : va_G) (cy : Nat → ClassId) (ad : Nat → Nat) (B : Nat → Prop) (v1 : Int32) (M : Mem) (Q : Mem → Prop) (h : wp_X3_keep v1 M Q) : CTv l D cy (wX ad cy) B yX3_keep wsX3_keep rm_X3_keep [.ref (ad 31), .int v1] M Q := by
  intro sz
  refine Met.ofW (cc := cX3_keep) (maxL := 2) (ret := none) (by decide) rfl ?_
  intro p e s m args below meth c s₁ Bd hml hv
  obtain ⟨hargs, hsz, hP, hK, hD⟩ := hv
  subst hsz
  have hx := Bd.exec
  have hb := Bd.bytes
  have hr := Bd.returns
  have hts := atoms_spec (ws := wsX3_keep) Bd.pre
  have hown : s.vm.findClass RX3 = some m.cls := findClass_of_methodNamed Bd.named
  have hlocks := Bd.notSynchronized
  have hC3 : xC wsX3_keep 3 RX3 TX3 3 := ⟨by decide +kernel, rfl⟩
  have hl := lv_entry ([.ref (ad 31), .int v1]) (n := 2) (Nat.le_of_ble_eq_true rfl)
  subst hargs
  rw [lg_entry_eq]
  generalize (lg_sl ([.ref (ad 31), .int v1]) ++ List.replicate (2 - (lg_sl ([.ref (ad 31), .int v1])).length) Slot.unset).toArray = ls at hl ⊢
  have hl : lv_has ls 2 [(0, .ref (ad 31)), (1, .int v1)] := hl
  have S : xS D (wX ad cy) B s.heap s.heap [] M := ⟨hP, hD, va_S.rf⟩
  unfold wp_X3_keep at h
  refine lv_aload_n hx hb dX3_keep_0 rfl (lv_at hl 0 rfl) ?_
  refine x_getR hx hb hts (hC3) hown hK S 1 (by decide) xf_31_1 (index := 9) (hts _ (List.mem_of_getElem? (i := 1) rfl)) dX3_keep_1 ?_
  refine lv_aload_n hx hb dX3_keep_4 rfl (lv_at hl 0 rfl) ?_
  refine x_getI hx hb hts (hC3) hown hK S 2 (by decide) xf_31_2 (index := 19) (hts _ (List.mem_of_getElem? (i := 2) rfl)) dX3_keep_5 ?_
  refine lv_iload_n hx hb dX3_keep_8 rfl (lv_at hl 1 rfl) ?_
  refine x_iast hx hb hK S xa_32 h.1 dX3_keep_9 (fun H locs S => ?_)
  replace h := h.2
  refine lv_aload_n hx hb dX3_keep_10 rfl (lv_at hl 0 rfl) ?_
  refine lv_aload_n hx hb dX3_keep_11 rfl (lv_at hl 0 rfl) ?_
  refine x_getI hx hb hts (hC3) hown hK S 2 (by decide) xf_31_2 (index := 19) (hts _ (List.mem_of_getElem? (i := 2) rfl)) dX3_keep_12 ?_
  refine lv_iconst (v := 1) hx hb dX3_keep_15 (by decide) ?_
  refine lv_iadd hx hb dX3_keep_16 ?_
  refine lv_bipush (v := 10) hx hb dX3_keep_17 (by decide) ?_
  refine lv_irem hx hb dX3_keep_19 (by decide) ?_
  refine x_putI hx hb hts (hC3) tyX3 tyX3_ok nmX3 hown hK S 2 (by decide) xf_31_2 (index := 19) (hts _ (List.mem_of_getElem? (i := 2) rfl)) rfl rfl rfl dX3_keep_20 (fun H locs S => ?_)
  refine lv_aload_n hx hb dX3_keep_23 rfl (lv_at hl 0 rfl) ?_
  refine lv_aload_n hx hb dX3_keep_24 rfl (lv_at hl 0 rfl) ?_
  refine x_getI hx hb hts (hC3) hown hK S 0 (by decide) xf_31_0 (index := 15) (hts _ (List.mem_of_getElem? (i := 3) rfl)) dX3_keep_25 ?_
  refine lv_iconst (v := 1) hx hb dX3_keep_28 (by decide) ?_
  refine lv_iadd hx hb dX3_keep_29 ?_
  refine lv_bipush (v := 10) hx hb dX3_keep_30 (by decide) ?_
  refine va_mmin hx hb (by rw [hml]; exact hl.1.symm) hown (hts _ (List.mem_of_getElem? (i := 4) rfl)) (hts _ (List.mem_of_getElem? (i := 5) rfl)) (hts _ (List.mem_of_getElem? (i := 6) rfl)) (hts _ (List.mem_of_getElem? (i := 7) rfl)) (Nat.le_of_ble_eq_true rfl) (Nat.le_of_ble_eq_true rfl) (Nat.zero_le _) (Nat.zero_le _) dX3_keep_32 ?_
  refine x_putI hx hb hts (hC3) tyX3 tyX3_ok nmX3 hown hK S 0 (by decide) xf_31_0 (index := 15) (hts _ (List.mem_of_getElem? (i := 3) rfl)) rfl rfl rfl dX3_keep_35 (fun H locs S => ?_)
  exact x_vret hx hb hr hlocks S h dX3_keep_38
