/-! X7_at -/
def wp_X7_at (v1 : Int32) (v2 : Int32) (v3 : Int32) (M : Mem) (Q : Int64 → Mem → Prop) : Prop :=
  wp_X7_isSheet v1 M (fun r1 M1 => ((¬ r1 = 0 → wp_X7_isLane v2 M1 (fun r2 M2 => ((¬ r2 = 0 → (vp_in v1 4 ∧ (v1.toNatClampNeg = 0 → (((M2.1 2 1) = 0 → (((M2.1 2 2) = v2 → wp_X5_hasPlace_2 v3 M2 (fun r3 M3 => ((¬ r3 = 0 → (vp_in v3 20 ∧ Q (M3.2 6 v3.toNatClampNeg) M3)) ∧ (r3 = 0 → wp_X7_found (-12) M3 (fun r4 M4 => Q r4.toInt64 M4))))) ∧ (¬ (M2.1 2 2) = v2 → wp_X7_found (-13) M2 (fun r5 M5 => Q r5.toInt64 M5)))) ∧ (¬ (M2.1 2 1) = 0 → wp_X7_found (-11) M2 (fun r6 M6 => Q r6.toInt64 M6)))) ∧ (v1.toNatClampNeg = 1 → (((M2.1 3 1) = 0 → (((M2.1 3 2) = v2 → wp_X5_hasPlace_3 v3 M2 (fun r7 M7 => ((¬ r7 = 0 → (vp_in v3 20 ∧ Q (M7.2 7 v3.toNatClampNeg) M7)) ∧ (r7 = 0 → wp_X7_found (-12) M7 (fun r8 M8 => Q r8.toInt64 M8))))) ∧ (¬ (M2.1 3 2) = v2 → wp_X7_found (-13) M2 (fun r9 M9 => Q r9.toInt64 M9)))) ∧ (¬ (M2.1 3 1) = 0 → wp_X7_found (-11) M2 (fun r10 M10 => Q r10.toInt64 M10)))) ∧ (v1.toNatClampNeg = 2 → (((M2.1 4 1) = 0 → (((M2.1 4 2) = v2 → wp_X5_hasPlace_4 v3 M2 (fun r11 M11 => ((¬ r11 = 0 → (vp_in v3 20 ∧ Q (M11.2 8 v3.toNatClampNeg) M11)) ∧ (r11 = 0 → wp_X7_found (-12) M11 (fun r12 M12 => Q r12.toInt64 M12))))) ∧ (¬ (M2.1 4 2) = v2 → wp_X7_found (-13) M2 (fun r13 M13 => Q r13.toInt64 M13)))) ∧ (¬ (M2.1 4 1) = 0 → wp_X7_found (-11) M2 (fun r14 M14 => Q r14.toInt64 M14)))) ∧ (v1.toNatClampNeg = 3 → (((M2.1 5 1) = 0 → (((M2.1 5 2) = v2 → wp_X5_hasPlace_5 v3 M2 (fun r15 M15 => ((¬ r15 = 0 → (vp_in v3 20 ∧ Q (M15.2 9 v3.toNatClampNeg) M15)) ∧ (r15 = 0 → wp_X7_found (-12) M15 (fun r16 M16 => Q r16.toInt64 M16))))) ∧ (¬ (M2.1 5 2) = v2 → wp_X7_found (-13) M2 (fun r17 M17 => Q r17.toInt64 M17)))) ∧ (¬ (M2.1 5 1) = 0 → wp_X7_found (-11) M2 (fun r18 M18 => Q r18.toInt64 M18)))))) ∧ (r2 = 0 → Q (-2 : Int64) M2)))) ∧ (r1 = 0 → wp_X7_found (-12) M1 (fun r19 M19 => Q r19.toInt64 M19))))
theorem wp_X7_at_mono {v1 : Int32} {v2 : Int32} {v3 : Int32} {M : Mem} {Q Q' : Int64 → Mem → Prop} (hQ : ∀ (r : Int64) (M : Mem), Q r M → Q' r M) (h : wp_X7_at v1 v2 v3 M Q) : wp_X7_at v1 v2 v3 M Q' := by
  unfold wp_X7_at at h ⊢
  exact wp_X7_isSheet_mono (fun r1 M1 h => ⟨fun c => let h := h.1 c; wp_X7_isLane_mono (fun r2 M2 h => ⟨fun c => let h := h.1 c; ⟨h.1, let h := h.2; ⟨fun c => let h := h.1 c; ⟨fun c => let h := h.1 c; ⟨fun c => let h := h.1 c; wp_X5_hasPlace_2_mono (fun r3 M3 h => ⟨fun c => let h := h.1 c; ⟨h.1, let h := h.2; hQ _ _ h⟩, fun c => let h := h.2 c; wp_X7_found_mono (fun r4 M4 h => hQ _ _ h) h⟩) h, fun c => let h := h.2 c; wp_X7_found_mono (fun r5 M5 h => hQ _ _ h) h⟩, fun c => let h := h.2 c; wp_X7_found_mono (fun r6 M6 h => hQ _ _ h) h⟩, fun c => let h := h.2.1 c; ⟨fun c => let h := h.1 c; ⟨fun c => let h := h.1 c; wp_X5_hasPlace_3_mono (fun r7 M7 h => ⟨fun c => let h := h.1 c; ⟨h.1, let h := h.2; hQ _ _ h⟩, fun c => let h := h.2 c; wp_X7_found_mono (fun r8 M8 h => hQ _ _ h) h⟩) h, fun c => let h := h.2 c; wp_X7_found_mono (fun r9 M9 h => hQ _ _ h) h⟩, fun c => let h := h.2 c; wp_X7_found_mono (fun r10 M10 h => hQ _ _ h) h⟩, fun c => let h := h.2.2.1 c; ⟨fun c => let h := h.1 c; ⟨fun c => let h := h.1 c; wp_X5_hasPlace_4_mono (fun r11 M11 h => ⟨fun c => let h := h.1 c; ⟨h.1, let h := h.2; hQ _ _ h⟩, fun c => let h := h.2 c; wp_X7_found_mono (fun r12 M12 h => hQ _ _ h) h⟩) h, fun c => let h := h.2 c; wp_X7_found_mono (fun r13 M13 h => hQ _ _ h) h⟩, fun c => let h := h.2 c; wp_X7_found_mono (fun r14 M14 h => hQ _ _ h) h⟩, fun c => let h := h.2.2.2 c; ⟨fun c => let h := h.1 c; ⟨fun c => let h := h.1 c; wp_X5_hasPlace_5_mono (fun r15 M15 h => ⟨fun c => let h := h.1 c; ⟨h.1, let h := h.2; hQ _ _ h⟩, fun c => let h := h.2 c; wp_X7_found_mono (fun r16 M16 h => hQ _ _ h) h⟩) h, fun c => let h := h.2 c; wp_X7_found_mono (fun r17 M17 h => hQ _ _ h) h⟩, fun c => let h := h.2 c; wp_X7_found_mono (fun r18 M18 h => hQ _ _ h) h⟩⟩⟩, fun c => let h := h.2 c; hQ _ _ h⟩) h, fun c => let h := h.2 c; wp_X7_found_mono (fun r19 M19 h => hQ _ _ h) h⟩) h
abbrev rm_X7_at : Jvm.Room := { frames := 2, cells := 0, slots := 0, locals := 34 }
set_option maxHeartbeats 4000000 in
set_option maxRecDepth 100000 in
theorem ct_X7_at (l : Launch) (D : va_G) (cy : Nat → ClassId) (ad : Nat → Nat) (B : Nat → Prop) (v1 : Int32) (v2 : Int32) (v3 : Int32) (M : Mem) (Q : Int64 → Mem → Prop) (h : wp_X7_at v1 v2 v3 M Q) : CTl l D cy (wX ad cy) B yX7_at wsX7_at rm_X7_at [.ref (ad 0), .int v1, .int v2, .int v3] M Q := by
  intro sz
  refine Met.ofW (cc := cX7_at) (maxL := 5) (ret := some .long) (by decide) rfl ?_
  intro p e s m args below meth c s₁ Bd hml hv
  obtain ⟨hargs, hsz, hP, hK, hD⟩ := hv
  subst hsz
  have hx := Bd.exec
  have hb := Bd.bytes
  have hr := Bd.returns
  have hts := atoms_spec (ws := wsX7_at) Bd.pre
  have hown : s.vm.findClass RX7 = some m.cls := findClass_of_methodNamed Bd.named
  have hlocks := Bd.notSynchronized
  have hC5 : xC wsX7_at 5 RX5 TX5 4 := ⟨by decide +kernel, rfl⟩
  have hC7 : xC wsX7_at 7 RX7 TX7 11 := ⟨by decide +kernel, rfl⟩
  have hl := lv_entry ([.ref (ad 0), .int v1, .int v2, .int v3]) (n := 5) (Nat.le_of_ble_eq_true rfl)
  subst hargs
  rw [lg_entry_eq]
  generalize (lg_sl ([.ref (ad 0), .int v1, .int v2, .int v3]) ++ List.replicate (5 - (lg_sl ([.ref (ad 0), .int v1, .int v2, .int v3])).length) Slot.unset).toArray = ls at hl ⊢
  have hl : lv_has ls 5 [(0, .ref (ad 0)), (1, .int v1), (2, .int v2), (3, .int v3)] := hl
  have S : xS D (wX ad cy) B s.heap s.heap [] M := ⟨hP, hD, va_S.rf⟩
  unfold wp_X7_at at h
  refine lv_iload_n hx hb dX7_at_0 rfl (lv_at hl 1 rfl) ?_
  refine x_callSi (As := [.int v1]) ⟨hx, hb, hml, hown, hts⟩ hK S (ct_X7_isSheet l D cy ad B _ _ _ h) (va_cwS 1 hts gX7_at_X7_isSheet rfl rfl rfl (by decide +kernel) ⟨Nat.le_of_ble_eq_true rfl, Nat.le_of_ble_eq_true rfl⟩) rfl hl.1 rfl (Nat.le_of_ble_eq_true rfl) dX7_at_1 ⟨Nat.zero_le _, Nat.zero_le _⟩ (fun r1 M1 H locs h S => ?_)
  refine lv_if_ne (tgt := 15) hx hb dX7_at_4 (by decide) (fun c4 => ?_) (fun c4 => ?_)
  · replace h := h.1 c4
    refine lv_iload_n hx hb dX7_at_15 rfl (lv_at hl 2 rfl) ?_
    refine x_callSi (As := [.int v2]) ⟨hx, hb, hml, hown, hts⟩ hK S (ct_X7_isLane l D cy ad B _ _ _ h) (va_cwS 1 hts gX7_at_X7_isLane rfl rfl rfl (by decide +kernel) ⟨Nat.le_of_ble_eq_true rfl, Nat.le_of_ble_eq_true rfl⟩) rfl hl.1 rfl (Nat.le_of_ble_eq_true rfl) dX7_at_16 ⟨Nat.zero_le _, Nat.zero_le _⟩ (fun r2 M2 H locs h S => ?_)
    refine lv_if_ne (tgt := 26) hx hb dX7_at_19 (by decide) (fun c19 => ?_) (fun c19 => ?_)
    · replace h := h.1 c19
      refine lv_aload_n hx hb dX7_at_26 rfl (lv_at hl 0 rfl) ?_
      refine x_getR hx hb hts (hC7) hown hK S 0 (by decide) xf_0_0 (index := 11) (hts _ (List.mem_of_getElem? (i := 2) rfl)) dX7_at_27 ?_
      refine lv_iload_n hx hb dX7_at_30 rfl (lv_at hl 1 rfl) ?_
      have hk := x_in4 h.1
      have hin := h.1
      replace h := h.2
      rcases hk with hk | hk | hk | hk
      · replace h := h.1 hk
        refine x_aald hx hb hK S xa_1 hin hk rfl dX7_at_31 ?_
        refine lv_astore (lv' := [(4, .ref (ad 2)), (0, .ref (ad 0)), (1, .int v1), (2, .int v2), (3, .int v3)]) hx hb dX7_at_32 hl (by decide) rfl (fun ls hl => ?_)
        refine lv_aload hx hb dX7_at_34 (lv_at hl 0 rfl) ?_
        refine x_getI hx hb hts (hC5) hown hK S 1 (by decide) xf_2_1 (index := 77) (hts _ (List.mem_of_getElem? (i := 3) rfl)) dX7_at_36 ?_
        refine lv_if_eq (tgt := 50) hx hb dX7_at_39 (by decide) (fun c39 => ?_) (fun c39 => ?_)
        · replace h := h.1 c39
          refine lv_aload hx hb dX7_at_50 (lv_at hl 0 rfl) ?_
          refine x_getI hx hb hts (hC5) hown hK S 2 (by decide) xf_2_2 (index := 94) (hts _ (List.mem_of_getElem? (i := 4) rfl)) dX7_at_52 ?_
          refine lv_iload_n hx hb dX7_at_55 rfl (lv_at hl 3 rfl) ?_
          refine lv_icmp_eq (tgt := 67) hx hb dX7_at_56 (by decide) (fun c56 => ?_) (fun c56 => ?_)
          · replace h := h.1 c56
            refine lv_aload hx hb dX7_at_67 (lv_at hl 0 rfl) ?_
            refine lv_iload_n hx hb dX7_at_69 rfl (lv_at hl 4 rfl) ?_
            refine x_callVi (As := [.int v3]) ⟨hx, hb, hml, hown, hts⟩ hK S (ct_X5_hasPlace_2 l D cy ad B _ _ _ h) xo_2 rfl (cwV 1 hts gX7_at_X5_hasPlace rfl rfl rfl (by decide +kernel) ⟨Nat.le_of_ble_eq_true rfl, Nat.le_of_ble_eq_true rfl⟩) rfl hl.1 rfl (Nat.le_of_ble_eq_true rfl) dX7_at_70 ⟨Nat.zero_le _, Nat.zero_le _⟩ (fun r3 M3 H locs h S => ?_)
            refine lv_if_ne (tgt := 84) hx hb dX7_at_73 (by decide) (fun c73 => ?_) (fun c73 => ?_)
            · replace h := h.1 c73
              refine lv_aload hx hb dX7_at_84 (lv_at hl 0 rfl) ?_
              refine x_getR hx hb hts (hC5) hown hK S 0 (by decide) xf_2_0 (index := 84) (hts _ (List.mem_of_getElem? (i := 5) rfl)) dX7_at_86 ?_
              refine lv_iload_n hx hb dX7_at_89 rfl (lv_at hl 4 rfl) ?_
              refine x_lald hx hb hK S xa_6 h.1 dX7_at_90 ?_
              replace h := h.2
              exact x_lret hx hb hr hlocks S h dX7_at_91
            · replace h := h.2 c73
              refine lv_aload_n hx hb dX7_at_76 rfl (lv_at hl 1 rfl) ?_
              refine lv_bipush (v := (-12)) hx hb dX7_at_77 (by decide) ?_
              refine x_callVi (As := [.int (-12)]) ⟨hx, hb, hml, hown, hts⟩ hK S (ct_X7_found l D cy ad B _ _ _ h) xo_0 rfl (cwV 1 hts gX7_at_X7_found rfl rfl rfl (by decide +kernel) ⟨Nat.le_of_ble_eq_true rfl, Nat.le_of_ble_eq_true rfl⟩) rfl hl.1 rfl (Nat.le_of_ble_eq_true rfl) dX7_at_79 ⟨Nat.zero_le _, Nat.zero_le _⟩ (fun r4 M4 H locs h S => ?_)
              refine lv_i2l (v := r4.toInt64) hx hb dX7_at_82 rfl ?_
              exact x_lret hx hb hr hlocks S h dX7_at_83
          · replace h := h.2 c56
            refine lv_aload_n hx hb dX7_at_59 rfl (lv_at hl 1 rfl) ?_
            refine lv_bipush (v := (-13)) hx hb dX7_at_60 (by decide) ?_
            refine x_callVi (As := [.int (-13)]) ⟨hx, hb, hml, hown, hts⟩ hK S (ct_X7_found l D cy ad B _ _ _ h) xo_0 rfl (cwV 1 hts gX7_at_X7_found rfl rfl rfl (by decide +kernel) ⟨Nat.le_of_ble_eq_true rfl, Nat.le_of_ble_eq_true rfl⟩) rfl hl.1 rfl (Nat.le_of_ble_eq_true rfl) dX7_at_62 ⟨Nat.zero_le _, Nat.zero_le _⟩ (fun r5 M5 H locs h S => ?_)
            refine lv_i2l (v := r5.toInt64) hx hb dX7_at_65 rfl ?_
            exact x_lret hx hb hr hlocks S h dX7_at_66
        · replace h := h.2 c39
          refine lv_aload_n hx hb dX7_at_42 rfl (lv_at hl 1 rfl) ?_
          refine lv_bipush (v := (-11)) hx hb dX7_at_43 (by decide) ?_
          refine x_callVi (As := [.int (-11)]) ⟨hx, hb, hml, hown, hts⟩ hK S (ct_X7_found l D cy ad B _ _ _ h) xo_0 rfl (cwV 1 hts gX7_at_X7_found rfl rfl rfl (by decide +kernel) ⟨Nat.le_of_ble_eq_true rfl, Nat.le_of_ble_eq_true rfl⟩) rfl hl.1 rfl (Nat.le_of_ble_eq_true rfl) dX7_at_45 ⟨Nat.zero_le _, Nat.zero_le _⟩ (fun r6 M6 H locs h S => ?_)
          refine lv_i2l (v := r6.toInt64) hx hb dX7_at_48 rfl ?_
          exact x_lret hx hb hr hlocks S h dX7_at_49
      · replace h := h.2.1 hk
        refine x_aald hx hb hK S xa_1 hin hk rfl dX7_at_31 ?_
        refine lv_astore (lv' := [(4, .ref (ad 3)), (0, .ref (ad 0)), (1, .int v1), (2, .int v2), (3, .int v3)]) hx hb dX7_at_32 hl (by decide) rfl (fun ls hl => ?_)
        refine lv_aload hx hb dX7_at_34 (lv_at hl 0 rfl) ?_
        refine x_getI hx hb hts (hC5) hown hK S 1 (by decide) xf_3_1 (index := 77) (hts _ (List.mem_of_getElem? (i := 3) rfl)) dX7_at_36 ?_
        refine lv_if_eq (tgt := 50) hx hb dX7_at_39 (by decide) (fun c39 => ?_) (fun c39 => ?_)
        · replace h := h.1 c39
          refine lv_aload hx hb dX7_at_50 (lv_at hl 0 rfl) ?_
          refine x_getI hx hb hts (hC5) hown hK S 2 (by decide) xf_3_2 (index := 94) (hts _ (List.mem_of_getElem? (i := 4) rfl)) dX7_at_52 ?_
          refine lv_iload_n hx hb dX7_at_55 rfl (lv_at hl 3 rfl) ?_
          refine lv_icmp_eq (tgt := 67) hx hb dX7_at_56 (by decide) (fun c56 => ?_) (fun c56 => ?_)
          · replace h := h.1 c56
            refine lv_aload hx hb dX7_at_67 (lv_at hl 0 rfl) ?_
            refine lv_iload_n hx hb dX7_at_69 rfl (lv_at hl 4 rfl) ?_
            refine x_callVi (As := [.int v3]) ⟨hx, hb, hml, hown, hts⟩ hK S (ct_X5_hasPlace_3 l D cy ad B _ _ _ h) xo_3 rfl (cwV 1 hts gX7_at_X5_hasPlace rfl rfl rfl (by decide +kernel) ⟨Nat.le_of_ble_eq_true rfl, Nat.le_of_ble_eq_true rfl⟩) rfl hl.1 rfl (Nat.le_of_ble_eq_true rfl) dX7_at_70 ⟨Nat.zero_le _, Nat.zero_le _⟩ (fun r7 M7 H locs h S => ?_)
            refine lv_if_ne (tgt := 84) hx hb dX7_at_73 (by decide) (fun c73 => ?_) (fun c73 => ?_)
            · replace h := h.1 c73
              refine lv_aload hx hb dX7_at_84 (lv_at hl 0 rfl) ?_
              refine x_getR hx hb hts (hC5) hown hK S 0 (by decide) xf_3_0 (index := 84) (hts _ (List.mem_of_getElem? (i := 5) rfl)) dX7_at_86 ?_
              refine lv_iload_n hx hb dX7_at_89 rfl (lv_at hl 4 rfl) ?_
              refine x_lald hx hb hK S xa_7 h.1 dX7_at_90 ?_
              replace h := h.2
              exact x_lret hx hb hr hlocks S h dX7_at_91
            · replace h := h.2 c73
              refine lv_aload_n hx hb dX7_at_76 rfl (lv_at hl 1 rfl) ?_
              refine lv_bipush (v := (-12)) hx hb dX7_at_77 (by decide) ?_
              refine x_callVi (As := [.int (-12)]) ⟨hx, hb, hml, hown, hts⟩ hK S (ct_X7_found l D cy ad B _ _ _ h) xo_0 rfl (cwV 1 hts gX7_at_X7_found rfl rfl rfl (by decide +kernel) ⟨Nat.le_of_ble_eq_true rfl, Nat.le_of_ble_eq_true rfl⟩) rfl hl.1 rfl (Nat.le_of_ble_eq_true rfl) dX7_at_79 ⟨Nat.zero_le _, Nat.zero_le _⟩ (fun r8 M8 H locs h S => ?_)
              refine lv_i2l (v := r8.toInt64) hx hb dX7_at_82 rfl ?_
              exact x_lret hx hb hr hlocks S h dX7_at_83
          · replace h := h.2 c56
            refine lv_aload_n hx hb dX7_at_59 rfl (lv_at hl 1 rfl) ?_
            refine lv_bipush (v := (-13)) hx hb dX7_at_60 (by decide) ?_
            refine x_callVi (As := [.int (-13)]) ⟨hx, hb, hml, hown, hts⟩ hK S (ct_X7_found l D cy ad B _ _ _ h) xo_0 rfl (cwV 1 hts gX7_at_X7_found rfl rfl rfl (by decide +kernel) ⟨Nat.le_of_ble_eq_true rfl, Nat.le_of_ble_eq_true rfl⟩) rfl hl.1 rfl (Nat.le_of_ble_eq_true rfl) dX7_at_62 ⟨Nat.zero_le _, Nat.zero_le _⟩ (fun r9 M9 H locs h S => ?_)
            refine lv_i2l (v := r9.toInt64) hx hb dX7_at_65 rfl ?_
            exact x_lret hx hb hr hlocks S h dX7_at_66
        · replace h := h.2 c39
          refine lv_aload_n hx hb dX7_at_42 rfl (lv_at hl 1 rfl) ?_
          refine lv_bipush (v := (-11)) hx hb dX7_at_43 (by decide) ?_
          refine x_callVi (As := [.int (-11)]) ⟨hx, hb, hml, hown, hts⟩ hK S (ct_X7_found l D cy ad B _ _ _ h) xo_0 rfl (cwV 1 hts gX7_at_X7_found rfl rfl rfl (by decide +kernel) ⟨Nat.le_of_ble_eq_true rfl, Nat.le_of_ble_eq_true rfl⟩) rfl hl.1 rfl (Nat.le_of_ble_eq_true rfl) dX7_at_45 ⟨Nat.zero_le _, Nat.zero_le _⟩ (fun r10 M10 H locs h S => ?_)
          refine lv_i2l (v := r10.toInt64) hx hb dX7_at_48 rfl ?_
          exact x_lret hx hb hr hlocks S h dX7_at_49
      · replace h := h.2.2.1 hk
        refine x_aald hx hb hK S xa_1 hin hk rfl dX7_at_31 ?_
        refine lv_astore (lv' := [(4, .ref (ad 4)), (0, .ref (ad 0)), (1, .int v1), (2, .int v2), (3, .int v3)]) hx hb dX7_at_32 hl (by decide) rfl (fun ls hl => ?_)
        refine lv_aload hx hb dX7_at_34 (lv_at hl 0 rfl) ?_
        refine x_getI hx hb hts (hC5) hown hK S 1 (by decide) xf_4_1 (index := 77) (hts _ (List.mem_of_getElem? (i := 3) rfl)) dX7_at_36 ?_
        refine lv_if_eq (tgt := 50) hx hb dX7_at_39 (by decide) (fun c39 => ?_) (fun c39 => ?_)
        · replace h := h.1 c39
          refine lv_aload hx hb dX7_at_50 (lv_at hl 0 rfl) ?_
          refine x_getI hx hb hts (hC5) hown hK S 2 (by decide) xf_4_2 (index := 94) (hts _ (List.mem_of_getElem? (i := 4) rfl)) dX7_at_52 ?_
          refine lv_iload_n hx hb dX7_at_55 rfl (lv_at hl 3 rfl) ?_
          refine lv_icmp_eq (tgt := 67) hx hb dX7_at_56 (by decide) (fun c56 => ?_) (fun c56 => ?_)
          · replace h := h.1 c56
            refine lv_aload hx hb dX7_at_67 (lv_at hl 0 rfl) ?_
            refine lv_iload_n hx hb dX7_at_69 rfl (lv_at hl 4 rfl) ?_
            refine x_callVi (As := [.int v3]) ⟨hx, hb, hml, hown, hts⟩ hK S (ct_X5_hasPlace_4 l D cy ad B _ _ _ h) xo_4 rfl (cwV 1 hts gX7_at_X5_hasPlace rfl rfl rfl (by decide +kernel) ⟨Nat.le_of_ble_eq_true rfl, Nat.le_of_ble_eq_true rfl⟩) rfl hl.1 rfl (Nat.le_of_ble_eq_true rfl) dX7_at_70 ⟨Nat.zero_le _, Nat.zero_le _⟩ (fun r11 M11 H locs h S => ?_)
            refine lv_if_ne (tgt := 84) hx hb dX7_at_73 (by decide) (fun c73 => ?_) (fun c73 => ?_)
            · replace h := h.1 c73
              refine lv_aload hx hb dX7_at_84 (lv_at hl 0 rfl) ?_
              refine x_getR hx hb hts (hC5) hown hK S 0 (by decide) xf_4_0 (index := 84) (hts _ (List.mem_of_getElem? (i := 5) rfl)) dX7_at_86 ?_
              refine lv_iload_n hx hb dX7_at_89 rfl (lv_at hl 4 rfl) ?_
              refine x_lald hx hb hK S xa_8 h.1 dX7_at_90 ?_
              replace h := h.2
              exact x_lret hx hb hr hlocks S h dX7_at_91
            · replace h := h.2 c73
              refine lv_aload_n hx hb dX7_at_76 rfl (lv_at hl 1 rfl) ?_
              refine lv_bipush (v := (-12)) hx hb dX7_at_77 (by decide) ?_
              refine x_callVi (As := [.int (-12)]) ⟨hx, hb, hml, hown, hts⟩ hK S (ct_X7_found l D cy ad B _ _ _ h) xo_0 rfl (cwV 1 hts gX7_at_X7_found rfl rfl rfl (by decide +kernel) ⟨Nat.le_of_ble_eq_true rfl, Nat.le_of_ble_eq_true rfl⟩) rfl hl.1 rfl (Nat.le_of_ble_eq_true rfl) dX7_at_79 ⟨Nat.zero_le _, Nat.zero_le _⟩ (fun r12 M12 H locs h S => ?_)
              refine lv_i2l (v := r12.toInt64) hx hb dX7_at_82 rfl ?_
              exact x_lret hx hb hr hlocks S h dX7_at_83
          · replace h := h.2 c56
            refine lv_aload_n hx hb dX7_at_59 rfl (lv_at hl 1 rfl) ?_
            refine lv_bipush (v := (-13)) hx hb dX7_at_60 (by decide) ?_
            refine x_callVi (As := [.int (-13)]) ⟨hx, hb, hml, hown, hts⟩ hK S (ct_X7_found l D cy ad B _ _ _ h) xo_0 rfl (cwV 1 hts gX7_at_X7_found rfl rfl rfl (by decide +kernel) ⟨Nat.le_of_ble_eq_true rfl, Nat.le_of_ble_eq_true rfl⟩) rfl hl.1 rfl (Nat.le_of_ble_eq_true rfl) dX7_at_62 ⟨Nat.zero_le _, Nat.zero_le _⟩ (fun r13 M13 H locs h S => ?_)
            refine lv_i2l (v := r13.toInt64) hx hb dX7_at_65 rfl ?_
            exact x_lret hx hb hr hlocks S h dX7_at_66
        · replace h := h.2 c39
          refine lv_aload_n hx hb dX7_at_42 rfl (lv_at hl 1 rfl) ?_
          refine lv_bipush (v := (-11)) hx hb dX7_at_43 (by decide) ?_
          refine x_callVi (As := [.int (-11)]) ⟨hx, hb, hml, hown, hts⟩ hK S (ct_X7_found l D cy ad B _ _ _ h) xo_0 rfl (cwV 1 hts gX7_at_X7_found rfl rfl rfl (by decide +kernel) ⟨Nat.le_of_ble_eq_true rfl, Nat.le_of_ble_eq_true rfl⟩) rfl hl.1 rfl (Nat.le_of_ble_eq_true rfl) dX7_at_45 ⟨Nat.zero_le _, Nat.zero_le _⟩ (fun r14 M14 H locs h S => ?_)
          refine lv_i2l (v := r14.toInt64) hx hb dX7_at_48 rfl ?_
          exact x_lret hx hb hr hlocks S h dX7_at_49
      · replace h := h.2.2.2 hk
        refine x_aald hx hb hK S xa_1 hin hk rfl dX7_at_31 ?_
        refine lv_astore (lv' := [(4, .ref (ad 5)), (0, .ref (ad 0)), (1, .int v1), (2, .int v2), (3, .int v3)]) hx hb dX7_at_32 hl (by decide) rfl (fun ls hl => ?_)
        refine lv_aload hx hb dX7_at_34 (lv_at hl 0 rfl) ?_
        refine x_getI hx hb hts (hC5) hown hK S 1 (by decide) xf_5_1 (index := 77) (hts _ (List.mem_of_getElem? (i := 3) rfl)) dX7_at_36 ?_
        refine lv_if_eq (tgt := 50) hx hb dX7_at_39 (by decide) (fun c39 => ?_) (fun c39 => ?_)
        · replace h := h.1 c39
          refine lv_aload hx hb dX7_at_50 (lv_at hl 0 rfl) ?_
          refine x_getI hx hb hts (hC5) hown hK S 2 (by decide) xf_5_2 (index := 94) (hts _ (List.mem_of_getElem? (i := 4) rfl)) dX7_at_52 ?_
          refine lv_iload_n hx hb dX7_at_55 rfl (lv_at hl 3 rfl) ?_
          refine lv_icmp_eq (tgt := 67) hx hb dX7_at_56 (by decide) (fun c56 => ?_) (fun c56 => ?_)
          · replace h := h.1 c56
            refine lv_aload hx hb dX7_at_67 (lv_at hl 0 rfl) ?_
            refine lv_iload_n hx hb dX7_at_69 rfl (lv_at hl 4 rfl) ?_
            refine x_callVi (As := [.int v3]) ⟨hx, hb, hml, hown, hts⟩ hK S (ct_X5_hasPlace_5 l D cy ad B _ _ _ h) xo_5 rfl (cwV 1 hts gX7_at_X5_hasPlace rfl rfl rfl (by decide +kernel) ⟨Nat.le_of_ble_eq_true rfl, Nat.le_of_ble_eq_true rfl⟩) rfl hl.1 rfl (Nat.le_of_ble_eq_true rfl) dX7_at_70 ⟨Nat.zero_le _, Nat.zero_le _⟩ (fun r15 M15 H locs h S => ?_)
            refine lv_if_ne (tgt := 84) hx hb dX7_at_73 (by decide) (fun c73 => ?_) (fun c73 => ?_)
            · replace h := h.1 c73
              refine lv_aload hx hb dX7_at_84 (lv_at hl 0 rfl) ?_
              refine x_getR hx hb hts (hC5) hown hK S 0 (by decide) xf_5_0 (index := 84) (hts _ (List.mem_of_getElem? (i := 5) rfl)) dX7_at_86 ?_
              refine lv_iload_n hx hb dX7_at_89 rfl (lv_at hl 4 rfl) ?_
              refine x_lald hx hb hK S xa_9 h.1 dX7_at_90 ?_
              replace h := h.2
              exact x_lret hx hb hr hlocks S h dX7_at_91
            · replace h := h.2 c73
              refine lv_aload_n hx hb dX7_at_76 rfl (lv_at hl 1 rfl) ?_
              refine lv_bipush (v := (-12)) hx hb dX7_at_77 (by decide) ?_
              refine x_callVi (As := [.int (-12)]) ⟨hx, hb, hml, hown, hts⟩ hK S (ct_X7_found l D cy ad B _ _ _ h) xo_0 rfl (cwV 1 hts gX7_at_X7_found rfl rfl rfl (by decide +kernel) ⟨Nat.le_of_ble_eq_true rfl, Nat.le_of_ble_eq_true rfl⟩) rfl hl.1 rfl (Nat.le_of_ble_eq_true rfl) dX7_at_79 ⟨Nat.zero_le _, Nat.zero_le _⟩ (fun r16 M16 H locs h S => ?_)
              refine lv_i2l (v := r16.toInt64) hx hb dX7_at_82 rfl ?_
              exact x_lret hx hb hr hlocks S h dX7_at_83
          · replace h := h.2 c56
            refine lv_aload_n hx hb dX7_at_59 rfl (lv_at hl 1 rfl) ?_
            refine lv_bipush (v := (-13)) hx hb dX7_at_60 (by decide) ?_
            refine x_callVi (As := [.int (-13)]) ⟨hx, hb, hml, hown, hts⟩ hK S (ct_X7_found l D cy ad B _ _ _ h) xo_0 rfl (cwV 1 hts gX7_at_X7_found rfl rfl rfl (by decide +kernel) ⟨Nat.le_of_ble_eq_true rfl, Nat.le_of_ble_eq_true rfl⟩) rfl hl.1 rfl (Nat.le_of_ble_eq_true rfl) dX7_at_62 ⟨Nat.zero_le _, Nat.zero_le _⟩ (fun r17 M17 H locs h S => ?_)
            refine lv_i2l (v := r17.toInt64) hx hb dX7_at_65 rfl ?_
            exact x_lret hx hb hr hlocks S h dX7_at_66
        · replace h := h.2 c39
          refine lv_aload_n hx hb dX7_at_42 rfl (lv_at hl 1 rfl) ?_
          refine lv_bipush (v := (-11)) hx hb dX7_at_43 (by decide) ?_
          refine x_callVi (As := [.int (-11)]) ⟨hx, hb, hml, hown, hts⟩ hK S (ct_X7_found l D cy ad B _ _ _ h) xo_0 rfl (cwV 1 hts gX7_at_X7_found rfl rfl rfl (by decide +kernel) ⟨Nat.le_of_ble_eq_true rfl, Nat.le_of_ble_eq_true rfl⟩) rfl hl.1 rfl (Nat.le_of_ble_eq_true rfl) dX7_at_45 ⟨Nat.zero_le _, Nat.zero_le _⟩ (fun r18 M18 H locs h S => ?_)
          refine lv_i2l (v := r18.toInt64) hx hb dX7_at_48 rfl ?_
          exact x_lret hx hb hr hlocks S h dX7_at_49
    · replace h := h.2 c19
      refine lv_ldc2 (v := (-2)) hx hb hown (hts _ (List.mem_of_getElem? (i := 1) rfl)) dX7_at_22 ?_
      exact x_lret hx hb hr hlocks S h dX7_at_25
  · replace h := h.2 c4
    refine lv_aload_n hx hb dX7_at_7 rfl (lv_at hl 0 rfl) ?_
    refine lv_bipush (v := (-12)) hx hb dX7_at_8 (by decide) ?_
    refine x_callVi (As := [.int (-12)]) ⟨hx, hb, hml, hown, hts⟩ hK S (ct_X7_found l D cy ad B _ _ _ h) xo_0 rfl (cwV 1 hts gX7_at_X7_found rfl rfl rfl (by decide +kernel) ⟨Nat.le_of_ble_eq_true rfl, Nat.le_of_ble_eq_true rfl⟩) rfl hl.1 rfl (Nat.le_of_ble_eq_true rfl) dX7_at_10 ⟨Nat.zero_le _, Nat.zero_le _⟩ (fun r19 M19 H locs h S => ?_)
    refine lv_i2l (v := r19.toInt64) hx hb dX7_at_13 rfl ?_
    exact x_lret hx hb hr hlocks S h dX7_at_14
/-! X7_isPlace -/
def wp_X7_isPlace (v0 : Int64) (M : Mem) (Q : Int32 → Mem → Prop) : Prop :=
  (((lg_cmp v0 (0 : Int64)) < 0 → Q 0 M) ∧ (¬ (lg_cmp v0 (0 : Int64)) < 0 → ((0 < (lg_cmp v0 (60 : Int64)) → Q 0 M) ∧ (¬ 0 < (lg_cmp v0 (60 : Int64)) → Q 1 M))))
theorem wp_X7_isPlace_mono {v0 : Int64} {M : Mem} {Q Q' : Int32 → Mem → Prop} (hQ : ∀ (r : Int32) (M : Mem), Q r M → Q' r M) (h : wp_X7_isPlace v0 M Q) : wp_X7_isPlace v0 M Q' := by
  unfold wp_X7_isPlace at h ⊢
  exact ⟨fun c => let h := h.1 c; hQ _ _ h, fun c => let h := h.2 c; ⟨fun c => let h := h.1 c; hQ _ _ h, fun c => let h := h.2 c; hQ _ _ h⟩⟩
abbrev rm_X7_isPlace : Jvm.Room := { frames := 1, cells := 0, slots := 0, locals := 13 }
set_option maxHeartbeats 4000000 in
set_option maxRecDepth 100000 in
theorem ct_X7_isPlace (l : Launch) (D : va_G) (cy : Nat → ClassId) (ad : Nat → Nat) (B : Nat → Prop) (v0 : Int64) (M : Mem) (Q : Int32 → Mem → Prop) (h : wp_X7_isPlace v0 M Q) : CTi l D cy (wX ad cy) B yX7_isPlace wsX7_isPlace rm_X7_isPlace [.long v0] M Q := by
  intro sz
  refine Met.ofW (cc := cX7_isPlace) (maxL := 2) (ret := some .boolean) (by decide) rfl ?_
  intro p e s m args below meth c s₁ Bd hml hv
  obtain ⟨hargs, hsz, hP, hK, hD⟩ := hv
  subst hsz
  have hx := Bd.exec
  have hb := Bd.bytes
  have hr := Bd.returns
  have hts := atoms_spec (ws := wsX7_isPlace) Bd.pre
  have hown : s.vm.findClass RX7 = some m.cls := findClass_of_methodNamed Bd.named
  have hlocks := Bd.notSynchronized
  have hl := lv_entry ([.long v0]) (n := 2) (Nat.le_of_ble_eq_true rfl)
  subst hargs
  rw [lg_entry_eq]
  generalize (lg_sl ([.long v0]) ++ List.replicate (2 - (lg_sl ([.long v0])).length) Slot.unset).toArray = ls at hl ⊢
  have hl : lv_has ls 2 [(0, .long v0)] := hl
  have S : xS D (wX ad cy) B s.heap s.heap [] M := ⟨hP, hD, va_S.rf⟩
  unfold wp_X7_isPlace at h
  refine lv_lload_n hx hb dX7_isPlace_0 rfl (lv_at hl 0 rfl) ?_
  refine lv_lconst (v := 0) hx hb dX7_isPlace_1 rfl ?_
  refine W.lcmp hx hb dX7_isPlace_2 ?_
  refine lv_if_lt (tgt := 18) hx hb dX7_isPlace_3 (by decide) (fun c3 => ?_) (fun c3 => ?_)
  · replace h := h.1 c3
    refine lv_iconst (v := 0) hx hb dX7_isPlace_18 (by decide) ?_
    exact x_iret hx hb hr hlocks S rfl h dX7_isPlace_19
  · replace h := h.2 c3
    refine lv_lload_n hx hb dX7_isPlace_6 rfl (lv_at hl 0 rfl) ?_
    refine lv_ldc2 (v := 60) hx hb hown (hts _ (List.mem_of_getElem? (i := 1) rfl)) dX7_isPlace_7 ?_
    refine W.lcmp hx hb dX7_isPlace_10 ?_
    refine lv_if_gt (tgt := 18) hx hb dX7_isPlace_11 (by decide) (fun c11 => ?_) (fun c11 => ?_)
    · replace h := h.1 c11
      refine lv_iconst (v := 0) hx hb dX7_isPlace_18 (by decide) ?_
      exact x_iret hx hb hr hlocks S rfl h dX7_isPlace_19
    · replace h := h.2 c11
      refine lv_iconst (v := 1) hx hb dX7_isPlace_14 (by decide) ?_
      refine lv_goto (tgt := 19) hx hb dX7_isPlace_15 (by decide) ?_
      exact x_iret hx hb hr hlocks S rfl h dX7_isPlace_19
/-! X4_standsAt -/
def blk_X4_standsAt_0 (v1 : Int32) (v2 : Int32) (Q : Int32 → Mem → Prop) (P : Nat → Int32 → Mem → Prop) (v3 : Int32) (M : Mem) : Prop :=
  P 1 0 M
theorem blk_X4_standsAt_0_mono {v1 : Int32} {v2 : Int32} {Q Q' : Int32 → Mem → Prop} {P P' : Nat → Int32 → Mem → Prop} (hQ : ∀ (r : Int32) (M : Mem), Q r M → Q' r M) (hP : ∀ (lab : Nat) (v3 : Int32) (M : Mem), P lab v3 M → P' lab v3 M) (v3 : Int32) (M : Mem) (h : blk_X4_standsAt_0 v1 v2 Q P v3 M) : blk_X4_standsAt_0 v1 v2 Q' P' v3 M := by
  unfold blk_X4_standsAt_0 at h ⊢
  exact hP _ _ _ h
def blk_X4_standsAt_1 (v1 : Int32) (v2 : Int32) (Q : Int32 → Mem → Prop) (P : Nat → Int32 → Mem → Prop) (v3 : Int32) (M : Mem) : Prop :=
  (((M.1 10 2) ≤ v3 → Q 0 M) ∧ (¬ (M.1 10 2) ≤ v3 → (vp_in v3 8 ∧ ((¬ (M.1 11 v3.toNatClampNeg) = v1 → P 2 v3 M) ∧ ((M.1 11 v3.toNatClampNeg) = v1 → (vp_in v3 8 ∧ ((¬ (M.1 12 v3.toNatClampNeg) = v2 → P 2 v3 M) ∧ ((M.1 12 v3.toNatClampNeg) = v2 → Q 1 M))))))))
theorem blk_X4_standsAt_1_mono {v1 : Int32} {v2 : Int32} {Q Q' : Int32 → Mem → Prop} {P P' : Nat → Int32 → Mem → Prop} (hQ : ∀ (r : Int32) (M : Mem), Q r M → Q' r M) (hP : ∀ (lab : Nat) (v3 : Int32) (M : Mem), P lab v3 M → P' lab v3 M) (v3 : Int32) (M : Mem) (h : blk_X4_standsAt_1 v1 v2 Q P v3 M) : blk_X4_standsAt_1 v1 v2 Q' P' v3 M := by
  unfold blk_X4_standsAt_1 at h ⊢
  exact ⟨fun c => let h := h.1 c; hQ _ _ h, fun c => let h := h.2 c; ⟨h.1, let h := h.2; ⟨fun c => let h := h.1 c; hP _ _ _ h, fun c => let h := h.2 c; ⟨h.1, let h := h.2; ⟨fun c => let h := h.1 c; hP _ _ _ h, fun c => let h := h.2 c; hQ _ _ h⟩⟩⟩⟩⟩
def blk_X4_standsAt_2 (v1 : Int32) (v2 : Int32) (Q : Int32 → Mem → Prop) (P : Nat → Int32 → Mem → Prop) (v3 : Int32) (M : Mem) : Prop :=
  P 1 (v3 + 1) M
theorem blk_X4_standsAt_2_mono {v1 : Int32} {v2 : Int32} {Q Q' : Int32 → Mem → Prop} {P P' : Nat → Int32 → Mem → Prop} (hQ : ∀ (r : Int32) (M : Mem), Q r M → Q' r M) (hP : ∀ (lab : Nat) (v3 : Int32) (M : Mem), P lab v3 M → P' lab v3 M) (v3 : Int32) (M : Mem) (h : blk_X4_standsAt_2 v1 v2 Q P v3 M) : blk_X4_standsAt_2 v1 v2 Q' P' v3 M := by
  unfold blk_X4_standsAt_2 at h ⊢
  exact hP _ _ _ h
def blk_X4_standsAt (v1 : Int32) (v2 : Int32) (Q : Int32 → Mem → Prop) (P : Nat → Int32 → Mem → Prop) : Nat → Int32 → Mem → Prop := fun lab v3 M => match lab with
  | 0 => blk_X4_standsAt_0 v1 v2 Q P v3 M
  | 1 => blk_X4_standsAt_1 v1 v2 Q P v3 M
  | 2 => blk_X4_standsAt_2 v1 v2 Q P v3 M
  | _ => False
theorem blk_X4_standsAt_mono {v1 : Int32} {v2 : Int32} {Q Q' : Int32 → Mem → Prop} {P P' : Nat → Int32 → Mem → Prop} (hQ : ∀ (r : Int32) (M : Mem), Q r M → Q' r M) (hP : ∀ (lab : Nat) (v3 : Int32) (M : Mem), P lab v3 M → P' lab v3 M) : ∀ (lab : Nat) (v3 : Int32) (M : Mem), blk_X4_standsAt v1 v2 Q P lab v3 M → blk_X4_standsAt v1 v2 Q' P' lab v3 M := fun lab v3 M h => match lab, h with
  | 0, h => blk_X4_standsAt_0_mono (v1 := v1) (v2 := v2) hQ hP v3 M h
  | 1, h => blk_X4_standsAt_1_mono (v1 := v1) (v2 := v2) hQ hP v3 M h
  | 2, h => blk_X4_standsAt_2_mono (v1 := v1) (v2 := v2) hQ hP v3 M h
  | _ + 3, h => False.elim h
def at_X4_standsAt (v1 : Int32) (v2 : Int32) (Q : Int32 → Mem → Prop) : Nat → Int32 → Mem → Prop := fun lab v3 M => ∀ P : Nat → Int32 → Mem → Prop, (∀ (lab : Nat) (v3 : Int32) (M : Mem), blk_X4_standsAt v1 v2 Q P lab v3 M → P lab v3 M) → P lab v3 M
theorem at_X4_standsAt_fold {v1 : Int32} {v2 : Int32} {Q : Int32 → Mem → Prop} {lab : Nat} {v3 : Int32} {M : Mem} (h : blk_X4_standsAt v1 v2 Q (at_X4_standsAt v1 v2 Q) lab v3 M) : at_X4_standsAt v1 v2 Q lab v3 M := fun P hP => hP _ _ _ (blk_X4_standsAt_mono (fun _ _ h => h) (fun _ _ _ h => h P hP) _ _ _ h)
theorem at_X4_standsAt_mono {v1 : Int32} {v2 : Int32} {Q Q' : Int32 → Mem → Prop} (hQ : ∀ (r : Int32) (M : Mem), Q r M → Q' r M) {lab : Nat} {v3 : Int32} {M : Mem} (h : at_X4_standsAt v1 v2 Q lab v3 M) : at_X4_standsAt v1 v2 Q' lab v3 M := fun P hP => h P (fun lab v3 M hb => hP _ _ _ (blk_X4_standsAt_mono hQ (fun _ _ _ h => h) _ _ _ hb))
def wp_X4_standsAt (v1 : Int32) (v2 : Int32) (M : Mem) (Q : Int32 → Mem → Prop) : Prop := at_X4_standsAt v1 v2 Q 0 0 M
theorem wp_X4_standsAt_mono {v1 : Int32} {v2 : Int32} {M : Mem} {Q Q' : Int32 → Mem → Prop} (hQ : ∀ (r : Int32) (M : Mem), Q r M → Q' r M) (h : wp_X4_standsAt v1 v2 M Q) : wp_X4_standsAt v1 v2 M Q' := at_X4_standsAt_mono hQ h
def pcl_X4_standsAt : Nat → Nat := fun lab => match lab with
  | 0 => 0
  | 1 => 2
  | 2 => 32
  | _ => 0
def lvl_X4_standsAt (ad : Nat → Nat) (v1 : Int32) (v2 : Int32) : Nat → Int32 → List (Nat × Value) := fun lab v3 => match lab with
  | 0 => [(0, .ref (ad 10)), (1, .int v1), (2, .int v2)]
  | 1 => [(0, .ref (ad 10)), (1, .int v1), (2, .int v2), (3, .int v3)]
  | 2 => [(0, .ref (ad 10)), (1, .int v1), (2, .int v2), (3, .int v3)]
  | _ => []
abbrev rm_X4_standsAt : Jvm.Room := { frames := 1, cells := 0, slots := 0, locals := 15 }
set_option maxHeartbeats 4000000 in
set_option maxRecDepth 100000 in
theorem ct_X4_standsAt (l : Launch) (D : va_G) (cy : Nat → ClassId) (ad : Nat → Nat) (B : Nat → Prop) (v1 : Int32) (v2 : Int32) (M : Mem) (Q : Int32 → Mem → Prop) (h : wp_X4_standsAt v1 v2 M Q) : CTi l D cy (wX ad cy) B yX4_standsAt wsX4_standsAt rm_X4_standsAt [.ref (ad 10), .int v1, .int v2] M Q := by
  intro sz
  refine Met.ofW (cc := cX4_standsAt) (maxL := 4) (ret := some .boolean) (by decide) rfl ?_
  intro p e s m args below meth c s₁ Bd hml hv
  obtain ⟨hargs, hsz, hP, hK, hD⟩ := hv
  subst hsz
  have hx := Bd.exec
  have hb := Bd.bytes
  have hr := Bd.returns
  have hts := atoms_spec (ws := wsX4_standsAt) Bd.pre
  have hown : s.vm.findClass RX4 = some m.cls := findClass_of_methodNamed Bd.named
  have hlocks := Bd.notSynchronized
  have hC4 : xC wsX4_standsAt 4 RX4 TX4 3 := ⟨by decide +kernel, rfl⟩
  have key : ∀ (P : Nat → Int32 → Mem → Prop), (∀ (lab : Nat) (v3 : Int32) (M : Mem), P lab v3 M → ∀ (H : Heap) (locs : List Loc) (ls : Array Slot), xS D (wX ad cy) B s.heap H locs M → lv_has ls 4 (lvl_X4_standsAt ad v1 v2 lab v3 ) → W p l e (headSpec wsX4_standsAt rm_X4_standsAt).room s m args below meth c H locs 0 0 (MQ below (va_Qi (S := Mem) Q (xB D (wX ad cy) B) (xA B s.heap.size)) args s 0 0 (xA B s.heap.size)) (F0 m (pcl_X4_standsAt lab) ls [])) → ∀ (lab : Nat) (v3 : Int32) (M : Mem), blk_X4_standsAt v1 v2 Q P lab v3 M → ∀ (H : Heap) (locs : List Loc) (ls : Array Slot), xS D (wX ad cy) B s.heap H locs M → lv_has ls 4 (lvl_X4_standsAt ad v1 v2 lab v3 ) → W p l e (headSpec wsX4_standsAt rm_X4_standsAt).room s m args below meth c H locs 0 0 (MQ below (va_Qi (S := Mem) Q (xB D (wX ad cy) B) (xA B s.heap.size)) args s 0 0 (xA B s.heap.size)) (F0 m (pcl_X4_standsAt lab) ls []) := by
    intro P hJ lab v3 M h H locs ls S hl
    match lab, h, hl with
    | 0, h, hl =>
      have hl : lv_has ls 4 [(0, .ref (ad 10)), (1, .int v1), (2, .int v2)] := hl
      have h : blk_X4_standsAt_0 v1 v2 Q P v3 M := h
      unfold blk_X4_standsAt_0 at h
      refine W.eq (g2 := F0 m 0 ls []) rfl ?_
      refine lv_iconst (v := 0) hx hb dX4_standsAt_0 (by decide) ?_
      refine lv_istore_n (lv' := [(3, .int 0), (0, .ref (ad 10)), (1, .int v1), (2, .int v2)]) hx hb dX4_standsAt_1 rfl hl (by decide) rfl (fun ls hl => ?_)
      exact hJ _ _ _ h _ _ _ S (lv_sub hl [1, 2, 3, 0] rfl)
    | 1, h, hl =>
      have hl : lv_has ls 4 [(0, .ref (ad 10)), (1, .int v1), (2, .int v2), (3, .int v3)] := hl
      have h : blk_X4_standsAt_1 v1 v2 Q P v3 M := h
      unfold blk_X4_standsAt_1 at h
      refine W.eq (g2 := F0 m 2 ls []) rfl ?_
      refine lv_iload_n hx hb dX4_standsAt_2 rfl (lv_at hl 3 rfl) ?_
      refine lv_aload_n hx hb dX4_standsAt_3 rfl (lv_at hl 0 rfl) ?_
      refine x_getI hx hb hts (hC4) hown hK S 2 (by decide) xf_10_2 (index := 18) (hts _ (List.mem_of_getElem? (i := 1) rfl)) dX4_standsAt_4 ?_
      refine lv_icmp_ge (tgt := 38) hx hb dX4_standsAt_7 (by decide) (fun c7 => ?_) (fun c7 => ?_)
      · replace h := h.1 c7
        refine lv_iconst (v := 0) hx hb dX4_standsAt_38 (by decide) ?_
        exact x_iret hx hb hr hlocks S rfl h dX4_standsAt_39
      · replace h := h.2 c7
        refine lv_aload_n hx hb dX4_standsAt_10 rfl (lv_at hl 0 rfl) ?_
        refine x_getR hx hb hts (hC4) hown hK S 0 (by decide) xf_10_0 (index := 9) (hts _ (List.mem_of_getElem? (i := 2) rfl)) dX4_standsAt_11 ?_
        refine lv_iload_n hx hb dX4_standsAt_14 rfl (lv_at hl 3 rfl) ?_
        refine x_iald hx hb hK S xa_11 h.1 dX4_standsAt_15 ?_
        replace h := h.2
        refine lv_iload_n hx hb dX4_standsAt_16 rfl (lv_at hl 1 rfl) ?_
        refine lv_icmp_ne (tgt := 32) hx hb dX4_standsAt_17 (by decide) (fun c17 => ?_) (fun c17 => ?_)
        · replace h := h.1 c17
          exact hJ _ _ _ h _ _ _ S (lv_sub hl [0, 1, 2, 3] rfl)
        · replace h := h.2 c17
          refine lv_aload_n hx hb dX4_standsAt_20 rfl (lv_at hl 0 rfl) ?_
          refine x_getR hx hb hts (hC4) hown hK S 1 (by decide) xf_10_1 (index := 15) (hts _ (List.mem_of_getElem? (i := 3) rfl)) dX4_standsAt_21 ?_
          refine lv_iload_n hx hb dX4_standsAt_24 rfl (lv_at hl 3 rfl) ?_
          refine x_iald hx hb hK S xa_12 h.1 dX4_standsAt_25 ?_
          replace h := h.2
          refine lv_iload_n hx hb dX4_standsAt_26 rfl (lv_at hl 2 rfl) ?_
          refine lv_icmp_ne (tgt := 32) hx hb dX4_standsAt_27 (by decide) (fun c27 => ?_) (fun c27 => ?_)
          · replace h := h.1 c27
            exact hJ _ _ _ h _ _ _ S (lv_sub hl [0, 1, 2, 3] rfl)
          · replace h := h.2 c27
            refine lv_iconst (v := 1) hx hb dX4_standsAt_30 (by decide) ?_
            exact x_iret hx hb hr hlocks S rfl h dX4_standsAt_31
    | 2, h, hl =>
      have hl : lv_has ls 4 [(0, .ref (ad 10)), (1, .int v1), (2, .int v2), (3, .int v3)] := hl
      have h : blk_X4_standsAt_2 v1 v2 Q P v3 M := h
      unfold blk_X4_standsAt_2 at h
      refine W.eq (g2 := F0 m 32 ls []) rfl ?_
      refine lv_iinc (v := (v3 + 1)) (lv' := [(3, .int (v3 + 1)), (0, .ref (ad 10)), (1, .int v1), (2, .int v2)]) hx hb dX4_standsAt_32 hl (k := 3) rfl rfl (by decide) rfl (fun ls hl => ?_)
      refine lv_goto (tgt := 2) hx hb dX4_standsAt_35 (by decide) ?_
      exact hJ _ _ _ h _ _ _ S (lv_sub hl [1, 2, 3, 0] rfl)
    | _ + 3, h, hl => exact h.elim
  have hl := lv_entry ([.ref (ad 10), .int v1, .int v2]) (n := 4) (Nat.le_of_ble_eq_true rfl)
  subst hargs
  rw [lg_entry_eq]
  generalize (lg_sl ([.ref (ad 10), .int v1, .int v2]) ++ List.replicate (4 - (lg_sl ([.ref (ad 10), .int v1, .int v2])).length) Slot.unset).toArray = ls at hl ⊢
  exact h _ (key _ (fun _ _ _ h => h)) s.heap [] ls ⟨hP, hD, va_S.rf⟩ hl
/-! X4_add_10 -/
def wp_X4_add_10 (v1 : Int32) (v2 : Int32) (M : Mem) (Q : Mem → Prop) : Prop :=
  ((8 ≤ (M.1 10 2) → Q M) ∧ (¬ 8 ≤ (M.1 10 2) → (vp_in (M.1 10 2) 8 ∧ (vp_in ((upI M 11 (M.1 10 2).toNatClampNeg v1).1 10 2) 8 ∧ Q (upI (upI (upI M 11 (M.1 10 2).toNatClampNeg v1) 12 ((upI M 11 (M.1 10 2).toNatClampNeg v1).1 10 2).toNatClampNeg v2) 10 2 (((upI (upI M 11 (M.1 10 2).toNatClampNeg v1) 12 ((upI M 11 (M.1 10 2).toNatClampNeg v1).1 10 2).toNatClampNeg v2).1 10 2) + 1))))))
theorem wp_X4_add_10_mono {v1 : Int32} {v2 : Int32} {M : Mem} {Q Q' : Mem → Prop} (hQ : ∀ M : Mem, Q M → Q' M) (h : wp_X4_add_10 v1 v2 M Q) : wp_X4_add_10 v1 v2 M Q' := by
  unfold wp_X4_add_10 at h ⊢
  exact ⟨fun c => let h := h.1 c; hQ _ h, fun c => let h := h.2 c; ⟨h.1, let h := h.2; ⟨h.1, let h := h.2; hQ _ h⟩⟩⟩
abbrev rm_X4_add_10 : Jvm.Room := { frames := 1, cells := 0, slots := 0, locals := 14 }
set_option maxHeartbeats 4000000 in
set_option maxRecDepth 100000 in
theorem ct_X4_add_10 (l : Launch) (D : va_G) (cy : Nat → ClassId) (ad : Nat → Nat) (B : Nat → Prop) (v1 : Int32) (v2 : Int32) (M : Mem) (Q : Mem → Prop) (h : wp_X4_add_10 v1 v2 M Q) : CTv l D cy (wX ad cy) B yX4_add wsX4_add rm_X4_add_10 [.ref (ad 10), .int v1, .int v2] M Q := by
  intro sz
  refine Met.ofW (cc := cX4_add) (maxL := 3) (ret := none) (by decide) rfl ?_
  intro p e s m args below meth c s₁ Bd hml hv
  obtain ⟨hargs, hsz, hP, hK, hD⟩ := hv
  subst hsz
  have hx := Bd.exec
  have hb := Bd.bytes
  have hr := Bd.returns
  have hts := atoms_spec (ws := wsX4_add) Bd.pre
  have hown : s.vm.findClass RX4 = some m.cls := findClass_of_methodNamed Bd.named
  have hlocks := Bd.notSynchronized
  have hC4 : xC wsX4_add 4 RX4 TX4 3 := ⟨by decide +kernel, rfl⟩
  have hl := lv_entry ([.ref (ad 10), .int v1, .int v2]) (n := 3) (Nat.le_of_ble_eq_true rfl)
  subst hargs
  rw [lg_entry_eq]
  generalize (lg_sl ([.ref (ad 10), .int v1, .int v2]) ++ List.replicate (3 - (lg_sl ([.ref (ad 10), .int v1, .int v2])).length) Slot.unset).toArray = ls at hl ⊢
  have hl : lv_has ls 3 [(0, .ref (ad 10)), (1, .int v1), (2, .int v2)] := hl
  have S : xS D (wX ad cy) B s.heap s.heap [] M := ⟨hP, hD, va_S.rf⟩
  unfold wp_X4_add_10 at h
  refine lv_aload_n hx hb dX4_add_0 rfl (lv_at hl 0 rfl) ?_
  refine x_getI hx hb hts (hC4) hown hK S 2 (by decide) xf_10_2 (index := 18) (hts _ (List.mem_of_getElem? (i := 1) rfl)) dX4_add_1 ?_
  refine lv_bipush (v := 8) hx hb dX4_add_4 (by decide) ?_
  refine lv_icmp_ge (tgt := 39) hx hb dX4_add_6 (by decide) (fun c6 => ?_) (fun c6 => ?_)
  · replace h := h.1 c6
    exact x_vret hx hb hr hlocks S h dX4_add_39
  · replace h := h.2 c6
    refine lv_aload_n hx hb dX4_add_9 rfl (lv_at hl 0 rfl) ?_
    refine x_getR hx hb hts (hC4) hown hK S 0 (by decide) xf_10_0 (index := 9) (hts _ (List.mem_of_getElem? (i := 2) rfl)) dX4_add_10 ?_
    refine lv_aload_n hx hb dX4_add_13 rfl (lv_at hl 0 rfl) ?_
    refine x_getI hx hb hts (hC4) hown hK S 2 (by decide) xf_10_2 (index := 18) (hts _ (List.mem_of_getElem? (i := 1) rfl)) dX4_add_14 ?_
    refine lv_iload_n hx hb dX4_add_17 rfl (lv_at hl 1 rfl) ?_
    refine x_iast hx hb hK S xa_11 h.1 dX4_add_18 (fun H locs S => ?_)
    replace h := h.2
    refine lv_aload_n hx hb dX4_add_19 rfl (lv_at hl 0 rfl) ?_
    refine x_getR hx hb hts (hC4) hown hK S 1 (by decide) xf_10_1 (index := 15) (hts _ (List.mem_of_getElem? (i := 3) rfl)) dX4_add_20 ?_
    refine lv_aload_n hx hb dX4_add_23 rfl (lv_at hl 0 rfl) ?_
    refine x_getI hx hb hts (hC4) hown hK S 2 (by decide) xf_10_2 (index := 18) (hts _ (List.mem_of_getElem? (i := 1) rfl)) dX4_add_24 ?_
    refine lv_iload_n hx hb dX4_add_27 rfl (lv_at hl 2 rfl) ?_
    refine x_iast hx hb hK S xa_12 h.1 dX4_add_28 (fun H locs S => ?_)
    replace h := h.2
    refine lv_aload_n hx hb dX4_add_29 rfl (lv_at hl 0 rfl) ?_
    refine lv_dup hx hb dX4_add_30 rfl ?_
    refine x_getI hx hb hts (hC4) hown hK S 2 (by decide) xf_10_2 (index := 18) (hts _ (List.mem_of_getElem? (i := 1) rfl)) dX4_add_31 ?_
    refine lv_iconst (v := 1) hx hb dX4_add_34 (by decide) ?_
    refine lv_iadd hx hb dX4_add_35 ?_
    refine x_putI hx hb hts (hC4) tyX4 tyX4_ok nmX4 hown hK S 2 (by decide) xf_10_2 (index := 18) (hts _ (List.mem_of_getElem? (i := 1) rfl)) rfl rfl rfl dX4_add_36 (fun H locs S => ?_)
    exact x_vret hx hb hr hlocks S h dX4_add_39
/-! X7_collect -/
def wp_X7_collect (v1 : Int64) (v3 : Int64) (M : Mem) (Q : Int32 → Mem → Prop) : Prop :=
  wp_X7_isPlace v1 M (fun r1 M1 => ((r1 = 0 → Q (-2) M1) ∧ (¬ r1 = 0 → wp_X7_isPlace v3 M1 (fun r2 M2 => ((¬ r2 = 0 → wp_X4_standsAt v1.toInt32 v3.toInt32 M2 (fun r3 M3 => ((r3 = 0 → ((¬ (M3.1 10 2) = 8 → wp_X4_add_10 v1.toInt32 v3.toInt32 M3 (fun M4 => Q (M4.1 10 2) M4)) ∧ ((M3.1 10 2) = 8 → Q (-4) M3))) ∧ (¬ r3 = 0 → Q (-3) M3)))) ∧ (r2 = 0 → Q (-2) M2))))))
theorem wp_X7_collect_mono {v1 : Int64} {v3 : Int64} {M : Mem} {Q Q' : Int32 → Mem → Prop} (hQ : ∀ (r : Int32) (M : Mem), Q r M → Q' r M) (h : wp_X7_collect v1 v3 M Q) : wp_X7_collect v1 v3 M Q' := by
  unfold wp_X7_collect at h ⊢
  exact wp_X7_isPlace_mono (fun r1 M1 h => ⟨fun c => let h := h.1 c; hQ _ _ h, fun c => let h := h.2 c; wp_X7_isPlace_mono (fun r2 M2 h => ⟨fun c => let h := h.1 c; wp_X4_standsAt_mono (fun r3 M3 h => ⟨fun c => let h := h.1 c; ⟨fun c => let h := h.1 c; wp_X4_add_10_mono (fun M4 h => hQ _ _ h) h, fun c => let h := h.2 c; hQ _ _ h⟩, fun c => let h := h.2 c; hQ _ _ h⟩) h, fun c => let h := h.2 c; hQ _ _ h⟩) h⟩) h
abbrev rm_X7_collect : Jvm.Room := { frames := 2, cells := 0, slots := 0, locals := 38 }
set_option maxHeartbeats 4000000 in
set_option maxRecDepth 100000 in
theorem ct_X7_collect (l : Launch) (D : va_G) (cy : Nat → ClassId) (ad : Nat → Nat) (B : Nat → Prop) (v1 : Int64) (v3 : Int64) (M : Mem) (Q : Int32 → Mem → Prop) (h : wp_X7_collect v1 v3 M Q) : CTi l D cy (wX ad cy) B yX7_collect wsX7_collect rm_X7_collect [.ref (ad 0), .long v1, .long v3] M Q := by
  intro sz
  refine Met.ofW (cc := cX7_collect) (maxL := 5) (ret := some .int) (by decide) rfl ?_
  intro p e s m args below meth c s₁ Bd hml hv
  obtain ⟨hargs, hsz, hP, hK, hD⟩ := hv
  subst hsz
  have hx := Bd.exec
  have hb := Bd.bytes
  have hr := Bd.returns
  have hts := atoms_spec (ws := wsX7_collect) Bd.pre
  have hown : s.vm.findClass RX7 = some m.cls := findClass_of_methodNamed Bd.named
  have hlocks := Bd.notSynchronized
  have hC4 : xC wsX7_collect 4 RX4 TX4 3 := ⟨by decide +kernel, rfl⟩
  have hC7 : xC wsX7_collect 7 RX7 TX7 11 := ⟨by decide +kernel, rfl⟩
  have hl := lv_entry ([.ref (ad 0), .long v1, .long v3]) (n := 5) (Nat.le_of_ble_eq_true rfl)
  subst hargs
  rw [lg_entry_eq]
  generalize (lg_sl ([.ref (ad 0), .long v1, .long v3]) ++ List.replicate (5 - (lg_sl ([.ref (ad 0), .long v1, .long v3])).length) Slot.unset).toArray = ls at hl ⊢
  have hl : lv_has ls 5 [(0, .ref (ad 0)), (1, .long v1), (3, .long v3)] := hl
  have S : xS D (wX ad cy) B s.heap s.heap [] M := ⟨hP, hD, va_S.rf⟩
  unfold wp_X7_collect at h
  refine lv_lload_n hx hb dX7_collect_0 rfl (lv_at hl 1 rfl) ?_
  refine x_callSi (As := [.long v1]) ⟨hx, hb, hml, hown, hts⟩ hK S (ct_X7_isPlace l D cy ad B _ _ _ h) (va_cwS 1 hts gX7_collect_X7_isPlace rfl rfl rfl (by decide +kernel) ⟨Nat.le_of_ble_eq_true rfl, Nat.le_of_ble_eq_true rfl⟩) rfl hl.1 rfl (Nat.le_of_ble_eq_true rfl) dX7_collect_1 ⟨Nat.zero_le _, Nat.zero_le _⟩ (fun r1 M1 H locs h S => ?_)
  refine lv_if_eq (tgt := 14) hx hb dX7_collect_4 (by decide) (fun c4 => ?_) (fun c4 => ?_)
  · replace h := h.1 c4
    refine lv_bipush (v := (-2)) hx hb dX7_collect_14 (by decide) ?_
    exact x_iret hx hb hr hlocks S rfl h dX7_collect_16
  · replace h := h.2 c4
    refine lv_lload_n hx hb dX7_collect_7 rfl (lv_at hl 2 rfl) ?_
    refine x_callSi (As := [.long v3]) ⟨hx, hb, hml, hown, hts⟩ hK S (ct_X7_isPlace l D cy ad B _ _ _ h) (va_cwS 1 hts gX7_collect_X7_isPlace rfl rfl rfl (by decide +kernel) ⟨Nat.le_of_ble_eq_true rfl, Nat.le_of_ble_eq_true rfl⟩) rfl hl.1 rfl (Nat.le_of_ble_eq_true rfl) dX7_collect_8 ⟨Nat.zero_le _, Nat.zero_le _⟩ (fun r2 M2 H locs h S => ?_)
    refine lv_if_ne (tgt := 17) hx hb dX7_collect_11 (by decide) (fun c11 => ?_) (fun c11 => ?_)
    · replace h := h.1 c11
      refine lv_aload_n hx hb dX7_collect_17 rfl (lv_at hl 0 rfl) ?_
      refine x_getR hx hb hts (hC7) hown hK S 1 (by decide) xf_0_1 (index := 18) (hts _ (List.mem_of_getElem? (i := 1) rfl)) dX7_collect_18 ?_
      refine lv_lload_n hx hb dX7_collect_21 rfl (lv_at hl 1 rfl) ?_
      refine lv_l2i (v := v1.toInt32) hx hb dX7_collect_22 rfl ?_
      refine lv_lload_n hx hb dX7_collect_23 rfl (lv_at hl 2 rfl) ?_
      refine lv_l2i (v := v3.toInt32) hx hb dX7_collect_24 rfl ?_
      refine x_callVi (As := [.int v1.toInt32, .int v3.toInt32]) ⟨hx, hb, hml, hown, hts⟩ hK S (ct_X4_standsAt l D cy ad B _ _ _ _ h) xo_10 rfl (cwV 2 hts gX7_collect_X4_standsAt rfl rfl rfl (by decide +kernel) ⟨Nat.le_of_ble_eq_true rfl, Nat.le_of_ble_eq_true rfl⟩) rfl hl.1 rfl (Nat.le_of_ble_eq_true rfl) dX7_collect_25 ⟨Nat.zero_le _, Nat.zero_le _⟩ (fun r3 M3 H locs h S => ?_)
      refine lv_if_eq (tgt := 34) hx hb dX7_collect_28 (by decide) (fun c28 => ?_) (fun c28 => ?_)
      · replace h := h.1 c28
        refine lv_aload_n hx hb dX7_collect_34 rfl (lv_at hl 0 rfl) ?_
        refine x_getR hx hb hts (hC7) hown hK S 1 (by decide) xf_0_1 (index := 18) (hts _ (List.mem_of_getElem? (i := 1) rfl)) dX7_collect_35 ?_
        refine x_getI hx hb hts (hC4) hown hK S 2 (by decide) xf_10_2 (index := 105) (hts _ (List.mem_of_getElem? (i := 2) rfl)) dX7_collect_38 ?_
        refine lv_bipush (v := 8) hx hb dX7_collect_41 (by decide) ?_
        refine lv_icmp_ne (tgt := 49) hx hb dX7_collect_43 (by decide) (fun c43 => ?_) (fun c43 => ?_)
        · replace h := h.1 c43
          refine lv_aload_n hx hb dX7_collect_49 rfl (lv_at hl 0 rfl) ?_
          refine x_getR hx hb hts (hC7) hown hK S 1 (by decide) xf_0_1 (index := 18) (hts _ (List.mem_of_getElem? (i := 1) rfl)) dX7_collect_50 ?_
          refine lv_lload_n hx hb dX7_collect_53 rfl (lv_at hl 1 rfl) ?_
          refine lv_l2i (v := v1.toInt32) hx hb dX7_collect_54 rfl ?_
          refine lv_lload_n hx hb dX7_collect_55 rfl (lv_at hl 2 rfl) ?_
          refine lv_l2i (v := v3.toInt32) hx hb dX7_collect_56 rfl ?_
          refine x_callVv (As := [.int v1.toInt32, .int v3.toInt32]) ⟨hx, hb, hml, hown, hts⟩ hK S (ct_X4_add_10 l D cy ad B _ _ _ _ h) xo_10 rfl (cwV 2 hts gX7_collect_X4_add rfl rfl rfl (by decide +kernel) ⟨Nat.le_of_ble_eq_true rfl, Nat.le_of_ble_eq_true rfl⟩) rfl hl.1 rfl (Nat.le_of_ble_eq_true rfl) dX7_collect_57 ⟨Nat.zero_le _, Nat.zero_le _⟩ (fun M4 H locs h S => ?_)
          refine lv_aload_n hx hb dX7_collect_60 rfl (lv_at hl 0 rfl) ?_
          refine x_getR hx hb hts (hC7) hown hK S 1 (by decide) xf_0_1 (index := 18) (hts _ (List.mem_of_getElem? (i := 1) rfl)) dX7_collect_61 ?_
          refine x_getI hx hb hts (hC4) hown hK S 2 (by decide) xf_10_2 (index := 105) (hts _ (List.mem_of_getElem? (i := 2) rfl)) dX7_collect_64 ?_
          exact x_iret hx hb hr hlocks S rfl h dX7_collect_67
        · replace h := h.2 c43
          refine lv_bipush (v := (-4)) hx hb dX7_collect_46 (by decide) ?_
          exact x_iret hx hb hr hlocks S rfl h dX7_collect_48
      · replace h := h.2 c28
        refine lv_bipush (v := (-3)) hx hb dX7_collect_31 (by decide) ?_
        exact x_iret hx hb hr hlocks S rfl h dX7_collect_33
    · replace h := h.2 c11
      refine lv_bipush (v := (-2)) hx hb dX7_collect_14 (by decide) ?_
      exact x_iret hx hb hr hlocks S rfl h dX7_collect_16
/-! X7_post -/
def wp_X7_post (v1 : Int32) (v2 : Int32) (M : Mem) (Q : Int32 → Mem → Prop) : Prop :=
  wp_X7_collect v1.toInt64 v2.toInt64 M (fun r1 M1 => Q r1 M1)
theorem wp_X7_post_mono {v1 : Int32} {v2 : Int32} {M : Mem} {Q Q' : Int32 → Mem → Prop} (hQ : ∀ (r : Int32) (M : Mem), Q r M → Q' r M) (h : wp_X7_post v1 v2 M Q) : wp_X7_post v1 v2 M Q' := by
  unfold wp_X7_post at h ⊢
  exact wp_X7_collect_mono (fun r1 M1 h => hQ _ _ h) h
abbrev rm_X7_post : Jvm.Room := { frames := 3, cells := 0, slots := 0, locals := 62 }
set_option maxHeartbeats 4000000 in
set_option maxRecDepth 100000 in
theorem ct_X7_post (l : Launch) (D : va_G) (cy : Nat → ClassId) (ad : Nat → Nat) (B : Nat → Prop) (v1 : Int32) (v2 : Int32) (M : Mem) (Q : Int32 → Mem → Prop) (h : wp_X7_post v1 v2 M Q) : CTi l D cy (wX ad cy) B yX7_post wsX7_post rm_X7_post [.ref (ad 0), .int v1, .int v2] M Q := by
  intro sz
  refine Met.ofW (cc := cX7_post) (maxL := 3) (ret := some .int) (by decide) rfl ?_
  intro p e s m args below meth c s₁ Bd hml hv
  obtain ⟨hargs, hsz, hP, hK, hD⟩ := hv
  subst hsz
  have hx := Bd.exec
  have hb := Bd.bytes
  have hr := Bd.returns
  have hts := atoms_spec (ws := wsX7_post) Bd.pre
  have hown : s.vm.findClass RX7 = some m.cls := findClass_of_methodNamed Bd.named
  have hlocks := Bd.notSynchronized
  have hl := lv_entry ([.ref (ad 0), .int v1, .int v2]) (n := 3) (Nat.le_of_ble_eq_true rfl)
  subst hargs
  rw [lg_entry_eq]
  generalize (lg_sl ([.ref (ad 0), .int v1, .int v2]) ++ List.replicate (3 - (lg_sl ([.ref (ad 0), .int v1, .int v2])).length) Slot.unset).toArray = ls at hl ⊢
  have hl : lv_has ls 3 [(0, .ref (ad 0)), (1, .int v1), (2, .int v2)] := hl
  have S : xS D (wX ad cy) B s.heap s.heap [] M := ⟨hP, hD, va_S.rf⟩
  unfold wp_X7_post at h
  refine lv_aload_n hx hb dX7_post_0 rfl (lv_at hl 0 rfl) ?_
  refine lv_iload_n hx hb dX7_post_1 rfl (lv_at hl 1 rfl) ?_
  refine lv_i2l (v := v1.toInt64) hx hb dX7_post_2 rfl ?_
  refine lv_iload_n hx hb dX7_post_3 rfl (lv_at hl 2 rfl) ?_
  refine lv_i2l (v := v2.toInt64) hx hb dX7_post_4 rfl ?_
  refine x_callVi (As := [.long v1.toInt64, .long v2.toInt64]) ⟨hx, hb, hml, hown, hts⟩ hK S (ct_X7_collect l D cy ad B _ _ _ _ h) xo_0 rfl (cwV 2 hts gX7_post_X7_collect rfl rfl rfl (by decide +kernel) ⟨Nat.le_of_ble_eq_true rfl, Nat.le_of_ble_eq_true rfl⟩) rfl hl.1 rfl (Nat.le_of_ble_eq_true rfl) dX7_post_5 ⟨Nat.zero_le _, Nat.zero_le _⟩ (fun r1 M1 H locs h S => ?_)
  exact x_iret hx hb hr hlocks S rfl h dX7_post_8
/-! X7_take -/
def blk_X7_take_0 (v1 : Int32) (v2 : Int32) (Q : Int32 → Mem → Prop) (P : Nat → Int32 → Int32 → Mem → Prop) (v4 : Int32) (v5 : Int32) (M : Mem) : Prop :=
  wp_X7_isSheet v1 M (fun r1 M1 => ((¬ r1 = 0 → (vp_in v1 4 ∧ (v1.toNatClampNeg = 0 → (((M1.1 2 1) = 0 → ((v2 < 0 → P 1 0 0 M1) ∧ (¬ v2 < 0 → ((v2 ≤ (M1.1 2 3) → P 2 0 v2 M1) ∧ (¬ v2 ≤ (M1.1 2 3) → P 1 0 0 M1))))) ∧ (¬ (M1.1 2 1) = 0 → wp_X7_found (-11) M1 (fun r2 M2 => Q r2 M2)))) ∧ (v1.toNatClampNeg = 1 → (((M1.1 3 1) = 0 → ((v2 < 0 → P 1 0 0 M1) ∧ (¬ v2 < 0 → ((v2 ≤ (M1.1 3 3) → P 3 0 v2 M1) ∧ (¬ v2 ≤ (M1.1 3 3) → P 1 0 0 M1))))) ∧ (¬ (M1.1 3 1) = 0 → wp_X7_found (-11) M1 (fun r3 M3 => Q r3 M3)))) ∧ (v1.toNatClampNeg = 2 → (((M1.1 4 1) = 0 → ((v2 < 0 → P 1 0 0 M1) ∧ (¬ v2 < 0 → ((v2 ≤ (M1.1 4 3) → P 4 0 v2 M1) ∧ (¬ v2 ≤ (M1.1 4 3) → P 1 0 0 M1))))) ∧ (¬ (M1.1 4 1) = 0 → wp_X7_found (-11) M1 (fun r4 M4 => Q r4 M4)))) ∧ (v1.toNatClampNeg = 3 → (((M1.1 5 1) = 0 → ((v2 < 0 → P 1 0 0 M1) ∧ (¬ v2 < 0 → ((v2 ≤ (M1.1 5 3) → P 5 0 v2 M1) ∧ (¬ v2 ≤ (M1.1 5 3) → P 1 0 0 M1))))) ∧ (¬ (M1.1 5 1) = 0 → wp_X7_found (-11) M1 (fun r5 M5 => Q r5 M5)))))) ∧ (r1 = 0 → wp_X7_found (-12) M1 (fun r6 M6 => Q r6 M6))))
theorem blk_X7_take_0_mono {v1 : Int32} {v2 : Int32} {Q Q' : Int32 → Mem → Prop} {P P' : Nat → Int32 → Int32 → Mem → Prop} (hQ : ∀ (r : Int32) (M : Mem), Q r M → Q' r M) (hP : ∀ (lab : Nat) (v4 : Int32) (v5 : Int32) (M : Mem), P lab v4 v5 M → P' lab v4 v5 M) (v4 : Int32) (v5 : Int32) (M : Mem) (h : blk_X7_take_0 v1 v2 Q P v4 v5 M) : blk_X7_take_0 v1 v2 Q' P' v4 v5 M := by
  unfold blk_X7_take_0 at h ⊢
  exact wp_X7_isSheet_mono (fun r1 M1 h => ⟨fun c => let h := h.1 c; ⟨h.1, let h := h.2; ⟨fun c => let h := h.1 c; ⟨fun c => let h := h.1 c; ⟨fun c => let h := h.1 c; hP _ _ _ _ h, fun c => let h := h.2 c; ⟨fun c => let h := h.1 c; hP _ _ _ _ h, fun c => let h := h.2 c; hP _ _ _ _ h⟩⟩, fun c => let h := h.2 c; wp_X7_found_mono (fun r2 M2 h => hQ _ _ h) h⟩, fun c => let h := h.2.1 c; ⟨fun c => let h := h.1 c; ⟨fun c => let h := h.1 c; hP _ _ _ _ h, fun c => let h := h.2 c; ⟨fun c => let h := h.1 c; hP _ _ _ _ h, fun c => let h := h.2 c; hP _ _ _ _ h⟩⟩, fun c => let h := h.2 c; wp_X7_found_mono (fun r3 M3 h => hQ _ _ h) h⟩, fun c => let h := h.2.2.1 c; ⟨fun c => let h := h.1 c; ⟨fun c => let h := h.1 c; hP _ _ _ _ h, fun c => let h := h.2 c; ⟨fun c => let h := h.1 c; hP _ _ _ _ h, fun c => let h := h.2 c; hP _ _ _ _ h⟩⟩, fun c => let h := h.2 c; wp_X7_found_mono (fun r4 M4 h => hQ _ _ h) h⟩, fun c => let h := h.2.2.2 c; ⟨fun c => let h := h.1 c; ⟨fun c => let h := h.1 c; hP _ _ _ _ h, fun c => let h := h.2 c; ⟨fun c => let h := h.1 c; hP _ _ _ _ h, fun c => let h := h.2 c; hP _ _ _ _ h⟩⟩, fun c => let h := h.2 c; wp_X7_found_mono (fun r5 M5 h => hQ _ _ h) h⟩⟩⟩, fun c => let h := h.2 c; wp_X7_found_mono (fun r6 M6 h => hQ _ _ h) h⟩) h
def blk_X7_take_1 (v1 : Int32) (v2 : Int32) (Q : Int32 → Mem → Prop) (P : Nat → Int32 → Int32 → Mem → Prop) (v4 : Int32) (v5 : Int32) (M : Mem) : Prop :=
  wp_X7_found (-12) M (fun r7 M7 => Q r7 M7)
theorem blk_X7_take_1_mono {v1 : Int32} {v2 : Int32} {Q Q' : Int32 → Mem → Prop} {P P' : Nat → Int32 → Int32 → Mem → Prop} (hQ : ∀ (r : Int32) (M : Mem), Q r M → Q' r M) (hP : ∀ (lab : Nat) (v4 : Int32) (v5 : Int32) (M : Mem), P lab v4 v5 M → P' lab v4 v5 M) (v4 : Int32) (v5 : Int32) (M : Mem) (h : blk_X7_take_1 v1 v2 Q P v4 v5 M) : blk_X7_take_1 v1 v2 Q' P' v4 v5 M := by
  unfold blk_X7_take_1 at h ⊢
  exact wp_X7_found_mono (fun r7 M7 h => hQ _ _ h) h
def blk_X7_take_2 (v1 : Int32) (v2 : Int32) (Q : Int32 → Mem → Prop) (P : Nat → Int32 → Int32 → Mem → Prop) (v4 : Int32) (v5 : Int32) (M : Mem) : Prop :=
  (((M.1 2 3) ≤ (v5 + 1) → Q v4 M) ∧ (¬ (M.1 2 3) ≤ (v5 + 1) → (vp_in v5 20 ∧ (vp_in (v5 + 1) 20 ∧ wp_X7_collect (M.2 6 v5.toNatClampNeg) (M.2 6 (v5 + 1).toNatClampNeg) M (fun r8 M8 => ((0 ≤ r8 → P 2 (v4 + 1) (v5 + 2) M8) ∧ (¬ 0 ≤ r8 → Q v4 M8)))))))
theorem blk_X7_take_2_mono {v1 : Int32} {v2 : Int32} {Q Q' : Int32 → Mem → Prop} {P P' : Nat → Int32 → Int32 → Mem → Prop} (hQ : ∀ (r : Int32) (M : Mem), Q r M → Q' r M) (hP : ∀ (lab : Nat) (v4 : Int32) (v5 : Int32) (M : Mem), P lab v4 v5 M → P' lab v4 v5 M) (v4 : Int32) (v5 : Int32) (M : Mem) (h : blk_X7_take_2 v1 v2 Q P v4 v5 M) : blk_X7_take_2 v1 v2 Q' P' v4 v5 M := by
  unfold blk_X7_take_2 at h ⊢
  exact ⟨fun c => let h := h.1 c; hQ _ _ h, fun c => let h := h.2 c; ⟨h.1, let h := h.2; ⟨h.1, let h := h.2; wp_X7_collect_mono (fun r8 M8 h => ⟨fun c => let h := h.1 c; hP _ _ _ _ h, fun c => let h := h.2 c; hQ _ _ h⟩) h⟩⟩⟩
def blk_X7_take_3 (v1 : Int32) (v2 : Int32) (Q : Int32 → Mem → Prop) (P : Nat → Int32 → Int32 → Mem → Prop) (v4 : Int32) (v5 : Int32) (M : Mem) : Prop :=
  (((M.1 3 3) ≤ (v5 + 1) → Q v4 M) ∧ (¬ (M.1 3 3) ≤ (v5 + 1) → (vp_in v5 20 ∧ (vp_in (v5 + 1) 20 ∧ wp_X7_collect (M.2 7 v5.toNatClampNeg) (M.2 7 (v5 + 1).toNatClampNeg) M (fun r9 M9 => ((0 ≤ r9 → P 3 (v4 + 1) (v5 + 2) M9) ∧ (¬ 0 ≤ r9 → Q v4 M9)))))))
theorem blk_X7_take_3_mono {v1 : Int32} {v2 : Int32} {Q Q' : Int32 → Mem → Prop} {P P' : Nat → Int32 → Int32 → Mem → Prop} (hQ : ∀ (r : Int32) (M : Mem), Q r M → Q' r M) (hP : ∀ (lab : Nat) (v4 : Int32) (v5 : Int32) (M : Mem), P lab v4 v5 M → P' lab v4 v5 M) (v4 : Int32) (v5 : Int32) (M : Mem) (h : blk_X7_take_3 v1 v2 Q P v4 v5 M) : blk_X7_take_3 v1 v2 Q' P' v4 v5 M := by
  unfold blk_X7_take_3 at h ⊢
  exact ⟨fun c => let h := h.1 c; hQ _ _ h, fun c => let h := h.2 c; ⟨h.1, let h := h.2; ⟨h.1, let h := h.2; wp_X7_collect_mono (fun r9 M9 h => ⟨fun c => let h := h.1 c; hP _ _ _ _ h, fun c => let h := h.2 c; hQ _ _ h⟩) h⟩⟩⟩
def blk_X7_take_4 (v1 : Int32) (v2 : Int32) (Q : Int32 → Mem → Prop) (P : Nat → Int32 → Int32 → Mem → Prop) (v4 : Int32) (v5 : Int32) (M : Mem) : Prop :=
  (((M.1 4 3) ≤ (v5 + 1) → Q v4 M) ∧ (¬ (M.1 4 3) ≤ (v5 + 1) → (vp_in v5 20 ∧ (vp_in (v5 + 1) 20 ∧ wp_X7_collect (M.2 8 v5.toNatClampNeg) (M.2 8 (v5 + 1).toNatClampNeg) M (fun r10 M10 => ((0 ≤ r10 → P 4 (v4 + 1) (v5 + 2) M10) ∧ (¬ 0 ≤ r10 → Q v4 M10)))))))
theorem blk_X7_take_4_mono {v1 : Int32} {v2 : Int32} {Q Q' : Int32 → Mem → Prop} {P P' : Nat → Int32 → Int32 → Mem → Prop} (hQ : ∀ (r : Int32) (M : Mem), Q r M → Q' r M) (hP : ∀ (lab : Nat) (v4 : Int32) (v5 : Int32) (M : Mem), P lab v4 v5 M → P' lab v4 v5 M) (v4 : Int32) (v5 : Int32) (M : Mem) (h : blk_X7_take_4 v1 v2 Q P v4 v5 M) : blk_X7_take_4 v1 v2 Q' P' v4 v5 M := by
  unfold blk_X7_take_4 at h ⊢
  exact ⟨fun c => let h := h.1 c; hQ _ _ h, fun c => let h := h.2 c; ⟨h.1, let h := h.2; ⟨h.1, let h := h.2; wp_X7_collect_mono (fun r10 M10 h => ⟨fun c => let h := h.1 c; hP _ _ _ _ h, fun c => let h := h.2 c; hQ _ _ h⟩) h⟩⟩⟩
def blk_X7_take_5 (v1 : Int32) (v2 : Int32) (Q : Int32 → Mem → Prop) (P : Nat → Int32 → Int32 → Mem → Prop) (v4 : Int32) (v5 : Int32) (M : Mem) : Prop :=
  (((M.1 5 3) ≤ (v5 + 1) → Q v4 M) ∧ (¬ (M.1 5 3) ≤ (v5 + 1) → (vp_in v5 20 ∧ (vp_in (v5 + 1) 20 ∧ wp_X7_collect (M.2 9 v5.toNatClampNeg) (M.2 9 (v5 + 1).toNatClampNeg) M (fun r11 M11 => ((0 ≤ r11 → P 5 (v4 + 1) (v5 + 2) M11) ∧ (¬ 0 ≤ r11 → Q v4 M11)))))))
theorem blk_X7_take_5_mono {v1 : Int32} {v2 : Int32} {Q Q' : Int32 → Mem → Prop} {P P' : Nat → Int32 → Int32 → Mem → Prop} (hQ : ∀ (r : Int32) (M : Mem), Q r M → Q' r M) (hP : ∀ (lab : Nat) (v4 : Int32) (v5 : Int32) (M : Mem), P lab v4 v5 M → P' lab v4 v5 M) (v4 : Int32) (v5 : Int32) (M : Mem) (h : blk_X7_take_5 v1 v2 Q P v4 v5 M) : blk_X7_take_5 v1 v2 Q' P' v4 v5 M := by
  unfold blk_X7_take_5 at h ⊢
  exact ⟨fun c => let h := h.1 c; hQ _ _ h, fun c => let h := h.2 c; ⟨h.1, let h := h.2; ⟨h.1, let h := h.2; wp_X7_collect_mono (fun r11 M11 h => ⟨fun c => let h := h.1 c; hP _ _ _ _ h, fun c => let h := h.2 c; hQ _ _ h⟩) h⟩⟩⟩
def blk_X7_take (v1 : Int32) (v2 : Int32) (Q : Int32 → Mem → Prop) (P : Nat → Int32 → Int32 → Mem → Prop) : Nat → Int32 → Int32 → Mem → Prop := fun lab v4 v5 M => match lab with
  | 0 => blk_X7_take_0 v1 v2 Q P v4 v5 M
  | 1 => blk_X7_take_1 v1 v2 Q P v4 v5 M
  | 2 => blk_X7_take_2 v1 v2 Q P v4 v5 M
  | 3 => blk_X7_take_3 v1 v2 Q P v4 v5 M
  | 4 => blk_X7_take_4 v1 v2 Q P v4 v5 M
  | 5 => blk_X7_take_5 v1 v2 Q P v4 v5 M
  | _ => False
theorem blk_X7_take_mono {v1 : Int32} {v2 : Int32} {Q Q' : Int32 → Mem → Prop} {P P' : Nat → Int32 → Int32 → Mem → Prop} (hQ : ∀ (r : Int32) (M : Mem), Q r M → Q' r M) (hP : ∀ (lab : Nat) (v4 : Int32) (v5 : Int32) (M : Mem), P lab v4 v5 M → P' lab v4 v5 M) : ∀ (lab : Nat) (v4 : Int32) (v5 : Int32) (M : Mem), blk_X7_take v1 v2 Q P lab v4 v5 M → blk_X7_take v1 v2 Q' P' lab v4 v5 M := fun lab v4 v5 M h => match lab, h with
  | 0, h => blk_X7_take_0_mono (v1 := v1) (v2 := v2) hQ hP v4 v5 M h
  | 1, h => blk_X7_take_1_mono (v1 := v1) (v2 := v2) hQ hP v4 v5 M h
  | 2, h => blk_X7_take_2_mono (v1 := v1) (v2 := v2) hQ hP v4 v5 M h
  | 3, h => blk_X7_take_3_mono (v1 := v1) (v2 := v2) hQ hP v4 v5 M h
  | 4, h => blk_X7_take_4_mono (v1 := v1) (v2 := v2) hQ hP v4 v5 M h
  | 5, h => blk_X7_take_5_mono (v1 := v1) (v2 := v2) hQ hP v4 v5 M h
  | _ + 6, h => False.elim h
def at_X7_take (v1 : Int32) (v2 : Int32) (Q : Int32 → Mem → Prop) : Nat → Int32 → Int32 → Mem → Prop := fun lab v4 v5 M => ∀ P : Nat → Int32 → Int32 → Mem → Prop, (∀ (lab : Nat) (v4 : Int32) (v5 : Int32) (M : Mem), blk_X7_take v1 v2 Q P lab v4 v5 M → P lab v4 v5 M) → P lab v4 v5 M
theorem at_X7_take_fold {v1 : Int32} {v2 : Int32} {Q : Int32 → Mem → Prop} {lab : Nat} {v4 : Int32} {v5 : Int32} {M : Mem} (h : blk_X7_take v1 v2 Q (at_X7_take v1 v2 Q) lab v4 v5 M) : at_X7_take v1 v2 Q lab v4 v5 M := fun P hP => hP _ _ _ _ (blk_X7_take_mono (fun _ _ h => h) (fun _ _ _ _ h => h P hP) _ _ _ _ h)
theorem at_X7_take_mono {v1 : Int32} {v2 : Int32} {Q Q' : Int32 → Mem → Prop} (hQ : ∀ (r : Int32) (M : Mem), Q r M → Q' r M) {lab : Nat} {v4 : Int32} {v5 : Int32} {M : Mem} (h : at_X7_take v1 v2 Q lab v4 v5 M) : at_X7_take v1 v2 Q' lab v4 v5 M := fun P hP => h P (fun lab v4 v5 M hb => hP _ _ _ _ (blk_X7_take_mono hQ (fun _ _ _ _ h => h) _ _ _ _ hb))
def wp_X7_take (v1 : Int32) (v2 : Int32) (M : Mem) (Q : Int32 → Mem → Prop) : Prop := at_X7_take v1 v2 Q 0 0 0 M
theorem wp_X7_take_mono {v1 : Int32} {v2 : Int32} {M : Mem} {Q Q' : Int32 → Mem → Prop} (hQ : ∀ (r : Int32) (M : Mem), Q r M → Q' r M) (h : wp_X7_take v1 v2 M Q) : wp_X7_take v1 v2 M Q' := at_X7_take_mono hQ h
def pcl_X7_take : Nat → Nat := fun lab => match lab with
  | 0 => 0
  | 1 => 47
  | 2 => 60
  | 3 => 60
  | 4 => 60
  | 5 => 60
  | _ => 0
def lvl_X7_take (ad : Nat → Nat) (v1 : Int32) (v2 : Int32) : Nat → Int32 → Int32 → List (Nat × Value) := fun lab v4 v5 => match lab with
  | 0 => [(0, .ref (ad 0)), (1, .int v1), (2, .int v2)]
  | 1 => [(0, .ref (ad 0))]
  | 2 => [(0, .ref (ad 0)), (3, .ref (ad 2)), (4, .int v4), (5, .int v5)]
  | 3 => [(0, .ref (ad 0)), (3, .ref (ad 3)), (4, .int v4), (5, .int v5)]
  | 4 => [(0, .ref (ad 0)), (3, .ref (ad 4)), (4, .int v4), (5, .int v5)]
  | 5 => [(0, .ref (ad 0)), (3, .ref (ad 5)), (4, .int v4), (5, .int v5)]
  | _ => []
abbrev rm_X7_take : Jvm.Room := { frames := 3, cells := 0, slots := 0, locals := 62 }
set_option maxHeartbeats 4000000 in
set_option maxRecDepth 100000 in
theorem ct_X7_take (l : Launch) (D : va_G) (cy : Nat → ClassId) (ad : Nat → Nat) (B : Nat → Prop) (v1 : Int32) (v2 : Int32) (M : Mem) (Q : Int32 → Mem → Prop) (h : wp_X7_take v1 v2 M Q) : CTi l D cy (wX ad cy) B yX7_take wsX7_take rm_X7_take [.ref (ad 0), .int v1, .int v2] M Q := by
  intro sz
  refine Met.ofW (cc := cX7_take) (maxL := 6) (ret := some .int) (by decide) rfl ?_
  intro p e s m args below meth c s₁ Bd hml hv
  obtain ⟨hargs, hsz, hP, hK, hD⟩ := hv
  subst hsz
  have hx := Bd.exec
  have hb := Bd.bytes
  have hr := Bd.returns
  have hts := atoms_spec (ws := wsX7_take) Bd.pre
  have hown : s.vm.findClass RX7 = some m.cls := findClass_of_methodNamed Bd.named
  have hlocks := Bd.notSynchronized
  have hC5 : xC wsX7_take 5 RX5 TX5 4 := ⟨by decide +kernel, rfl⟩
  have hC7 : xC wsX7_take 7 RX7 TX7 11 := ⟨by decide +kernel, rfl⟩
  have key : ∀ (P : Nat → Int32 → Int32 → Mem → Prop), (∀ (lab : Nat) (v4 : Int32) (v5 : Int32) (M : Mem), P lab v4 v5 M → ∀ (H : Heap) (locs : List Loc) (ls : Array Slot), xS D (wX ad cy) B s.heap H locs M → lv_has ls 6 (lvl_X7_take ad v1 v2 lab v4 v5 ) → W p l e (headSpec wsX7_take rm_X7_take).room s m args below meth c H locs 0 0 (MQ below (va_Qi (S := Mem) Q (xB D (wX ad cy) B) (xA B s.heap.size)) args s 0 0 (xA B s.heap.size)) (F0 m (pcl_X7_take lab) ls [])) → ∀ (lab : Nat) (v4 : Int32) (v5 : Int32) (M : Mem), blk_X7_take v1 v2 Q P lab v4 v5 M → ∀ (H : Heap) (locs : List Loc) (ls : Array Slot), xS D (wX ad cy) B s.heap H locs M → lv_has ls 6 (lvl_X7_take ad v1 v2 lab v4 v5 ) → W p l e (headSpec wsX7_take rm_X7_take).room s m args below meth c H locs 0 0 (MQ below (va_Qi (S := Mem) Q (xB D (wX ad cy) B) (xA B s.heap.size)) args s 0 0 (xA B s.heap.size)) (F0 m (pcl_X7_take lab) ls []) := by
    intro P hJ lab v4 v5 M h H locs ls S hl
    match lab, h, hl with
    | 0, h, hl =>
      have hl : lv_has ls 6 [(0, .ref (ad 0)), (1, .int v1), (2, .int v2)] := hl
      have h : blk_X7_take_0 v1 v2 Q P v4 v5 M := h
      unfold blk_X7_take_0 at h
      refine W.eq (g2 := F0 m 0 ls []) rfl ?_
      refine lv_iload_n hx hb dX7_take_0 rfl (lv_at hl 1 rfl) ?_
      refine x_callSi (As := [.int v1]) ⟨hx, hb, hml, hown, hts⟩ hK S (ct_X7_isSheet l D cy ad B _ _ _ h) (va_cwS 1 hts gX7_take_X7_isSheet rfl rfl rfl (by decide +kernel) ⟨Nat.le_of_ble_eq_true rfl, Nat.le_of_ble_eq_true rfl⟩) rfl hl.1 rfl (Nat.le_of_ble_eq_true rfl) dX7_take_1 ⟨Nat.zero_le _, Nat.zero_le _⟩ (fun r1 M1 H locs h S => ?_)
      refine lv_if_ne (tgt := 14) hx hb dX7_take_4 (by decide) (fun c4 => ?_) (fun c4 => ?_)
      · replace h := h.1 c4
        refine lv_aload_n hx hb dX7_take_14 rfl (lv_at hl 0 rfl) ?_
        refine x_getR hx hb hts (hC7) hown hK S 0 (by decide) xf_0_0 (index := 11) (hts _ (List.mem_of_getElem? (i := 1) rfl)) dX7_take_15 ?_
        refine lv_iload_n hx hb dX7_take_18 rfl (lv_at hl 1 rfl) ?_
        have hk := x_in4 h.1
        have hin := h.1
        replace h := h.2
        rcases hk with hk | hk | hk | hk
        · replace h := h.1 hk
          refine x_aald hx hb hK S xa_1 hin hk rfl dX7_take_19 ?_
          refine lv_astore_n (lv' := [(3, .ref (ad 2)), (0, .ref (ad 0)), (1, .int v1), (2, .int v2)]) hx hb dX7_take_20 rfl hl (by decide) rfl (fun ls hl => ?_)
          refine lv_aload_n hx hb dX7_take_21 rfl (lv_at hl 0 rfl) ?_
          refine x_getI hx hb hts (hC5) hown hK S 1 (by decide) xf_2_1 (index := 77) (hts _ (List.mem_of_getElem? (i := 2) rfl)) dX7_take_22 ?_
          refine lv_if_eq (tgt := 35) hx hb dX7_take_25 (by decide) (fun c25 => ?_) (fun c25 => ?_)
          · replace h := h.1 c25
            refine lv_iload_n hx hb dX7_take_35 rfl (lv_at hl 3 rfl) ?_
            refine lv_if_lt (tgt := 47) hx hb dX7_take_36 (by decide) (fun c36 => ?_) (fun c36 => ?_)
            · replace h := h.1 c36
              exact hJ _ _ _ _ h _ _ _ S (lv_sub hl [1] rfl)
            · replace h := h.2 c36
              refine lv_iload_n hx hb dX7_take_39 rfl (lv_at hl 3 rfl) ?_
              refine lv_aload_n hx hb dX7_take_40 rfl (lv_at hl 0 rfl) ?_
              refine x_getI hx hb hts (hC5) hown hK S 3 (by decide) xf_2_3 (index := 102) (hts _ (List.mem_of_getElem? (i := 3) rfl)) dX7_take_41 ?_
              refine lv_icmp_le (tgt := 54) hx hb dX7_take_44 (by decide) (fun c44 => ?_) (fun c44 => ?_)
              · replace h := h.1 c44
                refine lv_iconst (v := 0) hx hb dX7_take_54 (by decide) ?_
                refine lv_istore (lv' := [(4, .int 0), (3, .ref (ad 2)), (0, .ref (ad 0)), (1, .int v1), (2, .int v2)]) hx hb dX7_take_55 hl (by decide) rfl (fun ls hl => ?_)
                refine lv_iload_n hx hb dX7_take_57 rfl (lv_at hl 4 rfl) ?_
                refine lv_istore (lv' := [(5, .int v2), (4, .int 0), (3, .ref (ad 2)), (0, .ref (ad 0)), (1, .int v1), (2, .int v2)]) hx hb dX7_take_58 hl (by decide) rfl (fun ls hl => ?_)
                exact hJ _ _ _ _ h _ _ _ S (lv_sub hl [3, 2, 1, 0] rfl)
              · replace h := h.2 c44
                exact hJ _ _ _ _ h _ _ _ S (lv_sub hl [1] rfl)
          · replace h := h.2 c25
            refine lv_aload_n hx hb dX7_take_28 rfl (lv_at hl 1 rfl) ?_
            refine lv_bipush (v := (-11)) hx hb dX7_take_29 (by decide) ?_
            refine x_callVi (As := [.int (-11)]) ⟨hx, hb, hml, hown, hts⟩ hK S (ct_X7_found l D cy ad B _ _ _ h) xo_0 rfl (cwV 1 hts gX7_take_X7_found rfl rfl rfl (by decide +kernel) ⟨Nat.le_of_ble_eq_true rfl, Nat.le_of_ble_eq_true rfl⟩) rfl hl.1 rfl (Nat.le_of_ble_eq_true rfl) dX7_take_31 ⟨Nat.zero_le _, Nat.zero_le _⟩ (fun r2 M2 H locs h S => ?_)
            exact x_iret hx hb hr hlocks S rfl h dX7_take_34
        · replace h := h.2.1 hk
          refine x_aald hx hb hK S xa_1 hin hk rfl dX7_take_19 ?_
          refine lv_astore_n (lv' := [(3, .ref (ad 3)), (0, .ref (ad 0)), (1, .int v1), (2, .int v2)]) hx hb dX7_take_20 rfl hl (by decide) rfl (fun ls hl => ?_)
          refine lv_aload_n hx hb dX7_take_21 rfl (lv_at hl 0 rfl) ?_
          refine x_getI hx hb hts (hC5) hown hK S 1 (by decide) xf_3_1 (index := 77) (hts _ (List.mem_of_getElem? (i := 2) rfl)) dX7_take_22 ?_
          refine lv_if_eq (tgt := 35) hx hb dX7_take_25 (by decide) (fun c25 => ?_) (fun c25 => ?_)
          · replace h := h.1 c25
            refine lv_iload_n hx hb dX7_take_35 rfl (lv_at hl 3 rfl) ?_
            refine lv_if_lt (tgt := 47) hx hb dX7_take_36 (by decide) (fun c36 => ?_) (fun c36 => ?_)
            · replace h := h.1 c36
              exact hJ _ _ _ _ h _ _ _ S (lv_sub hl [1] rfl)
            · replace h := h.2 c36
              refine lv_iload_n hx hb dX7_take_39 rfl (lv_at hl 3 rfl) ?_
              refine lv_aload_n hx hb dX7_take_40 rfl (lv_at hl 0 rfl) ?_
              refine x_getI hx hb hts (hC5) hown hK S 3 (by decide) xf_3_3 (index := 102) (hts _ (List.mem_of_getElem? (i := 3) rfl)) dX7_take_41 ?_
              refine lv_icmp_le (tgt := 54) hx hb dX7_take_44 (by decide) (fun c44 => ?_) (fun c44 => ?_)
              · replace h := h.1 c44
                refine lv_iconst (v := 0) hx hb dX7_take_54 (by decide) ?_
                refine lv_istore (lv' := [(4, .int 0), (3, .ref (ad 3)), (0, .ref (ad 0)), (1, .int v1), (2, .int v2)]) hx hb dX7_take_55 hl (by decide) rfl (fun ls hl => ?_)
                refine lv_iload_n hx hb dX7_take_57 rfl (lv_at hl 4 rfl) ?_
                refine lv_istore (lv' := [(5, .int v2), (4, .int 0), (3, .ref (ad 3)), (0, .ref (ad 0)), (1, .int v1), (2, .int v2)]) hx hb dX7_take_58 hl (by decide) rfl (fun ls hl => ?_)
                exact hJ _ _ _ _ h _ _ _ S (lv_sub hl [3, 2, 1, 0] rfl)
              · replace h := h.2 c44
                exact hJ _ _ _ _ h _ _ _ S (lv_sub hl [1] rfl)
          · replace h := h.2 c25
            refine lv_aload_n hx hb dX7_take_28 rfl (lv_at hl 1 rfl) ?_
            refine lv_bipush (v := (-11)) hx hb dX7_take_29 (by decide) ?_
            refine x_callVi (As := [.int (-11)]) ⟨hx, hb, hml, hown, hts⟩ hK S (ct_X7_found l D cy ad B _ _ _ h) xo_0 rfl (cwV 1 hts gX7_take_X7_found rfl rfl rfl (by decide +kernel) ⟨Nat.le_of_ble_eq_true rfl, Nat.le_of_ble_eq_true rfl⟩) rfl hl.1 rfl (Nat.le_of_ble_eq_true rfl) dX7_take_31 ⟨Nat.zero_le _, Nat.zero_le _⟩ (fun r3 M3 H locs h S => ?_)
            exact x_iret hx hb hr hlocks S rfl h dX7_take_34
        · replace h := h.2.2.1 hk
          refine x_aald hx hb hK S xa_1 hin hk rfl dX7_take_19 ?_
          refine lv_astore_n (lv' := [(3, .ref (ad 4)), (0, .ref (ad 0)), (1, .int v1), (2, .int v2)]) hx hb dX7_take_20 rfl hl (by decide) rfl (fun ls hl => ?_)
          refine lv_aload_n hx hb dX7_take_21 rfl (lv_at hl 0 rfl) ?_
          refine x_getI hx hb hts (hC5) hown hK S 1 (by decide) xf_4_1 (index := 77) (hts _ (List.mem_of_getElem? (i := 2) rfl)) dX7_take_22 ?_
          refine lv_if_eq (tgt := 35) hx hb dX7_take_25 (by decide) (fun c25 => ?_) (fun c25 => ?_)
          · replace h := h.1 c25
            refine lv_iload_n hx hb dX7_take_35 rfl (lv_at hl 3 rfl) ?_
            refine lv_if_lt (tgt := 47) hx hb dX7_take_36 (by decide) (fun c36 => ?_) (fun c36 => ?_)
            · replace h := h.1 c36
              exact hJ _ _ _ _ h _ _ _ S (lv_sub hl [1] rfl)
            · replace h := h.2 c36
              refine lv_iload_n hx hb dX7_take_39 rfl (lv_at hl 3 rfl) ?_
              refine lv_aload_n hx hb dX7_take_40 rfl (lv_at hl 0 rfl) ?_
              refine x_getI hx hb hts (hC5) hown hK S 3 (by decide) xf_4_3 (index := 102) (hts _ (List.mem_of_getElem? (i := 3) rfl)) dX7_take_41 ?_
              refine lv_icmp_le (tgt := 54) hx hb dX7_take_44 (by decide) (fun c44 => ?_) (fun c44 => ?_)
              · replace h := h.1 c44
                refine lv_iconst (v := 0) hx hb dX7_take_54 (by decide) ?_
                refine lv_istore (lv' := [(4, .int 0), (3, .ref (ad 4)), (0, .ref (ad 0)), (1, .int v1), (2, .int v2)]) hx hb dX7_take_55 hl (by decide) rfl (fun ls hl => ?_)
                refine lv_iload_n hx hb dX7_take_57 rfl (lv_at hl 4 rfl) ?_
                refine lv_istore (lv' := [(5, .int v2), (4, .int 0), (3, .ref (ad 4)), (0, .ref (ad 0)), (1, .int v1), (2, .int v2)]) hx hb dX7_take_58 hl (by decide) rfl (fun ls hl => ?_)
                exact hJ _ _ _ _ h _ _ _ S (lv_sub hl [3, 2, 1, 0] rfl)
              · replace h := h.2 c44
                exact hJ _ _ _ _ h _ _ _ S (lv_sub hl [1] rfl)
          · replace h := h.2 c25
            refine lv_aload_n hx hb dX7_take_28 rfl (lv_at hl 1 rfl) ?_
            refine lv_bipush (v := (-11)) hx hb dX7_take_29 (by decide) ?_
            refine x_callVi (As := [.int (-11)]) ⟨hx, hb, hml, hown, hts⟩ hK S (ct_X7_found l D cy ad B _ _ _ h) xo_0 rfl (cwV 1 hts gX7_take_X7_found rfl rfl rfl (by decide +kernel) ⟨Nat.le_of_ble_eq_true rfl, Nat.le_of_ble_eq_true rfl⟩) rfl hl.1 rfl (Nat.le_of_ble_eq_true rfl) dX7_take_31 ⟨Nat.zero_le _, Nat.zero_le _⟩ (fun r4 M4 H locs h S => ?_)
            exact x_iret hx hb hr hlocks S rfl h dX7_take_34
        · replace h := h.2.2.2 hk
          refine x_aald hx hb hK S xa_1 hin hk rfl dX7_take_19 ?_
          refine lv_astore_n (lv' := [(3, .ref (ad 5)), (0, .ref (ad 0)), (1, .int v1), (2, .int v2)]) hx hb dX7_take_20 rfl hl (by decide) rfl (fun ls hl => ?_)
          refine lv_aload_n hx hb dX7_take_21 rfl (lv_at hl 0 rfl) ?_
          refine x_getI hx hb hts (hC5) hown hK S 1 (by decide) xf_5_1 (index := 77) (hts _ (List.mem_of_getElem? (i := 2) rfl)) dX7_take_22 ?_
          refine lv_if_eq (tgt := 35) hx hb dX7_take_25 (by decide) (fun c25 => ?_) (fun c25 => ?_)
          · replace h := h.1 c25
            refine lv_iload_n hx hb dX7_take_35 rfl (lv_at hl 3 rfl) ?_
            refine lv_if_lt (tgt := 47) hx hb dX7_take_36 (by decide) (fun c36 => ?_) (fun c36 => ?_)
            · replace h := h.1 c36
              exact hJ _ _ _ _ h _ _ _ S (lv_sub hl [1] rfl)
            · replace h := h.2 c36
              refine lv_iload_n hx hb dX7_take_39 rfl (lv_at hl 3 rfl) ?_
              refine lv_aload_n hx hb dX7_take_40 rfl (lv_at hl 0 rfl) ?_
              refine x_getI hx hb hts (hC5) hown hK S 3 (by decide) xf_5_3 (index := 102) (hts _ (List.mem_of_getElem? (i := 3) rfl)) dX7_take_41 ?_
              refine lv_icmp_le (tgt := 54) hx hb dX7_take_44 (by decide) (fun c44 => ?_) (fun c44 => ?_)
              · replace h := h.1 c44
                refine lv_iconst (v := 0) hx hb dX7_take_54 (by decide) ?_
                refine lv_istore (lv' := [(4, .int 0), (3, .ref (ad 5)), (0, .ref (ad 0)), (1, .int v1), (2, .int v2)]) hx hb dX7_take_55 hl (by decide) rfl (fun ls hl => ?_)
                refine lv_iload_n hx hb dX7_take_57 rfl (lv_at hl 4 rfl) ?_
                refine lv_istore (lv' := [(5, .int v2), (4, .int 0), (3, .ref (ad 5)), (0, .ref (ad 0)), (1, .int v1), (2, .int v2)]) hx hb dX7_take_58 hl (by decide) rfl (fun ls hl => ?_)
                exact hJ _ _ _ _ h _ _ _ S (lv_sub hl [3, 2, 1, 0] rfl)
              · replace h := h.2 c44
                exact hJ _ _ _ _ h _ _ _ S (lv_sub hl [1] rfl)
          · replace h := h.2 c25
            refine lv_aload_n hx hb dX7_take_28 rfl (lv_at hl 1 rfl) ?_
            refine lv_bipush (v := (-11)) hx hb dX7_take_29 (by decide) ?_
            refine x_callVi (As := [.int (-11)]) ⟨hx, hb, hml, hown, hts⟩ hK S (ct_X7_found l D cy ad B _ _ _ h) xo_0 rfl (cwV 1 hts gX7_take_X7_found rfl rfl rfl (by decide +kernel) ⟨Nat.le_of_ble_eq_true rfl, Nat.le_of_ble_eq_true rfl⟩) rfl hl.1 rfl (Nat.le_of_ble_eq_true rfl) dX7_take_31 ⟨Nat.zero_le _, Nat.zero_le _⟩ (fun r5 M5 H locs h S => ?_)
            exact x_iret hx hb hr hlocks S rfl h dX7_take_34
      · replace h := h.2 c4
        refine lv_aload_n hx hb dX7_take_7 rfl (lv_at hl 0 rfl) ?_
        refine lv_bipush (v := (-12)) hx hb dX7_take_8 (by decide) ?_
        refine x_callVi (As := [.int (-12)]) ⟨hx, hb, hml, hown, hts⟩ hK S (ct_X7_found l D cy ad B _ _ _ h) xo_0 rfl (cwV 1 hts gX7_take_X7_found rfl rfl rfl (by decide +kernel) ⟨Nat.le_of_ble_eq_true rfl, Nat.le_of_ble_eq_true rfl⟩) rfl hl.1 rfl (Nat.le_of_ble_eq_true rfl) dX7_take_10 ⟨Nat.zero_le _, Nat.zero_le _⟩ (fun r6 M6 H locs h S => ?_)
        exact x_iret hx hb hr hlocks S rfl h dX7_take_13
    | 1, h, hl =>
      have hl : lv_has ls 6 [(0, .ref (ad 0))] := hl
      have h : blk_X7_take_1 v1 v2 Q P v4 v5 M := h
      unfold blk_X7_take_1 at h
      refine W.eq (g2 := F0 m 47 ls []) rfl ?_
      refine lv_aload_n hx hb dX7_take_47 rfl (lv_at hl 0 rfl) ?_
      refine lv_bipush (v := (-12)) hx hb dX7_take_48 (by decide) ?_
      refine x_callVi (As := [.int (-12)]) ⟨hx, hb, hml, hown, hts⟩ hK S (ct_X7_found l D cy ad B _ _ _ h) xo_0 rfl (cwV 1 hts gX7_take_X7_found rfl rfl rfl (by decide +kernel) ⟨Nat.le_of_ble_eq_true rfl, Nat.le_of_ble_eq_true rfl⟩) rfl hl.1 rfl (Nat.le_of_ble_eq_true rfl) dX7_take_50 ⟨Nat.zero_le _, Nat.zero_le _⟩ (fun r7 M7 H locs h S => ?_)
      exact x_iret hx hb hr hlocks S rfl h dX7_take_53
    | 2, h, hl =>
      have hl : lv_has ls 6 [(0, .ref (ad 0)), (3, .ref (ad 2)), (4, .int v4), (5, .int v5)] := hl
      have h : blk_X7_take_2 v1 v2 Q P v4 v5 M := h
      unfold blk_X7_take_2 at h
      refine W.eq (g2 := F0 m 60 ls []) rfl ?_
      refine lv_iload hx hb dX7_take_60 (lv_at hl 3 rfl) ?_
      refine lv_iconst (v := 1) hx hb dX7_take_62 (by decide) ?_
      refine lv_iadd hx hb dX7_take_63 ?_
      refine lv_aload_n hx hb dX7_take_64 rfl (lv_at hl 1 rfl) ?_
      refine x_getI hx hb hts (hC5) hown hK S 3 (by decide) xf_2_3 (index := 102) (hts _ (List.mem_of_getElem? (i := 3) rfl)) dX7_take_65 ?_
      refine lv_icmp_ge (tgt := 106) hx hb dX7_take_68 (by decide) (fun c68 => ?_) (fun c68 => ?_)
      · replace h := h.1 c68
        refine lv_iload hx hb dX7_take_106 (lv_at hl 2 rfl) ?_
        exact x_iret hx hb hr hlocks S rfl h dX7_take_108
      · replace h := h.2 c68
        refine lv_aload_n hx hb dX7_take_71 rfl (lv_at hl 0 rfl) ?_
        refine lv_aload_n hx hb dX7_take_72 rfl (lv_at hl 1 rfl) ?_
        refine x_getR hx hb hts (hC5) hown hK S 0 (by decide) xf_2_0 (index := 84) (hts _ (List.mem_of_getElem? (i := 4) rfl)) dX7_take_73 ?_
        refine lv_iload hx hb dX7_take_76 (lv_at hl 3 rfl) ?_
        refine x_lald hx hb hK S xa_6 h.1 dX7_take_78 ?_
        replace h := h.2
        refine lv_aload_n hx hb dX7_take_79 rfl (lv_at hl 1 rfl) ?_
        refine x_getR hx hb hts (hC5) hown hK S 0 (by decide) xf_2_0 (index := 84) (hts _ (List.mem_of_getElem? (i := 4) rfl)) dX7_take_80 ?_
        refine lv_iload hx hb dX7_take_83 (lv_at hl 3 rfl) ?_
        refine lv_iconst (v := 1) hx hb dX7_take_85 (by decide) ?_
        refine lv_iadd hx hb dX7_take_86 ?_
        refine x_lald hx hb hK S xa_6 h.1 dX7_take_87 ?_
        replace h := h.2
        refine x_callVi (As := [.long (M.2 6 v5.toNatClampNeg), .long (M.2 6 (v5 + 1).toNatClampNeg)]) ⟨hx, hb, hml, hown, hts⟩ hK S (ct_X7_collect l D cy ad B _ _ _ _ h) xo_0 rfl (cwV 2 hts gX7_take_X7_collect rfl rfl rfl (by decide +kernel) ⟨Nat.le_of_ble_eq_true rfl, Nat.le_of_ble_eq_true rfl⟩) rfl hl.1 rfl (Nat.le_of_ble_eq_true rfl) dX7_take_88 ⟨Nat.zero_le _, Nat.zero_le _⟩ (fun r8 M8 H locs h S => ?_)
        refine lv_if_ge (tgt := 97) hx hb dX7_take_91 (by decide) (fun c91 => ?_) (fun c91 => ?_)
        · replace h := h.1 c91
          refine lv_iinc (v := (v4 + 1)) (lv' := [(4, .int (v4 + 1)), (0, .ref (ad 0)), (3, .ref (ad 2)), (5, .int v5)]) hx hb dX7_take_97 hl (k := 2) rfl rfl (by decide) rfl (fun ls hl => ?_)
          refine lv_iinc (v := (v5 + 2)) (lv' := [(5, .int (v5 + 2)), (4, .int (v4 + 1)), (0, .ref (ad 0)), (3, .ref (ad 2))]) hx hb dX7_take_100 hl (k := 3) rfl rfl (by decide) rfl (fun ls hl => ?_)
          refine lv_goto (tgt := 60) hx hb dX7_take_103 (by decide) ?_
          exact hJ _ _ _ _ h _ _ _ S (lv_sub hl [2, 3, 1, 0] rfl)
        · replace h := h.2 c91
          refine lv_goto (tgt := 106) hx hb dX7_take_94 (by decide) ?_
          refine lv_iload hx hb dX7_take_106 (lv_at hl 2 rfl) ?_
          exact x_iret hx hb hr hlocks S rfl h dX7_take_108
    | 3, h, hl =>
      have hl : lv_has ls 6 [(0, .ref (ad 0)), (3, .ref (ad 3)), (4, .int v4), (5, .int v5)] := hl
      have h : blk_X7_take_3 v1 v2 Q P v4 v5 M := h
      unfold blk_X7_take_3 at h
      refine W.eq (g2 := F0 m 60 ls []) rfl ?_
      refine lv_iload hx hb dX7_take_60 (lv_at hl 3 rfl) ?_
      refine lv_iconst (v := 1) hx hb dX7_take_62 (by decide) ?_
      refine lv_iadd hx hb dX7_take_63 ?_
      refine lv_aload_n hx hb dX7_take_64 rfl (lv_at hl 1 rfl) ?_
      refine x_getI hx hb hts (hC5) hown hK S 3 (by decide) xf_3_3 (index := 102) (hts _ (List.mem_of_getElem? (i := 3) rfl)) dX7_take_65 ?_
      refine lv_icmp_ge (tgt := 106) hx hb dX7_take_68 (by decide) (fun c68 => ?_) (fun c68 => ?_)
      · replace h := h.1 c68
        refine lv_iload hx hb dX7_take_106 (lv_at hl 2 rfl) ?_
        exact x_iret hx hb hr hlocks S rfl h dX7_take_108
      · replace h := h.2 c68
        refine lv_aload_n hx hb dX7_take_71 rfl (lv_at hl 0 rfl) ?_
        refine lv_aload_n hx hb dX7_take_72 rfl (lv_at hl 1 rfl) ?_
        refine x_getR hx hb hts (hC5) hown hK S 0 (by decide) xf_3_0 (index := 84) (hts _ (List.mem_of_getElem? (i := 4) rfl)) dX7_take_73 ?_
        refine lv_iload hx hb dX7_take_76 (lv_at hl 3 rfl) ?_
        refine x_lald hx hb hK S xa_7 h.1 dX7_take_78 ?_
        replace h := h.2
        refine lv_aload_n hx hb dX7_take_79 rfl (lv_at hl 1 rfl) ?_
        refine x_getR hx hb hts (hC5) hown hK S 0 (by decide) xf_3_0 (index := 84) (hts _ (List.mem_of_getElem? (i := 4) rfl)) dX7_take_80 ?_
        refine lv_iload hx hb dX7_take_83 (lv_at hl 3 rfl) ?_
        refine lv_iconst (v := 1) hx hb dX7_take_85 (by decide) ?_
        refine lv_iadd hx hb dX7_take_86 ?_
        refine x_lald hx hb hK S xa_7 h.1 dX7_take_87 ?_
        replace h := h.2
        refine x_callVi (As := [.long (M.2 7 v5.toNatClampNeg), .long (M.2 7 (v5 + 1).toNatClampNeg)]) ⟨hx, hb, hml, hown, hts⟩ hK S (ct_X7_collect l D cy ad B _ _ _ _ h) xo_0 rfl (cwV 2 hts gX7_take_X7_collect rfl rfl rfl (by decide +kernel) ⟨Nat.le_of_ble_eq_true rfl, Nat.le_of_ble_eq_true rfl⟩) rfl hl.1 rfl (Nat.le_of_ble_eq_true rfl) dX7_take_88 ⟨Nat.zero_le _, Nat.zero_le _⟩ (fun r9 M9 H locs h S => ?_)
        refine lv_if_ge (tgt := 97) hx hb dX7_take_91 (by decide) (fun c91 => ?_) (fun c91 => ?_)
        · replace h := h.1 c91
          refine lv_iinc (v := (v4 + 1)) (lv' := [(4, .int (v4 + 1)), (0, .ref (ad 0)), (3, .ref (ad 3)), (5, .int v5)]) hx hb dX7_take_97 hl (k := 2) rfl rfl (by decide) rfl (fun ls hl => ?_)
          refine lv_iinc (v := (v5 + 2)) (lv' := [(5, .int (v5 + 2)), (4, .int (v4 + 1)), (0, .ref (ad 0)), (3, .ref (ad 3))]) hx hb dX7_take_100 hl (k := 3) rfl rfl (by decide) rfl (fun ls hl => ?_)
          refine lv_goto (tgt := 60) hx hb dX7_take_103 (by decide) ?_
          exact hJ _ _ _ _ h _ _ _ S (lv_sub hl [2, 3, 1, 0] rfl)
        · replace h := h.2 c91
          refine lv_goto (tgt := 106) hx hb dX7_take_94 (by decide) ?_
          refine lv_iload hx hb dX7_take_106 (lv_at hl 2 rfl) ?_
          exact x_iret hx hb hr hlocks S rfl h dX7_take_108
    | 4, h, hl =>
      have hl : lv_has ls 6 [(0, .ref (ad 0)), (3, .ref (ad 4)), (4, .int v4), (5, .int v5)] := hl
      have h : blk_X7_take_4 v1 v2 Q P v4 v5 M := h
      unfold blk_X7_take_4 at h
      refine W.eq (g2 := F0 m 60 ls []) rfl ?_
      refine lv_iload hx hb dX7_take_60 (lv_at hl 3 rfl) ?_
      refine lv_iconst (v := 1) hx hb dX7_take_62 (by decide) ?_
      refine lv_iadd hx hb dX7_take_63 ?_
      refine lv_aload_n hx hb dX7_take_64 rfl (lv_at hl 1 rfl) ?_
      refine x_getI hx hb hts (hC5) hown hK S 3 (by decide) xf_4_3 (index := 102) (hts _ (List.mem_of_getElem? (i := 3) rfl)) dX7_take_65 ?_
      refine lv_icmp_ge (tgt := 106) hx hb dX7_take_68 (by decide) (fun c68 => ?_) (fun c68 => ?_)
      · replace h := h.1 c68
        refine lv_iload hx hb dX7_take_106 (lv_at hl 2 rfl) ?_
        exact x_iret hx hb hr hlocks S rfl h dX7_take_108
      · replace h := h.2 c68
        refine lv_aload_n hx hb dX7_take_71 rfl (lv_at hl 0 rfl) ?_
        refine lv_aload_n hx hb dX7_take_72 rfl (lv_at hl 1 rfl) ?_
        refine x_getR hx hb hts (hC5) hown hK S 0 (by decide) xf_4_0 (index := 84) (hts _ (List.mem_of_getElem? (i := 4) rfl)) dX7_take_73 ?_
        refine lv_iload hx hb dX7_take_76 (lv_at hl 3 rfl) ?_
        refine x_lald hx hb hK S xa_8 h.1 dX7_take_78 ?_
        replace h := h.2
        refine lv_aload_n hx hb dX7_take_79 rfl (lv_at hl 1 rfl) ?_
        refine x_getR hx hb hts (hC5) hown hK S 0 (by decide) xf_4_0 (index := 84) (hts _ (List.mem_of_getElem? (i := 4) rfl)) dX7_take_80 ?_
        refine lv_iload hx hb dX7_take_83 (lv_at hl 3 rfl) ?_
        refine lv_iconst (v := 1) hx hb dX7_take_85 (by decide) ?_
        refine lv_iadd hx hb dX7_take_86 ?_
        refine x_lald hx hb hK S xa_8 h.1 dX7_take_87 ?_
        replace h := h.2
        refine x_callVi (As := [.long (M.2 8 v5.toNatClampNeg), .long (M.2 8 (v5 + 1).toNatClampNeg)]) ⟨hx, hb, hml, hown, hts⟩ hK S (ct_X7_collect l D cy ad B _ _ _ _ h) xo_0 rfl (cwV 2 hts gX7_take_X7_collect rfl rfl rfl (by decide +kernel) ⟨Nat.le_of_ble_eq_true rfl, Nat.le_of_ble_eq_true rfl⟩) rfl hl.1 rfl (Nat.le_of_ble_eq_true rfl) dX7_take_88 ⟨Nat.zero_le _, Nat.zero_le _⟩ (fun r10 M10 H locs h S => ?_)
        refine lv_if_ge (tgt := 97) hx hb dX7_take_91 (by decide) (fun c91 => ?_) (fun c91 => ?_)
        · replace h := h.1 c91
          refine lv_iinc (v := (v4 + 1)) (lv' := [(4, .int (v4 + 1)), (0, .ref (ad 0)), (3, .ref (ad 4)), (5, .int v5)]) hx hb dX7_take_97 hl (k := 2) rfl rfl (by decide) rfl (fun ls hl => ?_)
          refine lv_iinc (v := (v5 + 2)) (lv' := [(5, .int (v5 + 2)), (4, .int (v4 + 1)), (0, .ref (ad 0)), (3, .ref (ad 4))]) hx hb dX7_take_100 hl (k := 3) rfl rfl (by decide) rfl (fun ls hl => ?_)
          refine lv_goto (tgt := 60) hx hb dX7_take_103 (by decide) ?_
          exact hJ _ _ _ _ h _ _ _ S (lv_sub hl [2, 3, 1, 0] rfl)
        · replace h := h.2 c91
          refine lv_goto (tgt := 106) hx hb dX7_take_94 (by decide) ?_
          refine lv_iload hx hb dX7_take_106 (lv_at hl 2 rfl) ?_
          exact x_iret hx hb hr hlocks S rfl h dX7_take_108
    | 5, h, hl =>
      have hl : lv_has ls 6 [(0, .ref (ad 0)), (3, .ref (ad 5)), (4, .int v4), (5, .int v5)] := hl
      have h : blk_X7_take_5 v1 v2 Q P v4 v5 M := h
      unfold blk_X7_take_5 at h
      refine W.eq (g2 := F0 m 60 ls []) rfl ?_
      refine lv_iload hx hb dX7_take_60 (lv_at hl 3 rfl) ?_
      refine lv_iconst (v := 1) hx hb dX7_take_62 (by decide) ?_
      refine lv_iadd hx hb dX7_take_63 ?_
      refine lv_aload_n hx hb dX7_take_64 rfl (lv_at hl 1 rfl) ?_
      refine x_getI hx hb hts (hC5) hown hK S 3 (by decide) xf_5_3 (index := 102) (hts _ (List.mem_of_getElem? (i := 3) rfl)) dX7_take_65 ?_
      refine lv_icmp_ge (tgt := 106) hx hb dX7_take_68 (by decide) (fun c68 => ?_) (fun c68 => ?_)
      · replace h := h.1 c68
        refine lv_iload hx hb dX7_take_106 (lv_at hl 2 rfl) ?_
        exact x_iret hx hb hr hlocks S rfl h dX7_take_108
      · replace h := h.2 c68
        refine lv_aload_n hx hb dX7_take_71 rfl (lv_at hl 0 rfl) ?_
        refine lv_aload_n hx hb dX7_take_72 rfl (lv_at hl 1 rfl) ?_
        refine x_getR hx hb hts (hC5) hown hK S 0 (by decide) xf_5_0 (index := 84) (hts _ (List.mem_of_getElem? (i := 4) rfl)) dX7_take_73 ?_
        refine lv_iload hx hb dX7_take_76 (lv_at hl 3 rfl) ?_
        refine x_lald hx hb hK S xa_9 h.1 dX7_take_78 ?_
        replace h := h.2
        refine lv_aload_n hx hb dX7_take_79 rfl (lv_at hl 1 rfl) ?_
        refine x_getR hx hb hts (hC5) hown hK S 0 (by decide) xf_5_0 (index := 84) (hts _ (List.mem_of_getElem? (i := 4) rfl)) dX7_take_80 ?_
        refine lv_iload hx hb dX7_take_83 (lv_at hl 3 rfl) ?_
        refine lv_iconst (v := 1) hx hb dX7_take_85 (by decide) ?_
        refine lv_iadd hx hb dX7_take_86 ?_
        refine x_lald hx hb hK S xa_9 h.1 dX7_take_87 ?_
        replace h := h.2
        refine x_callVi (As := [.long (M.2 9 v5.toNatClampNeg), .long (M.2 9 (v5 + 1).toNatClampNeg)]) ⟨hx, hb, hml, hown, hts⟩ hK S (ct_X7_collect l D cy ad B _ _ _ _ h) xo_0 rfl (cwV 2 hts gX7_take_X7_collect rfl rfl rfl (by decide +kernel) ⟨Nat.le_of_ble_eq_true rfl, Nat.le_of_ble_eq_true rfl⟩) rfl hl.1 rfl (Nat.le_of_ble_eq_true rfl) dX7_take_88 ⟨Nat.zero_le _, Nat.zero_le _⟩ (fun r11 M11 H locs h S => ?_)
        refine lv_if_ge (tgt := 97) hx hb dX7_take_91 (by decide) (fun c91 => ?_) (fun c91 => ?_)
        · replace h := h.1 c91
          refine lv_iinc (v := (v4 + 1)) (lv' := [(4, .int (v4 + 1)), (0, .ref (ad 0)), (3, .ref (ad 5)), (5, .int v5)]) hx hb dX7_take_97 hl (k := 2) rfl rfl (by decide) rfl (fun ls hl => ?_)
          refine lv_iinc (v := (v5 + 2)) (lv' := [(5, .int (v5 + 2)), (4, .int (v4 + 1)), (0, .ref (ad 0)), (3, .ref (ad 5))]) hx hb dX7_take_100 hl (k := 3) rfl rfl (by decide) rfl (fun ls hl => ?_)
          refine lv_goto (tgt := 60) hx hb dX7_take_103 (by decide) ?_
          exact hJ _ _ _ _ h _ _ _ S (lv_sub hl [2, 3, 1, 0] rfl)
        · replace h := h.2 c91
          refine lv_goto (tgt := 106) hx hb dX7_take_94 (by decide) ?_
          refine lv_iload hx hb dX7_take_106 (lv_at hl 2 rfl) ?_
          exact x_iret hx hb hr hlocks S rfl h dX7_take_108
    | _ + 6, h, hl => exact h.elim
  have hl := lv_entry ([.ref (ad 0), .int v1, .int v2]) (n := 6) (Nat.le_of_ble_eq_true rfl)
  subst hargs
  rw [lg_entry_eq]
  generalize (lg_sl ([.ref (ad 0), .int v1, .int v2]) ++ List.replicate (6 - (lg_sl ([.ref (ad 0), .int v1, .int v2])).length) Slot.unset).toArray = ls at hl ⊢
  exact h _ (key _ (fun _ _ _ _ h => h)) s.heap [] ls ⟨hP, hD, va_S.rf⟩ hl
/-! X7_clear -/
def wp_X7_clear (M : Mem) (Q : Int32 → Mem → Prop) : Prop :=
  Q (M.1 10 2) (upI M 10 2 0)
theorem wp_X7_clear_mono {M : Mem} {Q Q' : Int32 → Mem → Prop} (hQ : ∀ (r : Int32) (M : Mem), Q r M → Q' r M) (h : wp_X7_clear M Q) : wp_X7_clear M Q' := by
  unfold wp_X7_clear at h ⊢
  exact hQ _ _ h
abbrev rm_X7_clear : Jvm.Room := { frames := 1, cells := 0, slots := 0, locals := 13 }
set_option maxHeartbeats 4000000 in
set_option maxRecDepth 100000 in
theorem ct_X7_clear (l : Launch) (D : va_G) (cy : Nat → ClassId) (ad : Nat → Nat) (B : Nat → Prop) (M : Mem) (Q : Int32 → Mem → Prop) (h : wp_X7_clear M Q) : CTi l D cy (wX ad cy) B yX7_clear wsX7_clear rm_X7_clear [.ref (ad 0)] M Q := by
  intro sz
  refine Met.ofW (cc := cX7_clear) (maxL := 2) (ret := some .int) (by decide) rfl ?_
  intro p e s m args below meth c s₁ Bd hml hv
  obtain ⟨hargs, hsz, hP, hK, hD⟩ := hv
  subst hsz
  have hx := Bd.exec
  have hb := Bd.bytes
  have hr := Bd.returns
  have hts := atoms_spec (ws := wsX7_clear) Bd.pre
  have hown : s.vm.findClass RX7 = some m.cls := findClass_of_methodNamed Bd.named
  have hlocks := Bd.notSynchronized
  have hC4 : xC wsX7_clear 4 RX4 TX4 3 := ⟨by decide +kernel, rfl⟩
  have hC7 : xC wsX7_clear 7 RX7 TX7 11 := ⟨by decide +kernel, rfl⟩
  have hl := lv_entry ([.ref (ad 0)]) (n := 2) (Nat.le_of_ble_eq_true rfl)
  subst hargs
  rw [lg_entry_eq]
  generalize (lg_sl ([.ref (ad 0)]) ++ List.replicate (2 - (lg_sl ([.ref (ad 0)])).length) Slot.unset).toArray = ls at hl ⊢
  have hl : lv_has ls 2 [(0, .ref (ad 0))] := hl
  have S : xS D (wX ad cy) B s.heap s.heap [] M := ⟨hP, hD, va_S.rf⟩
  unfold wp_X7_clear at h
  refine lv_aload_n hx hb dX7_clear_0 rfl (lv_at hl 0 rfl) ?_
  refine x_getR hx hb hts (hC7) hown hK S 1 (by decide) xf_0_1 (index := 18) (hts _ (List.mem_of_getElem? (i := 1) rfl)) dX7_clear_1 ?_
  refine x_getI hx hb hts (hC4) hown hK S 2 (by decide) xf_10_2 (index := 105) (hts _ (List.mem_of_getElem? (i := 2) rfl)) dX7_clear_4 ?_
  refine lv_istore_n (lv' := [(1, .int (M.1 10 2)), (0, .ref (ad 0))]) hx hb dX7_clear_7 rfl hl (by decide) rfl (fun ls hl => ?_)
  refine lv_aload_n hx hb dX7_clear_8 rfl (lv_at hl 1 rfl) ?_
  refine x_getR hx hb hts (hC7) hown hK S 1 (by decide) xf_0_1 (index := 18) (hts _ (List.mem_of_getElem? (i := 1) rfl)) dX7_clear_9 ?_
  refine lv_iconst (v := 0) hx hb dX7_clear_12 (by decide) ?_
  refine x_putI hx hb hts (hC4) tyX4 tyX4_ok nmX4 hown hK S 2 (by decide) xf_10_2 (index := 105) (hts _ (List.mem_of_getElem? (i := 2) rfl)) rfl rfl rfl dX7_clear_13 (fun H locs S => ?_)
  refine lv_iload_n hx hb dX7_clear_16 rfl (lv_at hl 0 rfl) ?_
  exact x_iret hx hb hr hlocks S rfl h dX7_clear_17
/-! X4_add_14 -/
def wp_X4_add_14 (v1 : Int32) (v2 : Int32) (M : Mem) (Q : Mem → Prop) : Prop :=
  ((8 ≤ (M.1 14 2) → Q M) ∧ (¬ 8 ≤ (M.1 14 2) → (vp_in (M.1 14 2) 8 ∧ (vp_in ((upI M 15 (M.1 14 2).toNatClampNeg v1).1 14 2) 8 ∧ Q (upI (upI (upI M 15 (M.1 14 2).toNatClampNeg v1) 16 ((upI M 15 (M.1 14 2).toNatClampNeg v1).1 14 2).toNatClampNeg v2) 14 2 (((upI (upI M 15 (M.1 14 2).toNatClampNeg v1) 16 ((upI M 15 (M.1 14 2).toNatClampNeg v1).1 14 2).toNatClampNeg v2).1 14 2) + 1))))))
theorem wp_X4_add_14_mono {v1 : Int32} {v2 : Int32} {M : Mem} {Q Q' : Mem → Prop} (hQ : ∀ M : Mem, Q M → Q' M) (h : wp_X4_add_14 v1 v2 M Q) : wp_X4_add_14 v1 v2 M Q' := by
  unfold wp_X4_add_14 at h ⊢
  exact ⟨fun c => let h := h.1 c; hQ _ h, fun c => let h := h.2 c; ⟨h.1, let h := h.2; ⟨h.1, let h := h.2; hQ _ h⟩⟩⟩
abbrev rm_X4_add_14 : Jvm.Room := { frames := 1, cells := 0, slots := 0, locals := 14 }
set_option maxHeartbeats 4000000 in
set_option maxRecDepth 100000 in
theorem ct_X4_add_14 (l : Launch) (D : va_G) (cy : Nat → ClassId) (ad : Nat → Nat) (B : Nat → Prop) (v1 : Int32) (v2 : Int32) (M : Mem) (Q : Mem → Prop) (h : wp_X4_add_14 v1 v2 M Q) : CTv l D cy (wX ad cy) B yX4_add wsX4_add rm_X4_add_14 [.ref (ad 14), .int v1, .int v2] M Q := by
  intro sz
  refine Met.ofW (cc := cX4_add) (maxL := 3) (ret := none) (by decide) rfl ?_
  intro p e s m args below meth c s₁ Bd hml hv
  obtain ⟨hargs, hsz, hP, hK, hD⟩ := hv
  subst hsz
  have hx := Bd.exec
  have hb := Bd.bytes
  have hr := Bd.returns
  have hts := atoms_spec (ws := wsX4_add) Bd.pre
  have hown : s.vm.findClass RX4 = some m.cls := findClass_of_methodNamed Bd.named
  have hlocks := Bd.notSynchronized
  have hC4 : xC wsX4_add 4 RX4 TX4 3 := ⟨by decide +kernel, rfl⟩
  have hl := lv_entry ([.ref (ad 14), .int v1, .int v2]) (n := 3) (Nat.le_of_ble_eq_true rfl)
  subst hargs
  rw [lg_entry_eq]
  generalize (lg_sl ([.ref (ad 14), .int v1, .int v2]) ++ List.replicate (3 - (lg_sl ([.ref (ad 14), .int v1, .int v2])).length) Slot.unset).toArray = ls at hl ⊢
  have hl : lv_has ls 3 [(0, .ref (ad 14)), (1, .int v1), (2, .int v2)] := hl
  have S : xS D (wX ad cy) B s.heap s.heap [] M := ⟨hP, hD, va_S.rf⟩
  unfold wp_X4_add_14 at h
  refine lv_aload_n hx hb dX4_add_0 rfl (lv_at hl 0 rfl) ?_
  refine x_getI hx hb hts (hC4) hown hK S 2 (by decide) xf_14_2 (index := 18) (hts _ (List.mem_of_getElem? (i := 1) rfl)) dX4_add_1 ?_
  refine lv_bipush (v := 8) hx hb dX4_add_4 (by decide) ?_
  refine lv_icmp_ge (tgt := 39) hx hb dX4_add_6 (by decide) (fun c6 => ?_) (fun c6 => ?_)
  · replace h := h.1 c6
    exact x_vret hx hb hr hlocks S h dX4_add_39
  · replace h := h.2 c6
    refine lv_aload_n hx hb dX4_add_9 rfl (lv_at hl 0 rfl) ?_
    refine x_getR hx hb hts (hC4) hown hK S 0 (by decide) xf_14_0 (index := 9) (hts _ (List.mem_of_getElem? (i := 2) rfl)) dX4_add_10 ?_
    refine lv_aload_n hx hb dX4_add_13 rfl (lv_at hl 0 rfl) ?_
    refine x_getI hx hb hts (hC4) hown hK S 2 (by decide) xf_14_2 (index := 18) (hts _ (List.mem_of_getElem? (i := 1) rfl)) dX4_add_14 ?_
    refine lv_iload_n hx hb dX4_add_17 rfl (lv_at hl 1 rfl) ?_
    refine x_iast hx hb hK S xa_15 h.1 dX4_add_18 (fun H locs S => ?_)
    replace h := h.2
    refine lv_aload_n hx hb dX4_add_19 rfl (lv_at hl 0 rfl) ?_
    refine x_getR hx hb hts (hC4) hown hK S 1 (by decide) xf_14_1 (index := 15) (hts _ (List.mem_of_getElem? (i := 3) rfl)) dX4_add_20 ?_
    refine lv_aload_n hx hb dX4_add_23 rfl (lv_at hl 0 rfl) ?_
    refine x_getI hx hb hts (hC4) hown hK S 2 (by decide) xf_14_2 (index := 18) (hts _ (List.mem_of_getElem? (i := 1) rfl)) dX4_add_24 ?_
    refine lv_iload_n hx hb dX4_add_27 rfl (lv_at hl 2 rfl) ?_
    refine x_iast hx hb hK S xa_16 h.1 dX4_add_28 (fun H locs S => ?_)
    replace h := h.2
    refine lv_aload_n hx hb dX4_add_29 rfl (lv_at hl 0 rfl) ?_
    refine lv_dup hx hb dX4_add_30 rfl ?_
    refine x_getI hx hb hts (hC4) hown hK S 2 (by decide) xf_14_2 (index := 18) (hts _ (List.mem_of_getElem? (i := 1) rfl)) dX4_add_31 ?_
    refine lv_iconst (v := 1) hx hb dX4_add_34 (by decide) ?_
    refine lv_iadd hx hb dX4_add_35 ?_
    refine x_putI hx hb hts (hC4) tyX4 tyX4_ok nmX4 hown hK S 2 (by decide) xf_14_2 (index := 18) (hts _ (List.mem_of_getElem? (i := 1) rfl)) rfl rfl rfl dX4_add_36 (fun H locs S => ?_)
    exact x_vret hx hb hr hlocks S h dX4_add_39
/-! X4_becomeThoseOf -/
def blk_X4_becomeThoseOf_0 (Q : Mem → Prop) (P : Nat → Int32 → Mem → Prop) (v2 : Int32) (M : Mem) : Prop :=
  P 1 0 (upI M 14 2 0)
theorem blk_X4_becomeThoseOf_0_mono {Q Q' : Mem → Prop} {P P' : Nat → Int32 → Mem → Prop} (hQ : ∀ M : Mem, Q M → Q' M) (hP : ∀ (lab : Nat) (v2 : Int32) (M : Mem), P lab v2 M → P' lab v2 M) (v2 : Int32) (M : Mem) (h : blk_X4_becomeThoseOf_0 Q P v2 M) : blk_X4_becomeThoseOf_0 Q' P' v2 M := by
  unfold blk_X4_becomeThoseOf_0 at h ⊢
  exact hP _ _ _ h
def blk_X4_becomeThoseOf_1 (Q : Mem → Prop) (P : Nat → Int32 → Mem → Prop) (v2 : Int32) (M : Mem) : Prop :=
  (((M.1 10 2) ≤ v2 → Q M) ∧ (¬ (M.1 10 2) ≤ v2 → (vp_in v2 8 ∧ (vp_in v2 8 ∧ wp_X4_add_14 (M.1 11 v2.toNatClampNeg) (M.1 12 v2.toNatClampNeg) M (fun M1 => P 1 (v2 + 1) M1)))))
theorem blk_X4_becomeThoseOf_1_mono {Q Q' : Mem → Prop} {P P' : Nat → Int32 → Mem → Prop} (hQ : ∀ M : Mem, Q M → Q' M) (hP : ∀ (lab : Nat) (v2 : Int32) (M : Mem), P lab v2 M → P' lab v2 M) (v2 : Int32) (M : Mem) (h : blk_X4_becomeThoseOf_1 Q P v2 M) : blk_X4_becomeThoseOf_1 Q' P' v2 M := by
  unfold blk_X4_becomeThoseOf_1 at h ⊢
  exact ⟨fun c => let h := h.1 c; hQ _ h, fun c => let h := h.2 c; ⟨h.1, let h := h.2; ⟨h.1, let h := h.2; wp_X4_add_14_mono (fun M1 h => hP _ _ _ h) h⟩⟩⟩
def blk_X4_becomeThoseOf (Q : Mem → Prop) (P : Nat → Int32 → Mem → Prop) : Nat → Int32 → Mem → Prop := fun lab v2 M => match lab with
  | 0 => blk_X4_becomeThoseOf_0 Q P v2 M
  | 1 => blk_X4_becomeThoseOf_1 Q P v2 M
  | _ => False
theorem blk_X4_becomeThoseOf_mono {Q Q' : Mem → Prop} {P P' : Nat → Int32 → Mem → Prop} (hQ : ∀ M : Mem, Q M → Q' M) (hP : ∀ (lab : Nat) (v2 : Int32) (M : Mem), P lab v2 M → P' lab v2 M) : ∀ (lab : Nat) (v2 : Int32) (M : Mem), blk_X4_becomeThoseOf Q P lab v2 M → blk_X4_becomeThoseOf Q' P' lab v2 M := fun lab v2 M h => match lab, h with
  | 0, h => blk_X4_becomeThoseOf_0_mono hQ hP v2 M h
  | 1, h => blk_X4_becomeThoseOf_1_mono hQ hP v2 M h
  | _ + 2, h => False.elim h
def at_X4_becomeThoseOf (Q : Mem → Prop) : Nat → Int32 → Mem → Prop := fun lab v2 M => ∀ P : Nat → Int32 → Mem → Prop, (∀ (lab : Nat) (v2 : Int32) (M : Mem), blk_X4_becomeThoseOf Q P lab v2 M → P lab v2 M) → P lab v2 M
theorem at_X4_becomeThoseOf_fold {Q : Mem → Prop} {lab : Nat} {v2 : Int32} {M : Mem} (h : blk_X4_becomeThoseOf Q (at_X4_becomeThoseOf Q) lab v2 M) : at_X4_becomeThoseOf Q lab v2 M := fun P hP => hP _ _ _ (blk_X4_becomeThoseOf_mono (fun _ h => h) (fun _ _ _ h => h P hP) _ _ _ h)
theorem at_X4_becomeThoseOf_mono {Q Q' : Mem → Prop} (hQ : ∀ M : Mem, Q M → Q' M) {lab : Nat} {v2 : Int32} {M : Mem} (h : at_X4_becomeThoseOf Q lab v2 M) : at_X4_becomeThoseOf Q' lab v2 M := fun P hP => h P (fun lab v2 M hb => hP _ _ _ (blk_X4_becomeThoseOf_mono hQ (fun _ _ _ h => h) _ _ _ hb))
def wp_X4_becomeThoseOf (M : Mem) (Q : Mem → Prop) : Prop := at_X4_becomeThoseOf Q 0 0 M
theorem wp_X4_becomeThoseOf_mono {M : Mem} {Q Q' : Mem → Prop} (hQ : ∀ M : Mem, Q M → Q' M) (h : wp_X4_becomeThoseOf M Q) : wp_X4_becomeThoseOf M Q' := at_X4_becomeThoseOf_mono hQ h
def pcl_X4_becomeThoseOf : Nat → Nat := fun lab => match lab with
  | 0 => 0
  | 1 => 7
  | _ => 0
def lvl_X4_becomeThoseOf (ad : Nat → Nat) : Nat → Int32 → List (Nat × Value) := fun lab v2 => match lab with
  | 0 => [(0, .ref (ad 14)), (1, .ref (ad 10))]
  | 1 => [(0, .ref (ad 14)), (1, .ref (ad 10)), (2, .int v2)]
  | _ => []
abbrev rm_X4_becomeThoseOf : Jvm.Room := { frames := 2, cells := 0, slots := 0, locals := 36 }
set_option maxHeartbeats 4000000 in
set_option maxRecDepth 100000 in
theorem ct_X4_becomeThoseOf (l : Launch) (D : va_G) (cy : Nat → ClassId) (ad : Nat → Nat) (B : Nat → Prop) (M : Mem) (Q : Mem → Prop) (h : wp_X4_becomeThoseOf M Q) : CTv l D cy (wX ad cy) B yX4_becomeThoseOf wsX4_becomeThoseOf rm_X4_becomeThoseOf [.ref (ad 14), .ref (ad 10)] M Q := by
  intro sz
  refine Met.ofW (cc := cX4_becomeThoseOf) (maxL := 3) (ret := none) (by decide) rfl ?_
  intro p e s m args below meth c s₁ Bd hml hv
  obtain ⟨hargs, hsz, hP, hK, hD⟩ := hv
  subst hsz
  have hx := Bd.exec
  have hb := Bd.bytes
  have hr := Bd.returns
  have hts := atoms_spec (ws := wsX4_becomeThoseOf) Bd.pre
  have hown : s.vm.findClass RX4 = some m.cls := findClass_of_methodNamed Bd.named
  have hlocks := Bd.notSynchronized
  have hC4 : xC wsX4_becomeThoseOf 4 RX4 TX4 3 := ⟨by decide +kernel, rfl⟩
  have key : ∀ (P : Nat → Int32 → Mem → Prop), (∀ (lab : Nat) (v2 : Int32) (M : Mem), P lab v2 M → ∀ (H : Heap) (locs : List Loc) (ls : Array Slot), xS D (wX ad cy) B s.heap H locs M → lv_has ls 3 (lvl_X4_becomeThoseOf ad lab v2 ) → W p l e (headSpec wsX4_becomeThoseOf rm_X4_becomeThoseOf).room s m args below meth c H locs 0 0 (MQ below (va_Qv (S := Mem) Q (xB D (wX ad cy) B) (xA B s.heap.size)) args s 0 0 (xA B s.heap.size)) (F0 m (pcl_X4_becomeThoseOf lab) ls [])) → ∀ (lab : Nat) (v2 : Int32) (M : Mem), blk_X4_becomeThoseOf Q P lab v2 M → ∀ (H : Heap) (locs : List Loc) (ls : Array Slot), xS D (wX ad cy) B s.heap H locs M → lv_has ls 3 (lvl_X4_becomeThoseOf ad lab v2 ) → W p l e (headSpec wsX4_becomeThoseOf rm_X4_becomeThoseOf).room s m args below meth c H locs 0 0 (MQ below (va_Qv (S := Mem) Q (xB D (wX ad cy) B) (xA B s.heap.size)) args s 0 0 (xA B s.heap.size)) (F0 m (pcl_X4_becomeThoseOf lab) ls []) := by
    intro P hJ lab v2 M h H locs ls S hl
    match lab, h, hl with
    | 0, h, hl =>
      have hl : lv_has ls 3 [(0, .ref (ad 14)), (1, .ref (ad 10))] := hl
      have h : blk_X4_becomeThoseOf_0 Q P v2 M := h
      unfold blk_X4_becomeThoseOf_0 at h
      refine W.eq (g2 := F0 m 0 ls []) rfl ?_
      refine lv_aload_n hx hb dX4_becomeThoseOf_0 rfl (lv_at hl 0 rfl) ?_
      refine lv_iconst (v := 0) hx hb dX4_becomeThoseOf_1 (by decide) ?_
      refine x_putI hx hb hts (hC4) tyX4 tyX4_ok nmX4 hown hK S 2 (by decide) xf_14_2 (index := 18) (hts _ (List.mem_of_getElem? (i := 1) rfl)) rfl rfl rfl dX4_becomeThoseOf_2 (fun H locs S => ?_)
      refine lv_iconst (v := 0) hx hb dX4_becomeThoseOf_5 (by decide) ?_
      refine lv_istore_n (lv' := [(2, .int 0), (0, .ref (ad 14)), (1, .ref (ad 10))]) hx hb dX4_becomeThoseOf_6 rfl hl (by decide) rfl (fun ls hl => ?_)
      exact hJ _ _ _ h _ _ _ S (lv_sub hl [1, 2, 0] rfl)
    | 1, h, hl =>
      have hl : lv_has ls 3 [(0, .ref (ad 14)), (1, .ref (ad 10)), (2, .int v2)] := hl
      have h : blk_X4_becomeThoseOf_1 Q P v2 M := h
      unfold blk_X4_becomeThoseOf_1 at h
      refine W.eq (g2 := F0 m 7 ls []) rfl ?_
      refine lv_iload_n hx hb dX4_becomeThoseOf_7 rfl (lv_at hl 2 rfl) ?_
      refine lv_aload_n hx hb dX4_becomeThoseOf_8 rfl (lv_at hl 1 rfl) ?_
      refine x_getI hx hb hts (hC4) hown hK S 2 (by decide) xf_10_2 (index := 18) (hts _ (List.mem_of_getElem? (i := 1) rfl)) dX4_becomeThoseOf_9 ?_
      refine lv_icmp_ge (tgt := 37) hx hb dX4_becomeThoseOf_12 (by decide) (fun c12 => ?_) (fun c12 => ?_)
      · replace h := h.1 c12
        exact x_vret hx hb hr hlocks S h dX4_becomeThoseOf_37
      · replace h := h.2 c12
        refine lv_aload_n hx hb dX4_becomeThoseOf_15 rfl (lv_at hl 0 rfl) ?_
        refine lv_aload_n hx hb dX4_becomeThoseOf_16 rfl (lv_at hl 1 rfl) ?_
        refine x_getR hx hb hts (hC4) hown hK S 0 (by decide) xf_10_0 (index := 9) (hts _ (List.mem_of_getElem? (i := 2) rfl)) dX4_becomeThoseOf_17 ?_
        refine lv_iload_n hx hb dX4_becomeThoseOf_20 rfl (lv_at hl 2 rfl) ?_
        refine x_iald hx hb hK S xa_11 h.1 dX4_becomeThoseOf_21 ?_
        replace h := h.2
        refine lv_aload_n hx hb dX4_becomeThoseOf_22 rfl (lv_at hl 1 rfl) ?_
        refine x_getR hx hb hts (hC4) hown hK S 1 (by decide) xf_10_1 (index := 15) (hts _ (List.mem_of_getElem? (i := 3) rfl)) dX4_becomeThoseOf_23 ?_
        refine lv_iload_n hx hb dX4_becomeThoseOf_26 rfl (lv_at hl 2 rfl) ?_
        refine x_iald hx hb hK S xa_12 h.1 dX4_becomeThoseOf_27 ?_
        replace h := h.2
        refine x_callVv (As := [.int (M.1 11 v2.toNatClampNeg), .int (M.1 12 v2.toNatClampNeg)]) ⟨hx, hb, hml, hown, hts⟩ hK S (ct_X4_add_14 l D cy ad B _ _ _ _ h) xo_14 rfl (cwV 2 hts gX4_becomeThoseOf_X4_add rfl rfl rfl (by decide +kernel) ⟨Nat.le_of_ble_eq_true rfl, Nat.le_of_ble_eq_true rfl⟩) rfl hl.1 rfl (Nat.le_of_ble_eq_true rfl) dX4_becomeThoseOf_28 ⟨Nat.zero_le _, Nat.zero_le _⟩ (fun M1 H locs h S => ?_)
        refine lv_iinc (v := (v2 + 1)) (lv' := [(2, .int (v2 + 1)), (0, .ref (ad 14)), (1, .ref (ad 10))]) hx hb dX4_becomeThoseOf_31 hl (k := 2) rfl rfl (by decide) rfl (fun ls hl => ?_)
        refine lv_goto (tgt := 7) hx hb dX4_becomeThoseOf_34 (by decide) ?_
        exact hJ _ _ _ h _ _ _ S (lv_sub hl [1, 2, 0] rfl)
    | _ + 2, h, hl => exact h.elim
  have hl := lv_entry ([.ref (ad 14), .ref (ad 10)]) (n := 3) (Nat.le_of_ble_eq_true rfl)
  subst hargs
  rw [lg_entry_eq]
  generalize (lg_sl ([.ref (ad 14), .ref (ad 10)]) ++ List.replicate (3 - (lg_sl ([.ref (ad 14), .ref (ad 10)])).length) Slot.unset).toArray = ls at hl ⊢
  exact h _ (key _ (fun _ _ _ h => h)) s.heap [] ls ⟨hP, hD, va_S.rf⟩ hl
/-! X4_side -/
def wp_X4_side (v1 : Int32) (v2 : Int32) (v3 : Int32) (M : Mem) (Q : Int32 → Mem → Prop) : Prop :=
  (vp_in v2 8 ∧ (vp_in v1 8 ∧ (vp_in v3 8 ∧ (vp_in v1 8 ∧ (vp_in v2 8 ∧ (vp_in v1 8 ∧ (vp_in v3 8 ∧ (vp_in v1 8 ∧ ∀ x4_1 : Int32, x4_1 = ((((M.1 15 v2.toNatClampNeg) - (M.1 15 v1.toNatClampNeg)) * ((M.1 16 v3.toNatClampNeg) - (M.1 16 v1.toNatClampNeg))) - (((M.1 16 v2.toNatClampNeg) - (M.1 16 v1.toNatClampNeg)) * ((M.1 15 v3.toNatClampNeg) - (M.1 15 v1.toNatClampNeg)))) → ((x4_1 ≤ 0 → ((0 ≤ x4_1 → Q 0 M) ∧ (¬ 0 ≤ x4_1 → Q (-1) M))) ∧ (¬ x4_1 ≤ 0 → Q 1 M))))))))))
theorem wp_X4_side_mono {v1 : Int32} {v2 : Int32} {v3 : Int32} {M : Mem} {Q Q' : Int32 → Mem → Prop} (hQ : ∀ (r : Int32) (M : Mem), Q r M → Q' r M) (h : wp_X4_side v1 v2 v3 M Q) : wp_X4_side v1 v2 v3 M Q' := by
  unfold wp_X4_side at h ⊢
  exact ⟨h.1, let h := h.2; ⟨h.1, let h := h.2; ⟨h.1, let h := h.2; ⟨h.1, let h := h.2; ⟨h.1, let h := h.2; ⟨h.1, let h := h.2; ⟨h.1, let h := h.2; ⟨h.1, let h := h.2; fun x4_1 ex4_1 => let h := h x4_1 ex4_1; ⟨fun c => let h := h.1 c; ⟨fun c => let h := h.1 c; hQ _ _ h, fun c => let h := h.2 c; hQ _ _ h⟩, fun c => let h := h.2 c; hQ _ _ h⟩⟩⟩⟩⟩⟩⟩⟩⟩
abbrev rm_X4_side : Jvm.Room := { frames := 1, cells := 0, slots := 0, locals := 16 }
set_option maxHeartbeats 4000000 in
set_option maxRecDepth 100000 in
theorem ct_X4_side (l : Launch) (D : va_G) (cy : Nat → ClassId) (ad : Nat → Nat) (B : Nat → Prop) (v1 : Int32) (v2 : Int32) (v3 : Int32) (M : Mem) (Q : Int32 → Mem → Prop) (h : wp_X4_side v1 v2 v3 M Q) : CTi l D cy (wX ad cy) B yX4_side wsX4_side rm_X4_side [.ref (ad 14), .int v1, .int v2, .int v3] M Q := by
  intro sz
  refine Met.ofW (cc := cX4_side) (maxL := 5) (ret := some .int) (by decide) rfl ?_
  intro p e s m args below meth c s₁ Bd hml hv
  obtain ⟨hargs, hsz, hP, hK, hD⟩ := hv
  subst hsz
  have hx := Bd.exec
  have hb := Bd.bytes
  have hr := Bd.returns
  have hts := atoms_spec (ws := wsX4_side) Bd.pre
  have hown : s.vm.findClass RX4 = some m.cls := findClass_of_methodNamed Bd.named
  have hlocks := Bd.notSynchronized
  have hC4 : xC wsX4_side 4 RX4 TX4 3 := ⟨by decide +kernel, rfl⟩
  have hl := lv_entry ([.ref (ad 14), .int v1, .int v2, .int v3]) (n := 5) (Nat.le_of_ble_eq_true rfl)
  subst hargs
  rw [lg_entry_eq]
  generalize (lg_sl ([.ref (ad 14), .int v1, .int v2, .int v3]) ++ List.replicate (5 - (lg_sl ([.ref (ad 14), .int v1, .int v2, .int v3])).length) Slot.unset).toArray = ls at hl ⊢
  have hl : lv_has ls 5 [(0, .ref (ad 14)), (1, .int v1), (2, .int v2), (3, .int v3)] := hl
  have S : xS D (wX ad cy) B s.heap s.heap [] M := ⟨hP, hD, va_S.rf⟩
  unfold wp_X4_side at h
  refine lv_aload_n hx hb dX4_side_0 rfl (lv_at hl 0 rfl) ?_
  refine x_getR hx hb hts (hC4) hown hK S 0 (by decide) xf_14_0 (index := 9) (hts _ (List.mem_of_getElem? (i := 1) rfl)) dX4_side_1 ?_
  refine lv_iload_n hx hb dX4_side_4 rfl (lv_at hl 2 rfl) ?_
  refine x_iald hx hb hK S xa_15 h.1 dX4_side_5 ?_
  replace h := h.2
  refine lv_aload_n hx hb dX4_side_6 rfl (lv_at hl 0 rfl) ?_
  refine x_getR hx hb hts (hC4) hown hK S 0 (by decide) xf_14_0 (index := 9) (hts _ (List.mem_of_getElem? (i := 1) rfl)) dX4_side_7 ?_
  refine lv_iload_n hx hb dX4_side_10 rfl (lv_at hl 1 rfl) ?_
  refine x_iald hx hb hK S xa_15 h.1 dX4_side_11 ?_
  replace h := h.2
  refine lv_isub hx hb dX4_side_12 ?_
  refine lv_aload_n hx hb dX4_side_13 rfl (lv_at hl 0 rfl) ?_
  refine x_getR hx hb hts (hC4) hown hK S 1 (by decide) xf_14_1 (index := 15) (hts _ (List.mem_of_getElem? (i := 2) rfl)) dX4_side_14 ?_
  refine lv_iload_n hx hb dX4_side_17 rfl (lv_at hl 3 rfl) ?_
  refine x_iald hx hb hK S xa_16 h.1 dX4_side_18 ?_
  replace h := h.2
  refine lv_aload_n hx hb dX4_side_19 rfl (lv_at hl 0 rfl) ?_
  refine x_getR hx hb hts (hC4) hown hK S 1 (by decide) xf_14_1 (index := 15) (hts _ (List.mem_of_getElem? (i := 2) rfl)) dX4_side_20 ?_
  refine lv_iload_n hx hb dX4_side_23 rfl (lv_at hl 1 rfl) ?_
  refine x_iald hx hb hK S xa_16 h.1 dX4_side_24 ?_
  replace h := h.2
  refine lv_isub hx hb dX4_side_25 ?_
  refine lv_imul hx hb dX4_side_26 ?_
  refine lv_aload_n hx hb dX4_side_27 rfl (lv_at hl 0 rfl) ?_
  refine x_getR hx hb hts (hC4) hown hK S 1 (by decide) xf_14_1 (index := 15) (hts _ (List.mem_of_getElem? (i := 2) rfl)) dX4_side_28 ?_
  refine lv_iload_n hx hb dX4_side_31 rfl (lv_at hl 2 rfl) ?_
  refine x_iald hx hb hK S xa_16 h.1 dX4_side_32 ?_
  replace h := h.2
  refine lv_aload_n hx hb dX4_side_33 rfl (lv_at hl 0 rfl) ?_
  refine x_getR hx hb hts (hC4) hown hK S 1 (by decide) xf_14_1 (index := 15) (hts _ (List.mem_of_getElem? (i := 2) rfl)) dX4_side_34 ?_
  refine lv_iload_n hx hb dX4_side_37 rfl (lv_at hl 1 rfl) ?_
  refine x_iald hx hb hK S xa_16 h.1 dX4_side_38 ?_
  replace h := h.2
  refine lv_isub hx hb dX4_side_39 ?_
  refine lv_aload_n hx hb dX4_side_40 rfl (lv_at hl 0 rfl) ?_
  refine x_getR hx hb hts (hC4) hown hK S 0 (by decide) xf_14_0 (index := 9) (hts _ (List.mem_of_getElem? (i := 1) rfl)) dX4_side_41 ?_
  refine lv_iload_n hx hb dX4_side_44 rfl (lv_at hl 3 rfl) ?_
  refine x_iald hx hb hK S xa_15 h.1 dX4_side_45 ?_
  replace h := h.2
  refine lv_aload_n hx hb dX4_side_46 rfl (lv_at hl 0 rfl) ?_
  refine x_getR hx hb hts (hC4) hown hK S 0 (by decide) xf_14_0 (index := 9) (hts _ (List.mem_of_getElem? (i := 1) rfl)) dX4_side_47 ?_
  refine lv_iload_n hx hb dX4_side_50 rfl (lv_at hl 1 rfl) ?_
  refine x_iald hx hb hK S xa_15 h.1 dX4_side_51 ?_
  replace h := h.2
  refine lv_isub hx hb dX4_side_52 ?_
  refine lv_imul hx hb dX4_side_53 ?_
  refine lv_isub hx hb dX4_side_54 ?_
  refine lv_topi (fun x4_1 ex4_1 => ?_)
  replace h := h x4_1 ex4_1
  refine lv_istore (lv' := [(4, .int x4_1), (0, .ref (ad 14)), (1, .int v1), (2, .int v2), (3, .int v3)]) hx hb dX4_side_55 hl (by decide) rfl (fun ls hl => ?_)
  refine lv_iload hx hb dX4_side_57 (lv_at hl 0 rfl) ?_
  refine lv_if_le (tgt := 66) hx hb dX4_side_59 (by decide) (fun c59 => ?_) (fun c59 => ?_)
  · replace h := h.1 c59
    refine lv_iload hx hb dX4_side_66 (lv_at hl 0 rfl) ?_
    refine lv_if_ge (tgt := 75) hx hb dX4_side_68 (by decide) (fun c68 => ?_) (fun c68 => ?_)
    · replace h := h.1 c68
      refine lv_iconst (v := 0) hx hb dX4_side_75 (by decide) ?_
      exact x_iret hx hb hr hlocks S rfl h dX4_side_76
    · replace h := h.2 c68
      refine lv_iconst (v := (-1)) hx hb dX4_side_71 (by decide) ?_
      refine lv_goto (tgt := 76) hx hb dX4_side_72 (by decide) ?_
      exact x_iret hx hb hr hlocks S rfl h dX4_side_76
  · replace h := h.2 c59
    refine lv_iconst (v := 1) hx hb dX4_side_62 (by decide) ?_
    refine lv_goto (tgt := 76) hx hb dX4_side_63 (by decide) ?_
    exact x_iret hx hb hr hlocks S rfl h dX4_side_76
