set_option maxHeartbeats 4000000 in
set_option maxRecDepth 100000 in
theorem law_case_18 {p : Program} {l : Launch} {e : Env} {s : State} {m : MethodId} {below : List Frame} {meth : Method} {c : Code} {b L : Nat} {xs : Nat → Int32} {D : va_G} {cy adx adr : Nat → Nat} {Rel : Mem → Mem → Prop} (hst : ∀ MX MR : Mem, Rel MX MR → ∀ (a0 : Int32) (a1 : Int32), wp_X7_third a0 a1 MX (fun r M1 => wp_X8_third a0 a1 MR (fun r2 M2 => r = r2 ∧ Rel M1 M2))) (hL : L ≤ 2560) (E : LawE p s m c cy D b L xs) {i : Nat} (hi : i + 5 ≤ L) {MX MR : Mem} (hR : Rel MX MR) {H : Heap} {locs : List Loc} (S : LWS D cy adx adr s.heap H locs MX MR) {ls : Array Slot} (hl : lv_has ls 4 [(0, .ref b), (1, .ref (adx 0)), (2, .ref (adr 0)), (3, .int (nI i))])
    (kk : ∀ (H : Heap) (locs : List Loc) (ls : Array Slot) (MX MR : Mem), Rel MX MR → LWS D cy adx adr s.heap H locs MX MR → lv_has ls 4 [(0, .ref b), (1, .ref (adx 0)), (2, .ref (adr 0)), (3, .int (nI i))] → W p l e room_1 s m #[Value.ref b] below meth c H locs 56 17578 (lw_Z below #[Value.ref b] s) (F0 m 1128 ls [])) : W p l e room_1 s m #[Value.ref b] below meth c H locs 56 17578 (lw_Z below #[Value.ref b] s) (F0 m 734 ls []) := by
  obtain ⟨hx, hb, hml, hown, hts, hK, hX, hbl, hbA⟩ := E
  refine lv_aload_n hx hb dL_law_734 rfl (lv_at hl 1 rfl) ?_
  refine lv_aload_n hx hb dL_law_735 rfl (lv_at hl 0 rfl) ?_
  refine lv_iload_n hx hb dL_law_736 rfl (lv_at hl 3 rfl) ?_
  refine lv_iconst (v := 1) hx hb dL_law_737 (by decide) ?_
  refine lv_iadd hx hb dL_law_738 ?_
  rw [show nI i + 1 = nI (i + 1) from nI_add i 1]
  refine va_sld hx hb hX hbl hbA S.2.2 (vp_in_nI (n := i + 1) (by omega) (by omega)) dL_law_739 ?_
  rw [nI_clamp (n := i + 1) (by omega)]
  refine lv_aload_n hx hb dL_law_740 rfl (lv_at hl 0 rfl) ?_
  refine lv_iload_n hx hb dL_law_741 rfl (lv_at hl 3 rfl) ?_
  refine lv_iconst (v := 2) hx hb dL_law_742 (by decide) ?_
  refine lv_iadd hx hb dL_law_743 ?_
  rw [show nI i + 2 = nI (i + 2) from nI_add i 2]
  refine va_sld hx hb hX hbl hbA S.2.2 (vp_in_nI (n := i + 2) (by omega) (by omega)) dL_law_744 ?_
  rw [nI_clamp (n := i + 2) (by omega)]
  refine law_Xi (As := [.int (xs (i + 1)), .int (xs (i + 2))]) ⟨hx, hb, hml, hown, hts⟩ hK S (ct_X7_third l D cy adx _ _ _ _ _ (hst _ _ hR (xs (i + 1)) (xs (i + 2)))) (cwV 2 hts gL_law_X7_third rfl rfl rfl (by decide +kernel) ⟨Nat.le_of_ble_eq_true rfl, Nat.le_of_ble_eq_true rfl⟩) rfl hl.1 rfl (Nat.le_of_ble_eq_true rfl) dL_law_745 ⟨Nat.le_of_ble_eq_true rfl, Nat.le_of_ble_eq_true rfl⟩ (fun rX M1 H locs h S => ?_)
  refine lv_aload_n hx hb dL_law_748 rfl (lv_at hl 2 rfl) ?_
  refine lv_aload_n hx hb dL_law_749 rfl (lv_at hl 0 rfl) ?_
  refine lv_iload_n hx hb dL_law_750 rfl (lv_at hl 3 rfl) ?_
  refine lv_iconst (v := 1) hx hb dL_law_751 (by decide) ?_
  refine lv_iadd hx hb dL_law_752 ?_
  rw [show nI i + 1 = nI (i + 1) from nI_add i 1]
  refine va_sld hx hb hX hbl hbA S.2.2 (vp_in_nI (n := i + 1) (by omega) (by omega)) dL_law_753 ?_
  rw [nI_clamp (n := i + 1) (by omega)]
  refine lv_aload_n hx hb dL_law_754 rfl (lv_at hl 0 rfl) ?_
  refine lv_iload_n hx hb dL_law_755 rfl (lv_at hl 3 rfl) ?_
  refine lv_iconst (v := 2) hx hb dL_law_756 (by decide) ?_
  refine lv_iadd hx hb dL_law_757 ?_
  rw [show nI i + 2 = nI (i + 2) from nI_add i 2]
  refine va_sld hx hb hX hbl hbA S.2.2 (vp_in_nI (n := i + 2) (by omega) (by omega)) dL_law_758 ?_
  rw [nI_clamp (n := i + 2) (by omega)]
  refine law_Ri (As := [.int (xs (i + 1)), .int (xs (i + 2))]) ⟨hx, hb, hml, hown, hts⟩ hK S (ct_X8_third l D cy adr _ _ _ _ _ h) (cwV 2 hts gL_law_X8_third rfl rfl rfl (by decide +kernel) ⟨Nat.le_of_ble_eq_true rfl, Nat.le_of_ble_eq_true rfl⟩) rfl hl.1 rfl (Nat.le_of_ble_eq_true rfl) dL_law_759 ⟨Nat.le_of_ble_eq_true rfl, Nat.le_of_ble_eq_true rfl⟩ (fun rR M2 H locs h S => ?_)
  refine lv_icmp_eq (tgt := 1128) hx hb dL_law_762 (by decide) (fun _ => ?_) (fun c2 => absurd h.1 c2)
  exact kk _ _ ls _ _ h.2 S hl
set_option maxHeartbeats 4000000 in
set_option maxRecDepth 100000 in
theorem law_case_19 {p : Program} {l : Launch} {e : Env} {s : State} {m : MethodId} {below : List Frame} {meth : Method} {c : Code} {b L : Nat} {xs : Nat → Int32} {D : va_G} {cy adx adr : Nat → Nat} {Rel : Mem → Mem → Prop} (hst : ∀ MX MR : Mem, Rel MX MR → ∀ (a0 : Int32), wp_X7_degree a0 MX (fun r M1 => wp_X8_degree a0 MR (fun r2 M2 => r = r2 ∧ Rel M1 M2))) (hL : L ≤ 2560) (E : LawE p s m c cy D b L xs) {i : Nat} (hi : i + 5 ≤ L) {MX MR : Mem} (hR : Rel MX MR) {H : Heap} {locs : List Loc} (S : LWS D cy adx adr s.heap H locs MX MR) {ls : Array Slot} (hl : lv_has ls 4 [(0, .ref b), (1, .ref (adx 0)), (2, .ref (adr 0)), (3, .int (nI i))])
    (kk : ∀ (H : Heap) (locs : List Loc) (ls : Array Slot) (MX MR : Mem), Rel MX MR → LWS D cy adx adr s.heap H locs MX MR → lv_has ls 4 [(0, .ref b), (1, .ref (adx 0)), (2, .ref (adr 0)), (3, .int (nI i))] → W p l e room_1 s m #[Value.ref b] below meth c H locs 56 17578 (lw_Z below #[Value.ref b] s) (F0 m 1128 ls [])) : W p l e room_1 s m #[Value.ref b] below meth c H locs 56 17578 (lw_Z below #[Value.ref b] s) (F0 m 767 ls []) := by
  obtain ⟨hx, hb, hml, hown, hts, hK, hX, hbl, hbA⟩ := E
  refine lv_aload_n hx hb dL_law_767 rfl (lv_at hl 1 rfl) ?_
  refine lv_aload_n hx hb dL_law_768 rfl (lv_at hl 0 rfl) ?_
  refine lv_iload_n hx hb dL_law_769 rfl (lv_at hl 3 rfl) ?_
  refine lv_iconst (v := 1) hx hb dL_law_770 (by decide) ?_
  refine lv_iadd hx hb dL_law_771 ?_
  rw [show nI i + 1 = nI (i + 1) from nI_add i 1]
  refine va_sld hx hb hX hbl hbA S.2.2 (vp_in_nI (n := i + 1) (by omega) (by omega)) dL_law_772 ?_
  rw [nI_clamp (n := i + 1) (by omega)]
  refine law_Xi (As := [.int (xs (i + 1))]) ⟨hx, hb, hml, hown, hts⟩ hK S (ct_X7_degree l D cy adx _ _ _ _ (hst _ _ hR (xs (i + 1)))) (cwV 1 hts gL_law_X7_degree rfl rfl rfl (by decide +kernel) ⟨Nat.le_of_ble_eq_true rfl, Nat.le_of_ble_eq_true rfl⟩) rfl hl.1 rfl (Nat.le_of_ble_eq_true rfl) dL_law_773 ⟨Nat.le_of_ble_eq_true rfl, Nat.le_of_ble_eq_true rfl⟩ (fun rX M1 H locs h S => ?_)
  refine lv_aload_n hx hb dL_law_776 rfl (lv_at hl 2 rfl) ?_
  refine lv_aload_n hx hb dL_law_777 rfl (lv_at hl 0 rfl) ?_
  refine lv_iload_n hx hb dL_law_778 rfl (lv_at hl 3 rfl) ?_
  refine lv_iconst (v := 1) hx hb dL_law_779 (by decide) ?_
  refine lv_iadd hx hb dL_law_780 ?_
  rw [show nI i + 1 = nI (i + 1) from nI_add i 1]
  refine va_sld hx hb hX hbl hbA S.2.2 (vp_in_nI (n := i + 1) (by omega) (by omega)) dL_law_781 ?_
  rw [nI_clamp (n := i + 1) (by omega)]
  refine law_Ri (As := [.int (xs (i + 1))]) ⟨hx, hb, hml, hown, hts⟩ hK S (ct_X8_degree l D cy adr _ _ _ _ h) (cwV 1 hts gL_law_X8_degree rfl rfl rfl (by decide +kernel) ⟨Nat.le_of_ble_eq_true rfl, Nat.le_of_ble_eq_true rfl⟩) rfl hl.1 rfl (Nat.le_of_ble_eq_true rfl) dL_law_782 ⟨Nat.le_of_ble_eq_true rfl, Nat.le_of_ble_eq_true rfl⟩ (fun rR M2 H locs h S => ?_)
  refine lv_icmp_eq (tgt := 1128) hx hb dL_law_785 (by decide) (fun _ => ?_) (fun c2 => absurd h.1 c2)
  exact kk _ _ ls _ _ h.2 S hl
set_option maxHeartbeats 4000000 in
set_option maxRecDepth 100000 in
theorem law_case_20 {p : Program} {l : Launch} {e : Env} {s : State} {m : MethodId} {below : List Frame} {meth : Method} {c : Code} {b L : Nat} {xs : Nat → Int32} {D : va_G} {cy adx adr : Nat → Nat} {Rel : Mem → Mem → Prop} (hst : ∀ MX MR : Mem, Rel MX MR → ∀ (a0 : Int32), wp_X7_turns a0 MX (fun r M1 => wp_X8_turns a0 MR (fun r2 M2 => r = r2 ∧ Rel M1 M2))) (hL : L ≤ 2560) (E : LawE p s m c cy D b L xs) {i : Nat} (hi : i + 5 ≤ L) {MX MR : Mem} (hR : Rel MX MR) {H : Heap} {locs : List Loc} (S : LWS D cy adx adr s.heap H locs MX MR) {ls : Array Slot} (hl : lv_has ls 4 [(0, .ref b), (1, .ref (adx 0)), (2, .ref (adr 0)), (3, .int (nI i))])
    (kk : ∀ (H : Heap) (locs : List Loc) (ls : Array Slot) (MX MR : Mem), Rel MX MR → LWS D cy adx adr s.heap H locs MX MR → lv_has ls 4 [(0, .ref b), (1, .ref (adx 0)), (2, .ref (adr 0)), (3, .int (nI i))] → W p l e room_1 s m #[Value.ref b] below meth c H locs 56 17578 (lw_Z below #[Value.ref b] s) (F0 m 1128 ls [])) : W p l e room_1 s m #[Value.ref b] below meth c H locs 56 17578 (lw_Z below #[Value.ref b] s) (F0 m 790 ls []) := by
  obtain ⟨hx, hb, hml, hown, hts, hK, hX, hbl, hbA⟩ := E
  refine lv_aload_n hx hb dL_law_790 rfl (lv_at hl 1 rfl) ?_
  refine lv_aload_n hx hb dL_law_791 rfl (lv_at hl 0 rfl) ?_
  refine lv_iload_n hx hb dL_law_792 rfl (lv_at hl 3 rfl) ?_
  refine lv_iconst (v := 1) hx hb dL_law_793 (by decide) ?_
  refine lv_iadd hx hb dL_law_794 ?_
  rw [show nI i + 1 = nI (i + 1) from nI_add i 1]
  refine va_sld hx hb hX hbl hbA S.2.2 (vp_in_nI (n := i + 1) (by omega) (by omega)) dL_law_795 ?_
  rw [nI_clamp (n := i + 1) (by omega)]
  refine law_Xi (As := [.int (xs (i + 1))]) ⟨hx, hb, hml, hown, hts⟩ hK S (ct_X7_turns l D cy adx _ _ _ _ (hst _ _ hR (xs (i + 1)))) (cwV 1 hts gL_law_X7_turns rfl rfl rfl (by decide +kernel) ⟨Nat.le_of_ble_eq_true rfl, Nat.le_of_ble_eq_true rfl⟩) rfl hl.1 rfl (Nat.le_of_ble_eq_true rfl) dL_law_796 ⟨Nat.le_of_ble_eq_true rfl, Nat.le_of_ble_eq_true rfl⟩ (fun rX M1 H locs h S => ?_)
  refine lv_aload_n hx hb dL_law_799 rfl (lv_at hl 2 rfl) ?_
  refine lv_aload_n hx hb dL_law_800 rfl (lv_at hl 0 rfl) ?_
  refine lv_iload_n hx hb dL_law_801 rfl (lv_at hl 3 rfl) ?_
  refine lv_iconst (v := 1) hx hb dL_law_802 (by decide) ?_
  refine lv_iadd hx hb dL_law_803 ?_
  rw [show nI i + 1 = nI (i + 1) from nI_add i 1]
  refine va_sld hx hb hX hbl hbA S.2.2 (vp_in_nI (n := i + 1) (by omega) (by omega)) dL_law_804 ?_
  rw [nI_clamp (n := i + 1) (by omega)]
  refine law_Ri (As := [.int (xs (i + 1))]) ⟨hx, hb, hml, hown, hts⟩ hK S (ct_X8_turns l D cy adr _ _ _ _ h) (cwV 1 hts gL_law_X8_turns rfl rfl rfl (by decide +kernel) ⟨Nat.le_of_ble_eq_true rfl, Nat.le_of_ble_eq_true rfl⟩) rfl hl.1 rfl (Nat.le_of_ble_eq_true rfl) dL_law_805 ⟨Nat.le_of_ble_eq_true rfl, Nat.le_of_ble_eq_true rfl⟩ (fun rR M2 H locs h S => ?_)
  refine lv_icmp_eq (tgt := 1128) hx hb dL_law_808 (by decide) (fun _ => ?_) (fun c2 => absurd h.1 c2)
  exact kk _ _ ls _ _ h.2 S hl
set_option maxHeartbeats 4000000 in
set_option maxRecDepth 100000 in
theorem law_case_21 {p : Program} {l : Launch} {e : Env} {s : State} {m : MethodId} {below : List Frame} {meth : Method} {c : Code} {b L : Nat} {xs : Nat → Int32} {D : va_G} {cy adx adr : Nat → Nat} {Rel : Mem → Mem → Prop} (hst : ∀ MX MR : Mem, Rel MX MR → ∀ (a0 : Int32), wp_X7_turn a0 MX (fun r M1 => wp_X8_turn a0 MR (fun r2 M2 => r = r2 ∧ Rel M1 M2))) (hL : L ≤ 2560) (E : LawE p s m c cy D b L xs) {i : Nat} (hi : i + 5 ≤ L) {MX MR : Mem} (hR : Rel MX MR) {H : Heap} {locs : List Loc} (S : LWS D cy adx adr s.heap H locs MX MR) {ls : Array Slot} (hl : lv_has ls 4 [(0, .ref b), (1, .ref (adx 0)), (2, .ref (adr 0)), (3, .int (nI i))])
    (kk : ∀ (H : Heap) (locs : List Loc) (ls : Array Slot) (MX MR : Mem), Rel MX MR → LWS D cy adx adr s.heap H locs MX MR → lv_has ls 4 [(0, .ref b), (1, .ref (adx 0)), (2, .ref (adr 0)), (3, .int (nI i))] → W p l e room_1 s m #[Value.ref b] below meth c H locs 56 17578 (lw_Z below #[Value.ref b] s) (F0 m 1128 ls [])) : W p l e room_1 s m #[Value.ref b] below meth c H locs 56 17578 (lw_Z below #[Value.ref b] s) (F0 m 813 ls []) := by
  obtain ⟨hx, hb, hml, hown, hts, hK, hX, hbl, hbA⟩ := E
  refine lv_aload_n hx hb dL_law_813 rfl (lv_at hl 1 rfl) ?_
  refine lv_aload_n hx hb dL_law_814 rfl (lv_at hl 0 rfl) ?_
  refine lv_iload_n hx hb dL_law_815 rfl (lv_at hl 3 rfl) ?_
  refine lv_iconst (v := 1) hx hb dL_law_816 (by decide) ?_
  refine lv_iadd hx hb dL_law_817 ?_
  rw [show nI i + 1 = nI (i + 1) from nI_add i 1]
  refine va_sld hx hb hX hbl hbA S.2.2 (vp_in_nI (n := i + 1) (by omega) (by omega)) dL_law_818 ?_
  rw [nI_clamp (n := i + 1) (by omega)]
  refine law_Xi (As := [.int (xs (i + 1))]) ⟨hx, hb, hml, hown, hts⟩ hK S (ct_X7_turn l D cy adx _ _ _ _ (hst _ _ hR (xs (i + 1)))) (cwV 1 hts gL_law_X7_turn rfl rfl rfl (by decide +kernel) ⟨Nat.le_of_ble_eq_true rfl, Nat.le_of_ble_eq_true rfl⟩) rfl hl.1 rfl (Nat.le_of_ble_eq_true rfl) dL_law_819 ⟨Nat.le_of_ble_eq_true rfl, Nat.le_of_ble_eq_true rfl⟩ (fun rX M1 H locs h S => ?_)
  refine lv_aload_n hx hb dL_law_822 rfl (lv_at hl 2 rfl) ?_
  refine lv_aload_n hx hb dL_law_823 rfl (lv_at hl 0 rfl) ?_
  refine lv_iload_n hx hb dL_law_824 rfl (lv_at hl 3 rfl) ?_
  refine lv_iconst (v := 1) hx hb dL_law_825 (by decide) ?_
  refine lv_iadd hx hb dL_law_826 ?_
  rw [show nI i + 1 = nI (i + 1) from nI_add i 1]
  refine va_sld hx hb hX hbl hbA S.2.2 (vp_in_nI (n := i + 1) (by omega) (by omega)) dL_law_827 ?_
  rw [nI_clamp (n := i + 1) (by omega)]
  refine law_Ri (As := [.int (xs (i + 1))]) ⟨hx, hb, hml, hown, hts⟩ hK S (ct_X8_turn l D cy adr _ _ _ _ h) (cwV 1 hts gL_law_X8_turn rfl rfl rfl (by decide +kernel) ⟨Nat.le_of_ble_eq_true rfl, Nat.le_of_ble_eq_true rfl⟩) rfl hl.1 rfl (Nat.le_of_ble_eq_true rfl) dL_law_828 ⟨Nat.le_of_ble_eq_true rfl, Nat.le_of_ble_eq_true rfl⟩ (fun rR M2 H locs h S => ?_)
  refine lv_icmp_eq (tgt := 1128) hx hb dL_law_831 (by decide) (fun _ => ?_) (fun c2 => absurd h.1 c2)
  exact kk _ _ ls _ _ h.2 S hl
set_option maxHeartbeats 4000000 in
set_option maxRecDepth 100000 in
theorem law_case_22 {p : Program} {l : Launch} {e : Env} {s : State} {m : MethodId} {below : List Frame} {meth : Method} {c : Code} {b L : Nat} {xs : Nat → Int32} {D : va_G} {cy adx adr : Nat → Nat} {Rel : Mem → Mem → Prop} (hst : ∀ MX MR : Mem, Rel MX MR → wp_X7_back MX (fun r M1 => wp_X8_back MR (fun r2 M2 => r = r2 ∧ Rel M1 M2))) (hL : L ≤ 2560) (E : LawE p s m c cy D b L xs) {i : Nat} (hi : i + 5 ≤ L) {MX MR : Mem} (hR : Rel MX MR) {H : Heap} {locs : List Loc} (S : LWS D cy adx adr s.heap H locs MX MR) {ls : Array Slot} (hl : lv_has ls 4 [(0, .ref b), (1, .ref (adx 0)), (2, .ref (adr 0)), (3, .int (nI i))])
    (kk : ∀ (H : Heap) (locs : List Loc) (ls : Array Slot) (MX MR : Mem), Rel MX MR → LWS D cy adx adr s.heap H locs MX MR → lv_has ls 4 [(0, .ref b), (1, .ref (adx 0)), (2, .ref (adr 0)), (3, .int (nI i))] → W p l e room_1 s m #[Value.ref b] below meth c H locs 56 17578 (lw_Z below #[Value.ref b] s) (F0 m 1128 ls [])) : W p l e room_1 s m #[Value.ref b] below meth c H locs 56 17578 (lw_Z below #[Value.ref b] s) (F0 m 836 ls []) := by
  obtain ⟨hx, hb, hml, hown, hts, hK, hX, hbl, hbA⟩ := E
  refine lv_aload_n hx hb dL_law_836 rfl (lv_at hl 1 rfl) ?_
  refine law_Xi (As := []) ⟨hx, hb, hml, hown, hts⟩ hK S (ct_X7_back l D cy adx _ _ _ (hst _ _ hR)) (cwV 0 hts gL_law_X7_back rfl rfl rfl (by decide +kernel) ⟨Nat.le_of_ble_eq_true rfl, Nat.le_of_ble_eq_true rfl⟩) rfl hl.1 rfl (Nat.le_of_ble_eq_true rfl) dL_law_837 ⟨Nat.le_of_ble_eq_true rfl, Nat.le_of_ble_eq_true rfl⟩ (fun rX M1 H locs h S => ?_)
  refine lv_aload_n hx hb dL_law_840 rfl (lv_at hl 2 rfl) ?_
  refine law_Ri (As := []) ⟨hx, hb, hml, hown, hts⟩ hK S (ct_X8_back l D cy adr _ _ _ h) (cwV 0 hts gL_law_X8_back rfl rfl rfl (by decide +kernel) ⟨Nat.le_of_ble_eq_true rfl, Nat.le_of_ble_eq_true rfl⟩) rfl hl.1 rfl (Nat.le_of_ble_eq_true rfl) dL_law_841 ⟨Nat.le_of_ble_eq_true rfl, Nat.le_of_ble_eq_true rfl⟩ (fun rR M2 H locs h S => ?_)
  refine lv_icmp_eq (tgt := 1128) hx hb dL_law_844 (by decide) (fun _ => ?_) (fun c2 => absurd h.1 c2)
  exact kk _ _ ls _ _ h.2 S hl
set_option maxHeartbeats 4000000 in
set_option maxRecDepth 100000 in
theorem law_case_23 {p : Program} {l : Launch} {e : Env} {s : State} {m : MethodId} {below : List Frame} {meth : Method} {c : Code} {b L : Nat} {xs : Nat → Int32} {D : va_G} {cy adx adr : Nat → Nat} {Rel : Mem → Mem → Prop} (hst : ∀ MX MR : Mem, Rel MX MR → wp_X7_count MX (fun r M1 => wp_X8_count MR (fun r2 M2 => r = r2 ∧ Rel M1 M2))) (hL : L ≤ 2560) (E : LawE p s m c cy D b L xs) {i : Nat} (hi : i + 5 ≤ L) {MX MR : Mem} (hR : Rel MX MR) {H : Heap} {locs : List Loc} (S : LWS D cy adx adr s.heap H locs MX MR) {ls : Array Slot} (hl : lv_has ls 4 [(0, .ref b), (1, .ref (adx 0)), (2, .ref (adr 0)), (3, .int (nI i))])
    (kk : ∀ (H : Heap) (locs : List Loc) (ls : Array Slot) (MX MR : Mem), Rel MX MR → LWS D cy adx adr s.heap H locs MX MR → lv_has ls 4 [(0, .ref b), (1, .ref (adx 0)), (2, .ref (adr 0)), (3, .int (nI i))] → W p l e room_1 s m #[Value.ref b] below meth c H locs 56 17578 (lw_Z below #[Value.ref b] s) (F0 m 1128 ls [])) : W p l e room_1 s m #[Value.ref b] below meth c H locs 56 17578 (lw_Z below #[Value.ref b] s) (F0 m 849 ls []) := by
  obtain ⟨hx, hb, hml, hown, hts, hK, hX, hbl, hbA⟩ := E
  refine lv_aload_n hx hb dL_law_849 rfl (lv_at hl 1 rfl) ?_
  refine law_Xi (As := []) ⟨hx, hb, hml, hown, hts⟩ hK S (ct_X7_count l D cy adx _ _ _ (hst _ _ hR)) (cwV 0 hts gL_law_X7_count rfl rfl rfl (by decide +kernel) ⟨Nat.le_of_ble_eq_true rfl, Nat.le_of_ble_eq_true rfl⟩) rfl hl.1 rfl (Nat.le_of_ble_eq_true rfl) dL_law_850 ⟨Nat.le_of_ble_eq_true rfl, Nat.le_of_ble_eq_true rfl⟩ (fun rX M1 H locs h S => ?_)
  refine lv_aload_n hx hb dL_law_853 rfl (lv_at hl 2 rfl) ?_
  refine law_Ri (As := []) ⟨hx, hb, hml, hown, hts⟩ hK S (ct_X8_count l D cy adr _ _ _ h) (cwV 0 hts gL_law_X8_count rfl rfl rfl (by decide +kernel) ⟨Nat.le_of_ble_eq_true rfl, Nat.le_of_ble_eq_true rfl⟩) rfl hl.1 rfl (Nat.le_of_ble_eq_true rfl) dL_law_854 ⟨Nat.le_of_ble_eq_true rfl, Nat.le_of_ble_eq_true rfl⟩ (fun rR M2 H locs h S => ?_)
  refine lv_icmp_eq (tgt := 1128) hx hb dL_law_857 (by decide) (fun _ => ?_) (fun c2 => absurd h.1 c2)
  exact kk _ _ ls _ _ h.2 S hl
set_option maxHeartbeats 4000000 in
set_option maxRecDepth 100000 in
theorem law_case_24 {p : Program} {l : Launch} {e : Env} {s : State} {m : MethodId} {below : List Frame} {meth : Method} {c : Code} {b L : Nat} {xs : Nat → Int32} {D : va_G} {cy adx adr : Nat → Nat} {Rel : Mem → Mem → Prop} (hst : ∀ MX MR : Mem, Rel MX MR → wp_X7_rank MX (fun r M1 => wp_X8_rank MR (fun r2 M2 => r = r2 ∧ Rel M1 M2))) (hL : L ≤ 2560) (E : LawE p s m c cy D b L xs) {i : Nat} (hi : i + 5 ≤ L) {MX MR : Mem} (hR : Rel MX MR) {H : Heap} {locs : List Loc} (S : LWS D cy adx adr s.heap H locs MX MR) {ls : Array Slot} (hl : lv_has ls 4 [(0, .ref b), (1, .ref (adx 0)), (2, .ref (adr 0)), (3, .int (nI i))])
    (kk : ∀ (H : Heap) (locs : List Loc) (ls : Array Slot) (MX MR : Mem), Rel MX MR → LWS D cy adx adr s.heap H locs MX MR → lv_has ls 4 [(0, .ref b), (1, .ref (adx 0)), (2, .ref (adr 0)), (3, .int (nI i))] → W p l e room_1 s m #[Value.ref b] below meth c H locs 56 17578 (lw_Z below #[Value.ref b] s) (F0 m 1128 ls [])) : W p l e room_1 s m #[Value.ref b] below meth c H locs 56 17578 (lw_Z below #[Value.ref b] s) (F0 m 862 ls []) := by
  obtain ⟨hx, hb, hml, hown, hts, hK, hX, hbl, hbA⟩ := E
  refine lv_aload_n hx hb dL_law_862 rfl (lv_at hl 1 rfl) ?_
  refine law_Xi (As := []) ⟨hx, hb, hml, hown, hts⟩ hK S (ct_X7_rank l D cy adx _ _ _ (hst _ _ hR)) (cwV 0 hts gL_law_X7_rank rfl rfl rfl (by decide +kernel) ⟨Nat.le_of_ble_eq_true rfl, Nat.le_of_ble_eq_true rfl⟩) rfl hl.1 rfl (Nat.le_of_ble_eq_true rfl) dL_law_863 ⟨Nat.le_of_ble_eq_true rfl, Nat.le_of_ble_eq_true rfl⟩ (fun rX M1 H locs h S => ?_)
  refine lv_aload_n hx hb dL_law_866 rfl (lv_at hl 2 rfl) ?_
  refine law_Ri (As := []) ⟨hx, hb, hml, hown, hts⟩ hK S (ct_X8_rank l D cy adr _ _ _ h) (cwV 0 hts gL_law_X8_rank rfl rfl rfl (by decide +kernel) ⟨Nat.le_of_ble_eq_true rfl, Nat.le_of_ble_eq_true rfl⟩) rfl hl.1 rfl (Nat.le_of_ble_eq_true rfl) dL_law_867 ⟨Nat.le_of_ble_eq_true rfl, Nat.le_of_ble_eq_true rfl⟩ (fun rR M2 H locs h S => ?_)
  refine lv_icmp_eq (tgt := 1128) hx hb dL_law_870 (by decide) (fun _ => ?_) (fun c2 => absurd h.1 c2)
  exact kk _ _ ls _ _ h.2 S hl
set_option maxHeartbeats 4000000 in
set_option maxRecDepth 100000 in
theorem law_case_25 {p : Program} {l : Launch} {e : Env} {s : State} {m : MethodId} {below : List Frame} {meth : Method} {c : Code} {b L : Nat} {xs : Nat → Int32} {D : va_G} {cy adx adr : Nat → Nat} {Rel : Mem → Mem → Prop} (hst : ∀ MX MR : Mem, Rel MX MR → ∀ (a0 : Int32), wp_X7_of a0 MX (fun r M1 => wp_X8_of a0 MR (fun r2 M2 => r = r2 ∧ Rel M1 M2))) (hL : L ≤ 2560) (E : LawE p s m c cy D b L xs) {i : Nat} (hi : i + 5 ≤ L) {MX MR : Mem} (hR : Rel MX MR) {H : Heap} {locs : List Loc} (S : LWS D cy adx adr s.heap H locs MX MR) {ls : Array Slot} (hl : lv_has ls 4 [(0, .ref b), (1, .ref (adx 0)), (2, .ref (adr 0)), (3, .int (nI i))])
    (kk : ∀ (H : Heap) (locs : List Loc) (ls : Array Slot) (MX MR : Mem), Rel MX MR → LWS D cy adx adr s.heap H locs MX MR → lv_has ls 4 [(0, .ref b), (1, .ref (adx 0)), (2, .ref (adr 0)), (3, .int (nI i))] → W p l e room_1 s m #[Value.ref b] below meth c H locs 56 17578 (lw_Z below #[Value.ref b] s) (F0 m 1128 ls [])) : W p l e room_1 s m #[Value.ref b] below meth c H locs 56 17578 (lw_Z below #[Value.ref b] s) (F0 m 875 ls []) := by
  obtain ⟨hx, hb, hml, hown, hts, hK, hX, hbl, hbA⟩ := E
  refine lv_aload_n hx hb dL_law_875 rfl (lv_at hl 1 rfl) ?_
  refine lv_aload_n hx hb dL_law_876 rfl (lv_at hl 0 rfl) ?_
  refine lv_iload_n hx hb dL_law_877 rfl (lv_at hl 3 rfl) ?_
  refine lv_iconst (v := 1) hx hb dL_law_878 (by decide) ?_
  refine lv_iadd hx hb dL_law_879 ?_
  rw [show nI i + 1 = nI (i + 1) from nI_add i 1]
  refine va_sld hx hb hX hbl hbA S.2.2 (vp_in_nI (n := i + 1) (by omega) (by omega)) dL_law_880 ?_
  rw [nI_clamp (n := i + 1) (by omega)]
  refine law_Xl (As := [.int (xs (i + 1))]) ⟨hx, hb, hml, hown, hts⟩ hK S (ct_X7_of l D cy adx _ _ _ _ (hst _ _ hR (xs (i + 1)))) (cwV 1 hts gL_law_X7_of rfl rfl rfl (by decide +kernel) ⟨Nat.le_of_ble_eq_true rfl, Nat.le_of_ble_eq_true rfl⟩) rfl hl.1 rfl (Nat.le_of_ble_eq_true rfl) dL_law_881 ⟨Nat.le_of_ble_eq_true rfl, Nat.le_of_ble_eq_true rfl⟩ (fun rX M1 H locs h S => ?_)
  refine lv_aload_n hx hb dL_law_884 rfl (lv_at hl 2 rfl) ?_
  refine lv_aload_n hx hb dL_law_885 rfl (lv_at hl 0 rfl) ?_
  refine lv_iload_n hx hb dL_law_886 rfl (lv_at hl 3 rfl) ?_
  refine lv_iconst (v := 1) hx hb dL_law_887 (by decide) ?_
  refine lv_iadd hx hb dL_law_888 ?_
  rw [show nI i + 1 = nI (i + 1) from nI_add i 1]
  refine va_sld hx hb hX hbl hbA S.2.2 (vp_in_nI (n := i + 1) (by omega) (by omega)) dL_law_889 ?_
  rw [nI_clamp (n := i + 1) (by omega)]
  refine law_Rl (As := [.int (xs (i + 1))]) ⟨hx, hb, hml, hown, hts⟩ hK S (ct_X8_of l D cy adr _ _ _ _ h) (cwV 1 hts gL_law_X8_of rfl rfl rfl (by decide +kernel) ⟨Nat.le_of_ble_eq_true rfl, Nat.le_of_ble_eq_true rfl⟩) rfl hl.1 rfl (Nat.le_of_ble_eq_true rfl) dL_law_890 ⟨Nat.le_of_ble_eq_true rfl, Nat.le_of_ble_eq_true rfl⟩ (fun rR M2 H locs h S => ?_)
  refine W.lcmp hx hb dL_law_893 ?_
  refine lv_if_eq (tgt := 1128) hx hb dL_law_894 (by decide) (fun c => ?_) (fun c => absurd (by rw [h.1]; exact lg_cmp_self _) c)
  exact kk _ _ ls _ _ h.2 S hl
set_option maxHeartbeats 4000000 in
set_option maxRecDepth 100000 in
theorem law_case_26 {p : Program} {l : Launch} {e : Env} {s : State} {m : MethodId} {below : List Frame} {meth : Method} {c : Code} {b L : Nat} {xs : Nat → Int32} {D : va_G} {cy adx adr : Nat → Nat} {Rel : Mem → Mem → Prop} (hst : ∀ MX MR : Mem, Rel MX MR → ∀ (a0 : Int32), wp_X7_go a0 MX (fun r M1 => wp_X8_go a0 MR (fun r2 M2 => r = r2 ∧ Rel M1 M2))) (hL : L ≤ 2560) (E : LawE p s m c cy D b L xs) {i : Nat} (hi : i + 5 ≤ L) {MX MR : Mem} (hR : Rel MX MR) {H : Heap} {locs : List Loc} (S : LWS D cy adx adr s.heap H locs MX MR) {ls : Array Slot} (hl : lv_has ls 4 [(0, .ref b), (1, .ref (adx 0)), (2, .ref (adr 0)), (3, .int (nI i))])
    (kk : ∀ (H : Heap) (locs : List Loc) (ls : Array Slot) (MX MR : Mem), Rel MX MR → LWS D cy adx adr s.heap H locs MX MR → lv_has ls 4 [(0, .ref b), (1, .ref (adx 0)), (2, .ref (adr 0)), (3, .int (nI i))] → W p l e room_1 s m #[Value.ref b] below meth c H locs 56 17578 (lw_Z below #[Value.ref b] s) (F0 m 1128 ls [])) : W p l e room_1 s m #[Value.ref b] below meth c H locs 56 17578 (lw_Z below #[Value.ref b] s) (F0 m 899 ls []) := by
  obtain ⟨hx, hb, hml, hown, hts, hK, hX, hbl, hbA⟩ := E
  refine lv_aload_n hx hb dL_law_899 rfl (lv_at hl 1 rfl) ?_
  refine lv_aload_n hx hb dL_law_900 rfl (lv_at hl 0 rfl) ?_
  refine lv_iload_n hx hb dL_law_901 rfl (lv_at hl 3 rfl) ?_
  refine lv_iconst (v := 1) hx hb dL_law_902 (by decide) ?_
  refine lv_iadd hx hb dL_law_903 ?_
  rw [show nI i + 1 = nI (i + 1) from nI_add i 1]
  refine va_sld hx hb hX hbl hbA S.2.2 (vp_in_nI (n := i + 1) (by omega) (by omega)) dL_law_904 ?_
  rw [nI_clamp (n := i + 1) (by omega)]
  refine law_Xi (As := [.int (xs (i + 1))]) ⟨hx, hb, hml, hown, hts⟩ hK S (ct_X7_go l D cy adx _ _ _ _ (hst _ _ hR (xs (i + 1)))) (cwV 1 hts gL_law_X7_go rfl rfl rfl (by decide +kernel) ⟨Nat.le_of_ble_eq_true rfl, Nat.le_of_ble_eq_true rfl⟩) rfl hl.1 rfl (Nat.le_of_ble_eq_true rfl) dL_law_905 ⟨Nat.le_of_ble_eq_true rfl, Nat.le_of_ble_eq_true rfl⟩ (fun rX M1 H locs h S => ?_)
  refine lv_aload_n hx hb dL_law_908 rfl (lv_at hl 2 rfl) ?_
  refine lv_aload_n hx hb dL_law_909 rfl (lv_at hl 0 rfl) ?_
  refine lv_iload_n hx hb dL_law_910 rfl (lv_at hl 3 rfl) ?_
  refine lv_iconst (v := 1) hx hb dL_law_911 (by decide) ?_
  refine lv_iadd hx hb dL_law_912 ?_
  rw [show nI i + 1 = nI (i + 1) from nI_add i 1]
  refine va_sld hx hb hX hbl hbA S.2.2 (vp_in_nI (n := i + 1) (by omega) (by omega)) dL_law_913 ?_
  rw [nI_clamp (n := i + 1) (by omega)]
  refine law_Ri (As := [.int (xs (i + 1))]) ⟨hx, hb, hml, hown, hts⟩ hK S (ct_X8_go l D cy adr _ _ _ _ h) (cwV 1 hts gL_law_X8_go rfl rfl rfl (by decide +kernel) ⟨Nat.le_of_ble_eq_true rfl, Nat.le_of_ble_eq_true rfl⟩) rfl hl.1 rfl (Nat.le_of_ble_eq_true rfl) dL_law_914 ⟨Nat.le_of_ble_eq_true rfl, Nat.le_of_ble_eq_true rfl⟩ (fun rR M2 H locs h S => ?_)
  refine lv_icmp_eq (tgt := 1128) hx hb dL_law_917 (by decide) (fun _ => ?_) (fun c2 => absurd h.1 c2)
  exact kk _ _ ls _ _ h.2 S hl
set_option maxHeartbeats 4000000 in
set_option maxRecDepth 100000 in
theorem law_case_27 {p : Program} {l : Launch} {e : Env} {s : State} {m : MethodId} {below : List Frame} {meth : Method} {c : Code} {b L : Nat} {xs : Nat → Int32} {D : va_G} {cy adx adr : Nat → Nat} {Rel : Mem → Mem → Prop} (hst : ∀ MX MR : Mem, Rel MX MR → ∀ (a0 : Int32), wp_X7_sure a0 MX (fun r M1 => wp_X8_sure a0 MR (fun r2 M2 => r = r2 ∧ Rel M1 M2))) (hL : L ≤ 2560) (E : LawE p s m c cy D b L xs) {i : Nat} (hi : i + 5 ≤ L) {MX MR : Mem} (hR : Rel MX MR) {H : Heap} {locs : List Loc} (S : LWS D cy adx adr s.heap H locs MX MR) {ls : Array Slot} (hl : lv_has ls 4 [(0, .ref b), (1, .ref (adx 0)), (2, .ref (adr 0)), (3, .int (nI i))])
    (kk : ∀ (H : Heap) (locs : List Loc) (ls : Array Slot) (MX MR : Mem), Rel MX MR → LWS D cy adx adr s.heap H locs MX MR → lv_has ls 4 [(0, .ref b), (1, .ref (adx 0)), (2, .ref (adr 0)), (3, .int (nI i))] → W p l e room_1 s m #[Value.ref b] below meth c H locs 56 17578 (lw_Z below #[Value.ref b] s) (F0 m 1128 ls [])) : W p l e room_1 s m #[Value.ref b] below meth c H locs 56 17578 (lw_Z below #[Value.ref b] s) (F0 m 922 ls []) := by
  obtain ⟨hx, hb, hml, hown, hts, hK, hX, hbl, hbA⟩ := E
  refine lv_aload_n hx hb dL_law_922 rfl (lv_at hl 1 rfl) ?_
  refine lv_aload_n hx hb dL_law_923 rfl (lv_at hl 0 rfl) ?_
  refine lv_iload_n hx hb dL_law_924 rfl (lv_at hl 3 rfl) ?_
  refine lv_iconst (v := 1) hx hb dL_law_925 (by decide) ?_
  refine lv_iadd hx hb dL_law_926 ?_
  rw [show nI i + 1 = nI (i + 1) from nI_add i 1]
  refine va_sld hx hb hX hbl hbA S.2.2 (vp_in_nI (n := i + 1) (by omega) (by omega)) dL_law_927 ?_
  rw [nI_clamp (n := i + 1) (by omega)]
  refine law_Xi (As := [.int (xs (i + 1))]) ⟨hx, hb, hml, hown, hts⟩ hK S (ct_X7_sure l D cy adx _ _ _ _ (hst _ _ hR (xs (i + 1)))) (cwV 1 hts gL_law_X7_sure rfl rfl rfl (by decide +kernel) ⟨Nat.le_of_ble_eq_true rfl, Nat.le_of_ble_eq_true rfl⟩) rfl hl.1 rfl (Nat.le_of_ble_eq_true rfl) dL_law_928 ⟨Nat.le_of_ble_eq_true rfl, Nat.le_of_ble_eq_true rfl⟩ (fun rX M1 H locs h S => ?_)
  refine lv_aload_n hx hb dL_law_931 rfl (lv_at hl 2 rfl) ?_
  refine lv_aload_n hx hb dL_law_932 rfl (lv_at hl 0 rfl) ?_
  refine lv_iload_n hx hb dL_law_933 rfl (lv_at hl 3 rfl) ?_
  refine lv_iconst (v := 1) hx hb dL_law_934 (by decide) ?_
  refine lv_iadd hx hb dL_law_935 ?_
  rw [show nI i + 1 = nI (i + 1) from nI_add i 1]
  refine va_sld hx hb hX hbl hbA S.2.2 (vp_in_nI (n := i + 1) (by omega) (by omega)) dL_law_936 ?_
  rw [nI_clamp (n := i + 1) (by omega)]
  refine law_Ri (As := [.int (xs (i + 1))]) ⟨hx, hb, hml, hown, hts⟩ hK S (ct_X8_sure l D cy adr _ _ _ _ h) (cwV 1 hts gL_law_X8_sure rfl rfl rfl (by decide +kernel) ⟨Nat.le_of_ble_eq_true rfl, Nat.le_of_ble_eq_true rfl⟩) rfl hl.1 rfl (Nat.le_of_ble_eq_true rfl) dL_law_937 ⟨Nat.le_of_ble_eq_true rfl, Nat.le_of_ble_eq_true rfl⟩ (fun rR M2 H locs h S => ?_)
  refine lv_icmp_eq (tgt := 1128) hx hb dL_law_940 (by decide) (fun _ => ?_) (fun c2 => absurd h.1 c2)
  exact kk _ _ ls _ _ h.2 S hl
set_option maxHeartbeats 4000000 in
set_option maxRecDepth 100000 in
theorem law_case_28 {p : Program} {l : Launch} {e : Env} {s : State} {m : MethodId} {below : List Frame} {meth : Method} {c : Code} {b L : Nat} {xs : Nat → Int32} {D : va_G} {cy adx adr : Nat → Nat} {Rel : Mem → Mem → Prop} (hst : ∀ MX MR : Mem, Rel MX MR → ∀ (a0 : Int32), wp_X7_best a0 MX (fun r M1 => wp_X8_best a0 MR (fun r2 M2 => r = r2 ∧ Rel M1 M2))) (hL : L ≤ 2560) (E : LawE p s m c cy D b L xs) {i : Nat} (hi : i + 5 ≤ L) {MX MR : Mem} (hR : Rel MX MR) {H : Heap} {locs : List Loc} (S : LWS D cy adx adr s.heap H locs MX MR) {ls : Array Slot} (hl : lv_has ls 4 [(0, .ref b), (1, .ref (adx 0)), (2, .ref (adr 0)), (3, .int (nI i))])
    (kk : ∀ (H : Heap) (locs : List Loc) (ls : Array Slot) (MX MR : Mem), Rel MX MR → LWS D cy adx adr s.heap H locs MX MR → lv_has ls 4 [(0, .ref b), (1, .ref (adx 0)), (2, .ref (adr 0)), (3, .int (nI i))] → W p l e room_1 s m #[Value.ref b] below meth c H locs 56 17578 (lw_Z below #[Value.ref b] s) (F0 m 1128 ls [])) : W p l e room_1 s m #[Value.ref b] below meth c H locs 56 17578 (lw_Z below #[Value.ref b] s) (F0 m 945 ls []) := by
  obtain ⟨hx, hb, hml, hown, hts, hK, hX, hbl, hbA⟩ := E
  refine lv_aload_n hx hb dL_law_945 rfl (lv_at hl 1 rfl) ?_
  refine lv_aload_n hx hb dL_law_946 rfl (lv_at hl 0 rfl) ?_
  refine lv_iload_n hx hb dL_law_947 rfl (lv_at hl 3 rfl) ?_
  refine lv_iconst (v := 1) hx hb dL_law_948 (by decide) ?_
  refine lv_iadd hx hb dL_law_949 ?_
  rw [show nI i + 1 = nI (i + 1) from nI_add i 1]
  refine va_sld hx hb hX hbl hbA S.2.2 (vp_in_nI (n := i + 1) (by omega) (by omega)) dL_law_950 ?_
  rw [nI_clamp (n := i + 1) (by omega)]
  refine lv_if_eq (tgt := 958) hx hb dL_law_951 (by decide) (fun c => ?_) (fun c => ?_)
  · refine lv_iconst (v := 0) hx hb dL_law_958 (by decide) ?_
    refine law_Xi (As := [.int 0]) ⟨hx, hb, hml, hown, hts⟩ hK S (ct_X7_best l D cy adx _ _ _ _ (hst _ _ hR 0)) (cwV 1 hts gL_law_X7_best rfl rfl rfl (by decide +kernel) ⟨Nat.le_of_ble_eq_true rfl, Nat.le_of_ble_eq_true rfl⟩) rfl hl.1 rfl (Nat.le_of_ble_eq_true rfl) dL_law_959 ⟨Nat.le_of_ble_eq_true rfl, Nat.le_of_ble_eq_true rfl⟩ (fun rX M1 H locs h S => ?_)
    refine lv_aload_n hx hb dL_law_962 rfl (lv_at hl 2 rfl) ?_
    refine lv_aload_n hx hb dL_law_963 rfl (lv_at hl 0 rfl) ?_
    refine lv_iload_n hx hb dL_law_964 rfl (lv_at hl 3 rfl) ?_
    refine lv_iconst (v := 1) hx hb dL_law_965 (by decide) ?_
    refine lv_iadd hx hb dL_law_966 ?_
    rw [show nI i + 1 = nI (i + 1) from nI_add i 1]
    refine va_sld hx hb hX hbl hbA S.2.2 (vp_in_nI (n := i + 1) (by omega) (by omega)) dL_law_967 ?_
    rw [nI_clamp (n := i + 1) (by omega)]
    refine lv_if_eq (tgt := 975) hx hb dL_law_968 (by decide) (fun _ => ?_) (fun c2 => absurd c c2)
    refine lv_iconst (v := 0) hx hb dL_law_975 (by decide) ?_
    refine law_Ri (As := [.int 0]) ⟨hx, hb, hml, hown, hts⟩ hK S (ct_X8_best l D cy adr _ _ _ _ h) (cwV 1 hts gL_law_X8_best rfl rfl rfl (by decide +kernel) ⟨Nat.le_of_ble_eq_true rfl, Nat.le_of_ble_eq_true rfl⟩) rfl hl.1 rfl (Nat.le_of_ble_eq_true rfl) dL_law_976 ⟨Nat.le_of_ble_eq_true rfl, Nat.le_of_ble_eq_true rfl⟩ (fun rR M2 H locs h S => ?_)
    refine lv_icmp_eq (tgt := 1128) hx hb dL_law_979 (by decide) (fun _ => ?_) (fun c2 => absurd h.1 c2)
    exact kk _ _ ls _ _ h.2 S hl
  · refine lv_iconst (v := 1) hx hb dL_law_954 (by decide) ?_
    refine lv_goto (tgt := 959) hx hb dL_law_955 (by decide) ?_
    refine law_Xi (As := [.int 1]) ⟨hx, hb, hml, hown, hts⟩ hK S (ct_X7_best l D cy adx _ _ _ _ (hst _ _ hR 1)) (cwV 1 hts gL_law_X7_best rfl rfl rfl (by decide +kernel) ⟨Nat.le_of_ble_eq_true rfl, Nat.le_of_ble_eq_true rfl⟩) rfl hl.1 rfl (Nat.le_of_ble_eq_true rfl) dL_law_959 ⟨Nat.le_of_ble_eq_true rfl, Nat.le_of_ble_eq_true rfl⟩ (fun rX M1 H locs h S => ?_)
    refine lv_aload_n hx hb dL_law_962 rfl (lv_at hl 2 rfl) ?_
    refine lv_aload_n hx hb dL_law_963 rfl (lv_at hl 0 rfl) ?_
    refine lv_iload_n hx hb dL_law_964 rfl (lv_at hl 3 rfl) ?_
    refine lv_iconst (v := 1) hx hb dL_law_965 (by decide) ?_
    refine lv_iadd hx hb dL_law_966 ?_
    rw [show nI i + 1 = nI (i + 1) from nI_add i 1]
    refine va_sld hx hb hX hbl hbA S.2.2 (vp_in_nI (n := i + 1) (by omega) (by omega)) dL_law_967 ?_
    rw [nI_clamp (n := i + 1) (by omega)]
    refine lv_if_eq (tgt := 975) hx hb dL_law_968 (by decide) (fun c2 => absurd c2 c) (fun _ => ?_)
    refine lv_iconst (v := 1) hx hb dL_law_971 (by decide) ?_
    refine lv_goto (tgt := 976) hx hb dL_law_972 (by decide) ?_
    refine law_Ri (As := [.int 1]) ⟨hx, hb, hml, hown, hts⟩ hK S (ct_X8_best l D cy adr _ _ _ _ h) (cwV 1 hts gL_law_X8_best rfl rfl rfl (by decide +kernel) ⟨Nat.le_of_ble_eq_true rfl, Nat.le_of_ble_eq_true rfl⟩) rfl hl.1 rfl (Nat.le_of_ble_eq_true rfl) dL_law_976 ⟨Nat.le_of_ble_eq_true rfl, Nat.le_of_ble_eq_true rfl⟩ (fun rR M2 H locs h S => ?_)
    refine lv_icmp_eq (tgt := 1128) hx hb dL_law_979 (by decide) (fun _ => ?_) (fun c2 => absurd h.1 c2)
    exact kk _ _ ls _ _ h.2 S hl
set_option maxHeartbeats 4000000 in
set_option maxRecDepth 100000 in
theorem law_case_29 {p : Program} {l : Launch} {e : Env} {s : State} {m : MethodId} {below : List Frame} {meth : Method} {c : Code} {b L : Nat} {xs : Nat → Int32} {D : va_G} {cy adx adr : Nat → Nat} {Rel : Mem → Mem → Prop} (hst : ∀ MX MR : Mem, Rel MX MR → ∀ (a0 : Int32), wp_X7_bestRank a0 MX (fun r M1 => wp_X8_bestRank a0 MR (fun r2 M2 => r = r2 ∧ Rel M1 M2))) (hL : L ≤ 2560) (E : LawE p s m c cy D b L xs) {i : Nat} (hi : i + 5 ≤ L) {MX MR : Mem} (hR : Rel MX MR) {H : Heap} {locs : List Loc} (S : LWS D cy adx adr s.heap H locs MX MR) {ls : Array Slot} (hl : lv_has ls 4 [(0, .ref b), (1, .ref (adx 0)), (2, .ref (adr 0)), (3, .int (nI i))])
    (kk : ∀ (H : Heap) (locs : List Loc) (ls : Array Slot) (MX MR : Mem), Rel MX MR → LWS D cy adx adr s.heap H locs MX MR → lv_has ls 4 [(0, .ref b), (1, .ref (adx 0)), (2, .ref (adr 0)), (3, .int (nI i))] → W p l e room_1 s m #[Value.ref b] below meth c H locs 56 17578 (lw_Z below #[Value.ref b] s) (F0 m 1128 ls [])) : W p l e room_1 s m #[Value.ref b] below meth c H locs 56 17578 (lw_Z below #[Value.ref b] s) (F0 m 984 ls []) := by
  obtain ⟨hx, hb, hml, hown, hts, hK, hX, hbl, hbA⟩ := E
  refine lv_aload_n hx hb dL_law_984 rfl (lv_at hl 1 rfl) ?_
  refine lv_aload_n hx hb dL_law_985 rfl (lv_at hl 0 rfl) ?_
  refine lv_iload_n hx hb dL_law_986 rfl (lv_at hl 3 rfl) ?_
  refine lv_iconst (v := 1) hx hb dL_law_987 (by decide) ?_
  refine lv_iadd hx hb dL_law_988 ?_
  rw [show nI i + 1 = nI (i + 1) from nI_add i 1]
  refine va_sld hx hb hX hbl hbA S.2.2 (vp_in_nI (n := i + 1) (by omega) (by omega)) dL_law_989 ?_
  rw [nI_clamp (n := i + 1) (by omega)]
  refine lv_if_eq (tgt := 997) hx hb dL_law_990 (by decide) (fun c => ?_) (fun c => ?_)
  · refine lv_iconst (v := 0) hx hb dL_law_997 (by decide) ?_
    refine law_Xi (As := [.int 0]) ⟨hx, hb, hml, hown, hts⟩ hK S (ct_X7_bestRank l D cy adx _ _ _ _ (hst _ _ hR 0)) (cwV 1 hts gL_law_X7_bestRank rfl rfl rfl (by decide +kernel) ⟨Nat.le_of_ble_eq_true rfl, Nat.le_of_ble_eq_true rfl⟩) rfl hl.1 rfl (Nat.le_of_ble_eq_true rfl) dL_law_998 ⟨Nat.le_of_ble_eq_true rfl, Nat.le_of_ble_eq_true rfl⟩ (fun rX M1 H locs h S => ?_)
    refine lv_aload_n hx hb dL_law_1001 rfl (lv_at hl 2 rfl) ?_
    refine lv_aload_n hx hb dL_law_1002 rfl (lv_at hl 0 rfl) ?_
    refine lv_iload_n hx hb dL_law_1003 rfl (lv_at hl 3 rfl) ?_
    refine lv_iconst (v := 1) hx hb dL_law_1004 (by decide) ?_
    refine lv_iadd hx hb dL_law_1005 ?_
    rw [show nI i + 1 = nI (i + 1) from nI_add i 1]
    refine va_sld hx hb hX hbl hbA S.2.2 (vp_in_nI (n := i + 1) (by omega) (by omega)) dL_law_1006 ?_
    rw [nI_clamp (n := i + 1) (by omega)]
    refine lv_if_eq (tgt := 1014) hx hb dL_law_1007 (by decide) (fun _ => ?_) (fun c2 => absurd c c2)
    refine lv_iconst (v := 0) hx hb dL_law_1014 (by decide) ?_
    refine law_Ri (As := [.int 0]) ⟨hx, hb, hml, hown, hts⟩ hK S (ct_X8_bestRank l D cy adr _ _ _ _ h) (cwV 1 hts gL_law_X8_bestRank rfl rfl rfl (by decide +kernel) ⟨Nat.le_of_ble_eq_true rfl, Nat.le_of_ble_eq_true rfl⟩) rfl hl.1 rfl (Nat.le_of_ble_eq_true rfl) dL_law_1015 ⟨Nat.le_of_ble_eq_true rfl, Nat.le_of_ble_eq_true rfl⟩ (fun rR M2 H locs h S => ?_)
    refine lv_icmp_eq (tgt := 1128) hx hb dL_law_1018 (by decide) (fun _ => ?_) (fun c2 => absurd h.1 c2)
    exact kk _ _ ls _ _ h.2 S hl
  · refine lv_iconst (v := 1) hx hb dL_law_993 (by decide) ?_
    refine lv_goto (tgt := 998) hx hb dL_law_994 (by decide) ?_
    refine law_Xi (As := [.int 1]) ⟨hx, hb, hml, hown, hts⟩ hK S (ct_X7_bestRank l D cy adx _ _ _ _ (hst _ _ hR 1)) (cwV 1 hts gL_law_X7_bestRank rfl rfl rfl (by decide +kernel) ⟨Nat.le_of_ble_eq_true rfl, Nat.le_of_ble_eq_true rfl⟩) rfl hl.1 rfl (Nat.le_of_ble_eq_true rfl) dL_law_998 ⟨Nat.le_of_ble_eq_true rfl, Nat.le_of_ble_eq_true rfl⟩ (fun rX M1 H locs h S => ?_)
    refine lv_aload_n hx hb dL_law_1001 rfl (lv_at hl 2 rfl) ?_
    refine lv_aload_n hx hb dL_law_1002 rfl (lv_at hl 0 rfl) ?_
    refine lv_iload_n hx hb dL_law_1003 rfl (lv_at hl 3 rfl) ?_
    refine lv_iconst (v := 1) hx hb dL_law_1004 (by decide) ?_
    refine lv_iadd hx hb dL_law_1005 ?_
    rw [show nI i + 1 = nI (i + 1) from nI_add i 1]
    refine va_sld hx hb hX hbl hbA S.2.2 (vp_in_nI (n := i + 1) (by omega) (by omega)) dL_law_1006 ?_
    rw [nI_clamp (n := i + 1) (by omega)]
    refine lv_if_eq (tgt := 1014) hx hb dL_law_1007 (by decide) (fun c2 => absurd c2 c) (fun _ => ?_)
    refine lv_iconst (v := 1) hx hb dL_law_1010 (by decide) ?_
    refine lv_goto (tgt := 1015) hx hb dL_law_1011 (by decide) ?_
    refine law_Ri (As := [.int 1]) ⟨hx, hb, hml, hown, hts⟩ hK S (ct_X8_bestRank l D cy adr _ _ _ _ h) (cwV 1 hts gL_law_X8_bestRank rfl rfl rfl (by decide +kernel) ⟨Nat.le_of_ble_eq_true rfl, Nat.le_of_ble_eq_true rfl⟩) rfl hl.1 rfl (Nat.le_of_ble_eq_true rfl) dL_law_1015 ⟨Nat.le_of_ble_eq_true rfl, Nat.le_of_ble_eq_true rfl⟩ (fun rR M2 H locs h S => ?_)
    refine lv_icmp_eq (tgt := 1128) hx hb dL_law_1018 (by decide) (fun _ => ?_) (fun c2 => absurd h.1 c2)
    exact kk _ _ ls _ _ h.2 S hl
set_option maxHeartbeats 4000000 in
set_option maxRecDepth 100000 in
theorem law_case_30 {p : Program} {l : Launch} {e : Env} {s : State} {m : MethodId} {below : List Frame} {meth : Method} {c : Code} {b L : Nat} {xs : Nat → Int32} {D : va_G} {cy adx adr : Nat → Nat} {Rel : Mem → Mem → Prop} (hst : ∀ MX MR : Mem, Rel MX MR → ∀ (a0 : Int32), wp_X7_apart a0 MX (fun r M1 => wp_X8_apart a0 MR (fun r2 M2 => r = r2 ∧ Rel M1 M2))) (hL : L ≤ 2560) (E : LawE p s m c cy D b L xs) {i : Nat} (hi : i + 5 ≤ L) {MX MR : Mem} (hR : Rel MX MR) {H : Heap} {locs : List Loc} (S : LWS D cy adx adr s.heap H locs MX MR) {ls : Array Slot} (hl : lv_has ls 4 [(0, .ref b), (1, .ref (adx 0)), (2, .ref (adr 0)), (3, .int (nI i))])
    (kk : ∀ (H : Heap) (locs : List Loc) (ls : Array Slot) (MX MR : Mem), Rel MX MR → LWS D cy adx adr s.heap H locs MX MR → lv_has ls 4 [(0, .ref b), (1, .ref (adx 0)), (2, .ref (adr 0)), (3, .int (nI i))] → W p l e room_1 s m #[Value.ref b] below meth c H locs 56 17578 (lw_Z below #[Value.ref b] s) (F0 m 1128 ls [])) : W p l e room_1 s m #[Value.ref b] below meth c H locs 56 17578 (lw_Z below #[Value.ref b] s) (F0 m 1023 ls []) := by
  obtain ⟨hx, hb, hml, hown, hts, hK, hX, hbl, hbA⟩ := E
  refine lv_aload_n hx hb dL_law_1023 rfl (lv_at hl 1 rfl) ?_
  refine lv_aload_n hx hb dL_law_1024 rfl (lv_at hl 0 rfl) ?_
  refine lv_iload_n hx hb dL_law_1025 rfl (lv_at hl 3 rfl) ?_
  refine lv_iconst (v := 1) hx hb dL_law_1026 (by decide) ?_
  refine lv_iadd hx hb dL_law_1027 ?_
  rw [show nI i + 1 = nI (i + 1) from nI_add i 1]
  refine va_sld hx hb hX hbl hbA S.2.2 (vp_in_nI (n := i + 1) (by omega) (by omega)) dL_law_1028 ?_
  rw [nI_clamp (n := i + 1) (by omega)]
  refine law_Xi (As := [.int (xs (i + 1))]) ⟨hx, hb, hml, hown, hts⟩ hK S (ct_X7_apart l D cy adx _ _ _ _ (hst _ _ hR (xs (i + 1)))) (cwV 1 hts gL_law_X7_apart rfl rfl rfl (by decide +kernel) ⟨Nat.le_of_ble_eq_true rfl, Nat.le_of_ble_eq_true rfl⟩) rfl hl.1 rfl (Nat.le_of_ble_eq_true rfl) dL_law_1029 ⟨Nat.le_of_ble_eq_true rfl, Nat.le_of_ble_eq_true rfl⟩ (fun rX M1 H locs h S => ?_)
  refine lv_aload_n hx hb dL_law_1032 rfl (lv_at hl 2 rfl) ?_
  refine lv_aload_n hx hb dL_law_1033 rfl (lv_at hl 0 rfl) ?_
  refine lv_iload_n hx hb dL_law_1034 rfl (lv_at hl 3 rfl) ?_
  refine lv_iconst (v := 1) hx hb dL_law_1035 (by decide) ?_
  refine lv_iadd hx hb dL_law_1036 ?_
  rw [show nI i + 1 = nI (i + 1) from nI_add i 1]
  refine va_sld hx hb hX hbl hbA S.2.2 (vp_in_nI (n := i + 1) (by omega) (by omega)) dL_law_1037 ?_
  rw [nI_clamp (n := i + 1) (by omega)]
  refine law_Ri (As := [.int (xs (i + 1))]) ⟨hx, hb, hml, hown, hts⟩ hK S (ct_X8_apart l D cy adr _ _ _ _ h) (cwV 1 hts gL_law_X8_apart rfl rfl rfl (by decide +kernel) ⟨Nat.le_of_ble_eq_true rfl, Nat.le_of_ble_eq_true rfl⟩) rfl hl.1 rfl (Nat.le_of_ble_eq_true rfl) dL_law_1038 ⟨Nat.le_of_ble_eq_true rfl, Nat.le_of_ble_eq_true rfl⟩ (fun rR M2 H locs h S => ?_)
  refine lv_icmp_eq (tgt := 1128) hx hb dL_law_1041 (by decide) (fun _ => ?_) (fun c2 => absurd h.1 c2)
  exact kk _ _ ls _ _ h.2 S hl
set_option maxHeartbeats 4000000 in
set_option maxRecDepth 100000 in
theorem law_case_31 {p : Program} {l : Launch} {e : Env} {s : State} {m : MethodId} {below : List Frame} {meth : Method} {c : Code} {b L : Nat} {xs : Nat → Int32} {D : va_G} {cy adx adr : Nat → Nat} {Rel : Mem → Mem → Prop} (hst : ∀ MX MR : Mem, Rel MX MR → ∀ (a0 : Int32), wp_X7_way a0 MX (fun r M1 => wp_X8_way a0 MR (fun r2 M2 => r = r2 ∧ Rel M1 M2))) (hL : L ≤ 2560) (E : LawE p s m c cy D b L xs) {i : Nat} (hi : i + 5 ≤ L) {MX MR : Mem} (hR : Rel MX MR) {H : Heap} {locs : List Loc} (S : LWS D cy adx adr s.heap H locs MX MR) {ls : Array Slot} (hl : lv_has ls 4 [(0, .ref b), (1, .ref (adx 0)), (2, .ref (adr 0)), (3, .int (nI i))])
    (kk : ∀ (H : Heap) (locs : List Loc) (ls : Array Slot) (MX MR : Mem), Rel MX MR → LWS D cy adx adr s.heap H locs MX MR → lv_has ls 4 [(0, .ref b), (1, .ref (adx 0)), (2, .ref (adr 0)), (3, .int (nI i))] → W p l e room_1 s m #[Value.ref b] below meth c H locs 56 17578 (lw_Z below #[Value.ref b] s) (F0 m 1128 ls [])) : W p l e room_1 s m #[Value.ref b] below meth c H locs 56 17578 (lw_Z below #[Value.ref b] s) (F0 m 1046 ls []) := by
  obtain ⟨hx, hb, hml, hown, hts, hK, hX, hbl, hbA⟩ := E
  refine lv_aload_n hx hb dL_law_1046 rfl (lv_at hl 1 rfl) ?_
  refine lv_aload_n hx hb dL_law_1047 rfl (lv_at hl 0 rfl) ?_
  refine lv_iload_n hx hb dL_law_1048 rfl (lv_at hl 3 rfl) ?_
  refine lv_iconst (v := 1) hx hb dL_law_1049 (by decide) ?_
  refine lv_iadd hx hb dL_law_1050 ?_
  rw [show nI i + 1 = nI (i + 1) from nI_add i 1]
  refine va_sld hx hb hX hbl hbA S.2.2 (vp_in_nI (n := i + 1) (by omega) (by omega)) dL_law_1051 ?_
  rw [nI_clamp (n := i + 1) (by omega)]
  refine law_Xi (As := [.int (xs (i + 1))]) ⟨hx, hb, hml, hown, hts⟩ hK S (ct_X7_way l D cy adx _ _ _ _ (hst _ _ hR (xs (i + 1)))) (cwV 1 hts gL_law_X7_way rfl rfl rfl (by decide +kernel) ⟨Nat.le_of_ble_eq_true rfl, Nat.le_of_ble_eq_true rfl⟩) rfl hl.1 rfl (Nat.le_of_ble_eq_true rfl) dL_law_1052 ⟨Nat.le_of_ble_eq_true rfl, Nat.le_of_ble_eq_true rfl⟩ (fun rX M1 H locs h S => ?_)
  refine lv_aload_n hx hb dL_law_1055 rfl (lv_at hl 2 rfl) ?_
  refine lv_aload_n hx hb dL_law_1056 rfl (lv_at hl 0 rfl) ?_
  refine lv_iload_n hx hb dL_law_1057 rfl (lv_at hl 3 rfl) ?_
  refine lv_iconst (v := 1) hx hb dL_law_1058 (by decide) ?_
  refine lv_iadd hx hb dL_law_1059 ?_
  rw [show nI i + 1 = nI (i + 1) from nI_add i 1]
  refine va_sld hx hb hX hbl hbA S.2.2 (vp_in_nI (n := i + 1) (by omega) (by omega)) dL_law_1060 ?_
  rw [nI_clamp (n := i + 1) (by omega)]
  refine law_Ri (As := [.int (xs (i + 1))]) ⟨hx, hb, hml, hown, hts⟩ hK S (ct_X8_way l D cy adr _ _ _ _ h) (cwV 1 hts gL_law_X8_way rfl rfl rfl (by decide +kernel) ⟨Nat.le_of_ble_eq_true rfl, Nat.le_of_ble_eq_true rfl⟩) rfl hl.1 rfl (Nat.le_of_ble_eq_true rfl) dL_law_1061 ⟨Nat.le_of_ble_eq_true rfl, Nat.le_of_ble_eq_true rfl⟩ (fun rR M2 H locs h S => ?_)
  refine lv_icmp_eq (tgt := 1128) hx hb dL_law_1064 (by decide) (fun _ => ?_) (fun c2 => absurd h.1 c2)
  exact kk _ _ ls _ _ h.2 S hl
set_option maxHeartbeats 4000000 in
set_option maxRecDepth 100000 in
theorem law_case_32 {p : Program} {l : Launch} {e : Env} {s : State} {m : MethodId} {below : List Frame} {meth : Method} {c : Code} {b L : Nat} {xs : Nat → Int32} {D : va_G} {cy adx adr : Nat → Nat} {Rel : Mem → Mem → Prop} (hst : ∀ MX MR : Mem, Rel MX MR → wp_X7_far MX (fun r M1 => wp_X8_far MR (fun r2 M2 => r = r2 ∧ Rel M1 M2))) (hL : L ≤ 2560) (E : LawE p s m c cy D b L xs) {i : Nat} (hi : i + 5 ≤ L) {MX MR : Mem} (hR : Rel MX MR) {H : Heap} {locs : List Loc} (S : LWS D cy adx adr s.heap H locs MX MR) {ls : Array Slot} (hl : lv_has ls 4 [(0, .ref b), (1, .ref (adx 0)), (2, .ref (adr 0)), (3, .int (nI i))])
    (kk : ∀ (H : Heap) (locs : List Loc) (ls : Array Slot) (MX MR : Mem), Rel MX MR → LWS D cy adx adr s.heap H locs MX MR → lv_has ls 4 [(0, .ref b), (1, .ref (adx 0)), (2, .ref (adr 0)), (3, .int (nI i))] → W p l e room_1 s m #[Value.ref b] below meth c H locs 56 17578 (lw_Z below #[Value.ref b] s) (F0 m 1128 ls [])) : W p l e room_1 s m #[Value.ref b] below meth c H locs 56 17578 (lw_Z below #[Value.ref b] s) (F0 m 1069 ls []) := by
  obtain ⟨hx, hb, hml, hown, hts, hK, hX, hbl, hbA⟩ := E
  refine lv_aload_n hx hb dL_law_1069 rfl (lv_at hl 1 rfl) ?_
  refine law_Xi (As := []) ⟨hx, hb, hml, hown, hts⟩ hK S (ct_X7_far l D cy adx _ _ _ (hst _ _ hR)) (cwV 0 hts gL_law_X7_far rfl rfl rfl (by decide +kernel) ⟨Nat.le_of_ble_eq_true rfl, Nat.le_of_ble_eq_true rfl⟩) rfl hl.1 rfl (Nat.le_of_ble_eq_true rfl) dL_law_1070 ⟨Nat.le_of_ble_eq_true rfl, Nat.le_of_ble_eq_true rfl⟩ (fun rX M1 H locs h S => ?_)
  refine lv_aload_n hx hb dL_law_1073 rfl (lv_at hl 2 rfl) ?_
  refine law_Ri (As := []) ⟨hx, hb, hml, hown, hts⟩ hK S (ct_X8_far l D cy adr _ _ _ h) (cwV 0 hts gL_law_X8_far rfl rfl rfl (by decide +kernel) ⟨Nat.le_of_ble_eq_true rfl, Nat.le_of_ble_eq_true rfl⟩) rfl hl.1 rfl (Nat.le_of_ble_eq_true rfl) dL_law_1074 ⟨Nat.le_of_ble_eq_true rfl, Nat.le_of_ble_eq_true rfl⟩ (fun rR M2 H locs h S => ?_)
  refine lv_icmp_eq (tgt := 1128) hx hb dL_law_1077 (by decide) (fun _ => ?_) (fun c2 => absurd h.1 c2)
  exact kk _ _ ls _ _ h.2 S hl
set_option maxHeartbeats 4000000 in
set_option maxRecDepth 100000 in
theorem law_case_33 {p : Program} {l : Launch} {e : Env} {s : State} {m : MethodId} {below : List Frame} {meth : Method} {c : Code} {b L : Nat} {xs : Nat → Int32} {D : va_G} {cy adx adr : Nat → Nat} {Rel : Mem → Mem → Prop} (hst : ∀ MX MR : Mem, Rel MX MR → ∀ (a0 : Int32), wp_X7_crossings a0 MX (fun r M1 => wp_X8_crossings a0 MR (fun r2 M2 => r = r2 ∧ Rel M1 M2))) (hL : L ≤ 2560) (E : LawE p s m c cy D b L xs) {i : Nat} (hi : i + 5 ≤ L) {MX MR : Mem} (hR : Rel MX MR) {H : Heap} {locs : List Loc} (S : LWS D cy adx adr s.heap H locs MX MR) {ls : Array Slot} (hl : lv_has ls 4 [(0, .ref b), (1, .ref (adx 0)), (2, .ref (adr 0)), (3, .int (nI i))])
    (kk : ∀ (H : Heap) (locs : List Loc) (ls : Array Slot) (MX MR : Mem), Rel MX MR → LWS D cy adx adr s.heap H locs MX MR → lv_has ls 4 [(0, .ref b), (1, .ref (adx 0)), (2, .ref (adr 0)), (3, .int (nI i))] → W p l e room_1 s m #[Value.ref b] below meth c H locs 56 17578 (lw_Z below #[Value.ref b] s) (F0 m 1128 ls [])) : W p l e room_1 s m #[Value.ref b] below meth c H locs 56 17578 (lw_Z below #[Value.ref b] s) (F0 m 1082 ls []) := by
  obtain ⟨hx, hb, hml, hown, hts, hK, hX, hbl, hbA⟩ := E
  refine lv_aload_n hx hb dL_law_1082 rfl (lv_at hl 1 rfl) ?_
  refine lv_aload_n hx hb dL_law_1083 rfl (lv_at hl 0 rfl) ?_
  refine lv_iload_n hx hb dL_law_1084 rfl (lv_at hl 3 rfl) ?_
  refine lv_iconst (v := 1) hx hb dL_law_1085 (by decide) ?_
  refine lv_iadd hx hb dL_law_1086 ?_
  rw [show nI i + 1 = nI (i + 1) from nI_add i 1]
  refine va_sld hx hb hX hbl hbA S.2.2 (vp_in_nI (n := i + 1) (by omega) (by omega)) dL_law_1087 ?_
  rw [nI_clamp (n := i + 1) (by omega)]
  refine law_Xi (As := [.int (xs (i + 1))]) ⟨hx, hb, hml, hown, hts⟩ hK S (ct_X7_crossings l D cy adx _ _ _ _ (hst _ _ hR (xs (i + 1)))) (cwV 1 hts gL_law_X7_crossings rfl rfl rfl (by decide +kernel) ⟨Nat.le_of_ble_eq_true rfl, Nat.le_of_ble_eq_true rfl⟩) rfl hl.1 rfl (Nat.le_of_ble_eq_true rfl) dL_law_1088 ⟨Nat.le_of_ble_eq_true rfl, Nat.le_of_ble_eq_true rfl⟩ (fun rX M1 H locs h S => ?_)
  refine lv_aload_n hx hb dL_law_1091 rfl (lv_at hl 2 rfl) ?_
  refine lv_aload_n hx hb dL_law_1092 rfl (lv_at hl 0 rfl) ?_
  refine lv_iload_n hx hb dL_law_1093 rfl (lv_at hl 3 rfl) ?_
  refine lv_iconst (v := 1) hx hb dL_law_1094 (by decide) ?_
  refine lv_iadd hx hb dL_law_1095 ?_
  rw [show nI i + 1 = nI (i + 1) from nI_add i 1]
  refine va_sld hx hb hX hbl hbA S.2.2 (vp_in_nI (n := i + 1) (by omega) (by omega)) dL_law_1096 ?_
  rw [nI_clamp (n := i + 1) (by omega)]
  refine law_Ri (As := [.int (xs (i + 1))]) ⟨hx, hb, hml, hown, hts⟩ hK S (ct_X8_crossings l D cy adr _ _ _ _ h) (cwV 1 hts gL_law_X8_crossings rfl rfl rfl (by decide +kernel) ⟨Nat.le_of_ble_eq_true rfl, Nat.le_of_ble_eq_true rfl⟩) rfl hl.1 rfl (Nat.le_of_ble_eq_true rfl) dL_law_1097 ⟨Nat.le_of_ble_eq_true rfl, Nat.le_of_ble_eq_true rfl⟩ (fun rR M2 H locs h S => ?_)
  refine lv_icmp_eq (tgt := 1128) hx hb dL_law_1100 (by decide) (fun _ => ?_) (fun c2 => absurd h.1 c2)
  exact kk _ _ ls _ _ h.2 S hl
set_option maxHeartbeats 4000000 in
set_option maxRecDepth 100000 in
theorem law_case_34 {p : Program} {l : Launch} {e : Env} {s : State} {m : MethodId} {below : List Frame} {meth : Method} {c : Code} {b L : Nat} {xs : Nat → Int32} {D : va_G} {cy adx adr : Nat → Nat} {Rel : Mem → Mem → Prop} (hst : ∀ MX MR : Mem, Rel MX MR → ∀ (a0 : Int32), wp_X7_total a0 MX (fun r M1 => wp_X8_total a0 MR (fun r2 M2 => r = r2 ∧ Rel M1 M2))) (hL : L ≤ 2560) (E : LawE p s m c cy D b L xs) {i : Nat} (hi : i + 5 ≤ L) {MX MR : Mem} (hR : Rel MX MR) {H : Heap} {locs : List Loc} (S : LWS D cy adx adr s.heap H locs MX MR) {ls : Array Slot} (hl : lv_has ls 4 [(0, .ref b), (1, .ref (adx 0)), (2, .ref (adr 0)), (3, .int (nI i))])
    (kk : ∀ (H : Heap) (locs : List Loc) (ls : Array Slot) (MX MR : Mem), Rel MX MR → LWS D cy adx adr s.heap H locs MX MR → lv_has ls 4 [(0, .ref b), (1, .ref (adx 0)), (2, .ref (adr 0)), (3, .int (nI i))] → W p l e room_1 s m #[Value.ref b] below meth c H locs 56 17578 (lw_Z below #[Value.ref b] s) (F0 m 1128 ls [])) : W p l e room_1 s m #[Value.ref b] below meth c H locs 56 17578 (lw_Z below #[Value.ref b] s) (F0 m 1105 ls []) := by
  obtain ⟨hx, hb, hml, hown, hts, hK, hX, hbl, hbA⟩ := E
  refine lv_aload_n hx hb dL_law_1105 rfl (lv_at hl 1 rfl) ?_
  refine lv_aload_n hx hb dL_law_1106 rfl (lv_at hl 0 rfl) ?_
  refine lv_iload_n hx hb dL_law_1107 rfl (lv_at hl 3 rfl) ?_
  refine lv_iconst (v := 1) hx hb dL_law_1108 (by decide) ?_
  refine lv_iadd hx hb dL_law_1109 ?_
  rw [show nI i + 1 = nI (i + 1) from nI_add i 1]
  refine va_sld hx hb hX hbl hbA S.2.2 (vp_in_nI (n := i + 1) (by omega) (by omega)) dL_law_1110 ?_
  rw [nI_clamp (n := i + 1) (by omega)]
  refine law_Xi (As := [.int (xs (i + 1))]) ⟨hx, hb, hml, hown, hts⟩ hK S (ct_X7_total l D cy adx _ _ _ _ (hst _ _ hR (xs (i + 1)))) (cwV 1 hts gL_law_X7_total rfl rfl rfl (by decide +kernel) ⟨Nat.le_of_ble_eq_true rfl, Nat.le_of_ble_eq_true rfl⟩) rfl hl.1 rfl (Nat.le_of_ble_eq_true rfl) dL_law_1111 ⟨Nat.le_of_ble_eq_true rfl, Nat.le_of_ble_eq_true rfl⟩ (fun rX M1 H locs h S => ?_)
  refine lv_aload_n hx hb dL_law_1114 rfl (lv_at hl 2 rfl) ?_
  refine lv_aload_n hx hb dL_law_1115 rfl (lv_at hl 0 rfl) ?_
  refine lv_iload_n hx hb dL_law_1116 rfl (lv_at hl 3 rfl) ?_
  refine lv_iconst (v := 1) hx hb dL_law_1117 (by decide) ?_
  refine lv_iadd hx hb dL_law_1118 ?_
  rw [show nI i + 1 = nI (i + 1) from nI_add i 1]
  refine va_sld hx hb hX hbl hbA S.2.2 (vp_in_nI (n := i + 1) (by omega) (by omega)) dL_law_1119 ?_
  rw [nI_clamp (n := i + 1) (by omega)]
  refine law_Ri (As := [.int (xs (i + 1))]) ⟨hx, hb, hml, hown, hts⟩ hK S (ct_X8_total l D cy adr _ _ _ _ h) (cwV 1 hts gL_law_X8_total rfl rfl rfl (by decide +kernel) ⟨Nat.le_of_ble_eq_true rfl, Nat.le_of_ble_eq_true rfl⟩) rfl hl.1 rfl (Nat.le_of_ble_eq_true rfl) dL_law_1120 ⟨Nat.le_of_ble_eq_true rfl, Nat.le_of_ble_eq_true rfl⟩ (fun rR M2 H locs h S => ?_)
  refine lv_icmp_eq (tgt := 1128) hx hb dL_law_1123 (by decide) (fun _ => ?_) (fun c2 => absurd h.1 c2)
  exact kk _ _ ls _ _ h.2 S hl
