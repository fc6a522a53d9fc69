def AllSteps (Rel : Mem → Mem → Prop) : Prop := ∀ MX MR : Mem, Rel MX MR →
  (∀ (a0 : Int32) (a1 : Int32) (a2 : Int32), wp_X7_sheet a0 a1 a2 MX (fun r M1 => wp_X8_sheet a0 a1 a2 MR (fun r2 M2 => r = r2 ∧ Rel M1 M2))) ∧
  (∀ (a0 : Int32), wp_X7_tear a0 MX (fun r M1 => wp_X8_tear a0 MR (fun r2 M2 => r = r2 ∧ Rel M1 M2))) ∧
  (∀ (a0 : Int32) (a1 : Int32) (a2 : Int64), wp_X7_put a0 a1 a2 MX (fun r M1 => wp_X8_put a0 a1 a2 MR (fun r2 M2 => r = r2 ∧ Rel M1 M2))) ∧
  (∀ (a0 : Int32) (a1 : Int32) (a2 : Int32), wp_X7_at a0 a1 a2 MX (fun r M1 => wp_X8_at a0 a1 a2 MR (fun r2 M2 => r = r2 ∧ Rel M1 M2))) ∧
  (∀ (a0 : Int32) (a1 : Int32), wp_X7_post a0 a1 MX (fun r M1 => wp_X8_post a0 a1 MR (fun r2 M2 => r = r2 ∧ Rel M1 M2))) ∧
  (∀ (a0 : Int32) (a1 : Int32), wp_X7_take a0 a1 MX (fun r M1 => wp_X8_take a0 a1 MR (fun r2 M2 => r = r2 ∧ Rel M1 M2))) ∧
  (wp_X7_clear MX (fun r M1 => wp_X8_clear MR (fun r2 M2 => r = r2 ∧ Rel M1 M2))) ∧
  (wp_X7_lay MX (fun r M1 => wp_X8_lay MR (fun r2 M2 => r = r2 ∧ Rel M1 M2))) ∧
  (∀ (a0 : Int32) (a1 : Int32), wp_X7_fence a0 a1 MX (fun r M1 => wp_X8_fence a0 a1 MR (fun r2 M2 => r = r2 ∧ Rel M1 M2))) ∧
  (∀ (a0 : Int32) (a1 : Int32), wp_X7_end a0 a1 MX (fun r M1 => wp_X8_end a0 a1 MR (fun r2 M2 => r = r2 ∧ Rel M1 M2))) ∧
  (∀ (a0 : Int32), wp_X7_kind a0 MX (fun r M1 => wp_X8_kind a0 MR (fun r2 M2 => r = r2 ∧ Rel M1 M2))) ∧
  (∀ (a0 : Int32) (a1 : Int32), wp_X7_weightAs a0 a1 MX (fun r M1 => wp_X8_weightAs a0 a1 MR (fun r2 M2 => r = r2 ∧ Rel M1 M2))) ∧
  (∀ (a0 : Int32) (a1 : Int32), wp_X7_crosses a0 a1 MX (fun r M1 => wp_X8_crosses a0 a1 MR (fun r2 M2 => r = r2 ∧ Rel M1 M2))) ∧
  (∀ (a0 : Int32) (a1 : Int32), wp_X7_tell a0 a1 MX (fun r M1 => wp_X8_tell a0 a1 MR (fun r2 M2 => r = r2 ∧ Rel M1 M2))) ∧
  (∀ (a0 : Int32) (a1 : Int32), wp_X7_weigh a0 a1 MX (fun r M1 => wp_X8_weigh a0 a1 MR (fun r2 M2 => r = r2 ∧ Rel M1 M2))) ∧
  (wp_X7_cutting MX (fun r M1 => wp_X8_cutting MR (fun r2 M2 => r = r2 ∧ Rel M1 M2))) ∧
  (∀ (a0 : Int32), wp_X7_has a0 MX (fun r M1 => wp_X8_has a0 MR (fun r2 M2 => r = r2 ∧ Rel M1 M2))) ∧
  (wp_X7_thirds MX (fun r M1 => wp_X8_thirds MR (fun r2 M2 => r = r2 ∧ Rel M1 M2))) ∧
  (∀ (a0 : Int32) (a1 : Int32), wp_X7_third a0 a1 MX (fun r M1 => wp_X8_third a0 a1 MR (fun r2 M2 => r = r2 ∧ Rel M1 M2))) ∧
  (∀ (a0 : Int32), wp_X7_degree a0 MX (fun r M1 => wp_X8_degree a0 MR (fun r2 M2 => r = r2 ∧ Rel M1 M2))) ∧
  (∀ (a0 : Int32), wp_X7_turns a0 MX (fun r M1 => wp_X8_turns a0 MR (fun r2 M2 => r = r2 ∧ Rel M1 M2))) ∧
  (∀ (a0 : Int32), wp_X7_turn a0 MX (fun r M1 => wp_X8_turn a0 MR (fun r2 M2 => r = r2 ∧ Rel M1 M2))) ∧
  (wp_X7_back MX (fun r M1 => wp_X8_back MR (fun r2 M2 => r = r2 ∧ Rel M1 M2))) ∧
  (wp_X7_count MX (fun r M1 => wp_X8_count MR (fun r2 M2 => r = r2 ∧ Rel M1 M2))) ∧
  (wp_X7_rank MX (fun r M1 => wp_X8_rank MR (fun r2 M2 => r = r2 ∧ Rel M1 M2))) ∧
  (∀ (a0 : Int32), wp_X7_of a0 MX (fun r M1 => wp_X8_of a0 MR (fun r2 M2 => r = r2 ∧ Rel M1 M2))) ∧
  (∀ (a0 : Int32), wp_X7_go a0 MX (fun r M1 => wp_X8_go a0 MR (fun r2 M2 => r = r2 ∧ Rel M1 M2))) ∧
  (∀ (a0 : Int32), wp_X7_sure a0 MX (fun r M1 => wp_X8_sure a0 MR (fun r2 M2 => r = r2 ∧ Rel M1 M2))) ∧
  (∀ (a0 : Int32), wp_X7_best a0 MX (fun r M1 => wp_X8_best a0 MR (fun r2 M2 => r = r2 ∧ Rel M1 M2))) ∧
  (∀ (a0 : Int32), wp_X7_bestRank a0 MX (fun r M1 => wp_X8_bestRank a0 MR (fun r2 M2 => r = r2 ∧ Rel M1 M2))) ∧
  (∀ (a0 : Int32), wp_X7_apart a0 MX (fun r M1 => wp_X8_apart a0 MR (fun r2 M2 => r = r2 ∧ Rel M1 M2))) ∧
  (∀ (a0 : Int32), wp_X7_way a0 MX (fun r M1 => wp_X8_way a0 MR (fun r2 M2 => r = r2 ∧ Rel M1 M2))) ∧
  (wp_X7_far MX (fun r M1 => wp_X8_far MR (fun r2 M2 => r = r2 ∧ Rel M1 M2))) ∧
  (∀ (a0 : Int32), wp_X7_crossings a0 MX (fun r M1 => wp_X8_crossings a0 MR (fun r2 M2 => r = r2 ∧ Rel M1 M2))) ∧
  (∀ (a0 : Int32), wp_X7_total a0 MX (fun r M1 => wp_X8_total a0 MR (fun r2 M2 => r = r2 ∧ Rel M1 M2)))
theorem law_head {L i : Nat} (hL : L ≤ 2560) (h : ¬ nI L - 5 < nI i) (hi : i ≤ L) : i + 5 ≤ L := by
  rcases Nat.lt_or_ge L 5 with h5 | h5
  · exfalso
    apply h
    have h1 : nI L - nI 5 < 0 := pk_sneg (by decide) h5
    have h2 : (0 : Int32) ≤ nI i := nI_pos' (by omega)
    exact Int32.lt_of_lt_of_le h1 h2
  · rcases Nat.lt_or_ge (L - 5) i with h6 | h6
    · exfalso
      apply h
      have h1 : nI L - nI 5 = nI (L - 5) := pk_sub h5
      rw [show nI L - 5 = nI L - nI 5 from rfl, h1]
      exact nI_lt h6 (by omega)
    · omega
set_option maxHeartbeats 8000000 in
set_option maxRecDepth 100000 in
theorem law_loop {p : Program} {l : Launch} {e : Env} {s : State} {m : MethodId} {below : List Frame} {meth : Method} {c : Code} {b L : Nat} {xs : Nat → Int32} {D : va_G} {cy adx adr : Nat → Nat} {Rel : Mem → Mem → Prop} (hst : AllSteps Rel) (hL : L ≤ 2560) (E : LawE p s m c cy D b L xs) (hr : meth.sig.returnType = ret) (hlocks : meth.locks = false) :
    ∀ (n i : Nat), i ≤ L → L + 5 ≤ i + 5 * n → ∀ (MX MR : Mem), Rel MX MR → ∀ (H : Heap) (locs : List Loc), LWS D cy adx adr s.heap H locs MX MR → ∀ ls : Array Slot, lv_has ls 4 [(0, .ref b), (1, .ref (adx 0)), (2, .ref (adr 0)), (3, .int (nI i))] → W p l e room_1 s m #[Value.ref b] below meth c H locs 56 17578 (lw_Z below #[Value.ref b] s) (F0 m 18 ls []) := by
  intro n
  induction n with
  | zero => intro i hi hn; omega
  | succ n ih =>
    intro i hi hn MX MR hR H locs S ls hl
    obtain ⟨hx, hb, hml, hown, hts, hK, hX, hbl, hbA⟩ := id E
    refine lv_iload_n hx hb dL_law_18 rfl (lv_at hl 3 rfl) ?_
    refine lv_aload_n hx hb dL_law_19 rfl (lv_at hl 0 rfl) ?_
    refine va_slen hx hb hX hbl hbA S.2.2 dL_law_20 ?_
    refine lv_iconst (v := 5) hx hb dL_law_21 (by decide) ?_
    refine lv_isub hx hb dL_law_22 ?_
    refine lv_icmp_gt (tgt := 1134) hx hb dL_law_23 (by decide) (fun c9 => ?_) (fun c9 => ?_)
    · refine lv_iconst (v := 1) hx hb dL_law_1134 (by decide) ?_
      refine va_forget (fun q hq => S.2.2.2.2 q hq) ?_
      refine W.widen (k := 600000) (n := 7302250) (Nat.le_of_ble_eq_true rfl) (Nat.le_of_ble_eq_true rfl) ?_
      exact lw_ret hx hb hr hlocks dL_law_1135
    · have hi5 : i + 5 ≤ L := law_head hL c9 hi
      have kk : ∀ (H : Heap) (locs : List Loc) (ls : Array Slot) (MX MR : Mem), Rel MX MR → LWS D cy adx adr s.heap H locs MX MR → lv_has ls 4 [(0, .ref b), (1, .ref (adx 0)), (2, .ref (adr 0)), (3, .int (nI i))] → W p l e room_1 s m #[Value.ref b] below meth c H locs 56 17578 (lw_Z below #[Value.ref b] s) (F0 m 1128 ls []) := by
        intro H locs ls MX MR hR S hl
        refine lv_iinc (v := nI (i + 5)) (lv' := [(3, .int (nI (i + 5))), (0, .ref b), (1, .ref (adx 0)), (2, .ref (adr 0))]) hx hb dL_law_1128 hl (k := 3) rfl (nI_add i 5) (by decide) rfl (fun ls hl => ?_)
        refine lv_goto (tgt := 18) hx hb dL_law_1131 (by decide) ?_
        exact ih (i + 5) hi5 (by omega) MX MR hR H locs S ls (lv_sub hl [1, 2, 3, 0] rfl)
      refine lv_aload_n hx hb dL_law_26 rfl (lv_at hl 0 rfl) ?_
      refine lv_iload_n hx hb dL_law_27 rfl (lv_at hl 3 rfl) ?_
      refine va_sld hx hb hX hbl hbA S.2.2 (vp_in_nI (n := i) (by omega) (by omega)) dL_law_28 ?_
      refine lv_bipush (v := 63) hx hb dL_law_29 (by decide) ?_
      refine lv_iand hx hb dL_law_31 ?_
      refine lv_topi (fun v ev => ?_)
      by_cases hlo : v.toInt < 0
      · exact lv_tableOut (tgt := 1128) hx hb dL_law_32 (Or.inl hlo) (by decide) (kk _ _ _ _ _ hR S hl)
      by_cases hhi : 34 < v.toInt
      · exact lv_tableOut (tgt := 1128) hx hb dL_law_32 (Or.inr hhi) (by decide) (kk _ _ _ _ _ hR S hl)
      have hk : v.toInt = 0 ∨ v.toInt = 1 ∨ v.toInt = 2 ∨ v.toInt = 3 ∨ v.toInt = 4 ∨ v.toInt = 5 ∨ v.toInt = 6 ∨ v.toInt = 7 ∨ v.toInt = 8 ∨ v.toInt = 9 ∨ v.toInt = 10 ∨ v.toInt = 11 ∨ v.toInt = 12 ∨ v.toInt = 13 ∨ v.toInt = 14 ∨ v.toInt = 15 ∨ v.toInt = 16 ∨ v.toInt = 17 ∨ v.toInt = 18 ∨ v.toInt = 19 ∨ v.toInt = 20 ∨ v.toInt = 21 ∨ v.toInt = 22 ∨ v.toInt = 23 ∨ v.toInt = 24 ∨ v.toInt = 25 ∨ v.toInt = 26 ∨ v.toInt = 27 ∨ v.toInt = 28 ∨ v.toInt = 29 ∨ v.toInt = 30 ∨ v.toInt = 31 ∨ v.toInt = 32 ∨ v.toInt = 33 ∨ v.toInt = 34 := by omega
      rcases hk with hk | hk | hk | hk | hk | hk | hk | hk | hk | hk | hk | hk | hk | hk | hk | hk | hk | hk | hk | hk | hk | hk | hk | hk | hk | hk | hk | hk | hk | hk | hk | hk | hk | hk | hk
      · exact lv_tableIn (off := 156) (tgt := 188) hx hb dL_law_32 hlo hhi (by rw [hk]; rfl) (by decide) (law_case_0 (fun MX MR h => (hst MX MR h).1) hL E hi5 hR S hl kk)
      · exact lv_tableIn (off := 199) (tgt := 231) hx hb dL_law_32 hlo hhi (by rw [hk]; rfl) (by decide) (law_case_1 (fun MX MR h => (hst MX MR h).2.1) hL E hi5 hR S hl kk)
      · exact lv_tableIn (off := 222) (tgt := 254) hx hb dL_law_32 hlo hhi (by rw [hk]; rfl) (by decide) (law_case_2 (fun MX MR h => (hst MX MR h).2.2.1) hL E hi5 hR S hl kk)
      · exact lv_tableIn (off := 295) (tgt := 327) hx hb dL_law_32 hlo hhi (by rw [hk]; rfl) (by decide) (law_case_3 (fun MX MR h => (hst MX MR h).2.2.2.1) hL E hi5 hR S hl kk)
      · exact lv_tableIn (off := 339) (tgt := 371) hx hb dL_law_32 hlo hhi (by rw [hk]; rfl) (by decide) (law_case_4 (fun MX MR h => (hst MX MR h).2.2.2.2.1) hL E hi5 hR S hl kk)
      · exact lv_tableIn (off := 372) (tgt := 404) hx hb dL_law_32 hlo hhi (by rw [hk]; rfl) (by decide) (law_case_5 (fun MX MR h => (hst MX MR h).2.2.2.2.2.1) hL E hi5 hR S hl kk)
      · exact lv_tableIn (off := 405) (tgt := 437) hx hb dL_law_32 hlo hhi (by rw [hk]; rfl) (by decide) (law_case_6 (fun MX MR h => (hst MX MR h).2.2.2.2.2.2.1) hL E hi5 hR S hl kk)
      · exact lv_tableIn (off := 418) (tgt := 450) hx hb dL_law_32 hlo hhi (by rw [hk]; rfl) (by decide) (law_case_7 (fun MX MR h => (hst MX MR h).2.2.2.2.2.2.2.1) hL E hi5 hR S hl kk)
      · exact lv_tableIn (off := 431) (tgt := 463) hx hb dL_law_32 hlo hhi (by rw [hk]; rfl) (by decide) (law_case_8 (fun MX MR h => (hst MX MR h).2.2.2.2.2.2.2.2.1) hL E hi5 hR S hl kk)
      · exact lv_tableIn (off := 464) (tgt := 496) hx hb dL_law_32 hlo hhi (by rw [hk]; rfl) (by decide) (law_case_9 (fun MX MR h => (hst MX MR h).2.2.2.2.2.2.2.2.2.1) hL E hi5 hR S hl kk)
      · exact lv_tableIn (off := 497) (tgt := 529) hx hb dL_law_32 hlo hhi (by rw [hk]; rfl) (by decide) (law_case_10 (fun MX MR h => (hst MX MR h).2.2.2.2.2.2.2.2.2.2.1) hL E hi5 hR S hl kk)
      · exact lv_tableIn (off := 520) (tgt := 552) hx hb dL_law_32 hlo hhi (by rw [hk]; rfl) (by decide) (law_case_11 (fun MX MR h => (hst MX MR h).2.2.2.2.2.2.2.2.2.2.2.1) hL E hi5 hR S hl kk)
      · exact lv_tableIn (off := 553) (tgt := 585) hx hb dL_law_32 hlo hhi (by rw [hk]; rfl) (by decide) (law_case_12 (fun MX MR h => (hst MX MR h).2.2.2.2.2.2.2.2.2.2.2.2.1) hL E hi5 hR S hl kk)
      · exact lv_tableIn (off := 586) (tgt := 618) hx hb dL_law_32 hlo hhi (by rw [hk]; rfl) (by decide) (law_case_13 (fun MX MR h => (hst MX MR h).2.2.2.2.2.2.2.2.2.2.2.2.2.1) hL E hi5 hR S hl kk)
      · exact lv_tableIn (off := 619) (tgt := 651) hx hb dL_law_32 hlo hhi (by rw [hk]; rfl) (by decide) (law_case_14 (fun MX MR h => (hst MX MR h).2.2.2.2.2.2.2.2.2.2.2.2.2.2.1) hL E hi5 hR S hl kk)
      · exact lv_tableIn (off := 652) (tgt := 684) hx hb dL_law_32 hlo hhi (by rw [hk]; rfl) (by decide) (law_case_15 (fun MX MR h => (hst MX MR h).2.2.2.2.2.2.2.2.2.2.2.2.2.2.2.1) hL E hi5 hR S hl kk)
      · exact lv_tableIn (off := 666) (tgt := 698) hx hb dL_law_32 hlo hhi (by rw [hk]; rfl) (by decide) (law_case_16 (fun MX MR h => (hst MX MR h).2.2.2.2.2.2.2.2.2.2.2.2.2.2.2.2.1) hL E hi5 hR S hl kk)
      · exact lv_tableIn (off := 689) (tgt := 721) hx hb dL_law_32 hlo hhi (by rw [hk]; rfl) (by decide) (law_case_17 (fun MX MR h => (hst MX MR h).2.2.2.2.2.2.2.2.2.2.2.2.2.2.2.2.2.1) hL E hi5 hR S hl kk)
      · exact lv_tableIn (off := 702) (tgt := 734) hx hb dL_law_32 hlo hhi (by rw [hk]; rfl) (by decide) (law_case_18 (fun MX MR h => (hst MX MR h).2.2.2.2.2.2.2.2.2.2.2.2.2.2.2.2.2.2.1) hL E hi5 hR S hl kk)
      · exact lv_tableIn (off := 735) (tgt := 767) hx hb dL_law_32 hlo hhi (by rw [hk]; rfl) (by decide) (law_case_19 (fun MX MR h => (hst MX MR h).2.2.2.2.2.2.2.2.2.2.2.2.2.2.2.2.2.2.2.1) hL E hi5 hR S hl kk)
      · exact lv_tableIn (off := 758) (tgt := 790) hx hb dL_law_32 hlo hhi (by rw [hk]; rfl) (by decide) (law_case_20 (fun MX MR h => (hst MX MR h).2.2.2.2.2.2.2.2.2.2.2.2.2.2.2.2.2.2.2.2.1) hL E hi5 hR S hl kk)
      · exact lv_tableIn (off := 781) (tgt := 813) hx hb dL_law_32 hlo hhi (by rw [hk]; rfl) (by decide) (law_case_21 (fun MX MR h => (hst MX MR h).2.2.2.2.2.2.2.2.2.2.2.2.2.2.2.2.2.2.2.2.2.1) hL E hi5 hR S hl kk)
      · exact lv_tableIn (off := 804) (tgt := 836) hx hb dL_law_32 hlo hhi (by rw [hk]; rfl) (by decide) (law_case_22 (fun MX MR h => (hst MX MR h).2.2.2.2.2.2.2.2.2.2.2.2.2.2.2.2.2.2.2.2.2.2.1) hL E hi5 hR S hl kk)
      · exact lv_tableIn (off := 817) (tgt := 849) hx hb dL_law_32 hlo hhi (by rw [hk]; rfl) (by decide) (law_case_23 (fun MX MR h => (hst MX MR h).2.2.2.2.2.2.2.2.2.2.2.2.2.2.2.2.2.2.2.2.2.2.2.1) hL E hi5 hR S hl kk)
      · exact lv_tableIn (off := 830) (tgt := 862) hx hb dL_law_32 hlo hhi (by rw [hk]; rfl) (by decide) (law_case_24 (fun MX MR h => (hst MX MR h).2.2.2.2.2.2.2.2.2.2.2.2.2.2.2.2.2.2.2.2.2.2.2.2.1) hL E hi5 hR S hl kk)
      · exact lv_tableIn (off := 843) (tgt := 875) hx hb dL_law_32 hlo hhi (by rw [hk]; rfl) (by decide) (law_case_25 (fun MX MR h => (hst MX MR h).2.2.2.2.2.2.2.2.2.2.2.2.2.2.2.2.2.2.2.2.2.2.2.2.2.1) hL E hi5 hR S hl kk)
      · exact lv_tableIn (off := 867) (tgt := 899) hx hb dL_law_32 hlo hhi (by rw [hk]; rfl) (by decide) (law_case_26 (fun MX MR h => (hst MX MR h).2.2.2.2.2.2.2.2.2.2.2.2.2.2.2.2.2.2.2.2.2.2.2.2.2.2.1) hL E hi5 hR S hl kk)
      · exact lv_tableIn (off := 890) (tgt := 922) hx hb dL_law_32 hlo hhi (by rw [hk]; rfl) (by decide) (law_case_27 (fun MX MR h => (hst MX MR h).2.2.2.2.2.2.2.2.2.2.2.2.2.2.2.2.2.2.2.2.2.2.2.2.2.2.2.1) hL E hi5 hR S hl kk)
      · exact lv_tableIn (off := 913) (tgt := 945) hx hb dL_law_32 hlo hhi (by rw [hk]; rfl) (by decide) (law_case_28 (fun MX MR h => (hst MX MR h).2.2.2.2.2.2.2.2.2.2.2.2.2.2.2.2.2.2.2.2.2.2.2.2.2.2.2.2.1) hL E hi5 hR S hl kk)
      · exact lv_tableIn (off := 952) (tgt := 984) hx hb dL_law_32 hlo hhi (by rw [hk]; rfl) (by decide) (law_case_29 (fun MX MR h => (hst MX MR h).2.2.2.2.2.2.2.2.2.2.2.2.2.2.2.2.2.2.2.2.2.2.2.2.2.2.2.2.2.1) hL E hi5 hR S hl kk)
      · exact lv_tableIn (off := 991) (tgt := 1023) hx hb dL_law_32 hlo hhi (by rw [hk]; rfl) (by decide) (law_case_30 (fun MX MR h => (hst MX MR h).2.2.2.2.2.2.2.2.2.2.2.2.2.2.2.2.2.2.2.2.2.2.2.2.2.2.2.2.2.2.1) hL E hi5 hR S hl kk)
      · exact lv_tableIn (off := 1014) (tgt := 1046) hx hb dL_law_32 hlo hhi (by rw [hk]; rfl) (by decide) (law_case_31 (fun MX MR h => (hst MX MR h).2.2.2.2.2.2.2.2.2.2.2.2.2.2.2.2.2.2.2.2.2.2.2.2.2.2.2.2.2.2.2.1) hL E hi5 hR S hl kk)
      · exact lv_tableIn (off := 1037) (tgt := 1069) hx hb dL_law_32 hlo hhi (by rw [hk]; rfl) (by decide) (law_case_32 (fun MX MR h => (hst MX MR h).2.2.2.2.2.2.2.2.2.2.2.2.2.2.2.2.2.2.2.2.2.2.2.2.2.2.2.2.2.2.2.2.1) hL E hi5 hR S hl kk)
      · exact lv_tableIn (off := 1050) (tgt := 1082) hx hb dL_law_32 hlo hhi (by rw [hk]; rfl) (by decide) (law_case_33 (fun MX MR h => (hst MX MR h).2.2.2.2.2.2.2.2.2.2.2.2.2.2.2.2.2.2.2.2.2.2.2.2.2.2.2.2.2.2.2.2.2.1) hL E hi5 hR S hl kk)
      · exact lv_tableIn (off := 1073) (tgt := 1105) hx hb dL_law_32 hlo hhi (by rw [hk]; rfl) (by decide) (law_case_34 (fun MX MR h => (hst MX MR h).2.2.2.2.2.2.2.2.2.2.2.2.2.2.2.2.2.2.2.2.2.2.2.2.2.2.2.2.2.2.2.2.2.2) hL E hi5 hR S hl kk)
theorem k_arr {s : State} {args : Array Value} {ty : FieldType} (hno : ∀ C : String, ty ≠ .object C) (h : (Cond.arrayClass ty).before args s = true) : ∃ cA : ClassId, ArrOfT s cA ty ∧ va_RA s cA ty := by
  obtain ⟨cA, kA, comp, h1, h2, h3⟩ := Cond.arrayClass_spec h
  refine ⟨cA, fun n z => ⟨fun k h => (by cases h), kA, h2, comp, h3⟩, ?_⟩
  cases ty with
  | object C => exact absurd rfl (hno C)
  | _ => exact h1
theorem k_arrO {s : State} {args : Array Value} {C : String} (h : (Cond.arrayOver (.object C)).before args s = true) : ∃ cA : ClassId, ArrOfT s cA (.object C) ∧ va_RA s cA (.object C) := by
  obtain ⟨comp, cA, kA, h1, -, h2, h3, h4⟩ := Cond.arrayOver_spec h
  exact ⟨cA, fun n z => ⟨fun k h => (by cases h), kA, h2, comp, h3⟩, kA, comp, h2, h3, h1, h4⟩
theorem law_join2 {A : Nat → Prop} {D : va_G} {w1 w2 : va_W} {H H1 : Heap} {x : Nat × va_E} (hD : va_D A (w1 ++ [x])) (hP : va_P D vwCl (w1 ++ [x]) H) (hF : ∀ q, va_A [x] H.size q → A q) (hk1 : ∀ q : Nat, q < H.size → ¬ va_A [x] H.size q → H1[q]? = H[q]?) (hP1 : va_P D vwCl w2 H1) (hD1 : va_D (va_A [x] H.size) w2) : va_P D vwCl (w1 ++ w2) H1 ∧ va_D A (w1 ++ w2) := by
  refine ⟨va_P.app ((law_P1 hP).kept fun k q hq => ?_) hP1, ?_⟩
  · have hlt := (law_P1 hP k q hq).lt
    refine hk1 q.1 hlt (fun h => ?_)
    rcases h with ⟨j, e, hj⟩ | h
    · exact law_apart hD hq hj rfl
    · omega
  · refine va_D.app ⟨(law_sub1 hD).1, fun k q hq => hD.2 k q (by rw [List.getElem?_append_left (List.getElem?_eq_some_iff.mp hq).1]; exact hq)⟩ (hD1.weaken (fun k q _ h => hF q.1 h)) (fun i j x y hx hy hxy => ?_)
    have hlt := (law_P1 hP i x hx).lt
    have hy1 := hD1.2 j y hy
    rcases hy1 with ⟨k, e, hk⟩ | hy1
    · exact law_apart hD hx hk hxy
    · omega
set_option maxHeartbeats 8000000 in
set_option maxRecDepth 100000 in
theorem law_mid3 {Rel : Mem → Mem → Prop} {MX MR : Mem} (h0 : Rel MX MR) (hst : AllSteps Rel) {p : Program} {e : Env} {s : State} {m : MethodId} {below : List Frame} {meth : Method} {c : Code} {l : Launch} {b L q1 : Nat} {xs : Nat → Int32} {D : va_G} {cy adx adr : Nat → Nat} (hL : L ≤ 2560) (E : LawE p s m c cy D b L xs) (hr : meth.sig.returnType = ret) (hlocks : meth.locks = false) (hq1 : adr 0 = q1) {H : Heap} {locs : List Loc} (hP : va_P D vwCl (wX adx cy MX ++ wR adr cy MR) H) (hD : va_D (fun q : Nat => s.heap.size ≤ q) (wX adx cy MX ++ wR adr cy MR)) (hS : va_S (fun q : Nat => s.heap.size ≤ q) s.heap H locs) {ls : Array Slot} (hl : lv_has ls 4 [(1, .ref (adx 0)), (0, .ref b)]) : W p l e room_1 s m #[Value.ref b] below meth c H locs (35 + 21) (9063 + 8515) (lw_Z below #[Value.ref b] s) (F0 m 15 ls [.ref q1]) := by
  have hn5 : L + 5 ≤ 0 + 5 * (L + 5) := by omega
  subst hq1
  obtain ⟨hx, hb, hml, hown, htl, hK, hX, hbl, hbA⟩ := id E
  refine W.widen (k := 56) (n := 17578) (Nat.le_of_ble_eq_true rfl) (Nat.le_of_ble_eq_true rfl) ?_
  refine lv_astore_n (lv' := [(2, .ref (adr 0)), (1, .ref (adx 0)), (0, .ref b)]) hx hb dL_law_15 rfl hl (by decide) rfl (fun ls hl => ?_)
  refine lv_iconst (v := 0) hx hb dL_law_16 (by decide) ?_
  refine lv_istore_n (lv' := [(3, .int 0), (2, .ref (adr 0)), (1, .ref (adx 0)), (0, .ref b)]) hx hb dL_law_17 rfl hl (by decide) rfl (fun ls hl => ?_)
  have hl : lv_has ls 4 [(0, .ref b), (1, .ref (adx 0)), (2, .ref (adr 0)), (3, .int (nI 0))] := lv_sub hl [3, 2, 1, 0] rfl
  exact law_loop hst hL E hr hlocks (L + 5) 0 (Nat.zero_le L) hn5 MX MR h0 H locs ⟨hP, hD, hS⟩ ls hl
set_option maxHeartbeats 8000000 in
set_option maxRecDepth 100000 in
theorem law_mid {Rel : Mem → Mem → Prop} {MX : Mem} (h0 : Rel MX rM0) (hst : AllSteps Rel) {p : Program} {e : Env} {s : State} {m : MethodId} {below : List Frame} {meth : Method} {c : Code} {l : Launch} {b L : Nat} {xs : Nat → Int32} {D : va_G} {cy adx : Nat → Nat} (hL : L ≤ 2560) (hts : ∀ w ∈ lw_tbl, w.before #[Value.ref b] s = true) (E : LawE p s m c cy D b L xs) (hN : xN s) (hr : meth.sig.returnType = ret) (hlocks : meth.locks = false) {H : Heap} {locs : List Loc} (hP : va_P D vwCl (wX adx cy MX) H) (hD : va_D (fun q : Nat => s.heap.size ≤ q) (wX adx cy MX)) (hS : va_S (fun q : Nat => s.heap.size ≤ q) s.heap H locs) {ls : Array Slot} (hl : lv_has ls 4 [(1, .ref (adx 0)), (0, .ref b)]) : W p l e room_1 s m #[Value.ref b] below meth c H locs 34 9029 (lw_Z below #[Value.ref b] s) (F0 m 8 ls []) := by
  have hn5 : L + 5 ≤ 0 + 5 * (L + 5) := by omega
  have hss : ∀ w ∈ wsLS, w.before #[Value.ref b] s = true := fun w h => hts w (wsLS_in w h)
  obtain ⟨hx, hb, hml, hown, htl, hK, hX, hbl, hbA⟩ := id E
  have hA : ∀ q : Nat, s.heap.size ≤ q → (fun q : Nat => s.heap.size ≤ q) q := fun _ h => h
  refine va_new (ci := 8) (fs := [.int 0, .null, .null, .null, .int 0, .int 0, .null, .null, .int 0, .int 0, .null, .null, .int 0, .null, .null, .null, .null, .null, .int 0, .int 0, .int 0, .null, .int 0, .null, .int 0, .int 0, .null, .int 0, .null, .null, .null, .null, .null, .null]) (C := RX8) (T := TX8) (N := 34) hx hb hts inX8 tyX8 tyX8_ok hown (hss _ (List.mem_of_getElem? (i := 25) rfl)) (hss _ (List.mem_of_getElem? (i := 8) rfl)) (hss _ (List.mem_of_getElem? (i := 26) rfl)) hK.1 hP hD hS hA rfl (fun j hj => by rcases (show j = 0 ∨ j = 1 ∨ j = 2 ∨ j = 3 ∨ j = 4 ∨ j = 5 ∨ j = 6 ∨ j = 7 ∨ j = 8 ∨ j = 9 ∨ j = 10 ∨ j = 11 ∨ j = 12 ∨ j = 13 ∨ j = 14 ∨ j = 15 ∨ j = 16 ∨ j = 17 ∨ j = 18 ∨ j = 19 ∨ j = 20 ∨ j = 21 ∨ j = 22 ∨ j = 23 ∨ j = 24 ∨ j = 25 ∨ j = 26 ∨ j = 27 ∨ j = 28 ∨ j = 29 ∨ j = 30 ∨ j = 31 ∨ j = 32 ∨ j = 33 by omega) with rfl | rfl | rfl | rfl | rfl | rfl | rfl | rfl | rfl | rfl | rfl | rfl | rfl | rfl | rfl | rfl | rfl | rfl | rfl | rfl | rfl | rfl | rfl | rfl | rfl | rfl | rfl | rfl | rfl | rfl | rfl | rfl | rfl | rfl <;> rfl) (Nat.le_of_ble_eq_true rfl) (Nat.le_of_ble_eq_true rfl) dL_law_8 (fun q1 H hP hD hS => ?_)
  refine W.widen (k := 35) (n := 9063) (Nat.le_of_ble_eq_true rfl) (Nat.le_of_ble_eq_true rfl) ?_
  refine lv_dup hx hb dL_law_11 rfl ?_
  have hPc : va_P D vwCl [(q1, .inr (8, [.int 0, .null, .null, .null, .int 0, .int 0, .null, .null, .int 0, .int 0, .null, .null, .int 0, .null, .null, .null, .null, .null, .int 0, .int 0, .int 0, .null, .int 0, .null, .int 0, .int 0, .null, .int 0, .null, .null, .null, .null, .null, .null]))] H := law_P2 hP
  have hDc : va_D (inW [(q1, .inr (8, [.int 0, .null, .null, .null, .int 0, .int 0, .null, .null, .int 0, .int 0, .null, .null, .int 0, .null, .null, .null, .null, .null, .int 0, .int 0, .int 0, .null, .int 0, .null, .int 0, .int 0, .null, .int 0, .null, .null, .null, .null, .null, .null]))]) [(q1, .inr (8, [.int 0, .null, .null, .null, .int 0, .int 0, .null, .null, .int 0, .int 0, .null, .null, .int 0, .null, .null, .null, .null, .null, .int 0, .int 0, .int 0, .null, .int 0, .null, .int 0, .int 0, .null, .int 0, .null, .null, .null, .null, .null, .null]))] := law_sub2 hD
  have hFc : ∀ q, va_A [(q1, .inr (8, [.int 0, .null, .null, .null, .int 0, .int 0, .null, .null, .int 0, .int 0, .null, .null, .int 0, .null, .null, .null, .null, .null, .int 0, .int 0, .int 0, .null, .int 0, .null, .int 0, .int 0, .null, .int 0, .null, .null, .null, .null, .null, .null]))] H.size q → s.heap.size ≤ q := va_free (wc := [(q1, .inr (8, [.int 0, .null, .null, .null, .int 0, .int 0, .null, .null, .int 0, .int 0, .null, .null, .int 0, .null, .null, .null, .null, .null, .int 0, .int 0, .int 0, .null, .int 0, .null, .int 0, .int 0, .null, .int 0, .null, .null, .null, .null, .null, .null]))]) hD hS hA [34] rfl
  refine va_callv (va_runI (As := []) (rest := [.ref q1]) ⟨hx, hb, hml, hown, htl⟩ (kt_X8_init l D cy q1 H.size) (cwI 0 htl gL_law_X8_init rfl rfl rfl (hss _ (List.mem_of_getElem? (i := 26) rfl)) (hss _ (List.mem_of_getElem? (i := 27) rfl)) (hss _ (List.mem_of_getElem? (i := 28) rfl)) rfl (by decide +kernel) ⟨Nat.le_of_ble_eq_true rfl, Nat.le_of_ble_eq_true rfl⟩) ⟨kPre_blind, fun U hU hW => ⟨rfl, by rw [hU], by rw [hU]; exact hPc, ⟨xK_warm hW hK, xN_warm hW hN⟩, hDc.weaken (fun _ _ _ _ => trivial)⟩⟩ rfl rfl hl.1 rfl (lv_room (Nat.le_of_ble_eq_true rfl)) dL_law_12 ⟨Nat.le_of_ble_eq_true rfl, Nat.le_of_ble_eq_true rfl⟩) hS (fun q _ h => hFc q h) hFc (fun adr t H1 locs ht hvm hw hB hz1 hk1 hS => ?_)
  obtain ⟨hq1, hP1, hD1⟩ := hB
  rw [ht] at hP1
  obtain ⟨hP2, hD2⟩ := law_join2 hD hP hFc hk1 hP1 hD1
  generalize H1 = H at hP2 hS ⊢
  refine law_mid3 h0 hst hL E hr hlocks hq1 hP2 hD2 hS hl
