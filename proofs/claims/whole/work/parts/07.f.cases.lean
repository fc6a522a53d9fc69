/-! ===== THE LAW: two worlds ===== -/
theorem lg_cmp_self (x : Int64) : lg_cmp x x = 0 := by
  unfold lg_cmp
  simp
def LWS (D : va_G) (cy adx adr : Nat → Nat) (H0 H : Heap) (locs : List Loc) (MX MR : Mem) : Prop := va_P D vwCl (wX adx cy MX ++ wR adr cy MR) H ∧ va_D (fun q => H0.size ≤ q) (wX adx cy MX ++ wR adr cy MR) ∧ va_S (fun q => H0.size ≤ q) H0 H locs
def LawE (p : Program) (s : State) (m : MethodId) (c : Code) (cy : Nat → Nat) (D : va_G) (b L : Nat) (xs : Nat → Int32) : Prop := p.tables.exec = Jvm.exec ∧ c.code = cL_law ∧ c.maxLocals = 4 ∧ s.vm.findClass RL = some m.cls ∧ (∀ w ∈ wsL_law, w.before #[Value.ref b] s = true) ∧ xK D cy s ∧ va_X b L xs s s.heap ∧ b < s.heap.size ∧ ¬ (s.heap.size ≤ b)
theorem fst_at {w w' : va_W} (h : w'.map (fun x => x.1) = w.map (fun x => x.1)) {k : Nat} {q : Nat × va_E} (hq : w'[k]? = some q) : ∃ e : va_E, w[k]? = some (q.1, e) := by
  have h1 : (w'.map (fun x => x.1))[k]? = some q.1 := by rw [List.getElem?_map, hq]; rfl
  rw [h, List.getElem?_map] at h1
  cases hw : w[k]? with
  | none => rw [hw] at h1; cases h1
  | some x =>
    rw [hw] at h1
    obtain ⟨x1, x2⟩ := x
    cases h1
    exact ⟨x2, rfl⟩
theorem va_D_fst {A : Nat → Prop} {w w' : va_W} (h : w'.map (fun x => x.1) = w.map (fun x => x.1)) (hD : va_D A w) : va_D A w' := by
  refine ⟨fun i j p q hp hq hpq => ?_, fun k q hq => ?_⟩
  · obtain ⟨e1, h1⟩ := fst_at h hp
    obtain ⟨e2, h2⟩ := fst_at h hq
    exact hD.1 i j _ _ h1 h2 hpq
  · obtain ⟨e1, h1⟩ := fst_at h hq
    exact hD.2 k (q.1, e1) h1
def inW (w : va_W) : Nat → Prop := fun q => q ∈ w.map (fun x => x.1)
theorem inW_at {w : va_W} {q : Nat} (h : inW w q) : ∃ (k : Nat) (e : va_E), w[k]? = some (q, e) := by
  obtain ⟨x, hx, rfl⟩ := List.mem_map.mp h
  obtain ⟨k, hk⟩ := List.getElem?_of_mem hx
  exact ⟨k, x.2, hk⟩
theorem at_inW {w : va_W} {k : Nat} {q : Nat × va_E} (h : w[k]? = some q) : inW w q.1 := List.mem_map.mpr ⟨q, List.mem_of_getElem? h, rfl⟩
theorem law_sub1 {A : Nat → Prop} {w1 w2 : va_W} (hD : va_D A (w1 ++ w2)) : va_D (inW w1) w1 := by
  refine ⟨fun i j p q hp hq hpq => hD.1 i j p q ?_ ?_ hpq, fun k q hq => at_inW hq⟩
  · rw [List.getElem?_append_left (List.getElem?_eq_some_iff.mp hp).1]; exact hp
  · rw [List.getElem?_append_left (List.getElem?_eq_some_iff.mp hq).1]; exact hq
theorem at2 {w1 w2 : va_W} {k : Nat} {q : Nat × va_E} (h : w2[k]? = some q) : (w1 ++ w2)[w1.length + k]? = some q := by
  rw [List.getElem?_append_right (by omega)]
  rw [show w1.length + k - w1.length = k by omega]
  exact h
theorem law_sub2 {A : Nat → Prop} {w1 w2 : va_W} (hD : va_D A (w1 ++ w2)) : va_D (inW w2) w2 := by
  refine ⟨fun i j p q hp hq hpq => ?_, fun k q hq => at_inW hq⟩
  have := hD.1 _ _ p q (at2 (w1 := w1) hp) (at2 (w1 := w1) hq) hpq
  omega
theorem law_P1 {D : va_G} {w1 w2 : va_W} {H : Heap} (h : va_P D vwCl (w1 ++ w2) H) : va_P D vwCl w1 H := fun k q hk => h k q (by rw [List.getElem?_append_left (List.getElem?_eq_some_iff.mp hk).1]; exact hk)
theorem law_P2 {D : va_G} {w1 w2 : va_W} {H : Heap} (h : va_P D vwCl (w1 ++ w2) H) : va_P D vwCl w2 H := fun k q hk => h _ q (at2 hk)
theorem law_apart {A : Nat → Prop} {w1 w2 : va_W} (hD : va_D A (w1 ++ w2)) {i j : Nat} {p q : Nat × va_E} (hp : w1[i]? = some p) (hq : w2[j]? = some q) : p.1 ≠ q.1 := by
  intro h
  have hi := (List.getElem?_eq_some_iff.mp hp).1
  have := hD.1 i _ p q (by rw [List.getElem?_append_left hi]; exact hp) (at2 (w1 := w1) hq) h
  omega
theorem law_back1 {A : Nat → Prop} {D : va_G} {w1 w2 w1' : va_W} {H H1 : Heap} (hD : va_D A (w1 ++ w2)) (hP : va_P D vwCl (w1 ++ w2) H) (h1 : va_P D vwCl w1' H1) (hf : w1'.map (fun x => x.1) = w1.map (fun x => x.1)) (hk : ∀ q : Nat, q < H.size → ¬ xA (inW w1) H.size q → H1[q]? = H[q]?) : va_P D vwCl (w1' ++ w2) H1 ∧ va_D A (w1' ++ w2) := by
  refine ⟨h1.app ((law_P2 hP).kept fun k q hq => ?_), va_D_fst (by rw [List.map_append, List.map_append, hf]) hD⟩
  have hlt := (law_P2 hP k q hq).lt
  refine hk q.1 hlt (fun h => ?_)
  rcases h with h | h
  · obtain ⟨j, e, hj⟩ := inW_at h
    exact law_apart hD hj hq rfl
  · omega
theorem law_back2 {A : Nat → Prop} {D : va_G} {w1 w2 w2' : va_W} {H H1 : Heap} (hD : va_D A (w1 ++ w2)) (hP : va_P D vwCl (w1 ++ w2) H) (h1 : va_P D vwCl w2' H1) (hf : w2'.map (fun x => x.1) = w2.map (fun x => x.1)) (hk : ∀ q : Nat, q < H.size → ¬ xA (inW w2) H.size q → H1[q]? = H[q]?) : va_P D vwCl (w1 ++ w2') H1 ∧ va_D A (w1 ++ w2') := by
  refine ⟨((law_P1 hP).kept fun k q hq => ?_).app h1, va_D_fst (by rw [List.map_append, List.map_append, hf]) hD⟩
  have hlt := (law_P1 hP k q hq).lt
  refine hk q.1 hlt (fun h => ?_)
  rcases h with h | h
  · obtain ⟨j, e, hj⟩ := inW_at h
    exact law_apart hD hq hj rfl
  · omega
theorem law_in {A : Nat → Prop} {w : va_W} (hD : va_D A w) {q : Nat} (h : inW w q) : A q := by
  obtain ⟨k, e, hk⟩ := inW_at h
  exact hD.2 k _ hk
theorem inW_app1 {w1 w2 : va_W} {q : Nat} (h : inW w1 q) : inW (w1 ++ w2) q := by unfold inW at h ⊢; rw [List.map_append]; exact List.mem_append_left _ h
theorem inW_app2 {w1 w2 : va_W} {q : Nat} (h : inW w2 q) : inW (w1 ++ w2) q := by unfold inW at h ⊢; rw [List.map_append]; exact List.mem_append_right _ h
section LAW
variable {p : Program} {l : Launch} {e : Env} {R : Jvm.Room} {s : State} {m : MethodId} {args : Array Value} {below : List Frame} {meth : Method} {c : Code} {H : Heap} {locs : List Loc} {cells slots : Nat} {Q : State → Prop}
variable {cc : ByteArray} {pc : Nat} {ls : Array Slot} {rest st0 : List Value} {D : va_G} {cy adx adr : Nat → Nat} {MX MR : Mem} {H0 : Heap}
variable {y : MethodName} {bytes : ByteArray} {maxL nL n index : Nat} {ret : Option FieldType} {ws Ts : List Cond} {rm : Jvm.Room} {own : String} {As : List Value}
theorem law_Xi {Q' : Int32 → Mem → Prop} (S0 : CallFix p m c cc nL s args Ts own) (hK : xK D cy s) (S : LWS D cy adx adr H0 H locs MX MR) (hM : CTi l D cy (wX adx cy) (inW (wX adx cy MX)) y ws rm (.ref (adx 0) :: As) MX Q') (cw : CallW R s args own RX7 index y bytes maxL ret ws rm 0 0 n) (hn : As.length = n) (hsize : ls.size = nL) (hst : st0 = As.reverse ++ .ref (adx 0) :: rest) (hrs : (rest.map fun v => v.category).sum ≤ 8) (hdg : decode cc pc = .ok (.invokevirtual index, 3)) (hf : cells ≤ R.cells ∧ slots ≤ R.slots)
    (kk : ∀ (r : Int32) (M1 : Mem) (H1 : Heap) (locs1 : List Loc), Q' r M1 → LWS D cy adx adr H0 H1 locs1 M1 MR → W p l e R s m args below meth c H1 locs1 cells slots Q (F0 m (pc + 3) ls (.int r :: rest))) : W p l e R s m args below meth c H locs cells slots Q (F0 m pc ls st0) := by
  have hfree : ∀ q, xA (inW (wX adx cy MX)) H.size q → H0.size ≤ q := fun q h => h.elim (fun h => law_in S.2.1 (inW_app1 h)) (fun h => Nat.le_trans S.2.2.1 h)
  refine va_calli (va_runV (As := As) (rest := rest) S0 (hM H.size) cw ⟨xPre_blind, va_recv (ws := wX adx cy MX) (q0 := 0) (ci := 7) (q := (RX7, TX7, 11)) hK.1 (law_P1 S.1) rfl rfl, fun U hU hW => ⟨rfl, by rw [hU], by rw [hU]; exact law_P1 S.1, xK_warm hW hK, law_sub1 S.2.1⟩⟩ rfl hn hsize hst (lv_room hrs) hdg hf) S.2.2 (fun q _ h => hfree q h) (fun q h => hfree q h) (fun r u t H1 locs1 ht hvm hw hB hz1 hk1 hS => ?_)
  rw [← ht] at hS hk1 ⊢
  obtain ⟨h1, h2⟩ := law_back1 S.2.1 S.1 hB.1 rfl hk1
  exact kk r u t.heap locs1 hw ⟨h1, h2, hS⟩
theorem law_Xl {Q' : Int64 → Mem → Prop} (S0 : CallFix p m c cc nL s args Ts own) (hK : xK D cy s) (S : LWS D cy adx adr H0 H locs MX MR) (hM : CTl l D cy (wX adx cy) (inW (wX adx cy MX)) y ws rm (.ref (adx 0) :: As) MX Q') (cw : CallW R s args own RX7 index y bytes maxL ret ws rm 0 0 n) (hn : As.length = n) (hsize : ls.size = nL) (hst : st0 = As.reverse ++ .ref (adx 0) :: rest) (hrs : (rest.map fun v => v.category).sum ≤ 8) (hdg : decode cc pc = .ok (.invokevirtual index, 3)) (hf : cells ≤ R.cells ∧ slots ≤ R.slots)
    (kk : ∀ (r : Int64) (M1 : Mem) (H1 : Heap) (locs1 : List Loc), Q' r M1 → LWS D cy adx adr H0 H1 locs1 M1 MR → W p l e R s m args below meth c H1 locs1 cells slots Q (F0 m (pc + 3) ls (.long r :: rest))) : W p l e R s m args below meth c H locs cells slots Q (F0 m pc ls st0) := by
  have hfree : ∀ q, xA (inW (wX adx cy MX)) H.size q → H0.size ≤ q := fun q h => h.elim (fun h => law_in S.2.1 (inW_app1 h)) (fun h => Nat.le_trans S.2.2.1 h)
  refine va_calll (va_runV (As := As) (rest := rest) S0 (hM H.size) cw ⟨xPre_blind, va_recv (ws := wX adx cy MX) (q0 := 0) (ci := 7) (q := (RX7, TX7, 11)) hK.1 (law_P1 S.1) rfl rfl, fun U hU hW => ⟨rfl, by rw [hU], by rw [hU]; exact law_P1 S.1, xK_warm hW hK, law_sub1 S.2.1⟩⟩ rfl hn hsize hst (lv_room hrs) hdg hf) S.2.2 (fun q _ h => hfree q h) (fun q h => hfree q h) (fun r u t H1 locs1 ht hvm hw hB hz1 hk1 hS => ?_)
  rw [← ht] at hS hk1 ⊢
  obtain ⟨h1, h2⟩ := law_back1 S.2.1 S.1 hB.1 rfl hk1
  exact kk r u t.heap locs1 hw ⟨h1, h2, hS⟩
theorem law_Ri {Q' : Int32 → Mem → Prop} (S0 : CallFix p m c cc nL s args Ts own) (hK : xK D cy s) (S : LWS D cy adx adr H0 H locs MX MR) (hM : CTi l D cy (wR adr cy) (inW (wR adr cy MR)) y ws rm (.ref (adr 0) :: As) MR Q') (cw : CallW R s args own RX8 index y bytes maxL ret ws rm 0 0 n) (hn : As.length = n) (hsize : ls.size = nL) (hst : st0 = As.reverse ++ .ref (adr 0) :: rest) (hrs : (rest.map fun v => v.category).sum ≤ 8) (hdg : decode cc pc = .ok (.invokevirtual index, 3)) (hf : cells ≤ R.cells ∧ slots ≤ R.slots)
    (kk : ∀ (r : Int32) (M1 : Mem) (H1 : Heap) (locs1 : List Loc), Q' r M1 → LWS D cy adx adr H0 H1 locs1 MX M1 → W p l e R s m args below meth c H1 locs1 cells slots Q (F0 m (pc + 3) ls (.int r :: rest))) : W p l e R s m args below meth c H locs cells slots Q (F0 m pc ls st0) := by
  have hfree : ∀ q, xA (inW (wR adr cy MR)) H.size q → H0.size ≤ q := fun q h => h.elim (fun h => law_in S.2.1 (inW_app2 h)) (fun h => Nat.le_trans S.2.2.1 h)
  refine va_calli (va_runV (As := As) (rest := rest) S0 (hM H.size) cw ⟨xPre_blind, va_recv (ws := wR adr cy MR) (q0 := 0) (ci := 8) (q := (RX8, TX8, 34)) hK.1 (law_P2 S.1) rfl rfl, fun U hU hW => ⟨rfl, by rw [hU], by rw [hU]; exact law_P2 S.1, xK_warm hW hK, law_sub2 S.2.1⟩⟩ rfl hn hsize hst (lv_room hrs) hdg hf) S.2.2 (fun q _ h => hfree q h) (fun q h => hfree q h) (fun r u t H1 locs1 ht hvm hw hB hz1 hk1 hS => ?_)
  rw [← ht] at hS hk1 ⊢
  obtain ⟨h1, h2⟩ := law_back2 S.2.1 S.1 hB.1 rfl hk1
  exact kk r u t.heap locs1 hw ⟨h1, h2, hS⟩
theorem law_Rl {Q' : Int64 → Mem → Prop} (S0 : CallFix p m c cc nL s args Ts own) (hK : xK D cy s) (S : LWS D cy adx adr H0 H locs MX MR) (hM : CTl l D cy (wR adr cy) (inW (wR adr cy MR)) y ws rm (.ref (adr 0) :: As) MR Q') (cw : CallW R s args own RX8 index y bytes maxL ret ws rm 0 0 n) (hn : As.length = n) (hsize : ls.size = nL) (hst : st0 = As.reverse ++ .ref (adr 0) :: rest) (hrs : (rest.map fun v => v.category).sum ≤ 8) (hdg : decode cc pc = .ok (.invokevirtual index, 3)) (hf : cells ≤ R.cells ∧ slots ≤ R.slots)
    (kk : ∀ (r : Int64) (M1 : Mem) (H1 : Heap) (locs1 : List Loc), Q' r M1 → LWS D cy adx adr H0 H1 locs1 MX M1 → W p l e R s m args below meth c H1 locs1 cells slots Q (F0 m (pc + 3) ls (.long r :: rest))) : W p l e R s m args below meth c H locs cells slots Q (F0 m pc ls st0) := by
  have hfree : ∀ q, xA (inW (wR adr cy MR)) H.size q → H0.size ≤ q := fun q h => h.elim (fun h => law_in S.2.1 (inW_app2 h)) (fun h => Nat.le_trans S.2.2.1 h)
  refine va_calll (va_runV (As := As) (rest := rest) S0 (hM H.size) cw ⟨xPre_blind, va_recv (ws := wR adr cy MR) (q0 := 0) (ci := 8) (q := (RX8, TX8, 34)) hK.1 (law_P2 S.1) rfl rfl, fun U hU hW => ⟨rfl, by rw [hU], by rw [hU]; exact law_P2 S.1, xK_warm hW hK, law_sub2 S.2.1⟩⟩ rfl hn hsize hst (lv_room hrs) hdg hf) S.2.2 (fun q _ h => hfree q h) (fun q h => hfree q h) (fun r u t H1 locs1 ht hvm hw hB hz1 hk1 hS => ?_)
  rw [← ht] at hS hk1 ⊢
  obtain ⟨h1, h2⟩ := law_back2 S.2.1 S.1 hB.1 rfl hk1
  exact kk r u t.heap locs1 hw ⟨h1, h2, hS⟩
end LAW

set_option maxHeartbeats 4000000 in
set_option maxRecDepth 100000 in
theorem law_case_0 {p : Program} {l : Launch} {e : Env} {s : State} {m : MethodId} {below : List Frame} {meth : Method} {c : Code} {b L : Nat} {xs : Nat → Int32} {D : va_G} {cy adx adr : Nat → Nat} {Rel : Mem → Mem → Prop} (hst : ∀ MX MR : Mem, Rel MX MR → ∀ (a0 : Int32) (a1 : Int32) (a2 : Int32), wp_X7_sheet a0 a1 a2 MX (fun r M1 => wp_X8_sheet a0 a1 a2 MR (fun r2 M2 => r = r2 ∧ Rel M1 M2))) (hL : L ≤ 2560) (E : LawE p s m c cy D b L xs) {i : Nat} (hi : i + 5 ≤ L) {MX MR : Mem} (hR : Rel MX MR) {H : Heap} {locs : List Loc} (S : LWS D cy adx adr s.heap H locs MX MR) {ls : Array Slot} (hl : lv_has ls 4 [(0, .ref b), (1, .ref (adx 0)), (2, .ref (adr 0)), (3, .int (nI i))])
    (kk : ∀ (H : Heap) (locs : List Loc) (ls : Array Slot) (MX MR : Mem), Rel MX MR → LWS D cy adx adr s.heap H locs MX MR → lv_has ls 4 [(0, .ref b), (1, .ref (adx 0)), (2, .ref (adr 0)), (3, .int (nI i))] → W p l e room_1 s m #[Value.ref b] below meth c H locs 56 17578 (lw_Z below #[Value.ref b] s) (F0 m 1128 ls [])) : W p l e room_1 s m #[Value.ref b] below meth c H locs 56 17578 (lw_Z below #[Value.ref b] s) (F0 m 188 ls []) := by
  obtain ⟨hx, hb, hml, hown, hts, hK, hX, hbl, hbA⟩ := E
  refine lv_aload_n hx hb dL_law_188 rfl (lv_at hl 1 rfl) ?_
  refine lv_aload_n hx hb dL_law_189 rfl (lv_at hl 0 rfl) ?_
  refine lv_iload_n hx hb dL_law_190 rfl (lv_at hl 3 rfl) ?_
  refine lv_iconst (v := 1) hx hb dL_law_191 (by decide) ?_
  refine lv_iadd hx hb dL_law_192 ?_
  rw [show nI i + 1 = nI (i + 1) from nI_add i 1]
  refine va_sld hx hb hX hbl hbA S.2.2 (vp_in_nI (n := i + 1) (by omega) (by omega)) dL_law_193 ?_
  rw [nI_clamp (n := i + 1) (by omega)]
  refine lv_aload_n hx hb dL_law_194 rfl (lv_at hl 0 rfl) ?_
  refine lv_iload_n hx hb dL_law_195 rfl (lv_at hl 3 rfl) ?_
  refine lv_iconst (v := 2) hx hb dL_law_196 (by decide) ?_
  refine lv_iadd hx hb dL_law_197 ?_
  rw [show nI i + 2 = nI (i + 2) from nI_add i 2]
  refine va_sld hx hb hX hbl hbA S.2.2 (vp_in_nI (n := i + 2) (by omega) (by omega)) dL_law_198 ?_
  rw [nI_clamp (n := i + 2) (by omega)]
  refine lv_aload_n hx hb dL_law_199 rfl (lv_at hl 0 rfl) ?_
  refine lv_iload_n hx hb dL_law_200 rfl (lv_at hl 3 rfl) ?_
  refine lv_iconst (v := 3) hx hb dL_law_201 (by decide) ?_
  refine lv_iadd hx hb dL_law_202 ?_
  rw [show nI i + 3 = nI (i + 3) from nI_add i 3]
  refine va_sld hx hb hX hbl hbA S.2.2 (vp_in_nI (n := i + 3) (by omega) (by omega)) dL_law_203 ?_
  rw [nI_clamp (n := i + 3) (by omega)]
  refine law_Xi (As := [.int (xs (i + 1)), .int (xs (i + 2)), .int (xs (i + 3))]) ⟨hx, hb, hml, hown, hts⟩ hK S (ct_X7_sheet l D cy adx _ _ _ _ _ _ (hst _ _ hR (xs (i + 1)) (xs (i + 2)) (xs (i + 3)))) (cwV 3 hts gL_law_X7_sheet rfl rfl rfl (by decide +kernel) ⟨Nat.le_of_ble_eq_true rfl, Nat.le_of_ble_eq_true rfl⟩) rfl hl.1 rfl (Nat.le_of_ble_eq_true rfl) dL_law_204 ⟨Nat.le_of_ble_eq_true rfl, Nat.le_of_ble_eq_true rfl⟩ (fun rX M1 H locs h S => ?_)
  refine lv_aload_n hx hb dL_law_207 rfl (lv_at hl 2 rfl) ?_
  refine lv_aload_n hx hb dL_law_208 rfl (lv_at hl 0 rfl) ?_
  refine lv_iload_n hx hb dL_law_209 rfl (lv_at hl 3 rfl) ?_
  refine lv_iconst (v := 1) hx hb dL_law_210 (by decide) ?_
  refine lv_iadd hx hb dL_law_211 ?_
  rw [show nI i + 1 = nI (i + 1) from nI_add i 1]
  refine va_sld hx hb hX hbl hbA S.2.2 (vp_in_nI (n := i + 1) (by omega) (by omega)) dL_law_212 ?_
  rw [nI_clamp (n := i + 1) (by omega)]
  refine lv_aload_n hx hb dL_law_213 rfl (lv_at hl 0 rfl) ?_
  refine lv_iload_n hx hb dL_law_214 rfl (lv_at hl 3 rfl) ?_
  refine lv_iconst (v := 2) hx hb dL_law_215 (by decide) ?_
  refine lv_iadd hx hb dL_law_216 ?_
  rw [show nI i + 2 = nI (i + 2) from nI_add i 2]
  refine va_sld hx hb hX hbl hbA S.2.2 (vp_in_nI (n := i + 2) (by omega) (by omega)) dL_law_217 ?_
  rw [nI_clamp (n := i + 2) (by omega)]
  refine lv_aload_n hx hb dL_law_218 rfl (lv_at hl 0 rfl) ?_
  refine lv_iload_n hx hb dL_law_219 rfl (lv_at hl 3 rfl) ?_
  refine lv_iconst (v := 3) hx hb dL_law_220 (by decide) ?_
  refine lv_iadd hx hb dL_law_221 ?_
  rw [show nI i + 3 = nI (i + 3) from nI_add i 3]
  refine va_sld hx hb hX hbl hbA S.2.2 (vp_in_nI (n := i + 3) (by omega) (by omega)) dL_law_222 ?_
  rw [nI_clamp (n := i + 3) (by omega)]
  refine law_Ri (As := [.int (xs (i + 1)), .int (xs (i + 2)), .int (xs (i + 3))]) ⟨hx, hb, hml, hown, hts⟩ hK S (ct_X8_sheet l D cy adr _ _ _ _ _ _ h) (cwV 3 hts gL_law_X8_sheet rfl rfl rfl (by decide +kernel) ⟨Nat.le_of_ble_eq_true rfl, Nat.le_of_ble_eq_true rfl⟩) rfl hl.1 rfl (Nat.le_of_ble_eq_true rfl) dL_law_223 ⟨Nat.le_of_ble_eq_true rfl, Nat.le_of_ble_eq_true rfl⟩ (fun rR M2 H locs h S => ?_)
  refine lv_icmp_eq (tgt := 1128) hx hb dL_law_226 (by decide) (fun _ => ?_) (fun c2 => absurd h.1 c2)
  exact kk _ _ ls _ _ h.2 S hl
set_option maxHeartbeats 4000000 in
set_option maxRecDepth 100000 in
theorem law_case_1 {p : Program} {l : Launch} {e : Env} {s : State} {m : MethodId} {below : List Frame} {meth : Method} {c : Code} {b L : Nat} {xs : Nat → Int32} {D : va_G} {cy adx adr : Nat → Nat} {Rel : Mem → Mem → Prop} (hst : ∀ MX MR : Mem, Rel MX MR → ∀ (a0 : Int32), wp_X7_tear a0 MX (fun r M1 => wp_X8_tear a0 MR (fun r2 M2 => r = r2 ∧ Rel M1 M2))) (hL : L ≤ 2560) (E : LawE p s m c cy D b L xs) {i : Nat} (hi : i + 5 ≤ L) {MX MR : Mem} (hR : Rel MX MR) {H : Heap} {locs : List Loc} (S : LWS D cy adx adr s.heap H locs MX MR) {ls : Array Slot} (hl : lv_has ls 4 [(0, .ref b), (1, .ref (adx 0)), (2, .ref (adr 0)), (3, .int (nI i))])
    (kk : ∀ (H : Heap) (locs : List Loc) (ls : Array Slot) (MX MR : Mem), Rel MX MR → LWS D cy adx adr s.heap H locs MX MR → lv_has ls 4 [(0, .ref b), (1, .ref (adx 0)), (2, .ref (adr 0)), (3, .int (nI i))] → W p l e room_1 s m #[Value.ref b] below meth c H locs 56 17578 (lw_Z below #[Value.ref b] s) (F0 m 1128 ls [])) : W p l e room_1 s m #[Value.ref b] below meth c H locs 56 17578 (lw_Z below #[Value.ref b] s) (F0 m 231 ls []) := by
  obtain ⟨hx, hb, hml, hown, hts, hK, hX, hbl, hbA⟩ := E
  refine lv_aload_n hx hb dL_law_231 rfl (lv_at hl 1 rfl) ?_
  refine lv_aload_n hx hb dL_law_232 rfl (lv_at hl 0 rfl) ?_
  refine lv_iload_n hx hb dL_law_233 rfl (lv_at hl 3 rfl) ?_
  refine lv_iconst (v := 1) hx hb dL_law_234 (by decide) ?_
  refine lv_iadd hx hb dL_law_235 ?_
  rw [show nI i + 1 = nI (i + 1) from nI_add i 1]
  refine va_sld hx hb hX hbl hbA S.2.2 (vp_in_nI (n := i + 1) (by omega) (by omega)) dL_law_236 ?_
  rw [nI_clamp (n := i + 1) (by omega)]
  refine law_Xi (As := [.int (xs (i + 1))]) ⟨hx, hb, hml, hown, hts⟩ hK S (ct_X7_tear l D cy adx _ _ _ _ (hst _ _ hR (xs (i + 1)))) (cwV 1 hts gL_law_X7_tear rfl rfl rfl (by decide +kernel) ⟨Nat.le_of_ble_eq_true rfl, Nat.le_of_ble_eq_true rfl⟩) rfl hl.1 rfl (Nat.le_of_ble_eq_true rfl) dL_law_237 ⟨Nat.le_of_ble_eq_true rfl, Nat.le_of_ble_eq_true rfl⟩ (fun rX M1 H locs h S => ?_)
  refine lv_aload_n hx hb dL_law_240 rfl (lv_at hl 2 rfl) ?_
  refine lv_aload_n hx hb dL_law_241 rfl (lv_at hl 0 rfl) ?_
  refine lv_iload_n hx hb dL_law_242 rfl (lv_at hl 3 rfl) ?_
  refine lv_iconst (v := 1) hx hb dL_law_243 (by decide) ?_
  refine lv_iadd hx hb dL_law_244 ?_
  rw [show nI i + 1 = nI (i + 1) from nI_add i 1]
  refine va_sld hx hb hX hbl hbA S.2.2 (vp_in_nI (n := i + 1) (by omega) (by omega)) dL_law_245 ?_
  rw [nI_clamp (n := i + 1) (by omega)]
  refine law_Ri (As := [.int (xs (i + 1))]) ⟨hx, hb, hml, hown, hts⟩ hK S (ct_X8_tear l D cy adr _ _ _ _ h) (cwV 1 hts gL_law_X8_tear rfl rfl rfl (by decide +kernel) ⟨Nat.le_of_ble_eq_true rfl, Nat.le_of_ble_eq_true rfl⟩) rfl hl.1 rfl (Nat.le_of_ble_eq_true rfl) dL_law_246 ⟨Nat.le_of_ble_eq_true rfl, Nat.le_of_ble_eq_true rfl⟩ (fun rR M2 H locs h S => ?_)
  refine lv_icmp_eq (tgt := 1128) hx hb dL_law_249 (by decide) (fun _ => ?_) (fun c2 => absurd h.1 c2)
  exact kk _ _ ls _ _ h.2 S hl
set_option maxHeartbeats 4000000 in
set_option maxRecDepth 100000 in
theorem law_case_2 {p : Program} {l : Launch} {e : Env} {s : State} {m : MethodId} {below : List Frame} {meth : Method} {c : Code} {b L : Nat} {xs : Nat → Int32} {D : va_G} {cy adx adr : Nat → Nat} {Rel : Mem → Mem → Prop} (hst : ∀ MX MR : Mem, Rel MX MR → ∀ (a0 : Int32) (a1 : Int32) (a2 : Int64), wp_X7_put a0 a1 a2 MX (fun r M1 => wp_X8_put a0 a1 a2 MR (fun r2 M2 => r = r2 ∧ Rel M1 M2))) (hL : L ≤ 2560) (E : LawE p s m c cy D b L xs) {i : Nat} (hi : i + 5 ≤ L) {MX MR : Mem} (hR : Rel MX MR) {H : Heap} {locs : List Loc} (S : LWS D cy adx adr s.heap H locs MX MR) {ls : Array Slot} (hl : lv_has ls 4 [(0, .ref b), (1, .ref (adx 0)), (2, .ref (adr 0)), (3, .int (nI i))])
    (kk : ∀ (H : Heap) (locs : List Loc) (ls : Array Slot) (MX MR : Mem), Rel MX MR → LWS D cy adx adr s.heap H locs MX MR → lv_has ls 4 [(0, .ref b), (1, .ref (adx 0)), (2, .ref (adr 0)), (3, .int (nI i))] → W p l e room_1 s m #[Value.ref b] below meth c H locs 56 17578 (lw_Z below #[Value.ref b] s) (F0 m 1128 ls [])) : W p l e room_1 s m #[Value.ref b] below meth c H locs 56 17578 (lw_Z below #[Value.ref b] s) (F0 m 254 ls []) := by
  obtain ⟨hx, hb, hml, hown, hts, hK, hX, hbl, hbA⟩ := E
  refine lv_aload_n hx hb dL_law_254 rfl (lv_at hl 1 rfl) ?_
  refine lv_aload_n hx hb dL_law_255 rfl (lv_at hl 0 rfl) ?_
  refine lv_iload_n hx hb dL_law_256 rfl (lv_at hl 3 rfl) ?_
  refine lv_iconst (v := 1) hx hb dL_law_257 (by decide) ?_
  refine lv_iadd hx hb dL_law_258 ?_
  rw [show nI i + 1 = nI (i + 1) from nI_add i 1]
  refine va_sld hx hb hX hbl hbA S.2.2 (vp_in_nI (n := i + 1) (by omega) (by omega)) dL_law_259 ?_
  rw [nI_clamp (n := i + 1) (by omega)]
  refine lv_aload_n hx hb dL_law_260 rfl (lv_at hl 0 rfl) ?_
  refine lv_iload_n hx hb dL_law_261 rfl (lv_at hl 3 rfl) ?_
  refine lv_iconst (v := 2) hx hb dL_law_262 (by decide) ?_
  refine lv_iadd hx hb dL_law_263 ?_
  rw [show nI i + 2 = nI (i + 2) from nI_add i 2]
  refine va_sld hx hb hX hbl hbA S.2.2 (vp_in_nI (n := i + 2) (by omega) (by omega)) dL_law_264 ?_
  rw [nI_clamp (n := i + 2) (by omega)]
  refine lv_aload_n hx hb dL_law_265 rfl (lv_at hl 0 rfl) ?_
  refine lv_iload_n hx hb dL_law_266 rfl (lv_at hl 3 rfl) ?_
  refine lv_iconst (v := 3) hx hb dL_law_267 (by decide) ?_
  refine lv_iadd hx hb dL_law_268 ?_
  rw [show nI i + 3 = nI (i + 3) from nI_add i 3]
  refine va_sld hx hb hX hbl hbA S.2.2 (vp_in_nI (n := i + 3) (by omega) (by omega)) dL_law_269 ?_
  rw [nI_clamp (n := i + 3) (by omega)]
  refine lv_i2l hx hb dL_law_270 rfl ?_
  refine lv_bipush (v := 32) hx hb dL_law_271 (by decide) ?_
  refine lv_lshl hx hb dL_law_273 rfl ?_
  refine lv_aload_n hx hb dL_law_274 rfl (lv_at hl 0 rfl) ?_
  refine lv_iload_n hx hb dL_law_275 rfl (lv_at hl 3 rfl) ?_
  refine lv_iconst (v := 4) hx hb dL_law_276 (by decide) ?_
  refine lv_iadd hx hb dL_law_277 ?_
  rw [show nI i + 4 = nI (i + 4) from nI_add i 4]
  refine va_sld hx hb hX hbl hbA S.2.2 (vp_in_nI (n := i + 4) (by omega) (by omega)) dL_law_278 ?_
  rw [nI_clamp (n := i + 4) (by omega)]
  refine lv_i2l hx hb dL_law_279 rfl ?_
  refine lv_ldc2 (v := 4294967295) hx hb hown (hts _ (List.mem_of_getElem? (i := 6) rfl)) dL_law_280 ?_
  refine lv_land hx hb dL_law_283 ?_
  refine lv_lor hx hb dL_law_284 ?_
  refine law_Xi (As := [.int (xs (i + 1)), .int (xs (i + 2)), .long (((xs (i + 3)).toInt64 <<< ((32 : Int32).toInt64 &&& 63)) ||| ((xs (i + 4)).toInt64 &&& (4294967295 : Int64)))]) ⟨hx, hb, hml, hown, hts⟩ hK S (ct_X7_put l D cy adx _ _ _ _ _ _ (hst _ _ hR (xs (i + 1)) (xs (i + 2)) (((xs (i + 3)).toInt64 <<< ((32 : Int32).toInt64 &&& 63)) ||| ((xs (i + 4)).toInt64 &&& (4294967295 : Int64))))) (cwV 3 hts gL_law_X7_put rfl rfl rfl (by decide +kernel) ⟨Nat.le_of_ble_eq_true rfl, Nat.le_of_ble_eq_true rfl⟩) rfl hl.1 rfl (Nat.le_of_ble_eq_true rfl) dL_law_285 ⟨Nat.le_of_ble_eq_true rfl, Nat.le_of_ble_eq_true rfl⟩ (fun rX M1 H locs h S => ?_)
  refine lv_aload_n hx hb dL_law_288 rfl (lv_at hl 2 rfl) ?_
  refine lv_aload_n hx hb dL_law_289 rfl (lv_at hl 0 rfl) ?_
  refine lv_iload_n hx hb dL_law_290 rfl (lv_at hl 3 rfl) ?_
  refine lv_iconst (v := 1) hx hb dL_law_291 (by decide) ?_
  refine lv_iadd hx hb dL_law_292 ?_
  rw [show nI i + 1 = nI (i + 1) from nI_add i 1]
  refine va_sld hx hb hX hbl hbA S.2.2 (vp_in_nI (n := i + 1) (by omega) (by omega)) dL_law_293 ?_
  rw [nI_clamp (n := i + 1) (by omega)]
  refine lv_aload_n hx hb dL_law_294 rfl (lv_at hl 0 rfl) ?_
  refine lv_iload_n hx hb dL_law_295 rfl (lv_at hl 3 rfl) ?_
  refine lv_iconst (v := 2) hx hb dL_law_296 (by decide) ?_
  refine lv_iadd hx hb dL_law_297 ?_
  rw [show nI i + 2 = nI (i + 2) from nI_add i 2]
  refine va_sld hx hb hX hbl hbA S.2.2 (vp_in_nI (n := i + 2) (by omega) (by omega)) dL_law_298 ?_
  rw [nI_clamp (n := i + 2) (by omega)]
  refine lv_aload_n hx hb dL_law_299 rfl (lv_at hl 0 rfl) ?_
  refine lv_iload_n hx hb dL_law_300 rfl (lv_at hl 3 rfl) ?_
  refine lv_iconst (v := 3) hx hb dL_law_301 (by decide) ?_
  refine lv_iadd hx hb dL_law_302 ?_
  rw [show nI i + 3 = nI (i + 3) from nI_add i 3]
  refine va_sld hx hb hX hbl hbA S.2.2 (vp_in_nI (n := i + 3) (by omega) (by omega)) dL_law_303 ?_
  rw [nI_clamp (n := i + 3) (by omega)]
  refine lv_i2l hx hb dL_law_304 rfl ?_
  refine lv_bipush (v := 32) hx hb dL_law_305 (by decide) ?_
  refine lv_lshl hx hb dL_law_307 rfl ?_
  refine lv_aload_n hx hb dL_law_308 rfl (lv_at hl 0 rfl) ?_
  refine lv_iload_n hx hb dL_law_309 rfl (lv_at hl 3 rfl) ?_
  refine lv_iconst (v := 4) hx hb dL_law_310 (by decide) ?_
  refine lv_iadd hx hb dL_law_311 ?_
  rw [show nI i + 4 = nI (i + 4) from nI_add i 4]
  refine va_sld hx hb hX hbl hbA S.2.2 (vp_in_nI (n := i + 4) (by omega) (by omega)) dL_law_312 ?_
  rw [nI_clamp (n := i + 4) (by omega)]
  refine lv_i2l hx hb dL_law_313 rfl ?_
  refine lv_ldc2 (v := 4294967295) hx hb hown (hts _ (List.mem_of_getElem? (i := 6) rfl)) dL_law_314 ?_
  refine lv_land hx hb dL_law_317 ?_
  refine lv_lor hx hb dL_law_318 ?_
  refine law_Ri (As := [.int (xs (i + 1)), .int (xs (i + 2)), .long (((xs (i + 3)).toInt64 <<< ((32 : Int32).toInt64 &&& 63)) ||| ((xs (i + 4)).toInt64 &&& (4294967295 : Int64)))]) ⟨hx, hb, hml, hown, hts⟩ hK S (ct_X8_put l D cy adr _ _ _ _ _ _ h) (cwV 3 hts gL_law_X8_put rfl rfl rfl (by decide +kernel) ⟨Nat.le_of_ble_eq_true rfl, Nat.le_of_ble_eq_true rfl⟩) rfl hl.1 rfl (Nat.le_of_ble_eq_true rfl) dL_law_319 ⟨Nat.le_of_ble_eq_true rfl, Nat.le_of_ble_eq_true rfl⟩ (fun rR M2 H locs h S => ?_)
  refine lv_icmp_eq (tgt := 1128) hx hb dL_law_322 (by decide) (fun _ => ?_) (fun c2 => absurd h.1 c2)
  exact kk _ _ ls _ _ h.2 S hl
set_option maxHeartbeats 4000000 in
set_option maxRecDepth 100000 in
theorem law_case_3 {p : Program} {l : Launch} {e : Env} {s : State} {m : MethodId} {below : List Frame} {meth : Method} {c : Code} {b L : Nat} {xs : Nat → Int32} {D : va_G} {cy adx adr : Nat → Nat} {Rel : Mem → Mem → Prop} (hst : ∀ MX MR : Mem, Rel MX MR → ∀ (a0 : Int32) (a1 : Int32) (a2 : Int32), wp_X7_at a0 a1 a2 MX (fun r M1 => wp_X8_at a0 a1 a2 MR (fun r2 M2 => r = r2 ∧ Rel M1 M2))) (hL : L ≤ 2560) (E : LawE p s m c cy D b L xs) {i : Nat} (hi : i + 5 ≤ L) {MX MR : Mem} (hR : Rel MX MR) {H : Heap} {locs : List Loc} (S : LWS D cy adx adr s.heap H locs MX MR) {ls : Array Slot} (hl : lv_has ls 4 [(0, .ref b), (1, .ref (adx 0)), (2, .ref (adr 0)), (3, .int (nI i))])
    (kk : ∀ (H : Heap) (locs : List Loc) (ls : Array Slot) (MX MR : Mem), Rel MX MR → LWS D cy adx adr s.heap H locs MX MR → lv_has ls 4 [(0, .ref b), (1, .ref (adx 0)), (2, .ref (adr 0)), (3, .int (nI i))] → W p l e room_1 s m #[Value.ref b] below meth c H locs 56 17578 (lw_Z below #[Value.ref b] s) (F0 m 1128 ls [])) : W p l e room_1 s m #[Value.ref b] below meth c H locs 56 17578 (lw_Z below #[Value.ref b] s) (F0 m 327 ls []) := by
  obtain ⟨hx, hb, hml, hown, hts, hK, hX, hbl, hbA⟩ := E
  refine lv_aload_n hx hb dL_law_327 rfl (lv_at hl 1 rfl) ?_
  refine lv_aload_n hx hb dL_law_328 rfl (lv_at hl 0 rfl) ?_
  refine lv_iload_n hx hb dL_law_329 rfl (lv_at hl 3 rfl) ?_
  refine lv_iconst (v := 1) hx hb dL_law_330 (by decide) ?_
  refine lv_iadd hx hb dL_law_331 ?_
  rw [show nI i + 1 = nI (i + 1) from nI_add i 1]
  refine va_sld hx hb hX hbl hbA S.2.2 (vp_in_nI (n := i + 1) (by omega) (by omega)) dL_law_332 ?_
  rw [nI_clamp (n := i + 1) (by omega)]
  refine lv_aload_n hx hb dL_law_333 rfl (lv_at hl 0 rfl) ?_
  refine lv_iload_n hx hb dL_law_334 rfl (lv_at hl 3 rfl) ?_
  refine lv_iconst (v := 2) hx hb dL_law_335 (by decide) ?_
  refine lv_iadd hx hb dL_law_336 ?_
  rw [show nI i + 2 = nI (i + 2) from nI_add i 2]
  refine va_sld hx hb hX hbl hbA S.2.2 (vp_in_nI (n := i + 2) (by omega) (by omega)) dL_law_337 ?_
  rw [nI_clamp (n := i + 2) (by omega)]
  refine lv_aload_n hx hb dL_law_338 rfl (lv_at hl 0 rfl) ?_
  refine lv_iload_n hx hb dL_law_339 rfl (lv_at hl 3 rfl) ?_
  refine lv_iconst (v := 3) hx hb dL_law_340 (by decide) ?_
  refine lv_iadd hx hb dL_law_341 ?_
  rw [show nI i + 3 = nI (i + 3) from nI_add i 3]
  refine va_sld hx hb hX hbl hbA S.2.2 (vp_in_nI (n := i + 3) (by omega) (by omega)) dL_law_342 ?_
  rw [nI_clamp (n := i + 3) (by omega)]
  refine law_Xl (As := [.int (xs (i + 1)), .int (xs (i + 2)), .int (xs (i + 3))]) ⟨hx, hb, hml, hown, hts⟩ hK S (ct_X7_at l D cy adx _ _ _ _ _ _ (hst _ _ hR (xs (i + 1)) (xs (i + 2)) (xs (i + 3)))) (cwV 3 hts gL_law_X7_at rfl rfl rfl (by decide +kernel) ⟨Nat.le_of_ble_eq_true rfl, Nat.le_of_ble_eq_true rfl⟩) rfl hl.1 rfl (Nat.le_of_ble_eq_true rfl) dL_law_343 ⟨Nat.le_of_ble_eq_true rfl, Nat.le_of_ble_eq_true rfl⟩ (fun rX M1 H locs h S => ?_)
  refine lv_aload_n hx hb dL_law_346 rfl (lv_at hl 2 rfl) ?_
  refine lv_aload_n hx hb dL_law_347 rfl (lv_at hl 0 rfl) ?_
  refine lv_iload_n hx hb dL_law_348 rfl (lv_at hl 3 rfl) ?_
  refine lv_iconst (v := 1) hx hb dL_law_349 (by decide) ?_
  refine lv_iadd hx hb dL_law_350 ?_
  rw [show nI i + 1 = nI (i + 1) from nI_add i 1]
  refine va_sld hx hb hX hbl hbA S.2.2 (vp_in_nI (n := i + 1) (by omega) (by omega)) dL_law_351 ?_
  rw [nI_clamp (n := i + 1) (by omega)]
  refine lv_aload_n hx hb dL_law_352 rfl (lv_at hl 0 rfl) ?_
  refine lv_iload_n hx hb dL_law_353 rfl (lv_at hl 3 rfl) ?_
  refine lv_iconst (v := 2) hx hb dL_law_354 (by decide) ?_
  refine lv_iadd hx hb dL_law_355 ?_
  rw [show nI i + 2 = nI (i + 2) from nI_add i 2]
  refine va_sld hx hb hX hbl hbA S.2.2 (vp_in_nI (n := i + 2) (by omega) (by omega)) dL_law_356 ?_
  rw [nI_clamp (n := i + 2) (by omega)]
  refine lv_aload_n hx hb dL_law_357 rfl (lv_at hl 0 rfl) ?_
  refine lv_iload_n hx hb dL_law_358 rfl (lv_at hl 3 rfl) ?_
  refine lv_iconst (v := 3) hx hb dL_law_359 (by decide) ?_
  refine lv_iadd hx hb dL_law_360 ?_
  rw [show nI i + 3 = nI (i + 3) from nI_add i 3]
  refine va_sld hx hb hX hbl hbA S.2.2 (vp_in_nI (n := i + 3) (by omega) (by omega)) dL_law_361 ?_
  rw [nI_clamp (n := i + 3) (by omega)]
  refine law_Rl (As := [.int (xs (i + 1)), .int (xs (i + 2)), .int (xs (i + 3))]) ⟨hx, hb, hml, hown, hts⟩ hK S (ct_X8_at l D cy adr _ _ _ _ _ _ h) (cwV 3 hts gL_law_X8_at rfl rfl rfl (by decide +kernel) ⟨Nat.le_of_ble_eq_true rfl, Nat.le_of_ble_eq_true rfl⟩) rfl hl.1 rfl (Nat.le_of_ble_eq_true rfl) dL_law_362 ⟨Nat.le_of_ble_eq_true rfl, Nat.le_of_ble_eq_true rfl⟩ (fun rR M2 H locs h S => ?_)
  refine W.lcmp hx hb dL_law_365 ?_
  refine lv_if_eq (tgt := 1128) hx hb dL_law_366 (by decide) (fun c => ?_) (fun c => absurd (by rw [h.1]; exact lg_cmp_self _) c)
  exact kk _ _ ls _ _ h.2 S hl
set_option maxHeartbeats 4000000 in
set_option maxRecDepth 100000 in
theorem law_case_4 {p : Program} {l : Launch} {e : Env} {s : State} {m : MethodId} {below : List Frame} {meth : Method} {c : Code} {b L : Nat} {xs : Nat → Int32} {D : va_G} {cy adx adr : Nat → Nat} {Rel : Mem → Mem → Prop} (hst : ∀ MX MR : Mem, Rel MX MR → ∀ (a0 : Int32) (a1 : Int32), wp_X7_post a0 a1 MX (fun r M1 => wp_X8_post a0 a1 MR (fun r2 M2 => r = r2 ∧ Rel M1 M2))) (hL : L ≤ 2560) (E : LawE p s m c cy D b L xs) {i : Nat} (hi : i + 5 ≤ L) {MX MR : Mem} (hR : Rel MX MR) {H : Heap} {locs : List Loc} (S : LWS D cy adx adr s.heap H locs MX MR) {ls : Array Slot} (hl : lv_has ls 4 [(0, .ref b), (1, .ref (adx 0)), (2, .ref (adr 0)), (3, .int (nI i))])
    (kk : ∀ (H : Heap) (locs : List Loc) (ls : Array Slot) (MX MR : Mem), Rel MX MR → LWS D cy adx adr s.heap H locs MX MR → lv_has ls 4 [(0, .ref b), (1, .ref (adx 0)), (2, .ref (adr 0)), (3, .int (nI i))] → W p l e room_1 s m #[Value.ref b] below meth c H locs 56 17578 (lw_Z below #[Value.ref b] s) (F0 m 1128 ls [])) : W p l e room_1 s m #[Value.ref b] below meth c H locs 56 17578 (lw_Z below #[Value.ref b] s) (F0 m 371 ls []) := by
  obtain ⟨hx, hb, hml, hown, hts, hK, hX, hbl, hbA⟩ := E
  refine lv_aload_n hx hb dL_law_371 rfl (lv_at hl 1 rfl) ?_
  refine lv_aload_n hx hb dL_law_372 rfl (lv_at hl 0 rfl) ?_
  refine lv_iload_n hx hb dL_law_373 rfl (lv_at hl 3 rfl) ?_
  refine lv_iconst (v := 1) hx hb dL_law_374 (by decide) ?_
  refine lv_iadd hx hb dL_law_375 ?_
  rw [show nI i + 1 = nI (i + 1) from nI_add i 1]
  refine va_sld hx hb hX hbl hbA S.2.2 (vp_in_nI (n := i + 1) (by omega) (by omega)) dL_law_376 ?_
  rw [nI_clamp (n := i + 1) (by omega)]
  refine lv_aload_n hx hb dL_law_377 rfl (lv_at hl 0 rfl) ?_
  refine lv_iload_n hx hb dL_law_378 rfl (lv_at hl 3 rfl) ?_
  refine lv_iconst (v := 2) hx hb dL_law_379 (by decide) ?_
  refine lv_iadd hx hb dL_law_380 ?_
  rw [show nI i + 2 = nI (i + 2) from nI_add i 2]
  refine va_sld hx hb hX hbl hbA S.2.2 (vp_in_nI (n := i + 2) (by omega) (by omega)) dL_law_381 ?_
  rw [nI_clamp (n := i + 2) (by omega)]
  refine law_Xi (As := [.int (xs (i + 1)), .int (xs (i + 2))]) ⟨hx, hb, hml, hown, hts⟩ hK S (ct_X7_post l D cy adx _ _ _ _ _ (hst _ _ hR (xs (i + 1)) (xs (i + 2)))) (cwV 2 hts gL_law_X7_post rfl rfl rfl (by decide +kernel) ⟨Nat.le_of_ble_eq_true rfl, Nat.le_of_ble_eq_true rfl⟩) rfl hl.1 rfl (Nat.le_of_ble_eq_true rfl) dL_law_382 ⟨Nat.le_of_ble_eq_true rfl, Nat.le_of_ble_eq_true rfl⟩ (fun rX M1 H locs h S => ?_)
  refine lv_aload_n hx hb dL_law_385 rfl (lv_at hl 2 rfl) ?_
  refine lv_aload_n hx hb dL_law_386 rfl (lv_at hl 0 rfl) ?_
  refine lv_iload_n hx hb dL_law_387 rfl (lv_at hl 3 rfl) ?_
  refine lv_iconst (v := 1) hx hb dL_law_388 (by decide) ?_
  refine lv_iadd hx hb dL_law_389 ?_
  rw [show nI i + 1 = nI (i + 1) from nI_add i 1]
  refine va_sld hx hb hX hbl hbA S.2.2 (vp_in_nI (n := i + 1) (by omega) (by omega)) dL_law_390 ?_
  rw [nI_clamp (n := i + 1) (by omega)]
  refine lv_aload_n hx hb dL_law_391 rfl (lv_at hl 0 rfl) ?_
  refine lv_iload_n hx hb dL_law_392 rfl (lv_at hl 3 rfl) ?_
  refine lv_iconst (v := 2) hx hb dL_law_393 (by decide) ?_
  refine lv_iadd hx hb dL_law_394 ?_
  rw [show nI i + 2 = nI (i + 2) from nI_add i 2]
  refine va_sld hx hb hX hbl hbA S.2.2 (vp_in_nI (n := i + 2) (by omega) (by omega)) dL_law_395 ?_
  rw [nI_clamp (n := i + 2) (by omega)]
  refine law_Ri (As := [.int (xs (i + 1)), .int (xs (i + 2))]) ⟨hx, hb, hml, hown, hts⟩ hK S (ct_X8_post l D cy adr _ _ _ _ _ h) (cwV 2 hts gL_law_X8_post rfl rfl rfl (by decide +kernel) ⟨Nat.le_of_ble_eq_true rfl, Nat.le_of_ble_eq_true rfl⟩) rfl hl.1 rfl (Nat.le_of_ble_eq_true rfl) dL_law_396 ⟨Nat.le_of_ble_eq_true rfl, Nat.le_of_ble_eq_true rfl⟩ (fun rR M2 H locs h S => ?_)
  refine lv_icmp_eq (tgt := 1128) hx hb dL_law_399 (by decide) (fun _ => ?_) (fun c2 => absurd h.1 c2)
  exact kk _ _ ls _ _ h.2 S hl
set_option maxHeartbeats 4000000 in
set_option maxRecDepth 100000 in
theorem law_case_5 {p : Program} {l : Launch} {e : Env} {s : State} {m : MethodId} {below : List Frame} {meth : Method} {c : Code} {b L : Nat} {xs : Nat → Int32} {D : va_G} {cy adx adr : Nat → Nat} {Rel : Mem → Mem → Prop} (hst : ∀ MX MR : Mem, Rel MX MR → ∀ (a0 : Int32) (a1 : Int32), wp_X7_take a0 a1 MX (fun r M1 => wp_X8_take a0 a1 MR (fun r2 M2 => r = r2 ∧ Rel M1 M2))) (hL : L ≤ 2560) (E : LawE p s m c cy D b L xs) {i : Nat} (hi : i + 5 ≤ L) {MX MR : Mem} (hR : Rel MX MR) {H : Heap} {locs : List Loc} (S : LWS D cy adx adr s.heap H locs MX MR) {ls : Array Slot} (hl : lv_has ls 4 [(0, .ref b), (1, .ref (adx 0)), (2, .ref (adr 0)), (3, .int (nI i))])
    (kk : ∀ (H : Heap) (locs : List Loc) (ls : Array Slot) (MX MR : Mem), Rel MX MR → LWS D cy adx adr s.heap H locs MX MR → lv_has ls 4 [(0, .ref b), (1, .ref (adx 0)), (2, .ref (adr 0)), (3, .int (nI i))] → W p l e room_1 s m #[Value.ref b] below meth c H locs 56 17578 (lw_Z below #[Value.ref b] s) (F0 m 1128 ls [])) : W p l e room_1 s m #[Value.ref b] below meth c H locs 56 17578 (lw_Z below #[Value.ref b] s) (F0 m 404 ls []) := by
  obtain ⟨hx, hb, hml, hown, hts, hK, hX, hbl, hbA⟩ := E
  refine lv_aload_n hx hb dL_law_404 rfl (lv_at hl 1 rfl) ?_
  refine lv_aload_n hx hb dL_law_405 rfl (lv_at hl 0 rfl) ?_
  refine lv_iload_n hx hb dL_law_406 rfl (lv_at hl 3 rfl) ?_
  refine lv_iconst (v := 1) hx hb dL_law_407 (by decide) ?_
  refine lv_iadd hx hb dL_law_408 ?_
  rw [show nI i + 1 = nI (i + 1) from nI_add i 1]
  refine va_sld hx hb hX hbl hbA S.2.2 (vp_in_nI (n := i + 1) (by omega) (by omega)) dL_law_409 ?_
  rw [nI_clamp (n := i + 1) (by omega)]
  refine lv_aload_n hx hb dL_law_410 rfl (lv_at hl 0 rfl) ?_
  refine lv_iload_n hx hb dL_law_411 rfl (lv_at hl 3 rfl) ?_
  refine lv_iconst (v := 2) hx hb dL_law_412 (by decide) ?_
  refine lv_iadd hx hb dL_law_413 ?_
  rw [show nI i + 2 = nI (i + 2) from nI_add i 2]
  refine va_sld hx hb hX hbl hbA S.2.2 (vp_in_nI (n := i + 2) (by omega) (by omega)) dL_law_414 ?_
  rw [nI_clamp (n := i + 2) (by omega)]
  refine law_Xi (As := [.int (xs (i + 1)), .int (xs (i + 2))]) ⟨hx, hb, hml, hown, hts⟩ hK S (ct_X7_take l D cy adx _ _ _ _ _ (hst _ _ hR (xs (i + 1)) (xs (i + 2)))) (cwV 2 hts gL_law_X7_take rfl rfl rfl (by decide +kernel) ⟨Nat.le_of_ble_eq_true rfl, Nat.le_of_ble_eq_true rfl⟩) rfl hl.1 rfl (Nat.le_of_ble_eq_true rfl) dL_law_415 ⟨Nat.le_of_ble_eq_true rfl, Nat.le_of_ble_eq_true rfl⟩ (fun rX M1 H locs h S => ?_)
  refine lv_aload_n hx hb dL_law_418 rfl (lv_at hl 2 rfl) ?_
  refine lv_aload_n hx hb dL_law_419 rfl (lv_at hl 0 rfl) ?_
  refine lv_iload_n hx hb dL_law_420 rfl (lv_at hl 3 rfl) ?_
  refine lv_iconst (v := 1) hx hb dL_law_421 (by decide) ?_
  refine lv_iadd hx hb dL_law_422 ?_
  rw [show nI i + 1 = nI (i + 1) from nI_add i 1]
  refine va_sld hx hb hX hbl hbA S.2.2 (vp_in_nI (n := i + 1) (by omega) (by omega)) dL_law_423 ?_
  rw [nI_clamp (n := i + 1) (by omega)]
  refine lv_aload_n hx hb dL_law_424 rfl (lv_at hl 0 rfl) ?_
  refine lv_iload_n hx hb dL_law_425 rfl (lv_at hl 3 rfl) ?_
  refine lv_iconst (v := 2) hx hb dL_law_426 (by decide) ?_
  refine lv_iadd hx hb dL_law_427 ?_
  rw [show nI i + 2 = nI (i + 2) from nI_add i 2]
  refine va_sld hx hb hX hbl hbA S.2.2 (vp_in_nI (n := i + 2) (by omega) (by omega)) dL_law_428 ?_
  rw [nI_clamp (n := i + 2) (by omega)]
  refine law_Ri (As := [.int (xs (i + 1)), .int (xs (i + 2))]) ⟨hx, hb, hml, hown, hts⟩ hK S (ct_X8_take l D cy adr _ _ _ _ _ h) (cwV 2 hts gL_law_X8_take rfl rfl rfl (by decide +kernel) ⟨Nat.le_of_ble_eq_true rfl, Nat.le_of_ble_eq_true rfl⟩) rfl hl.1 rfl (Nat.le_of_ble_eq_true rfl) dL_law_429 ⟨Nat.le_of_ble_eq_true rfl, Nat.le_of_ble_eq_true rfl⟩ (fun rR M2 H locs h S => ?_)
  refine lv_icmp_eq (tgt := 1128) hx hb dL_law_432 (by decide) (fun _ => ?_) (fun c2 => absurd h.1 c2)
  exact kk _ _ ls _ _ h.2 S hl
set_option maxHeartbeats 4000000 in
set_option maxRecDepth 100000 in
theorem law_case_6 {p : Program} {l : Launch} {e : Env} {s : State} {m : MethodId} {below : List Frame} {meth : Method} {c : Code} {b L : Nat} {xs : Nat → Int32} {D : va_G} {cy adx adr : Nat → Nat} {Rel : Mem → Mem → Prop} (hst : ∀ MX MR : Mem, Rel MX MR → wp_X7_clear MX (fun r M1 => wp_X8_clear MR (fun r2 M2 => r = r2 ∧ Rel M1 M2))) (hL : L ≤ 2560) (E : LawE p s m c cy D b L xs) {i : Nat} (hi : i + 5 ≤ L) {MX MR : Mem} (hR : Rel MX MR) {H : Heap} {locs : List Loc} (S : LWS D cy adx adr s.heap H locs MX MR) {ls : Array Slot} (hl : lv_has ls 4 [(0, .ref b), (1, .ref (adx 0)), (2, .ref (adr 0)), (3, .int (nI i))])
    (kk : ∀ (H : Heap) (locs : List Loc) (ls : Array Slot) (MX MR : Mem), Rel MX MR → LWS D cy adx adr s.heap H locs MX MR → lv_has ls 4 [(0, .ref b), (1, .ref (adx 0)), (2, .ref (adr 0)), (3, .int (nI i))] → W p l e room_1 s m #[Value.ref b] below meth c H locs 56 17578 (lw_Z below #[Value.ref b] s) (F0 m 1128 ls [])) : W p l e room_1 s m #[Value.ref b] below meth c H locs 56 17578 (lw_Z below #[Value.ref b] s) (F0 m 437 ls []) := by
  obtain ⟨hx, hb, hml, hown, hts, hK, hX, hbl, hbA⟩ := E
  refine lv_aload_n hx hb dL_law_437 rfl (lv_at hl 1 rfl) ?_
  refine law_Xi (As := []) ⟨hx, hb, hml, hown, hts⟩ hK S (ct_X7_clear l D cy adx _ _ _ (hst _ _ hR)) (cwV 0 hts gL_law_X7_clear rfl rfl rfl (by decide +kernel) ⟨Nat.le_of_ble_eq_true rfl, Nat.le_of_ble_eq_true rfl⟩) rfl hl.1 rfl (Nat.le_of_ble_eq_true rfl) dL_law_438 ⟨Nat.le_of_ble_eq_true rfl, Nat.le_of_ble_eq_true rfl⟩ (fun rX M1 H locs h S => ?_)
  refine lv_aload_n hx hb dL_law_441 rfl (lv_at hl 2 rfl) ?_
  refine law_Ri (As := []) ⟨hx, hb, hml, hown, hts⟩ hK S (ct_X8_clear l D cy adr _ _ _ h) (cwV 0 hts gL_law_X8_clear rfl rfl rfl (by decide +kernel) ⟨Nat.le_of_ble_eq_true rfl, Nat.le_of_ble_eq_true rfl⟩) rfl hl.1 rfl (Nat.le_of_ble_eq_true rfl) dL_law_442 ⟨Nat.le_of_ble_eq_true rfl, Nat.le_of_ble_eq_true rfl⟩ (fun rR M2 H locs h S => ?_)
  refine lv_icmp_eq (tgt := 1128) hx hb dL_law_445 (by decide) (fun _ => ?_) (fun c2 => absurd h.1 c2)
  exact kk _ _ ls _ _ h.2 S hl
set_option maxHeartbeats 4000000 in
set_option maxRecDepth 100000 in
theorem law_case_7 {p : Program} {l : Launch} {e : Env} {s : State} {m : MethodId} {below : List Frame} {meth : Method} {c : Code} {b L : Nat} {xs : Nat → Int32} {D : va_G} {cy adx adr : Nat → Nat} {Rel : Mem → Mem → Prop} (hst : ∀ MX MR : Mem, Rel MX MR → wp_X7_lay MX (fun r M1 => wp_X8_lay MR (fun r2 M2 => r = r2 ∧ Rel M1 M2))) (hL : L ≤ 2560) (E : LawE p s m c cy D b L xs) {i : Nat} (hi : i + 5 ≤ L) {MX MR : Mem} (hR : Rel MX MR) {H : Heap} {locs : List Loc} (S : LWS D cy adx adr s.heap H locs MX MR) {ls : Array Slot} (hl : lv_has ls 4 [(0, .ref b), (1, .ref (adx 0)), (2, .ref (adr 0)), (3, .int (nI i))])
    (kk : ∀ (H : Heap) (locs : List Loc) (ls : Array Slot) (MX MR : Mem), Rel MX MR → LWS D cy adx adr s.heap H locs MX MR → lv_has ls 4 [(0, .ref b), (1, .ref (adx 0)), (2, .ref (adr 0)), (3, .int (nI i))] → W p l e room_1 s m #[Value.ref b] below meth c H locs 56 17578 (lw_Z below #[Value.ref b] s) (F0 m 1128 ls [])) : W p l e room_1 s m #[Value.ref b] below meth c H locs 56 17578 (lw_Z below #[Value.ref b] s) (F0 m 450 ls []) := by
  obtain ⟨hx, hb, hml, hown, hts, hK, hX, hbl, hbA⟩ := E
  refine lv_aload_n hx hb dL_law_450 rfl (lv_at hl 1 rfl) ?_
  refine law_Xi (As := []) ⟨hx, hb, hml, hown, hts⟩ hK S (ct_X7_lay l D cy adx _ _ _ (hst _ _ hR)) (cwV 0 hts gL_law_X7_lay rfl rfl rfl (by decide +kernel) ⟨Nat.le_of_ble_eq_true rfl, Nat.le_of_ble_eq_true rfl⟩) rfl hl.1 rfl (Nat.le_of_ble_eq_true rfl) dL_law_451 ⟨Nat.le_of_ble_eq_true rfl, Nat.le_of_ble_eq_true rfl⟩ (fun rX M1 H locs h S => ?_)
  refine lv_aload_n hx hb dL_law_454 rfl (lv_at hl 2 rfl) ?_
  refine law_Ri (As := []) ⟨hx, hb, hml, hown, hts⟩ hK S (ct_X8_lay l D cy adr _ _ _ h) (cwV 0 hts gL_law_X8_lay rfl rfl rfl (by decide +kernel) ⟨Nat.le_of_ble_eq_true rfl, Nat.le_of_ble_eq_true rfl⟩) rfl hl.1 rfl (Nat.le_of_ble_eq_true rfl) dL_law_455 ⟨Nat.le_of_ble_eq_true rfl, Nat.le_of_ble_eq_true rfl⟩ (fun rR M2 H locs h S => ?_)
  refine lv_icmp_eq (tgt := 1128) hx hb dL_law_458 (by decide) (fun _ => ?_) (fun c2 => absurd h.1 c2)
  exact kk _ _ ls _ _ h.2 S hl
set_option maxHeartbeats 4000000 in
set_option maxRecDepth 100000 in
theorem law_case_8 {p : Program} {l : Launch} {e : Env} {s : State} {m : MethodId} {below : List Frame} {meth : Method} {c : Code} {b L : Nat} {xs : Nat → Int32} {D : va_G} {cy adx adr : Nat → Nat} {Rel : Mem → Mem → Prop} (hst : ∀ MX MR : Mem, Rel MX MR → ∀ (a0 : Int32) (a1 : Int32), wp_X7_fence a0 a1 MX (fun r M1 => wp_X8_fence a0 a1 MR (fun r2 M2 => r = r2 ∧ Rel M1 M2))) (hL : L ≤ 2560) (E : LawE p s m c cy D b L xs) {i : Nat} (hi : i + 5 ≤ L) {MX MR : Mem} (hR : Rel MX MR) {H : Heap} {locs : List Loc} (S : LWS D cy adx adr s.heap H locs MX MR) {ls : Array Slot} (hl : lv_has ls 4 [(0, .ref b), (1, .ref (adx 0)), (2, .ref (adr 0)), (3, .int (nI i))])
    (kk : ∀ (H : Heap) (locs : List Loc) (ls : Array Slot) (MX MR : Mem), Rel MX MR → LWS D cy adx adr s.heap H locs MX MR → lv_has ls 4 [(0, .ref b), (1, .ref (adx 0)), (2, .ref (adr 0)), (3, .int (nI i))] → W p l e room_1 s m #[Value.ref b] below meth c H locs 56 17578 (lw_Z below #[Value.ref b] s) (F0 m 1128 ls [])) : W p l e room_1 s m #[Value.ref b] below meth c H locs 56 17578 (lw_Z below #[Value.ref b] s) (F0 m 463 ls []) := by
  obtain ⟨hx, hb, hml, hown, hts, hK, hX, hbl, hbA⟩ := E
  refine lv_aload_n hx hb dL_law_463 rfl (lv_at hl 1 rfl) ?_
  refine lv_aload_n hx hb dL_law_464 rfl (lv_at hl 0 rfl) ?_
  refine lv_iload_n hx hb dL_law_465 rfl (lv_at hl 3 rfl) ?_
  refine lv_iconst (v := 1) hx hb dL_law_466 (by decide) ?_
  refine lv_iadd hx hb dL_law_467 ?_
  rw [show nI i + 1 = nI (i + 1) from nI_add i 1]
  refine va_sld hx hb hX hbl hbA S.2.2 (vp_in_nI (n := i + 1) (by omega) (by omega)) dL_law_468 ?_
  rw [nI_clamp (n := i + 1) (by omega)]
  refine lv_aload_n hx hb dL_law_469 rfl (lv_at hl 0 rfl) ?_
  refine lv_iload_n hx hb dL_law_470 rfl (lv_at hl 3 rfl) ?_
  refine lv_iconst (v := 2) hx hb dL_law_471 (by decide) ?_
  refine lv_iadd hx hb dL_law_472 ?_
  rw [show nI i + 2 = nI (i + 2) from nI_add i 2]
  refine va_sld hx hb hX hbl hbA S.2.2 (vp_in_nI (n := i + 2) (by omega) (by omega)) dL_law_473 ?_
  rw [nI_clamp (n := i + 2) (by omega)]
  refine law_Xi (As := [.int (xs (i + 1)), .int (xs (i + 2))]) ⟨hx, hb, hml, hown, hts⟩ hK S (ct_X7_fence l D cy adx _ _ _ _ _ (hst _ _ hR (xs (i + 1)) (xs (i + 2)))) (cwV 2 hts gL_law_X7_fence rfl rfl rfl (by decide +kernel) ⟨Nat.le_of_ble_eq_true rfl, Nat.le_of_ble_eq_true rfl⟩) rfl hl.1 rfl (Nat.le_of_ble_eq_true rfl) dL_law_474 ⟨Nat.le_of_ble_eq_true rfl, Nat.le_of_ble_eq_true rfl⟩ (fun rX M1 H locs h S => ?_)
  refine lv_aload_n hx hb dL_law_477 rfl (lv_at hl 2 rfl) ?_
  refine lv_aload_n hx hb dL_law_478 rfl (lv_at hl 0 rfl) ?_
  refine lv_iload_n hx hb dL_law_479 rfl (lv_at hl 3 rfl) ?_
  refine lv_iconst (v := 1) hx hb dL_law_480 (by decide) ?_
  refine lv_iadd hx hb dL_law_481 ?_
  rw [show nI i + 1 = nI (i + 1) from nI_add i 1]
  refine va_sld hx hb hX hbl hbA S.2.2 (vp_in_nI (n := i + 1) (by omega) (by omega)) dL_law_482 ?_
  rw [nI_clamp (n := i + 1) (by omega)]
  refine lv_aload_n hx hb dL_law_483 rfl (lv_at hl 0 rfl) ?_
  refine lv_iload_n hx hb dL_law_484 rfl (lv_at hl 3 rfl) ?_
  refine lv_iconst (v := 2) hx hb dL_law_485 (by decide) ?_
  refine lv_iadd hx hb dL_law_486 ?_
  rw [show nI i + 2 = nI (i + 2) from nI_add i 2]
  refine va_sld hx hb hX hbl hbA S.2.2 (vp_in_nI (n := i + 2) (by omega) (by omega)) dL_law_487 ?_
  rw [nI_clamp (n := i + 2) (by omega)]
  refine law_Ri (As := [.int (xs (i + 1)), .int (xs (i + 2))]) ⟨hx, hb, hml, hown, hts⟩ hK S (ct_X8_fence l D cy adr _ _ _ _ _ h) (cwV 2 hts gL_law_X8_fence rfl rfl rfl (by decide +kernel) ⟨Nat.le_of_ble_eq_true rfl, Nat.le_of_ble_eq_true rfl⟩) rfl hl.1 rfl (Nat.le_of_ble_eq_true rfl) dL_law_488 ⟨Nat.le_of_ble_eq_true rfl, Nat.le_of_ble_eq_true rfl⟩ (fun rR M2 H locs h S => ?_)
  refine lv_icmp_eq (tgt := 1128) hx hb dL_law_491 (by decide) (fun _ => ?_) (fun c2 => absurd h.1 c2)
  exact kk _ _ ls _ _ h.2 S hl
set_option maxHeartbeats 4000000 in
set_option maxRecDepth 100000 in
theorem law_case_9 {p : Program} {l : Launch} {e : Env} {s : State} {m : MethodId} {below : List Frame} {meth : Method} {c : Code} {b L : Nat} {xs : Nat → Int32} {D : va_G} {cy adx adr : Nat → Nat} {Rel : Mem → Mem → Prop} (hst : ∀ MX MR : Mem, Rel MX MR → ∀ (a0 : Int32) (a1 : Int32), wp_X7_end a0 a1 MX (fun r M1 => wp_X8_end a0 a1 MR (fun r2 M2 => r = r2 ∧ Rel M1 M2))) (hL : L ≤ 2560) (E : LawE p s m c cy D b L xs) {i : Nat} (hi : i + 5 ≤ L) {MX MR : Mem} (hR : Rel MX MR) {H : Heap} {locs : List Loc} (S : LWS D cy adx adr s.heap H locs MX MR) {ls : Array Slot} (hl : lv_has ls 4 [(0, .ref b), (1, .ref (adx 0)), (2, .ref (adr 0)), (3, .int (nI i))])
    (kk : ∀ (H : Heap) (locs : List Loc) (ls : Array Slot) (MX MR : Mem), Rel MX MR → LWS D cy adx adr s.heap H locs MX MR → lv_has ls 4 [(0, .ref b), (1, .ref (adx 0)), (2, .ref (adr 0)), (3, .int (nI i))] → W p l e room_1 s m #[Value.ref b] below meth c H locs 56 17578 (lw_Z below #[Value.ref b] s) (F0 m 1128 ls [])) : W p l e room_1 s m #[Value.ref b] below meth c H locs 56 17578 (lw_Z below #[Value.ref b] s) (F0 m 496 ls []) := by
  obtain ⟨hx, hb, hml, hown, hts, hK, hX, hbl, hbA⟩ := E
  refine lv_aload_n hx hb dL_law_496 rfl (lv_at hl 1 rfl) ?_
  refine lv_aload_n hx hb dL_law_497 rfl (lv_at hl 0 rfl) ?_
  refine lv_iload_n hx hb dL_law_498 rfl (lv_at hl 3 rfl) ?_
  refine lv_iconst (v := 1) hx hb dL_law_499 (by decide) ?_
  refine lv_iadd hx hb dL_law_500 ?_
  rw [show nI i + 1 = nI (i + 1) from nI_add i 1]
  refine va_sld hx hb hX hbl hbA S.2.2 (vp_in_nI (n := i + 1) (by omega) (by omega)) dL_law_501 ?_
  rw [nI_clamp (n := i + 1) (by omega)]
  refine lv_aload_n hx hb dL_law_502 rfl (lv_at hl 0 rfl) ?_
  refine lv_iload_n hx hb dL_law_503 rfl (lv_at hl 3 rfl) ?_
  refine lv_iconst (v := 2) hx hb dL_law_504 (by decide) ?_
  refine lv_iadd hx hb dL_law_505 ?_
  rw [show nI i + 2 = nI (i + 2) from nI_add i 2]
  refine va_sld hx hb hX hbl hbA S.2.2 (vp_in_nI (n := i + 2) (by omega) (by omega)) dL_law_506 ?_
  rw [nI_clamp (n := i + 2) (by omega)]
  refine law_Xi (As := [.int (xs (i + 1)), .int (xs (i + 2))]) ⟨hx, hb, hml, hown, hts⟩ hK S (ct_X7_end l D cy adx _ _ _ _ _ (hst _ _ hR (xs (i + 1)) (xs (i + 2)))) (cwV 2 hts gL_law_X7_end rfl rfl rfl (by decide +kernel) ⟨Nat.le_of_ble_eq_true rfl, Nat.le_of_ble_eq_true rfl⟩) rfl hl.1 rfl (Nat.le_of_ble_eq_true rfl) dL_law_507 ⟨Nat.le_of_ble_eq_true rfl, Nat.le_of_ble_eq_true rfl⟩ (fun rX M1 H locs h S => ?_)
  refine lv_aload_n hx hb dL_law_510 rfl (lv_at hl 2 rfl) ?_
  refine lv_aload_n hx hb dL_law_511 rfl (lv_at hl 0 rfl) ?_
  refine lv_iload_n hx hb dL_law_512 rfl (lv_at hl 3 rfl) ?_
  refine lv_iconst (v := 1) hx hb dL_law_513 (by decide) ?_
  refine lv_iadd hx hb dL_law_514 ?_
  rw [show nI i + 1 = nI (i + 1) from nI_add i 1]
  refine va_sld hx hb hX hbl hbA S.2.2 (vp_in_nI (n := i + 1) (by omega) (by omega)) dL_law_515 ?_
  rw [nI_clamp (n := i + 1) (by omega)]
  refine lv_aload_n hx hb dL_law_516 rfl (lv_at hl 0 rfl) ?_
  refine lv_iload_n hx hb dL_law_517 rfl (lv_at hl 3 rfl) ?_
  refine lv_iconst (v := 2) hx hb dL_law_518 (by decide) ?_
  refine lv_iadd hx hb dL_law_519 ?_
  rw [show nI i + 2 = nI (i + 2) from nI_add i 2]
  refine va_sld hx hb hX hbl hbA S.2.2 (vp_in_nI (n := i + 2) (by omega) (by omega)) dL_law_520 ?_
  rw [nI_clamp (n := i + 2) (by omega)]
  refine law_Ri (As := [.int (xs (i + 1)), .int (xs (i + 2))]) ⟨hx, hb, hml, hown, hts⟩ hK S (ct_X8_end l D cy adr _ _ _ _ _ h) (cwV 2 hts gL_law_X8_end rfl rfl rfl (by decide +kernel) ⟨Nat.le_of_ble_eq_true rfl, Nat.le_of_ble_eq_true rfl⟩) rfl hl.1 rfl (Nat.le_of_ble_eq_true rfl) dL_law_521 ⟨Nat.le_of_ble_eq_true rfl, Nat.le_of_ble_eq_true rfl⟩ (fun rR M2 H locs h S => ?_)
  refine lv_icmp_eq (tgt := 1128) hx hb dL_law_524 (by decide) (fun _ => ?_) (fun c2 => absurd h.1 c2)
  exact kk _ _ ls _ _ h.2 S hl
set_option maxHeartbeats 4000000 in
set_option maxRecDepth 100000 in
theorem law_case_10 {p : Program} {l : Launch} {e : Env} {s : State} {m : MethodId} {below : List Frame} {meth : Method} {c : Code} {b L : Nat} {xs : Nat → Int32} {D : va_G} {cy adx adr : Nat → Nat} {Rel : Mem → Mem → Prop} (hst : ∀ MX MR : Mem, Rel MX MR → ∀ (a0 : Int32), wp_X7_kind a0 MX (fun r M1 => wp_X8_kind a0 MR (fun r2 M2 => r = r2 ∧ Rel M1 M2))) (hL : L ≤ 2560) (E : LawE p s m c cy D b L xs) {i : Nat} (hi : i + 5 ≤ L) {MX MR : Mem} (hR : Rel MX MR) {H : Heap} {locs : List Loc} (S : LWS D cy adx adr s.heap H locs MX MR) {ls : Array Slot} (hl : lv_has ls 4 [(0, .ref b), (1, .ref (adx 0)), (2, .ref (adr 0)), (3, .int (nI i))])
    (kk : ∀ (H : Heap) (locs : List Loc) (ls : Array Slot) (MX MR : Mem), Rel MX MR → LWS D cy adx adr s.heap H locs MX MR → lv_has ls 4 [(0, .ref b), (1, .ref (adx 0)), (2, .ref (adr 0)), (3, .int (nI i))] → W p l e room_1 s m #[Value.ref b] below meth c H locs 56 17578 (lw_Z below #[Value.ref b] s) (F0 m 1128 ls [])) : W p l e room_1 s m #[Value.ref b] below meth c H locs 56 17578 (lw_Z below #[Value.ref b] s) (F0 m 529 ls []) := by
  obtain ⟨hx, hb, hml, hown, hts, hK, hX, hbl, hbA⟩ := E
  refine lv_aload_n hx hb dL_law_529 rfl (lv_at hl 1 rfl) ?_
  refine lv_aload_n hx hb dL_law_530 rfl (lv_at hl 0 rfl) ?_
  refine lv_iload_n hx hb dL_law_531 rfl (lv_at hl 3 rfl) ?_
  refine lv_iconst (v := 1) hx hb dL_law_532 (by decide) ?_
  refine lv_iadd hx hb dL_law_533 ?_
  rw [show nI i + 1 = nI (i + 1) from nI_add i 1]
  refine va_sld hx hb hX hbl hbA S.2.2 (vp_in_nI (n := i + 1) (by omega) (by omega)) dL_law_534 ?_
  rw [nI_clamp (n := i + 1) (by omega)]
  refine law_Xi (As := [.int (xs (i + 1))]) ⟨hx, hb, hml, hown, hts⟩ hK S (ct_X7_kind l D cy adx _ _ _ _ (hst _ _ hR (xs (i + 1)))) (cwV 1 hts gL_law_X7_kind rfl rfl rfl (by decide +kernel) ⟨Nat.le_of_ble_eq_true rfl, Nat.le_of_ble_eq_true rfl⟩) rfl hl.1 rfl (Nat.le_of_ble_eq_true rfl) dL_law_535 ⟨Nat.le_of_ble_eq_true rfl, Nat.le_of_ble_eq_true rfl⟩ (fun rX M1 H locs h S => ?_)
  refine lv_aload_n hx hb dL_law_538 rfl (lv_at hl 2 rfl) ?_
  refine lv_aload_n hx hb dL_law_539 rfl (lv_at hl 0 rfl) ?_
  refine lv_iload_n hx hb dL_law_540 rfl (lv_at hl 3 rfl) ?_
  refine lv_iconst (v := 1) hx hb dL_law_541 (by decide) ?_
  refine lv_iadd hx hb dL_law_542 ?_
  rw [show nI i + 1 = nI (i + 1) from nI_add i 1]
  refine va_sld hx hb hX hbl hbA S.2.2 (vp_in_nI (n := i + 1) (by omega) (by omega)) dL_law_543 ?_
  rw [nI_clamp (n := i + 1) (by omega)]
  refine law_Ri (As := [.int (xs (i + 1))]) ⟨hx, hb, hml, hown, hts⟩ hK S (ct_X8_kind l D cy adr _ _ _ _ h) (cwV 1 hts gL_law_X8_kind rfl rfl rfl (by decide +kernel) ⟨Nat.le_of_ble_eq_true rfl, Nat.le_of_ble_eq_true rfl⟩) rfl hl.1 rfl (Nat.le_of_ble_eq_true rfl) dL_law_544 ⟨Nat.le_of_ble_eq_true rfl, Nat.le_of_ble_eq_true rfl⟩ (fun rR M2 H locs h S => ?_)
  refine lv_icmp_eq (tgt := 1128) hx hb dL_law_547 (by decide) (fun _ => ?_) (fun c2 => absurd h.1 c2)
  exact kk _ _ ls _ _ h.2 S hl
set_option maxHeartbeats 4000000 in
set_option maxRecDepth 100000 in
theorem law_case_11 {p : Program} {l : Launch} {e : Env} {s : State} {m : MethodId} {below : List Frame} {meth : Method} {c : Code} {b L : Nat} {xs : Nat → Int32} {D : va_G} {cy adx adr : Nat → Nat} {Rel : Mem → Mem → Prop} (hst : ∀ MX MR : Mem, Rel MX MR → ∀ (a0 : Int32) (a1 : Int32), wp_X7_weightAs a0 a1 MX (fun r M1 => wp_X8_weightAs a0 a1 MR (fun r2 M2 => r = r2 ∧ Rel M1 M2))) (hL : L ≤ 2560) (E : LawE p s m c cy D b L xs) {i : Nat} (hi : i + 5 ≤ L) {MX MR : Mem} (hR : Rel MX MR) {H : Heap} {locs : List Loc} (S : LWS D cy adx adr s.heap H locs MX MR) {ls : Array Slot} (hl : lv_has ls 4 [(0, .ref b), (1, .ref (adx 0)), (2, .ref (adr 0)), (3, .int (nI i))])
    (kk : ∀ (H : Heap) (locs : List Loc) (ls : Array Slot) (MX MR : Mem), Rel MX MR → LWS D cy adx adr s.heap H locs MX MR → lv_has ls 4 [(0, .ref b), (1, .ref (adx 0)), (2, .ref (adr 0)), (3, .int (nI i))] → W p l e room_1 s m #[Value.ref b] below meth c H locs 56 17578 (lw_Z below #[Value.ref b] s) (F0 m 1128 ls [])) : W p l e room_1 s m #[Value.ref b] below meth c H locs 56 17578 (lw_Z below #[Value.ref b] s) (F0 m 552 ls []) := by
  obtain ⟨hx, hb, hml, hown, hts, hK, hX, hbl, hbA⟩ := E
  refine lv_aload_n hx hb dL_law_552 rfl (lv_at hl 1 rfl) ?_
  refine lv_aload_n hx hb dL_law_553 rfl (lv_at hl 0 rfl) ?_
  refine lv_iload_n hx hb dL_law_554 rfl (lv_at hl 3 rfl) ?_
  refine lv_iconst (v := 1) hx hb dL_law_555 (by decide) ?_
  refine lv_iadd hx hb dL_law_556 ?_
  rw [show nI i + 1 = nI (i + 1) from nI_add i 1]
  refine va_sld hx hb hX hbl hbA S.2.2 (vp_in_nI (n := i + 1) (by omega) (by omega)) dL_law_557 ?_
  rw [nI_clamp (n := i + 1) (by omega)]
  refine lv_aload_n hx hb dL_law_558 rfl (lv_at hl 0 rfl) ?_
  refine lv_iload_n hx hb dL_law_559 rfl (lv_at hl 3 rfl) ?_
  refine lv_iconst (v := 2) hx hb dL_law_560 (by decide) ?_
  refine lv_iadd hx hb dL_law_561 ?_
  rw [show nI i + 2 = nI (i + 2) from nI_add i 2]
  refine va_sld hx hb hX hbl hbA S.2.2 (vp_in_nI (n := i + 2) (by omega) (by omega)) dL_law_562 ?_
  rw [nI_clamp (n := i + 2) (by omega)]
  refine law_Xi (As := [.int (xs (i + 1)), .int (xs (i + 2))]) ⟨hx, hb, hml, hown, hts⟩ hK S (ct_X7_weightAs l D cy adx _ _ _ _ _ (hst _ _ hR (xs (i + 1)) (xs (i + 2)))) (cwV 2 hts gL_law_X7_weightAs rfl rfl rfl (by decide +kernel) ⟨Nat.le_of_ble_eq_true rfl, Nat.le_of_ble_eq_true rfl⟩) rfl hl.1 rfl (Nat.le_of_ble_eq_true rfl) dL_law_563 ⟨Nat.le_of_ble_eq_true rfl, Nat.le_of_ble_eq_true rfl⟩ (fun rX M1 H locs h S => ?_)
  refine lv_aload_n hx hb dL_law_566 rfl (lv_at hl 2 rfl) ?_
  refine lv_aload_n hx hb dL_law_567 rfl (lv_at hl 0 rfl) ?_
  refine lv_iload_n hx hb dL_law_568 rfl (lv_at hl 3 rfl) ?_
  refine lv_iconst (v := 1) hx hb dL_law_569 (by decide) ?_
  refine lv_iadd hx hb dL_law_570 ?_
  rw [show nI i + 1 = nI (i + 1) from nI_add i 1]
  refine va_sld hx hb hX hbl hbA S.2.2 (vp_in_nI (n := i + 1) (by omega) (by omega)) dL_law_571 ?_
  rw [nI_clamp (n := i + 1) (by omega)]
  refine lv_aload_n hx hb dL_law_572 rfl (lv_at hl 0 rfl) ?_
  refine lv_iload_n hx hb dL_law_573 rfl (lv_at hl 3 rfl) ?_
  refine lv_iconst (v := 2) hx hb dL_law_574 (by decide) ?_
  refine lv_iadd hx hb dL_law_575 ?_
  rw [show nI i + 2 = nI (i + 2) from nI_add i 2]
  refine va_sld hx hb hX hbl hbA S.2.2 (vp_in_nI (n := i + 2) (by omega) (by omega)) dL_law_576 ?_
  rw [nI_clamp (n := i + 2) (by omega)]
  refine law_Ri (As := [.int (xs (i + 1)), .int (xs (i + 2))]) ⟨hx, hb, hml, hown, hts⟩ hK S (ct_X8_weightAs l D cy adr _ _ _ _ _ h) (cwV 2 hts gL_law_X8_weightAs rfl rfl rfl (by decide +kernel) ⟨Nat.le_of_ble_eq_true rfl, Nat.le_of_ble_eq_true rfl⟩) rfl hl.1 rfl (Nat.le_of_ble_eq_true rfl) dL_law_577 ⟨Nat.le_of_ble_eq_true rfl, Nat.le_of_ble_eq_true rfl⟩ (fun rR M2 H locs h S => ?_)
  refine lv_icmp_eq (tgt := 1128) hx hb dL_law_580 (by decide) (fun _ => ?_) (fun c2 => absurd h.1 c2)
  exact kk _ _ ls _ _ h.2 S hl
set_option maxHeartbeats 4000000 in
set_option maxRecDepth 100000 in
theorem law_case_12 {p : Program} {l : Launch} {e : Env} {s : State} {m : MethodId} {below : List Frame} {meth : Method} {c : Code} {b L : Nat} {xs : Nat → Int32} {D : va_G} {cy adx adr : Nat → Nat} {Rel : Mem → Mem → Prop} (hst : ∀ MX MR : Mem, Rel MX MR → ∀ (a0 : Int32) (a1 : Int32), wp_X7_crosses a0 a1 MX (fun r M1 => wp_X8_crosses a0 a1 MR (fun r2 M2 => r = r2 ∧ Rel M1 M2))) (hL : L ≤ 2560) (E : LawE p s m c cy D b L xs) {i : Nat} (hi : i + 5 ≤ L) {MX MR : Mem} (hR : Rel MX MR) {H : Heap} {locs : List Loc} (S : LWS D cy adx adr s.heap H locs MX MR) {ls : Array Slot} (hl : lv_has ls 4 [(0, .ref b), (1, .ref (adx 0)), (2, .ref (adr 0)), (3, .int (nI i))])
    (kk : ∀ (H : Heap) (locs : List Loc) (ls : Array Slot) (MX MR : Mem), Rel MX MR → LWS D cy adx adr s.heap H locs MX MR → lv_has ls 4 [(0, .ref b), (1, .ref (adx 0)), (2, .ref (adr 0)), (3, .int (nI i))] → W p l e room_1 s m #[Value.ref b] below meth c H locs 56 17578 (lw_Z below #[Value.ref b] s) (F0 m 1128 ls [])) : W p l e room_1 s m #[Value.ref b] below meth c H locs 56 17578 (lw_Z below #[Value.ref b] s) (F0 m 585 ls []) := by
  obtain ⟨hx, hb, hml, hown, hts, hK, hX, hbl, hbA⟩ := E
  refine lv_aload_n hx hb dL_law_585 rfl (lv_at hl 1 rfl) ?_
  refine lv_aload_n hx hb dL_law_586 rfl (lv_at hl 0 rfl) ?_
  refine lv_iload_n hx hb dL_law_587 rfl (lv_at hl 3 rfl) ?_
  refine lv_iconst (v := 1) hx hb dL_law_588 (by decide) ?_
  refine lv_iadd hx hb dL_law_589 ?_
  rw [show nI i + 1 = nI (i + 1) from nI_add i 1]
  refine va_sld hx hb hX hbl hbA S.2.2 (vp_in_nI (n := i + 1) (by omega) (by omega)) dL_law_590 ?_
  rw [nI_clamp (n := i + 1) (by omega)]
  refine lv_aload_n hx hb dL_law_591 rfl (lv_at hl 0 rfl) ?_
  refine lv_iload_n hx hb dL_law_592 rfl (lv_at hl 3 rfl) ?_
  refine lv_iconst (v := 2) hx hb dL_law_593 (by decide) ?_
  refine lv_iadd hx hb dL_law_594 ?_
  rw [show nI i + 2 = nI (i + 2) from nI_add i 2]
  refine va_sld hx hb hX hbl hbA S.2.2 (vp_in_nI (n := i + 2) (by omega) (by omega)) dL_law_595 ?_
  rw [nI_clamp (n := i + 2) (by omega)]
  refine law_Xi (As := [.int (xs (i + 1)), .int (xs (i + 2))]) ⟨hx, hb, hml, hown, hts⟩ hK S (ct_X7_crosses l D cy adx _ _ _ _ _ (hst _ _ hR (xs (i + 1)) (xs (i + 2)))) (cwV 2 hts gL_law_X7_crosses rfl rfl rfl (by decide +kernel) ⟨Nat.le_of_ble_eq_true rfl, Nat.le_of_ble_eq_true rfl⟩) rfl hl.1 rfl (Nat.le_of_ble_eq_true rfl) dL_law_596 ⟨Nat.le_of_ble_eq_true rfl, Nat.le_of_ble_eq_true rfl⟩ (fun rX M1 H locs h S => ?_)
  refine lv_aload_n hx hb dL_law_599 rfl (lv_at hl 2 rfl) ?_
  refine lv_aload_n hx hb dL_law_600 rfl (lv_at hl 0 rfl) ?_
  refine lv_iload_n hx hb dL_law_601 rfl (lv_at hl 3 rfl) ?_
  refine lv_iconst (v := 1) hx hb dL_law_602 (by decide) ?_
  refine lv_iadd hx hb dL_law_603 ?_
  rw [show nI i + 1 = nI (i + 1) from nI_add i 1]
  refine va_sld hx hb hX hbl hbA S.2.2 (vp_in_nI (n := i + 1) (by omega) (by omega)) dL_law_604 ?_
  rw [nI_clamp (n := i + 1) (by omega)]
  refine lv_aload_n hx hb dL_law_605 rfl (lv_at hl 0 rfl) ?_
  refine lv_iload_n hx hb dL_law_606 rfl (lv_at hl 3 rfl) ?_
  refine lv_iconst (v := 2) hx hb dL_law_607 (by decide) ?_
  refine lv_iadd hx hb dL_law_608 ?_
  rw [show nI i + 2 = nI (i + 2) from nI_add i 2]
  refine va_sld hx hb hX hbl hbA S.2.2 (vp_in_nI (n := i + 2) (by omega) (by omega)) dL_law_609 ?_
  rw [nI_clamp (n := i + 2) (by omega)]
  refine law_Ri (As := [.int (xs (i + 1)), .int (xs (i + 2))]) ⟨hx, hb, hml, hown, hts⟩ hK S (ct_X8_crosses l D cy adr _ _ _ _ _ h) (cwV 2 hts gL_law_X8_crosses rfl rfl rfl (by decide +kernel) ⟨Nat.le_of_ble_eq_true rfl, Nat.le_of_ble_eq_true rfl⟩) rfl hl.1 rfl (Nat.le_of_ble_eq_true rfl) dL_law_610 ⟨Nat.le_of_ble_eq_true rfl, Nat.le_of_ble_eq_true rfl⟩ (fun rR M2 H locs h S => ?_)
  refine lv_icmp_eq (tgt := 1128) hx hb dL_law_613 (by decide) (fun _ => ?_) (fun c2 => absurd h.1 c2)
  exact kk _ _ ls _ _ h.2 S hl
set_option maxHeartbeats 4000000 in
set_option maxRecDepth 100000 in
theorem law_case_13 {p : Program} {l : Launch} {e : Env} {s : State} {m : MethodId} {below : List Frame} {meth : Method} {c : Code} {b L : Nat} {xs : Nat → Int32} {D : va_G} {cy adx adr : Nat → Nat} {Rel : Mem → Mem → Prop} (hst : ∀ MX MR : Mem, Rel MX MR → ∀ (a0 : Int32) (a1 : Int32), wp_X7_tell a0 a1 MX (fun r M1 => wp_X8_tell a0 a1 MR (fun r2 M2 => r = r2 ∧ Rel M1 M2))) (hL : L ≤ 2560) (E : LawE p s m c cy D b L xs) {i : Nat} (hi : i + 5 ≤ L) {MX MR : Mem} (hR : Rel MX MR) {H : Heap} {locs : List Loc} (S : LWS D cy adx adr s.heap H locs MX MR) {ls : Array Slot} (hl : lv_has ls 4 [(0, .ref b), (1, .ref (adx 0)), (2, .ref (adr 0)), (3, .int (nI i))])
    (kk : ∀ (H : Heap) (locs : List Loc) (ls : Array Slot) (MX MR : Mem), Rel MX MR → LWS D cy adx adr s.heap H locs MX MR → lv_has ls 4 [(0, .ref b), (1, .ref (adx 0)), (2, .ref (adr 0)), (3, .int (nI i))] → W p l e room_1 s m #[Value.ref b] below meth c H locs 56 17578 (lw_Z below #[Value.ref b] s) (F0 m 1128 ls [])) : W p l e room_1 s m #[Value.ref b] below meth c H locs 56 17578 (lw_Z below #[Value.ref b] s) (F0 m 618 ls []) := by
  obtain ⟨hx, hb, hml, hown, hts, hK, hX, hbl, hbA⟩ := E
  refine lv_aload_n hx hb dL_law_618 rfl (lv_at hl 1 rfl) ?_
  refine lv_aload_n hx hb dL_law_619 rfl (lv_at hl 0 rfl) ?_
  refine lv_iload_n hx hb dL_law_620 rfl (lv_at hl 3 rfl) ?_
  refine lv_iconst (v := 1) hx hb dL_law_621 (by decide) ?_
  refine lv_iadd hx hb dL_law_622 ?_
  rw [show nI i + 1 = nI (i + 1) from nI_add i 1]
  refine va_sld hx hb hX hbl hbA S.2.2 (vp_in_nI (n := i + 1) (by omega) (by omega)) dL_law_623 ?_
  rw [nI_clamp (n := i + 1) (by omega)]
  refine lv_aload_n hx hb dL_law_624 rfl (lv_at hl 0 rfl) ?_
  refine lv_iload_n hx hb dL_law_625 rfl (lv_at hl 3 rfl) ?_
  refine lv_iconst (v := 2) hx hb dL_law_626 (by decide) ?_
  refine lv_iadd hx hb dL_law_627 ?_
  rw [show nI i + 2 = nI (i + 2) from nI_add i 2]
  refine va_sld hx hb hX hbl hbA S.2.2 (vp_in_nI (n := i + 2) (by omega) (by omega)) dL_law_628 ?_
  rw [nI_clamp (n := i + 2) (by omega)]
  refine law_Xi (As := [.int (xs (i + 1)), .int (xs (i + 2))]) ⟨hx, hb, hml, hown, hts⟩ hK S (ct_X7_tell l D cy adx _ _ _ _ _ (hst _ _ hR (xs (i + 1)) (xs (i + 2)))) (cwV 2 hts gL_law_X7_tell rfl rfl rfl (by decide +kernel) ⟨Nat.le_of_ble_eq_true rfl, Nat.le_of_ble_eq_true rfl⟩) rfl hl.1 rfl (Nat.le_of_ble_eq_true rfl) dL_law_629 ⟨Nat.le_of_ble_eq_true rfl, Nat.le_of_ble_eq_true rfl⟩ (fun rX M1 H locs h S => ?_)
  refine lv_aload_n hx hb dL_law_632 rfl (lv_at hl 2 rfl) ?_
  refine lv_aload_n hx hb dL_law_633 rfl (lv_at hl 0 rfl) ?_
  refine lv_iload_n hx hb dL_law_634 rfl (lv_at hl 3 rfl) ?_
  refine lv_iconst (v := 1) hx hb dL_law_635 (by decide) ?_
  refine lv_iadd hx hb dL_law_636 ?_
  rw [show nI i + 1 = nI (i + 1) from nI_add i 1]
  refine va_sld hx hb hX hbl hbA S.2.2 (vp_in_nI (n := i + 1) (by omega) (by omega)) dL_law_637 ?_
  rw [nI_clamp (n := i + 1) (by omega)]
  refine lv_aload_n hx hb dL_law_638 rfl (lv_at hl 0 rfl) ?_
  refine lv_iload_n hx hb dL_law_639 rfl (lv_at hl 3 rfl) ?_
  refine lv_iconst (v := 2) hx hb dL_law_640 (by decide) ?_
  refine lv_iadd hx hb dL_law_641 ?_
  rw [show nI i + 2 = nI (i + 2) from nI_add i 2]
  refine va_sld hx hb hX hbl hbA S.2.2 (vp_in_nI (n := i + 2) (by omega) (by omega)) dL_law_642 ?_
  rw [nI_clamp (n := i + 2) (by omega)]
  refine law_Ri (As := [.int (xs (i + 1)), .int (xs (i + 2))]) ⟨hx, hb, hml, hown, hts⟩ hK S (ct_X8_tell l D cy adr _ _ _ _ _ h) (cwV 2 hts gL_law_X8_tell rfl rfl rfl (by decide +kernel) ⟨Nat.le_of_ble_eq_true rfl, Nat.le_of_ble_eq_true rfl⟩) rfl hl.1 rfl (Nat.le_of_ble_eq_true rfl) dL_law_643 ⟨Nat.le_of_ble_eq_true rfl, Nat.le_of_ble_eq_true rfl⟩ (fun rR M2 H locs h S => ?_)
  refine lv_icmp_eq (tgt := 1128) hx hb dL_law_646 (by decide) (fun _ => ?_) (fun c2 => absurd h.1 c2)
  exact kk _ _ ls _ _ h.2 S hl
set_option maxHeartbeats 4000000 in
set_option maxRecDepth 100000 in
theorem law_case_14 {p : Program} {l : Launch} {e : Env} {s : State} {m : MethodId} {below : List Frame} {meth : Method} {c : Code} {b L : Nat} {xs : Nat → Int32} {D : va_G} {cy adx adr : Nat → Nat} {Rel : Mem → Mem → Prop} (hst : ∀ MX MR : Mem, Rel MX MR → ∀ (a0 : Int32) (a1 : Int32), wp_X7_weigh a0 a1 MX (fun r M1 => wp_X8_weigh a0 a1 MR (fun r2 M2 => r = r2 ∧ Rel M1 M2))) (hL : L ≤ 2560) (E : LawE p s m c cy D b L xs) {i : Nat} (hi : i + 5 ≤ L) {MX MR : Mem} (hR : Rel MX MR) {H : Heap} {locs : List Loc} (S : LWS D cy adx adr s.heap H locs MX MR) {ls : Array Slot} (hl : lv_has ls 4 [(0, .ref b), (1, .ref (adx 0)), (2, .ref (adr 0)), (3, .int (nI i))])
    (kk : ∀ (H : Heap) (locs : List Loc) (ls : Array Slot) (MX MR : Mem), Rel MX MR → LWS D cy adx adr s.heap H locs MX MR → lv_has ls 4 [(0, .ref b), (1, .ref (adx 0)), (2, .ref (adr 0)), (3, .int (nI i))] → W p l e room_1 s m #[Value.ref b] below meth c H locs 56 17578 (lw_Z below #[Value.ref b] s) (F0 m 1128 ls [])) : W p l e room_1 s m #[Value.ref b] below meth c H locs 56 17578 (lw_Z below #[Value.ref b] s) (F0 m 651 ls []) := by
  obtain ⟨hx, hb, hml, hown, hts, hK, hX, hbl, hbA⟩ := E
  refine lv_aload_n hx hb dL_law_651 rfl (lv_at hl 1 rfl) ?_
  refine lv_aload_n hx hb dL_law_652 rfl (lv_at hl 0 rfl) ?_
  refine lv_iload_n hx hb dL_law_653 rfl (lv_at hl 3 rfl) ?_
  refine lv_iconst (v := 1) hx hb dL_law_654 (by decide) ?_
  refine lv_iadd hx hb dL_law_655 ?_
  rw [show nI i + 1 = nI (i + 1) from nI_add i 1]
  refine va_sld hx hb hX hbl hbA S.2.2 (vp_in_nI (n := i + 1) (by omega) (by omega)) dL_law_656 ?_
  rw [nI_clamp (n := i + 1) (by omega)]
  refine lv_aload_n hx hb dL_law_657 rfl (lv_at hl 0 rfl) ?_
  refine lv_iload_n hx hb dL_law_658 rfl (lv_at hl 3 rfl) ?_
  refine lv_iconst (v := 2) hx hb dL_law_659 (by decide) ?_
  refine lv_iadd hx hb dL_law_660 ?_
  rw [show nI i + 2 = nI (i + 2) from nI_add i 2]
  refine va_sld hx hb hX hbl hbA S.2.2 (vp_in_nI (n := i + 2) (by omega) (by omega)) dL_law_661 ?_
  rw [nI_clamp (n := i + 2) (by omega)]
  refine law_Xi (As := [.int (xs (i + 1)), .int (xs (i + 2))]) ⟨hx, hb, hml, hown, hts⟩ hK S (ct_X7_weigh l D cy adx _ _ _ _ _ (hst _ _ hR (xs (i + 1)) (xs (i + 2)))) (cwV 2 hts gL_law_X7_weigh rfl rfl rfl (by decide +kernel) ⟨Nat.le_of_ble_eq_true rfl, Nat.le_of_ble_eq_true rfl⟩) rfl hl.1 rfl (Nat.le_of_ble_eq_true rfl) dL_law_662 ⟨Nat.le_of_ble_eq_true rfl, Nat.le_of_ble_eq_true rfl⟩ (fun rX M1 H locs h S => ?_)
  refine lv_aload_n hx hb dL_law_665 rfl (lv_at hl 2 rfl) ?_
  refine lv_aload_n hx hb dL_law_666 rfl (lv_at hl 0 rfl) ?_
  refine lv_iload_n hx hb dL_law_667 rfl (lv_at hl 3 rfl) ?_
  refine lv_iconst (v := 1) hx hb dL_law_668 (by decide) ?_
  refine lv_iadd hx hb dL_law_669 ?_
  rw [show nI i + 1 = nI (i + 1) from nI_add i 1]
  refine va_sld hx hb hX hbl hbA S.2.2 (vp_in_nI (n := i + 1) (by omega) (by omega)) dL_law_670 ?_
  rw [nI_clamp (n := i + 1) (by omega)]
  refine lv_aload_n hx hb dL_law_671 rfl (lv_at hl 0 rfl) ?_
  refine lv_iload_n hx hb dL_law_672 rfl (lv_at hl 3 rfl) ?_
  refine lv_iconst (v := 2) hx hb dL_law_673 (by decide) ?_
  refine lv_iadd hx hb dL_law_674 ?_
  rw [show nI i + 2 = nI (i + 2) from nI_add i 2]
  refine va_sld hx hb hX hbl hbA S.2.2 (vp_in_nI (n := i + 2) (by omega) (by omega)) dL_law_675 ?_
  rw [nI_clamp (n := i + 2) (by omega)]
  refine law_Ri (As := [.int (xs (i + 1)), .int (xs (i + 2))]) ⟨hx, hb, hml, hown, hts⟩ hK S (ct_X8_weigh l D cy adr _ _ _ _ _ h) (cwV 2 hts gL_law_X8_weigh rfl rfl rfl (by decide +kernel) ⟨Nat.le_of_ble_eq_true rfl, Nat.le_of_ble_eq_true rfl⟩) rfl hl.1 rfl (Nat.le_of_ble_eq_true rfl) dL_law_676 ⟨Nat.le_of_ble_eq_true rfl, Nat.le_of_ble_eq_true rfl⟩ (fun rR M2 H locs h S => ?_)
  refine lv_icmp_eq (tgt := 1128) hx hb dL_law_679 (by decide) (fun _ => ?_) (fun c2 => absurd h.1 c2)
  exact kk _ _ ls _ _ h.2 S hl
set_option maxHeartbeats 4000000 in
set_option maxRecDepth 100000 in
theorem law_case_15 {p : Program} {l : Launch} {e : Env} {s : State} {m : MethodId} {below : List Frame} {meth : Method} {c : Code} {b L : Nat} {xs : Nat → Int32} {D : va_G} {cy adx adr : Nat → Nat} {Rel : Mem → Mem → Prop} (hst : ∀ MX MR : Mem, Rel MX MR → wp_X7_cutting MX (fun r M1 => wp_X8_cutting MR (fun r2 M2 => r = r2 ∧ Rel M1 M2))) (hL : L ≤ 2560) (E : LawE p s m c cy D b L xs) {i : Nat} (hi : i + 5 ≤ L) {MX MR : Mem} (hR : Rel MX MR) {H : Heap} {locs : List Loc} (S : LWS D cy adx adr s.heap H locs MX MR) {ls : Array Slot} (hl : lv_has ls 4 [(0, .ref b), (1, .ref (adx 0)), (2, .ref (adr 0)), (3, .int (nI i))])
    (kk : ∀ (H : Heap) (locs : List Loc) (ls : Array Slot) (MX MR : Mem), Rel MX MR → LWS D cy adx adr s.heap H locs MX MR → lv_has ls 4 [(0, .ref b), (1, .ref (adx 0)), (2, .ref (adr 0)), (3, .int (nI i))] → W p l e room_1 s m #[Value.ref b] below meth c H locs 56 17578 (lw_Z below #[Value.ref b] s) (F0 m 1128 ls [])) : W p l e room_1 s m #[Value.ref b] below meth c H locs 56 17578 (lw_Z below #[Value.ref b] s) (F0 m 684 ls []) := by
  obtain ⟨hx, hb, hml, hown, hts, hK, hX, hbl, hbA⟩ := E
  refine lv_aload_n hx hb dL_law_684 rfl (lv_at hl 1 rfl) ?_
  refine law_Xl (As := []) ⟨hx, hb, hml, hown, hts⟩ hK S (ct_X7_cutting l D cy adx _ _ _ (hst _ _ hR)) (cwV 0 hts gL_law_X7_cutting rfl rfl rfl (by decide +kernel) ⟨Nat.le_of_ble_eq_true rfl, Nat.le_of_ble_eq_true rfl⟩) rfl hl.1 rfl (Nat.le_of_ble_eq_true rfl) dL_law_685 ⟨Nat.le_of_ble_eq_true rfl, Nat.le_of_ble_eq_true rfl⟩ (fun rX M1 H locs h S => ?_)
  refine lv_aload_n hx hb dL_law_688 rfl (lv_at hl 2 rfl) ?_
  refine law_Rl (As := []) ⟨hx, hb, hml, hown, hts⟩ hK S (ct_X8_cutting l D cy adr _ _ _ h) (cwV 0 hts gL_law_X8_cutting rfl rfl rfl (by decide +kernel) ⟨Nat.le_of_ble_eq_true rfl, Nat.le_of_ble_eq_true rfl⟩) rfl hl.1 rfl (Nat.le_of_ble_eq_true rfl) dL_law_689 ⟨Nat.le_of_ble_eq_true rfl, Nat.le_of_ble_eq_true rfl⟩ (fun rR M2 H locs h S => ?_)
  refine W.lcmp hx hb dL_law_692 ?_
  refine lv_if_eq (tgt := 1128) hx hb dL_law_693 (by decide) (fun c => ?_) (fun c => absurd (by rw [h.1]; exact lg_cmp_self _) c)
  exact kk _ _ ls _ _ h.2 S hl
set_option maxHeartbeats 4000000 in
set_option maxRecDepth 100000 in
theorem law_case_16 {p : Program} {l : Launch} {e : Env} {s : State} {m : MethodId} {below : List Frame} {meth : Method} {c : Code} {b L : Nat} {xs : Nat → Int32} {D : va_G} {cy adx adr : Nat → Nat} {Rel : Mem → Mem → Prop} (hst : ∀ MX MR : Mem, Rel MX MR → ∀ (a0 : Int32), wp_X7_has a0 MX (fun r M1 => wp_X8_has a0 MR (fun r2 M2 => r = r2 ∧ Rel M1 M2))) (hL : L ≤ 2560) (E : LawE p s m c cy D b L xs) {i : Nat} (hi : i + 5 ≤ L) {MX MR : Mem} (hR : Rel MX MR) {H : Heap} {locs : List Loc} (S : LWS D cy adx adr s.heap H locs MX MR) {ls : Array Slot} (hl : lv_has ls 4 [(0, .ref b), (1, .ref (adx 0)), (2, .ref (adr 0)), (3, .int (nI i))])
    (kk : ∀ (H : Heap) (locs : List Loc) (ls : Array Slot) (MX MR : Mem), Rel MX MR → LWS D cy adx adr s.heap H locs MX MR → lv_has ls 4 [(0, .ref b), (1, .ref (adx 0)), (2, .ref (adr 0)), (3, .int (nI i))] → W p l e room_1 s m #[Value.ref b] below meth c H locs 56 17578 (lw_Z below #[Value.ref b] s) (F0 m 1128 ls [])) : W p l e room_1 s m #[Value.ref b] below meth c H locs 56 17578 (lw_Z below #[Value.ref b] s) (F0 m 698 ls []) := by
  obtain ⟨hx, hb, hml, hown, hts, hK, hX, hbl, hbA⟩ := E
  refine lv_aload_n hx hb dL_law_698 rfl (lv_at hl 1 rfl) ?_
  refine lv_aload_n hx hb dL_law_699 rfl (lv_at hl 0 rfl) ?_
  refine lv_iload_n hx hb dL_law_700 rfl (lv_at hl 3 rfl) ?_
  refine lv_iconst (v := 1) hx hb dL_law_701 (by decide) ?_
  refine lv_iadd hx hb dL_law_702 ?_
  rw [show nI i + 1 = nI (i + 1) from nI_add i 1]
  refine va_sld hx hb hX hbl hbA S.2.2 (vp_in_nI (n := i + 1) (by omega) (by omega)) dL_law_703 ?_
  rw [nI_clamp (n := i + 1) (by omega)]
  refine law_Xi (As := [.int (xs (i + 1))]) ⟨hx, hb, hml, hown, hts⟩ hK S (ct_X7_has l D cy adx _ _ _ _ (hst _ _ hR (xs (i + 1)))) (cwV 1 hts gL_law_X7_has rfl rfl rfl (by decide +kernel) ⟨Nat.le_of_ble_eq_true rfl, Nat.le_of_ble_eq_true rfl⟩) rfl hl.1 rfl (Nat.le_of_ble_eq_true rfl) dL_law_704 ⟨Nat.le_of_ble_eq_true rfl, Nat.le_of_ble_eq_true rfl⟩ (fun rX M1 H locs h S => ?_)
  refine lv_aload_n hx hb dL_law_707 rfl (lv_at hl 2 rfl) ?_
  refine lv_aload_n hx hb dL_law_708 rfl (lv_at hl 0 rfl) ?_
  refine lv_iload_n hx hb dL_law_709 rfl (lv_at hl 3 rfl) ?_
  refine lv_iconst (v := 1) hx hb dL_law_710 (by decide) ?_
  refine lv_iadd hx hb dL_law_711 ?_
  rw [show nI i + 1 = nI (i + 1) from nI_add i 1]
  refine va_sld hx hb hX hbl hbA S.2.2 (vp_in_nI (n := i + 1) (by omega) (by omega)) dL_law_712 ?_
  rw [nI_clamp (n := i + 1) (by omega)]
  refine law_Ri (As := [.int (xs (i + 1))]) ⟨hx, hb, hml, hown, hts⟩ hK S (ct_X8_has l D cy adr _ _ _ _ h) (cwV 1 hts gL_law_X8_has rfl rfl rfl (by decide +kernel) ⟨Nat.le_of_ble_eq_true rfl, Nat.le_of_ble_eq_true rfl⟩) rfl hl.1 rfl (Nat.le_of_ble_eq_true rfl) dL_law_713 ⟨Nat.le_of_ble_eq_true rfl, Nat.le_of_ble_eq_true rfl⟩ (fun rR M2 H locs h S => ?_)
  refine lv_icmp_eq (tgt := 1128) hx hb dL_law_716 (by decide) (fun _ => ?_) (fun c2 => absurd h.1 c2)
  exact kk _ _ ls _ _ h.2 S hl
set_option maxHeartbeats 4000000 in
set_option maxRecDepth 100000 in
theorem law_case_17 {p : Program} {l : Launch} {e : Env} {s : State} {m : MethodId} {below : List Frame} {meth : Method} {c : Code} {b L : Nat} {xs : Nat → Int32} {D : va_G} {cy adx adr : Nat → Nat} {Rel : Mem → Mem → Prop} (hst : ∀ MX MR : Mem, Rel MX MR → wp_X7_thirds MX (fun r M1 => wp_X8_thirds MR (fun r2 M2 => r = r2 ∧ Rel M1 M2))) (hL : L ≤ 2560) (E : LawE p s m c cy D b L xs) {i : Nat} (hi : i + 5 ≤ L) {MX MR : Mem} (hR : Rel MX MR) {H : Heap} {locs : List Loc} (S : LWS D cy adx adr s.heap H locs MX MR) {ls : Array Slot} (hl : lv_has ls 4 [(0, .ref b), (1, .ref (adx 0)), (2, .ref (adr 0)), (3, .int (nI i))])
    (kk : ∀ (H : Heap) (locs : List Loc) (ls : Array Slot) (MX MR : Mem), Rel MX MR → LWS D cy adx adr s.heap H locs MX MR → lv_has ls 4 [(0, .ref b), (1, .ref (adx 0)), (2, .ref (adr 0)), (3, .int (nI i))] → W p l e room_1 s m #[Value.ref b] below meth c H locs 56 17578 (lw_Z below #[Value.ref b] s) (F0 m 1128 ls [])) : W p l e room_1 s m #[Value.ref b] below meth c H locs 56 17578 (lw_Z below #[Value.ref b] s) (F0 m 721 ls []) := by
  obtain ⟨hx, hb, hml, hown, hts, hK, hX, hbl, hbA⟩ := E
  refine lv_aload_n hx hb dL_law_721 rfl (lv_at hl 1 rfl) ?_
  refine law_Xi (As := []) ⟨hx, hb, hml, hown, hts⟩ hK S (ct_X7_thirds l D cy adx _ _ _ (hst _ _ hR)) (cwV 0 hts gL_law_X7_thirds rfl rfl rfl (by decide +kernel) ⟨Nat.le_of_ble_eq_true rfl, Nat.le_of_ble_eq_true rfl⟩) rfl hl.1 rfl (Nat.le_of_ble_eq_true rfl) dL_law_722 ⟨Nat.le_of_ble_eq_true rfl, Nat.le_of_ble_eq_true rfl⟩ (fun rX M1 H locs h S => ?_)
  refine lv_aload_n hx hb dL_law_725 rfl (lv_at hl 2 rfl) ?_
  refine law_Ri (As := []) ⟨hx, hb, hml, hown, hts⟩ hK S (ct_X8_thirds l D cy adr _ _ _ h) (cwV 0 hts gL_law_X8_thirds rfl rfl rfl (by decide +kernel) ⟨Nat.le_of_ble_eq_true rfl, Nat.le_of_ble_eq_true rfl⟩) rfl hl.1 rfl (Nat.le_of_ble_eq_true rfl) dL_law_726 ⟨Nat.le_of_ble_eq_true rfl, Nat.le_of_ble_eq_true rfl⟩ (fun rR M2 H locs h S => ?_)
  refine lv_icmp_eq (tgt := 1128) hx hb dL_law_729 (by decide) (fun _ => ?_) (fun c2 => absurd h.1 c2)
  exact kk _ _ ls _ _ h.2 S hl
