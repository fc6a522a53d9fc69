/-! ===== SHEETS: tear, put, at ===== -/
theorem pred_toInt {L : Nat} (h : L < 2 ^ 31) : (nI L - 1).toInt = (L : Int) - 1 := by
  cases L with
  | zero => decide
  | succ L => rw [nI_pred, nI_toInt (by omega)]; omega
def lowb (l : Int32) (v : Int64) : Int64 := if l = 0 then v.toInt32.toInt8.toInt32.toInt64 else if l = 1 then v.toInt32.toInt16.toInt32.toInt64 else if l = 2 then v.toInt32.toInt64 else v
theorem l_lit {l : Int32} {k : Int} {c : Int32} (hc : c.toInt = k) : l.toInt = k ↔ l = c := by rw [← hc, Int32.toInt_inj]
theorem lowb_br {l : Int32} {v : Int64} {Q : Int64 → Prop} (q : Q (lowb l v)) : (l.toInt < 0 ∨ 2 < l.toInt → Q v) ∧ (l.toInt = 0 → Q v.toInt32.toInt8.toInt32.toInt64) ∧ (l.toInt = 1 → Q v.toInt32.toInt16.toInt32.toInt64) ∧ (l.toInt = 2 → Q v.toInt32.toInt64) := by
  have c0 : l.toInt = 0 ↔ l = 0 := l_lit (by decide)
  have c1 : l.toInt = 1 ↔ l = 1 := l_lit (by decide)
  have c2 : l.toInt = 2 ↔ l = 2 := l_lit (by decide)
  unfold lowb at q
  refine ⟨fun h => ?_, fun h => ?_, fun h => ?_, fun h => ?_⟩
  · rw [if_neg (fun e => by have := c0.mpr e; omega), if_neg (fun e => by have := c1.mpr e; omega), if_neg (fun e => by have := c2.mpr e; omega)] at q
    exact q
  · rw [if_pos (c0.mp h)] at q
    exact q
  · rw [if_neg (fun e => by have := c0.mpr e; omega), if_pos (c1.mp h)] at q
    exact q
  · rw [if_neg (fun e => by have := c0.mpr e; omega), if_neg (fun e => by have := c1.mpr e; omega), if_pos (c2.mp h)] at q
    exact q
theorem fnd {MX MR : Mem} (h : Rel MX MR) (v : Int32) : wp_X8_finds v MR (fun r2 M2 => v = r2 ∧ Rel (upI MX 0 10 (MX.1 0 10 + 1)) M2) := ⟨rfl, Rel_found h⟩
theorem fnd64 {MX MR : Mem} (h : Rel MX MR) (v : Int32) : wp_X8_finds v MR (fun r2 M2 => v.toInt64 = r2.toInt64 ∧ Rel (upI MX 0 10 (MX.1 0 10 + 1)) M2) := ⟨rfl, Rel_found h⟩
section RP
variable {MR : Mem} {s : Nat} {a1 : Int32} {a2 : Int64}
theorem rg_s (hs : s < 4) : (0 : Int64).toInt ≤ (nI s).toInt64.toInt ∧ (nI s).toInt64.toInt ≤ (3 : Int64).toInt := by
  rw [t32, nI_toInt (by omega), show (0 : Int64).toInt = 0 by decide, show (3 : Int64).toInt = 3 by decide]
  omega
theorem rw_put_null (hs : s < 4) (h : MR.1 1 s = -1) {Q : Int32 → Mem → Prop} (q : wp_X8_finds (-11) (upI MR 0 0 0) Q) : wp_X8_put (nI s) a1 a2 MR Q := by
  unfold wp_X8_put
  refine rw_in (fun _ => bs_t (by decide) ⟨vp_in_nI hs (by omega), ?_⟩) (fun n => absurd (rg_s hs) n)
  rw [nI_clamp (by omega)]
  refine br_f ?_ q
  show ¬ 0 ≤ MR.1 1 s
  rw [h]; decide
theorem rw_put_place (hs : s < 4) {L : Nat} (hL : L ≤ 20) (h : MR.1 1 s = nI L) (hn : ¬ (0 ≤ a1.toInt ∧ a1.toInt < L)) {Q : Int32 → Mem → Prop} (q : wp_X8_finds (-12) (upI MR 0 0 0) Q) : wp_X8_put (nI s) a1 a2 MR Q := by
  have z0 : (0 : Int64).toInt = 0 := by decide
  have v4 : vp_in (nI s) 4 := vp_in_nI hs (by omega)
  unfold wp_X8_put
  refine rw_in (fun _ => bs_t (by decide) ⟨v4, ?_⟩) (fun n => absurd (rg_s hs) n)
  rw [nI_clamp (by omega), show (upI MR 0 0 0).1 1 s = nI L from h]
  refine br_t (nI_pos' (by omega)) ⟨v4, rw_in (fun n => absurd n ?_) (fun _ => bs_f rfl q)⟩
  rw [t32, t32, z0, pred_toInt (by omega)]
  omega
theorem rw_put_ok (hs : s < 4) {L j : Nat} (hL : L ≤ 20) (h : MR.1 1 s = nI L) (hj : j < L) {Q : Int32 → Mem → Prop} (q : Q 1 (upJ (upI MR 0 0 0) 3 (20 * s + j) (lowb (MR.1 2 s) a2))) : wp_X8_put (nI s) (nI j) a2 MR Q := by
  have z0 : (0 : Int64).toInt = 0 := by decide
  have v4 : vp_in (nI s) 4 := vp_in_nI hs (by omega)
  have v80 : vp_in (nI (20 * s + j)) 80 := vp_in_nI (by omega) (by omega)
  unfold wp_X8_put
  refine rw_in (fun _ => bs_t (by decide) ⟨v4, ?_⟩) (fun n => absurd (rg_s hs) n)
  rw [nI_clamp (by omega), show (upI MR 0 0 0).1 1 s = nI L from h]
  refine br_t (nI_pos' (by omega)) ⟨v4, rw_in (fun _ => ?_) (fun n => absurd ?_ n)⟩
  · refine bs_t (by decide) ⟨v4, ?_⟩
    rw [show (upI MR 0 0 0).1 2 s = MR.1 2 s from rfl, ix20, nI_clamp (by omega)]
    unfold lowb at q
    by_cases h0 : MR.1 2 s = 0
    · rw [if_pos h0] at q
      exact bs_f h0 ⟨v80, q⟩
    · rw [if_neg h0] at q
      refine bs_t h0 ⟨v4, ?_⟩
      by_cases h1 : MR.1 2 s = 1
      · rw [if_pos h1] at q
        exact bs_f h1 ⟨v80, q⟩
      · rw [if_neg h1] at q
        refine bs_t h1 ⟨v4, ?_⟩
        by_cases h2 : MR.1 2 s = 2
        · rw [if_pos h2] at q
          exact bs_f h2 ⟨v80, q⟩
        · rw [if_neg h2] at q
          exact bs_t h2 ⟨v80, q⟩
  · rw [t32, t32, z0, pred_toInt (by omega), nI_toInt (by omega)]
    omega
theorem rg_l (hl : 0 ≤ a1.toInt ∧ a1.toInt ≤ 3) : (0 : Int64).toInt ≤ a1.toInt64.toInt ∧ a1.toInt64.toInt ≤ (3 : Int64).toInt := by
  rw [t32, show (0 : Int64).toInt = 0 by decide, show (3 : Int64).toInt = 3 by decide]
  omega
theorem rg_n (hl : ¬ (0 ≤ a1.toInt ∧ a1.toInt ≤ 3)) : ¬ ((0 : Int64).toInt ≤ a1.toInt64.toInt ∧ a1.toInt64.toInt ≤ (3 : Int64).toInt) := by
  rw [t32, show (0 : Int64).toInt = 0 by decide, show (3 : Int64).toInt = 3 by decide]
  omega
/-- at, up to the sheet -/
theorem rw_at_null (hs : s < 4) (hl : 0 ≤ a1.toInt ∧ a1.toInt ≤ 3) {a3 : Int32} (h : MR.1 1 s = -1) {Q : Int64 → Mem → Prop} (q : wp_X8_finds (-11) (upI MR 0 0 0) (fun r M => Q r.toInt64 M)) : wp_X8_at (nI s) a1 a3 MR Q := by
  unfold wp_X8_at
  refine rw_in (fun _ => bs_t (by decide) (rw_in (fun _ => bs_t (by decide) ⟨vp_in_nI hs (by omega), ?_⟩) (fun n => absurd (rg_l hl) n))) (fun n => absurd (rg_s hs) n)
  rw [nI_clamp (by omega)]
  refine br_f ?_ q
  show ¬ 0 ≤ MR.1 1 s
  rw [h]; decide
theorem rw_at_cast (hs : s < 4) (hl : 0 ≤ a1.toInt ∧ a1.toInt ≤ 3) {a3 : Int32} {L : Nat} (hL : L ≤ 20) (h : MR.1 1 s = nI L) (hc : ¬ MR.1 2 s = a1) {Q : Int64 → Mem → Prop} (q : wp_X8_finds (-13) (upI MR 0 0 0) (fun r M => Q r.toInt64 M)) : wp_X8_at (nI s) a1 a3 MR Q := by
  have v4 : vp_in (nI s) 4 := vp_in_nI hs (by omega)
  unfold wp_X8_at
  refine rw_in (fun _ => bs_t (by decide) (rw_in (fun _ => bs_t (by decide) ⟨v4, ?_⟩) (fun n => absurd (rg_l hl) n))) (fun n => absurd (rg_s hs) n)
  rw [nI_clamp (by omega), show (upI MR 0 0 0).1 1 s = nI L from h]
  exact br_t (nI_pos' (by omega)) ⟨v4, br_f hc q⟩
theorem rw_at_place (hs : s < 4) (hl : 0 ≤ a1.toInt ∧ a1.toInt ≤ 3) {a3 : Int32} {L : Nat} (hL : L ≤ 20) (h : MR.1 1 s = nI L) (hc : MR.1 2 s = a1) (hn : ¬ (0 ≤ a3.toInt ∧ a3.toInt < L)) {Q : Int64 → Mem → Prop} (q : wp_X8_finds (-12) (upI MR 0 0 0) (fun r M => Q r.toInt64 M)) : wp_X8_at (nI s) a1 a3 MR Q := by
  have v4 : vp_in (nI s) 4 := vp_in_nI hs (by omega)
  unfold wp_X8_at
  refine rw_in (fun _ => bs_t (by decide) (rw_in (fun _ => bs_t (by decide) ⟨v4, ?_⟩) (fun n => absurd (rg_l hl) n))) (fun n => absurd (rg_s hs) n)
  rw [nI_clamp (by omega), show (upI MR 0 0 0).1 1 s = nI L from h]
  refine br_t (nI_pos' (by omega)) ⟨v4, br_t hc ⟨v4, rw_in (fun n => absurd n ?_) (fun _ => br_t rfl q)⟩⟩
  rw [t32, t32, show (0 : Int64).toInt = 0 by decide, pred_toInt (by omega)]
  omega
theorem rw_at_ok (hs : s < 4) (hl : 0 ≤ a1.toInt ∧ a1.toInt ≤ 3) {L j : Nat} (hL : L ≤ 20) (h : MR.1 1 s = nI L) (hc : MR.1 2 s = a1) (hj : j < L) {Q : Int64 → Mem → Prop} (q : Q (MR.2 3 (20 * s + j)) (upI MR 0 0 0)) : wp_X8_at (nI s) a1 (nI j) MR Q := by
  have v4 : vp_in (nI s) 4 := vp_in_nI hs (by omega)
  unfold wp_X8_at
  refine rw_in (fun _ => bs_t (by decide) (rw_in (fun _ => bs_t (by decide) ⟨v4, ?_⟩) (fun n => absurd (rg_l hl) n))) (fun n => absurd (rg_s hs) n)
  rw [nI_clamp (by omega), show (upI MR 0 0 0).1 1 s = nI L from h]
  refine br_t (nI_pos' (by omega)) ⟨v4, br_t hc ⟨v4, rw_in (fun _ => br_f (by decide) ?_) (fun n => absurd ?_ n)⟩⟩
  · rw [ix20, nI_clamp (by omega)]
    exact ⟨vp_in_nI (by omega) (by omega), q⟩
  · rw [t32, t32, show (0 : Int64).toInt = 0 by decide, pred_toInt (by omega), nI_toInt (by omega)]
    omega
end RP

theorem xw_hasPlace_2 {a : Int32} {L : Nat} (hL : L ≤ 20) {M : Mem} (h : M.1 2 3 = nI L) {Q : Int32 → Mem → Prop} (q1 : 0 ≤ a.toInt ∧ a.toInt < L → Q 1 M) (q0 : ¬ (0 ≤ a.toInt ∧ a.toInt < L) → Q 0 M) : wp_X5_hasPlace_2 a M Q := by
  unfold wp_X5_hasPlace_2
  rw [h, in_lt, in_le, nI_toInt (by omega), show (0 : Int32).toInt = 0 by decide]
  by_cases h1 : a.toInt < 0
  · exact br_t h1 (q0 (by omega))
  · refine br_f h1 ?_
    by_cases h2 : (L : Int) ≤ a.toInt
    · exact br_t h2 (q0 (by omega))
    · exact br_f h2 (q1 (by omega))

theorem p_put_0 {MX MR : Mem} (h : Rel MX MR) (a1 : Int32) (a2 : Int64) : ((MX.1 2 1 = 0 → wp_X5_hasPlace_2 a1 MX (fun r2 M2 => ((¬ r2 = 0 → wp_X5_lowestBits_2 a2 M2 (fun r3 M3 => (vp_in a1 20 ∧ (fun r M1 => wp_X8_put 0 a1 a2 MR (fun r2 M2 => r = r2 ∧ Rel M1 M2)) 1 (upJ M3 6 a1.toNatClampNeg r3)))) ∧ (r2 = 0 → wp_X7_found (-12) M2 (fun r M1 => wp_X8_put 0 a1 a2 MR (fun r2 M2 => r = r2 ∧ Rel M1 M2)))))) ∧ (¬ (MX.1 2 1) = 0 → wp_X7_found (-11) MX (fun r M1 => wp_X8_put 0 a1 a2 MR (fun r2 M2 => r = r2 ∧ Rel M1 M2)))) := by
  have h' := Rel_thr h
  obtain ⟨⟨h0, h1, h2, h3⟩, hr⟩ := h
  rcases h0 with ⟨m0, L, hL, hn, hn', hl, ha⟩ | ⟨m1, hn'⟩
  · have pl : ¬ (0 ≤ a1.toInt ∧ a1.toInt < L) → wp_X8_put 0 a1 a2 MR (fun r2 M2 => (-12) = r2 ∧ Rel (upI MX 0 10 (MX.1 0 10 + 1)) M2) := fun hp => rw_put_place (s := 0) (by omega) hL hn' hp (fnd h' _)
    refine br_t m0 (xw_hasPlace_2 hL hn (fun hp => bs_t (by decide) (lowb_br (Q := fun r3 => (vp_in a1 20 ∧ (fun r M1 => wp_X8_put 0 a1 a2 MR (fun r2 M2 => r = r2 ∧ Rel M1 M2)) 1 (upJ MX 6 a1.toNatClampNeg r3))) ?_)) (fun hp => bs_f rfl (pl hp)))
    obtain ⟨j, hj, rfl, e⟩ := to_nI hp.1
    have hjL : j < L := by omega
    rw [nI_clamp hj, ← hl]
    refine ⟨vp_in_nI (by omega) (by omega), rw_put_ok (s := 0) (by omega) hL hn' hjL ⟨rfl, ⟨Or.inl ⟨m0, L, hL, hn, hn', hl, fun i hi => ?_⟩, Sh1_cong h1 (fun i hi => rfl) (fun i hi => show gup MR.2 3 (0 + j) (lowb (MR.1 2 0) a2) 3 (20 + i) = MR.2 3 (20 + i) from gup_oth (by omega)), Sh1_cong h2 (fun i hi => rfl) (fun i hi => show gup MR.2 3 (0 + j) (lowb (MR.1 2 0) a2) 3 (40 + i) = MR.2 3 (40 + i) from gup_oth (by omega)), Sh1_cong h3 (fun i hi => rfl) (fun i hi => show gup MR.2 3 (0 + j) (lowb (MR.1 2 0) a2) 3 (60 + i) = MR.2 3 (60 + i) from gup_oth (by omega))⟩, RsR_eq (RsR_thr hr) rfl rfl⟩⟩
    show gup MR.2 3 (0 + j) _ 3 (0 + i) = gup MX.2 6 j _ 6 i
    by_cases e : i = j
    · rw [e, gup_same, gup_same]
    · rw [gup_oth e, gup_oth (by omega)]
      exact ha i hi
  · have pn : wp_X8_put 0 a1 a2 MR (fun r2 M2 => (-11) = r2 ∧ Rel (upI MX 0 10 (MX.1 0 10 + 1)) M2) := rw_put_null (s := 0) (by omega) hn' (fnd h' _)
    exact br_f (by rw [m1]; decide) pn

theorem p_at_0 {MX MR : Mem} (h : Rel MX MR) {a1 : Int32} (hla : 0 ≤ a1.toInt ∧ a1.toInt ≤ 3) (a2 : Int32) : ((MX.1 2 1 = 0 → ((MX.1 2 2 = a1 → wp_X5_hasPlace_2 a2 MX (fun r3 M3 => ((¬ r3 = 0 → (vp_in a2 20 ∧ (fun r M1 => wp_X8_at 0 a1 a2 MR (fun r2 M2 => r = r2 ∧ Rel M1 M2)) (M3.2 6 a2.toNatClampNeg) M3)) ∧ (r3 = 0 → wp_X7_found (-12) M3 (fun r4 M4 => (fun r M1 => wp_X8_at 0 a1 a2 MR (fun r2 M2 => r = r2 ∧ Rel M1 M2)) r4.toInt64 M4))))) ∧ (¬ MX.1 2 2 = a1 → wp_X7_found (-13) MX (fun r5 M5 => (fun r M1 => wp_X8_at 0 a1 a2 MR (fun r2 M2 => r = r2 ∧ Rel M1 M2)) r5.toInt64 M5)))) ∧ (¬ (MX.1 2 1) = 0 → wp_X7_found (-11) MX (fun r5 M5 => (fun r M1 => wp_X8_at 0 a1 a2 MR (fun r2 M2 => r = r2 ∧ Rel M1 M2)) r5.toInt64 M5))) := by
  have h' := Rel_thr h
  obtain ⟨⟨h0, h1, h2, h3⟩, hr⟩ := h
  rcases h0 with ⟨m0, L, hL, hn, hn', hl, ha⟩ | ⟨m1, hn'⟩
  · refine br_t m0 ?_
    by_cases hc : MX.1 2 2 = a1
    · have pl : ¬ (0 ≤ a2.toInt ∧ a2.toInt < L) → wp_X8_at 0 a1 a2 MR (fun r2 M2 => (-12 : Int32).toInt64 = r2 ∧ Rel (upI MX 0 10 (MX.1 0 10 + 1)) M2) := fun hp => rw_at_place (s := 0) (by omega) hla hL hn' (hl.trans hc) hp (fnd64 h' _)
      refine br_t hc (xw_hasPlace_2 hL hn (fun hp => bs_t (by decide) ?_) (fun hp => bs_f rfl (pl hp)))
      obtain ⟨j, hj, rfl, e⟩ := to_nI hp.1
      have hjL : j < L := by omega
      rw [nI_clamp hj]
      exact ⟨vp_in_nI (by omega) (by omega), rw_at_ok (s := 0) (by omega) hla hL hn' (hl.trans hc) hjL ⟨(ha j hjL).symm, h'⟩⟩
    · have pc : wp_X8_at 0 a1 a2 MR (fun r2 M2 => (-13 : Int32).toInt64 = r2 ∧ Rel (upI MX 0 10 (MX.1 0 10 + 1)) M2) := rw_at_cast (s := 0) (by omega) hla hL hn' (fun z => hc (hl ▸ z)) (fnd64 h' _)
      exact br_f hc pc
  · have pn : wp_X8_at 0 a1 a2 MR (fun r2 M2 => (-11 : Int32).toInt64 = r2 ∧ Rel (upI MX 0 10 (MX.1 0 10 + 1)) M2) := rw_at_null (s := 0) (by omega) hla hn' (fnd64 h' _)
    exact br_f (by rw [m1]; decide) pn

theorem p_tear_0 {MX MR : Mem} (h : Rel MX MR) {Q : Int32 → Mem → Prop} (q : Q = fun r M1 => wp_X8_tear 0 MR (fun r2 M2 => r = r2 ∧ Rel M1 M2)) : ((MX.1 2 1 = 0 → at_X7_tear 0 Q 1 0 MX) ∧ (¬ (MX.1 2 1) = 0 → at_X7_tear 0 Q 1 1 MX)) := by
  have key : ∀ v : Int32, wp_X8_tear 0 MR (fun r2 M2 => v = r2 ∧ Rel (upI MX 2 1 1) M2) → at_X7_tear 0 Q 1 v MX := fun v hv => by
    refine at_X7_tear_fold ⟨vp_in_nI (n := 0) (by omega) (by omega), fun _ => by rw [q]; exact hv, fun n => absurd n (by decide), fun n => absurd n (by decide), fun n => absurd n (by decide)⟩
  have v4 : vp_in 0 4 := vp_in_nI (n := 0) (by omega) (by omega)
  obtain ⟨⟨h0, h1, h2, h3⟩, hr⟩ := h
  have fin : Rel (upI MX 2 1 1) (upI (upI MR 0 0 0) 1 0 (-1)) := ⟨⟨Or.inr ⟨rfl, rfl⟩, h1, h2, h3⟩, hr⟩
  have rt : ∀ v : Int32, (((0 ≤ MR.1 1 0 → at_X8_tear 0 (fun r2 M2 => v = r2 ∧ Rel (upI MX 2 1 1) M2) 1 0 (upI MR 0 0 0)) ∧ (¬ 0 ≤ MR.1 1 0 → at_X8_tear 0 (fun r2 M2 => v = r2 ∧ Rel (upI MX 2 1 1) M2) 1 1 (upI MR 0 0 0)))) → wp_X8_tear 0 MR (fun r2 M2 => v = r2 ∧ Rel (upI MX 2 1 1) M2) := fun v hv => by
    refine at_X8_tear_fold ?_
    dsimp only [blk_X8_tear, blk_X8_tear_0]
    exact rw_in (fun _ => bs_t (by decide) ⟨v4, hv⟩) (fun n => absurd (rg_s (s := 0) (by omega)) n)
  rcases h0 with ⟨m0, L, hL, hn, hn', hl, ha⟩ | ⟨m1, hn'⟩
  · refine br_t m0 (key 0 (rt 0 (br_t (by rw [hn']; exact nI_pos' (by omega)) (at_X8_tear_fold ⟨v4, rfl, fin⟩))))
  · exact br_f (by rw [m1]; decide) (key 1 (rt 1 (br_f (by rw [hn']; decide) (at_X8_tear_fold ⟨v4, rfl, fin⟩))))

theorem xw_hasPlace_3 {a : Int32} {L : Nat} (hL : L ≤ 20) {M : Mem} (h : M.1 3 3 = nI L) {Q : Int32 → Mem → Prop} (q1 : 0 ≤ a.toInt ∧ a.toInt < L → Q 1 M) (q0 : ¬ (0 ≤ a.toInt ∧ a.toInt < L) → Q 0 M) : wp_X5_hasPlace_3 a M Q := by
  unfold wp_X5_hasPlace_3
  rw [h, in_lt, in_le, nI_toInt (by omega), show (0 : Int32).toInt = 0 by decide]
  by_cases h1 : a.toInt < 0
  · exact br_t h1 (q0 (by omega))
  · refine br_f h1 ?_
    by_cases h2 : (L : Int) ≤ a.toInt
    · exact br_t h2 (q0 (by omega))
    · exact br_f h2 (q1 (by omega))

theorem p_put_1 {MX MR : Mem} (h : Rel MX MR) (a1 : Int32) (a2 : Int64) : ((MX.1 3 1 = 0 → wp_X5_hasPlace_3 a1 MX (fun r2 M2 => ((¬ r2 = 0 → wp_X5_lowestBits_3 a2 M2 (fun r3 M3 => (vp_in a1 20 ∧ (fun r M1 => wp_X8_put 1 a1 a2 MR (fun r2 M2 => r = r2 ∧ Rel M1 M2)) 1 (upJ M3 7 a1.toNatClampNeg r3)))) ∧ (r2 = 0 → wp_X7_found (-12) M2 (fun r M1 => wp_X8_put 1 a1 a2 MR (fun r2 M2 => r = r2 ∧ Rel M1 M2)))))) ∧ (¬ (MX.1 3 1) = 0 → wp_X7_found (-11) MX (fun r M1 => wp_X8_put 1 a1 a2 MR (fun r2 M2 => r = r2 ∧ Rel M1 M2)))) := by
  have h' := Rel_thr h
  obtain ⟨⟨h0, h1, h2, h3⟩, hr⟩ := h
  rcases h1 with ⟨m0, L, hL, hn, hn', hl, ha⟩ | ⟨m1, hn'⟩
  · have pl : ¬ (0 ≤ a1.toInt ∧ a1.toInt < L) → wp_X8_put 1 a1 a2 MR (fun r2 M2 => (-12) = r2 ∧ Rel (upI MX 0 10 (MX.1 0 10 + 1)) M2) := fun hp => rw_put_place (s := 1) (by omega) hL hn' hp (fnd h' _)
    refine br_t m0 (xw_hasPlace_3 hL hn (fun hp => bs_t (by decide) (lowb_br (Q := fun r3 => (vp_in a1 20 ∧ (fun r M1 => wp_X8_put 1 a1 a2 MR (fun r2 M2 => r = r2 ∧ Rel M1 M2)) 1 (upJ MX 7 a1.toNatClampNeg r3))) ?_)) (fun hp => bs_f rfl (pl hp)))
    obtain ⟨j, hj, rfl, e⟩ := to_nI hp.1
    have hjL : j < L := by omega
    rw [nI_clamp hj, ← hl]
    refine ⟨vp_in_nI (by omega) (by omega), rw_put_ok (s := 1) (by omega) hL hn' hjL ⟨rfl, ⟨Sh1_cong h0 (fun i hi => rfl) (fun i hi => show gup MR.2 3 (20 + j) (lowb (MR.1 2 1) a2) 3 (0 + i) = MR.2 3 (0 + i) from gup_oth (by omega)), Or.inl ⟨m0, L, hL, hn, hn', hl, fun i hi => ?_⟩, Sh1_cong h2 (fun i hi => rfl) (fun i hi => show gup MR.2 3 (20 + j) (lowb (MR.1 2 1) a2) 3 (40 + i) = MR.2 3 (40 + i) from gup_oth (by omega)), Sh1_cong h3 (fun i hi => rfl) (fun i hi => show gup MR.2 3 (20 + j) (lowb (MR.1 2 1) a2) 3 (60 + i) = MR.2 3 (60 + i) from gup_oth (by omega))⟩, RsR_eq (RsR_thr hr) rfl rfl⟩⟩
    show gup MR.2 3 (20 + j) _ 3 (20 + i) = gup MX.2 7 j _ 7 i
    by_cases e : i = j
    · rw [e, gup_same, gup_same]
    · rw [gup_oth e, gup_oth (by omega)]
      exact ha i hi
  · have pn : wp_X8_put 1 a1 a2 MR (fun r2 M2 => (-11) = r2 ∧ Rel (upI MX 0 10 (MX.1 0 10 + 1)) M2) := rw_put_null (s := 1) (by omega) hn' (fnd h' _)
    exact br_f (by rw [m1]; decide) pn

theorem p_at_1 {MX MR : Mem} (h : Rel MX MR) {a1 : Int32} (hla : 0 ≤ a1.toInt ∧ a1.toInt ≤ 3) (a2 : Int32) : ((MX.1 3 1 = 0 → ((MX.1 3 2 = a1 → wp_X5_hasPlace_3 a2 MX (fun r3 M3 => ((¬ r3 = 0 → (vp_in a2 20 ∧ (fun r M1 => wp_X8_at 1 a1 a2 MR (fun r2 M2 => r = r2 ∧ Rel M1 M2)) (M3.2 7 a2.toNatClampNeg) M3)) ∧ (r3 = 0 → wp_X7_found (-12) M3 (fun r4 M4 => (fun r M1 => wp_X8_at 1 a1 a2 MR (fun r2 M2 => r = r2 ∧ Rel M1 M2)) r4.toInt64 M4))))) ∧ (¬ MX.1 3 2 = a1 → wp_X7_found (-13) MX (fun r5 M5 => (fun r M1 => wp_X8_at 1 a1 a2 MR (fun r2 M2 => r = r2 ∧ Rel M1 M2)) r5.toInt64 M5)))) ∧ (¬ (MX.1 3 1) = 0 → wp_X7_found (-11) MX (fun r5 M5 => (fun r M1 => wp_X8_at 1 a1 a2 MR (fun r2 M2 => r = r2 ∧ Rel M1 M2)) r5.toInt64 M5))) := by
  have h' := Rel_thr h
  obtain ⟨⟨h0, h1, h2, h3⟩, hr⟩ := h
  rcases h1 with ⟨m0, L, hL, hn, hn', hl, ha⟩ | ⟨m1, hn'⟩
  · refine br_t m0 ?_
    by_cases hc : MX.1 3 2 = a1
    · have pl : ¬ (0 ≤ a2.toInt ∧ a2.toInt < L) → wp_X8_at 1 a1 a2 MR (fun r2 M2 => (-12 : Int32).toInt64 = r2 ∧ Rel (upI MX 0 10 (MX.1 0 10 + 1)) M2) := fun hp => rw_at_place (s := 1) (by omega) hla hL hn' (hl.trans hc) hp (fnd64 h' _)
      refine br_t hc (xw_hasPlace_3 hL hn (fun hp => bs_t (by decide) ?_) (fun hp => bs_f rfl (pl hp)))
      obtain ⟨j, hj, rfl, e⟩ := to_nI hp.1
      have hjL : j < L := by omega
      rw [nI_clamp hj]
      exact ⟨vp_in_nI (by omega) (by omega), rw_at_ok (s := 1) (by omega) hla hL hn' (hl.trans hc) hjL ⟨(ha j hjL).symm, h'⟩⟩
    · have pc : wp_X8_at 1 a1 a2 MR (fun r2 M2 => (-13 : Int32).toInt64 = r2 ∧ Rel (upI MX 0 10 (MX.1 0 10 + 1)) M2) := rw_at_cast (s := 1) (by omega) hla hL hn' (fun z => hc (hl ▸ z)) (fnd64 h' _)
      exact br_f hc pc
  · have pn : wp_X8_at 1 a1 a2 MR (fun r2 M2 => (-11 : Int32).toInt64 = r2 ∧ Rel (upI MX 0 10 (MX.1 0 10 + 1)) M2) := rw_at_null (s := 1) (by omega) hla hn' (fnd64 h' _)
    exact br_f (by rw [m1]; decide) pn

theorem p_tear_1 {MX MR : Mem} (h : Rel MX MR) {Q : Int32 → Mem → Prop} (q : Q = fun r M1 => wp_X8_tear 1 MR (fun r2 M2 => r = r2 ∧ Rel M1 M2)) : ((MX.1 3 1 = 0 → at_X7_tear 1 Q 1 0 MX) ∧ (¬ (MX.1 3 1) = 0 → at_X7_tear 1 Q 1 1 MX)) := by
  have key : ∀ v : Int32, wp_X8_tear 1 MR (fun r2 M2 => v = r2 ∧ Rel (upI MX 3 1 1) M2) → at_X7_tear 1 Q 1 v MX := fun v hv => by
    refine at_X7_tear_fold ⟨vp_in_nI (n := 1) (by omega) (by omega), fun n => absurd n (by decide), fun _ => by rw [q]; exact hv, fun n => absurd n (by decide), fun n => absurd n (by decide)⟩
  have v4 : vp_in 1 4 := vp_in_nI (n := 1) (by omega) (by omega)
  obtain ⟨⟨h0, h1, h2, h3⟩, hr⟩ := h
  have fin : Rel (upI MX 3 1 1) (upI (upI MR 0 0 0) 1 1 (-1)) := ⟨⟨h0, Or.inr ⟨rfl, rfl⟩, h2, h3⟩, hr⟩
  have rt : ∀ v : Int32, (((0 ≤ MR.1 1 1 → at_X8_tear 1 (fun r2 M2 => v = r2 ∧ Rel (upI MX 3 1 1) M2) 1 0 (upI MR 0 0 0)) ∧ (¬ 0 ≤ MR.1 1 1 → at_X8_tear 1 (fun r2 M2 => v = r2 ∧ Rel (upI MX 3 1 1) M2) 1 1 (upI MR 0 0 0)))) → wp_X8_tear 1 MR (fun r2 M2 => v = r2 ∧ Rel (upI MX 3 1 1) M2) := fun v hv => by
    refine at_X8_tear_fold ?_
    dsimp only [blk_X8_tear, blk_X8_tear_0]
    exact rw_in (fun _ => bs_t (by decide) ⟨v4, hv⟩) (fun n => absurd (rg_s (s := 1) (by omega)) n)
  rcases h1 with ⟨m0, L, hL, hn, hn', hl, ha⟩ | ⟨m1, hn'⟩
  · refine br_t m0 (key 0 (rt 0 (br_t (by rw [hn']; exact nI_pos' (by omega)) (at_X8_tear_fold ⟨v4, rfl, fin⟩))))
  · exact br_f (by rw [m1]; decide) (key 1 (rt 1 (br_f (by rw [hn']; decide) (at_X8_tear_fold ⟨v4, rfl, fin⟩))))

theorem xw_hasPlace_4 {a : Int32} {L : Nat} (hL : L ≤ 20) {M : Mem} (h : M.1 4 3 = nI L) {Q : Int32 → Mem → Prop} (q1 : 0 ≤ a.toInt ∧ a.toInt < L → Q 1 M) (q0 : ¬ (0 ≤ a.toInt ∧ a.toInt < L) → Q 0 M) : wp_X5_hasPlace_4 a M Q := by
  unfold wp_X5_hasPlace_4
  rw [h, in_lt, in_le, nI_toInt (by omega), show (0 : Int32).toInt = 0 by decide]
  by_cases h1 : a.toInt < 0
  · exact br_t h1 (q0 (by omega))
  · refine br_f h1 ?_
    by_cases h2 : (L : Int) ≤ a.toInt
    · exact br_t h2 (q0 (by omega))
    · exact br_f h2 (q1 (by omega))

theorem p_put_2 {MX MR : Mem} (h : Rel MX MR) (a1 : Int32) (a2 : Int64) : ((MX.1 4 1 = 0 → wp_X5_hasPlace_4 a1 MX (fun r2 M2 => ((¬ r2 = 0 → wp_X5_lowestBits_4 a2 M2 (fun r3 M3 => (vp_in a1 20 ∧ (fun r M1 => wp_X8_put 2 a1 a2 MR (fun r2 M2 => r = r2 ∧ Rel M1 M2)) 1 (upJ M3 8 a1.toNatClampNeg r3)))) ∧ (r2 = 0 → wp_X7_found (-12) M2 (fun r M1 => wp_X8_put 2 a1 a2 MR (fun r2 M2 => r = r2 ∧ Rel M1 M2)))))) ∧ (¬ (MX.1 4 1) = 0 → wp_X7_found (-11) MX (fun r M1 => wp_X8_put 2 a1 a2 MR (fun r2 M2 => r = r2 ∧ Rel M1 M2)))) := by
  have h' := Rel_thr h
  obtain ⟨⟨h0, h1, h2, h3⟩, hr⟩ := h
  rcases h2 with ⟨m0, L, hL, hn, hn', hl, ha⟩ | ⟨m1, hn'⟩
  · have pl : ¬ (0 ≤ a1.toInt ∧ a1.toInt < L) → wp_X8_put 2 a1 a2 MR (fun r2 M2 => (-12) = r2 ∧ Rel (upI MX 0 10 (MX.1 0 10 + 1)) M2) := fun hp => rw_put_place (s := 2) (by omega) hL hn' hp (fnd h' _)
    refine br_t m0 (xw_hasPlace_4 hL hn (fun hp => bs_t (by decide) (lowb_br (Q := fun r3 => (vp_in a1 20 ∧ (fun r M1 => wp_X8_put 2 a1 a2 MR (fun r2 M2 => r = r2 ∧ Rel M1 M2)) 1 (upJ MX 8 a1.toNatClampNeg r3))) ?_)) (fun hp => bs_f rfl (pl hp)))
    obtain ⟨j, hj, rfl, e⟩ := to_nI hp.1
    have hjL : j < L := by omega
    rw [nI_clamp hj, ← hl]
    refine ⟨vp_in_nI (by omega) (by omega), rw_put_ok (s := 2) (by omega) hL hn' hjL ⟨rfl, ⟨Sh1_cong h0 (fun i hi => rfl) (fun i hi => show gup MR.2 3 (40 + j) (lowb (MR.1 2 2) a2) 3 (0 + i) = MR.2 3 (0 + i) from gup_oth (by omega)), Sh1_cong h1 (fun i hi => rfl) (fun i hi => show gup MR.2 3 (40 + j) (lowb (MR.1 2 2) a2) 3 (20 + i) = MR.2 3 (20 + i) from gup_oth (by omega)), Or.inl ⟨m0, L, hL, hn, hn', hl, fun i hi => ?_⟩, Sh1_cong h3 (fun i hi => rfl) (fun i hi => show gup MR.2 3 (40 + j) (lowb (MR.1 2 2) a2) 3 (60 + i) = MR.2 3 (60 + i) from gup_oth (by omega))⟩, RsR_eq (RsR_thr hr) rfl rfl⟩⟩
    show gup MR.2 3 (40 + j) _ 3 (40 + i) = gup MX.2 8 j _ 8 i
    by_cases e : i = j
    · rw [e, gup_same, gup_same]
    · rw [gup_oth e, gup_oth (by omega)]
      exact ha i hi
  · have pn : wp_X8_put 2 a1 a2 MR (fun r2 M2 => (-11) = r2 ∧ Rel (upI MX 0 10 (MX.1 0 10 + 1)) M2) := rw_put_null (s := 2) (by omega) hn' (fnd h' _)
    exact br_f (by rw [m1]; decide) pn

theorem p_at_2 {MX MR : Mem} (h : Rel MX MR) {a1 : Int32} (hla : 0 ≤ a1.toInt ∧ a1.toInt ≤ 3) (a2 : Int32) : ((MX.1 4 1 = 0 → ((MX.1 4 2 = a1 → wp_X5_hasPlace_4 a2 MX (fun r3 M3 => ((¬ r3 = 0 → (vp_in a2 20 ∧ (fun r M1 => wp_X8_at 2 a1 a2 MR (fun r2 M2 => r = r2 ∧ Rel M1 M2)) (M3.2 8 a2.toNatClampNeg) M3)) ∧ (r3 = 0 → wp_X7_found (-12) M3 (fun r4 M4 => (fun r M1 => wp_X8_at 2 a1 a2 MR (fun r2 M2 => r = r2 ∧ Rel M1 M2)) r4.toInt64 M4))))) ∧ (¬ MX.1 4 2 = a1 → wp_X7_found (-13) MX (fun r5 M5 => (fun r M1 => wp_X8_at 2 a1 a2 MR (fun r2 M2 => r = r2 ∧ Rel M1 M2)) r5.toInt64 M5)))) ∧ (¬ (MX.1 4 1) = 0 → wp_X7_found (-11) MX (fun r5 M5 => (fun r M1 => wp_X8_at 2 a1 a2 MR (fun r2 M2 => r = r2 ∧ Rel M1 M2)) r5.toInt64 M5))) := by
  have h' := Rel_thr h
  obtain ⟨⟨h0, h1, h2, h3⟩, hr⟩ := h
  rcases h2 with ⟨m0, L, hL, hn, hn', hl, ha⟩ | ⟨m1, hn'⟩
  · refine br_t m0 ?_
    by_cases hc : MX.1 4 2 = a1
    · have pl : ¬ (0 ≤ a2.toInt ∧ a2.toInt < L) → wp_X8_at 2 a1 a2 MR (fun r2 M2 => (-12 : Int32).toInt64 = r2 ∧ Rel (upI MX 0 10 (MX.1 0 10 + 1)) M2) := fun hp => rw_at_place (s := 2) (by omega) hla hL hn' (hl.trans hc) hp (fnd64 h' _)
      refine br_t hc (xw_hasPlace_4 hL hn (fun hp => bs_t (by decide) ?_) (fun hp => bs_f rfl (pl hp)))
      obtain ⟨j, hj, rfl, e⟩ := to_nI hp.1
      have hjL : j < L := by omega
      rw [nI_clamp hj]
      exact ⟨vp_in_nI (by omega) (by omega), rw_at_ok (s := 2) (by omega) hla hL hn' (hl.trans hc) hjL ⟨(ha j hjL).symm, h'⟩⟩
    · have pc : wp_X8_at 2 a1 a2 MR (fun r2 M2 => (-13 : Int32).toInt64 = r2 ∧ Rel (upI MX 0 10 (MX.1 0 10 + 1)) M2) := rw_at_cast (s := 2) (by omega) hla hL hn' (fun z => hc (hl ▸ z)) (fnd64 h' _)
      exact br_f hc pc
  · have pn : wp_X8_at 2 a1 a2 MR (fun r2 M2 => (-11 : Int32).toInt64 = r2 ∧ Rel (upI MX 0 10 (MX.1 0 10 + 1)) M2) := rw_at_null (s := 2) (by omega) hla hn' (fnd64 h' _)
    exact br_f (by rw [m1]; decide) pn

theorem p_tear_2 {MX MR : Mem} (h : Rel MX MR) {Q : Int32 → Mem → Prop} (q : Q = fun r M1 => wp_X8_tear 2 MR (fun r2 M2 => r = r2 ∧ Rel M1 M2)) : ((MX.1 4 1 = 0 → at_X7_tear 2 Q 1 0 MX) ∧ (¬ (MX.1 4 1) = 0 → at_X7_tear 2 Q 1 1 MX)) := by
  have key : ∀ v : Int32, wp_X8_tear 2 MR (fun r2 M2 => v = r2 ∧ Rel (upI MX 4 1 1) M2) → at_X7_tear 2 Q 1 v MX := fun v hv => by
    refine at_X7_tear_fold ⟨vp_in_nI (n := 2) (by omega) (by omega), fun n => absurd n (by decide), fun n => absurd n (by decide), fun _ => by rw [q]; exact hv, fun n => absurd n (by decide)⟩
  have v4 : vp_in 2 4 := vp_in_nI (n := 2) (by omega) (by omega)
  obtain ⟨⟨h0, h1, h2, h3⟩, hr⟩ := h
  have fin : Rel (upI MX 4 1 1) (upI (upI MR 0 0 0) 1 2 (-1)) := ⟨⟨h0, h1, Or.inr ⟨rfl, rfl⟩, h3⟩, hr⟩
  have rt : ∀ v : Int32, (((0 ≤ MR.1 1 2 → at_X8_tear 2 (fun r2 M2 => v = r2 ∧ Rel (upI MX 4 1 1) M2) 1 0 (upI MR 0 0 0)) ∧ (¬ 0 ≤ MR.1 1 2 → at_X8_tear 2 (fun r2 M2 => v = r2 ∧ Rel (upI MX 4 1 1) M2) 1 1 (upI MR 0 0 0)))) → wp_X8_tear 2 MR (fun r2 M2 => v = r2 ∧ Rel (upI MX 4 1 1) M2) := fun v hv => by
    refine at_X8_tear_fold ?_
    dsimp only [blk_X8_tear, blk_X8_tear_0]
    exact rw_in (fun _ => bs_t (by decide) ⟨v4, hv⟩) (fun n => absurd (rg_s (s := 2) (by omega)) n)
  rcases h2 with ⟨m0, L, hL, hn, hn', hl, ha⟩ | ⟨m1, hn'⟩
  · refine br_t m0 (key 0 (rt 0 (br_t (by rw [hn']; exact nI_pos' (by omega)) (at_X8_tear_fold ⟨v4, rfl, fin⟩))))
  · exact br_f (by rw [m1]; decide) (key 1 (rt 1 (br_f (by rw [hn']; decide) (at_X8_tear_fold ⟨v4, rfl, fin⟩))))

theorem xw_hasPlace_5 {a : Int32} {L : Nat} (hL : L ≤ 20) {M : Mem} (h : M.1 5 3 = nI L) {Q : Int32 → Mem → Prop} (q1 : 0 ≤ a.toInt ∧ a.toInt < L → Q 1 M) (q0 : ¬ (0 ≤ a.toInt ∧ a.toInt < L) → Q 0 M) : wp_X5_hasPlace_5 a M Q := by
  unfold wp_X5_hasPlace_5
  rw [h, in_lt, in_le, nI_toInt (by omega), show (0 : Int32).toInt = 0 by decide]
  by_cases h1 : a.toInt < 0
  · exact br_t h1 (q0 (by omega))
  · refine br_f h1 ?_
    by_cases h2 : (L : Int) ≤ a.toInt
    · exact br_t h2 (q0 (by omega))
    · exact br_f h2 (q1 (by omega))

theorem p_put_3 {MX MR : Mem} (h : Rel MX MR) (a1 : Int32) (a2 : Int64) : ((MX.1 5 1 = 0 → wp_X5_hasPlace_5 a1 MX (fun r2 M2 => ((¬ r2 = 0 → wp_X5_lowestBits_5 a2 M2 (fun r3 M3 => (vp_in a1 20 ∧ (fun r M1 => wp_X8_put 3 a1 a2 MR (fun r2 M2 => r = r2 ∧ Rel M1 M2)) 1 (upJ M3 9 a1.toNatClampNeg r3)))) ∧ (r2 = 0 → wp_X7_found (-12) M2 (fun r M1 => wp_X8_put 3 a1 a2 MR (fun r2 M2 => r = r2 ∧ Rel M1 M2)))))) ∧ (¬ (MX.1 5 1) = 0 → wp_X7_found (-11) MX (fun r M1 => wp_X8_put 3 a1 a2 MR (fun r2 M2 => r = r2 ∧ Rel M1 M2)))) := by
  have h' := Rel_thr h
  obtain ⟨⟨h0, h1, h2, h3⟩, hr⟩ := h
  rcases h3 with ⟨m0, L, hL, hn, hn', hl, ha⟩ | ⟨m1, hn'⟩
  · have pl : ¬ (0 ≤ a1.toInt ∧ a1.toInt < L) → wp_X8_put 3 a1 a2 MR (fun r2 M2 => (-12) = r2 ∧ Rel (upI MX 0 10 (MX.1 0 10 + 1)) M2) := fun hp => rw_put_place (s := 3) (by omega) hL hn' hp (fnd h' _)
    refine br_t m0 (xw_hasPlace_5 hL hn (fun hp => bs_t (by decide) (lowb_br (Q := fun r3 => (vp_in a1 20 ∧ (fun r M1 => wp_X8_put 3 a1 a2 MR (fun r2 M2 => r = r2 ∧ Rel M1 M2)) 1 (upJ MX 9 a1.toNatClampNeg r3))) ?_)) (fun hp => bs_f rfl (pl hp)))
    obtain ⟨j, hj, rfl, e⟩ := to_nI hp.1
    have hjL : j < L := by omega
    rw [nI_clamp hj, ← hl]
    refine ⟨vp_in_nI (by omega) (by omega), rw_put_ok (s := 3) (by omega) hL hn' hjL ⟨rfl, ⟨Sh1_cong h0 (fun i hi => rfl) (fun i hi => show gup MR.2 3 (60 + j) (lowb (MR.1 2 3) a2) 3 (0 + i) = MR.2 3 (0 + i) from gup_oth (by omega)), Sh1_cong h1 (fun i hi => rfl) (fun i hi => show gup MR.2 3 (60 + j) (lowb (MR.1 2 3) a2) 3 (20 + i) = MR.2 3 (20 + i) from gup_oth (by omega)), Sh1_cong h2 (fun i hi => rfl) (fun i hi => show gup MR.2 3 (60 + j) (lowb (MR.1 2 3) a2) 3 (40 + i) = MR.2 3 (40 + i) from gup_oth (by omega)), Or.inl ⟨m0, L, hL, hn, hn', hl, fun i hi => ?_⟩⟩, RsR_eq (RsR_thr hr) rfl rfl⟩⟩
    show gup MR.2 3 (60 + j) _ 3 (60 + i) = gup MX.2 9 j _ 9 i
    by_cases e : i = j
    · rw [e, gup_same, gup_same]
    · rw [gup_oth e, gup_oth (by omega)]
      exact ha i hi
  · have pn : wp_X8_put 3 a1 a2 MR (fun r2 M2 => (-11) = r2 ∧ Rel (upI MX 0 10 (MX.1 0 10 + 1)) M2) := rw_put_null (s := 3) (by omega) hn' (fnd h' _)
    exact br_f (by rw [m1]; decide) pn

theorem p_at_3 {MX MR : Mem} (h : Rel MX MR) {a1 : Int32} (hla : 0 ≤ a1.toInt ∧ a1.toInt ≤ 3) (a2 : Int32) : ((MX.1 5 1 = 0 → ((MX.1 5 2 = a1 → wp_X5_hasPlace_5 a2 MX (fun r3 M3 => ((¬ r3 = 0 → (vp_in a2 20 ∧ (fun r M1 => wp_X8_at 3 a1 a2 MR (fun r2 M2 => r = r2 ∧ Rel M1 M2)) (M3.2 9 a2.toNatClampNeg) M3)) ∧ (r3 = 0 → wp_X7_found (-12) M3 (fun r4 M4 => (fun r M1 => wp_X8_at 3 a1 a2 MR (fun r2 M2 => r = r2 ∧ Rel M1 M2)) r4.toInt64 M4))))) ∧ (¬ MX.1 5 2 = a1 → wp_X7_found (-13) MX (fun r5 M5 => (fun r M1 => wp_X8_at 3 a1 a2 MR (fun r2 M2 => r = r2 ∧ Rel M1 M2)) r5.toInt64 M5)))) ∧ (¬ (MX.1 5 1) = 0 → wp_X7_found (-11) MX (fun r5 M5 => (fun r M1 => wp_X8_at 3 a1 a2 MR (fun r2 M2 => r = r2 ∧ Rel M1 M2)) r5.toInt64 M5))) := by
  have h' := Rel_thr h
  obtain ⟨⟨h0, h1, h2, h3⟩, hr⟩ := h
  rcases h3 with ⟨m0, L, hL, hn, hn', hl, ha⟩ | ⟨m1, hn'⟩
  · refine br_t m0 ?_
    by_cases hc : MX.1 5 2 = a1
    · have pl : ¬ (0 ≤ a2.toInt ∧ a2.toInt < L) → wp_X8_at 3 a1 a2 MR (fun r2 M2 => (-12 : Int32).toInt64 = r2 ∧ Rel (upI MX 0 10 (MX.1 0 10 + 1)) M2) := fun hp => rw_at_place (s := 3) (by omega) hla hL hn' (hl.trans hc) hp (fnd64 h' _)
      refine br_t hc (xw_hasPlace_5 hL hn (fun hp => bs_t (by decide) ?_) (fun hp => bs_f rfl (pl hp)))
      obtain ⟨j, hj, rfl, e⟩ := to_nI hp.1
      have hjL : j < L := by omega
      rw [nI_clamp hj]
      exact ⟨vp_in_nI (by omega) (by omega), rw_at_ok (s := 3) (by omega) hla hL hn' (hl.trans hc) hjL ⟨(ha j hjL).symm, h'⟩⟩
    · have pc : wp_X8_at 3 a1 a2 MR (fun r2 M2 => (-13 : Int32).toInt64 = r2 ∧ Rel (upI MX 0 10 (MX.1 0 10 + 1)) M2) := rw_at_cast (s := 3) (by omega) hla hL hn' (fun z => hc (hl ▸ z)) (fnd64 h' _)
      exact br_f hc pc
  · have pn : wp_X8_at 3 a1 a2 MR (fun r2 M2 => (-11 : Int32).toInt64 = r2 ∧ Rel (upI MX 0 10 (MX.1 0 10 + 1)) M2) := rw_at_null (s := 3) (by omega) hla hn' (fnd64 h' _)
    exact br_f (by rw [m1]; decide) pn

theorem p_tear_3 {MX MR : Mem} (h : Rel MX MR) {Q : Int32 → Mem → Prop} (q : Q = fun r M1 => wp_X8_tear 3 MR (fun r2 M2 => r = r2 ∧ Rel M1 M2)) : ((MX.1 5 1 = 0 → at_X7_tear 3 Q 1 0 MX) ∧ (¬ (MX.1 5 1) = 0 → at_X7_tear 3 Q 1 1 MX)) := by
  have key : ∀ v : Int32, wp_X8_tear 3 MR (fun r2 M2 => v = r2 ∧ Rel (upI MX 5 1 1) M2) → at_X7_tear 3 Q 1 v MX := fun v hv => by
    refine at_X7_tear_fold ⟨vp_in_nI (n := 3) (by omega) (by omega), fun n => absurd n (by decide), fun n => absurd n (by decide), fun n => absurd n (by decide), fun _ => by rw [q]; exact hv⟩
  have v4 : vp_in 3 4 := vp_in_nI (n := 3) (by omega) (by omega)
  obtain ⟨⟨h0, h1, h2, h3⟩, hr⟩ := h
  have fin : Rel (upI MX 5 1 1) (upI (upI MR 0 0 0) 1 3 (-1)) := ⟨⟨h0, h1, h2, Or.inr ⟨rfl, rfl⟩⟩, hr⟩
  have rt : ∀ v : Int32, (((0 ≤ MR.1 1 3 → at_X8_tear 3 (fun r2 M2 => v = r2 ∧ Rel (upI MX 5 1 1) M2) 1 0 (upI MR 0 0 0)) ∧ (¬ 0 ≤ MR.1 1 3 → at_X8_tear 3 (fun r2 M2 => v = r2 ∧ Rel (upI MX 5 1 1) M2) 1 1 (upI MR 0 0 0)))) → wp_X8_tear 3 MR (fun r2 M2 => v = r2 ∧ Rel (upI MX 5 1 1) M2) := fun v hv => by
    refine at_X8_tear_fold ?_
    dsimp only [blk_X8_tear, blk_X8_tear_0]
    exact rw_in (fun _ => bs_t (by decide) ⟨v4, hv⟩) (fun n => absurd (rg_s (s := 3) (by omega)) n)
  rcases h3 with ⟨m0, L, hL, hn, hn', hl, ha⟩ | ⟨m1, hn'⟩
  · refine br_t m0 (key 0 (rt 0 (br_t (by rw [hn']; exact nI_pos' (by omega)) (at_X8_tear_fold ⟨v4, rfl, fin⟩))))
  · exact br_f (by rw [m1]; decide) (key 1 (rt 1 (br_f (by rw [hn']; decide) (at_X8_tear_fold ⟨v4, rfl, fin⟩))))

theorem st_put {MX MR : Mem} (h : Rel MX MR) (a0 a1 : Int32) (a2 : Int64) : wp_X7_put a0 a1 a2 MX (fun r M1 => wp_X8_put a0 a1 a2 MR (fun r2 M2 => r = r2 ∧ Rel M1 M2)) := by
  refine xw_isSheet (fun hs => bs_t (by decide) ?_) (fun hs => bs_f rfl ?_)
  · rcases four hs with rfl | rfl | rfl | rfl
    · exact ⟨vp_in_nI (n := 0) (by omega) (by omega), fun _ => p_put_0 h a1 a2, fun n => absurd n (by decide), fun n => absurd n (by decide), fun n => absurd n (by decide)⟩
    · exact ⟨vp_in_nI (n := 1) (by omega) (by omega), fun n => absurd n (by decide), fun _ => p_put_1 h a1 a2, fun n => absurd n (by decide), fun n => absurd n (by decide)⟩
    · exact ⟨vp_in_nI (n := 2) (by omega) (by omega), fun n => absurd n (by decide), fun n => absurd n (by decide), fun _ => p_put_2 h a1 a2, fun n => absurd n (by decide)⟩
    · exact ⟨vp_in_nI (n := 3) (by omega) (by omega), fun n => absurd n (by decide), fun n => absurd n (by decide), fun n => absurd n (by decide), fun _ => p_put_3 h a1 a2⟩
  · show wp_X8_put a0 a1 a2 MR (fun r2 M2 => (-12) = r2 ∧ Rel (upI MX 0 10 (MX.1 0 10 + 1)) M2)
    unfold wp_X8_put
    exact rw_in (fun n => absurd n (rg_n hs)) (fun _ => bs_f rfl (fnd (Rel_thr h) (-12)))
theorem st_at {MX MR : Mem} (h : Rel MX MR) (a0 a1 a2 : Int32) : wp_X7_at a0 a1 a2 MX (fun r M1 => wp_X8_at a0 a1 a2 MR (fun r2 M2 => r = r2 ∧ Rel M1 M2)) := by
  refine xw_isSheet (fun hs => bs_t (by decide) (xw_isLane (fun hl => bs_t (by decide) ?_) (fun hl => bs_f rfl ?_))) (fun hs => bs_f rfl ?_)
  · rcases four hs with rfl | rfl | rfl | rfl
    · exact ⟨vp_in_nI (n := 0) (by omega) (by omega), fun _ => p_at_0 h hl a2, fun n => absurd n (by decide), fun n => absurd n (by decide), fun n => absurd n (by decide)⟩
    · exact ⟨vp_in_nI (n := 1) (by omega) (by omega), fun n => absurd n (by decide), fun _ => p_at_1 h hl a2, fun n => absurd n (by decide), fun n => absurd n (by decide)⟩
    · exact ⟨vp_in_nI (n := 2) (by omega) (by omega), fun n => absurd n (by decide), fun n => absurd n (by decide), fun _ => p_at_2 h hl a2, fun n => absurd n (by decide)⟩
    · exact ⟨vp_in_nI (n := 3) (by omega) (by omega), fun n => absurd n (by decide), fun n => absurd n (by decide), fun n => absurd n (by decide), fun _ => p_at_3 h hl a2⟩
  · show wp_X8_at a0 a1 a2 MR _
    unfold wp_X8_at
    exact rw_in (fun _ => bs_t (by decide) (rw_in (fun n => absurd n (rg_n hl)) (fun _ => bs_f rfl ⟨by decide, Rel_thr h⟩))) (fun n => absurd (rg_l hs) n)
  · show wp_X8_at a0 a1 a2 MR (fun r2 M2 => (-12 : Int32).toInt64 = r2 ∧ Rel (upI MX 0 10 (MX.1 0 10 + 1)) M2)
    unfold wp_X8_at
    exact rw_in (fun n => absurd n (rg_n hs)) (fun _ => bs_f rfl (fnd64 (Rel_thr h) (-12)))
theorem st_tear {MX MR : Mem} (h : Rel MX MR) (a0 : Int32) : wp_X7_tear a0 MX (fun r M1 => wp_X8_tear a0 MR (fun r2 M2 => r = r2 ∧ Rel M1 M2)) := by
  refine at_X7_tear_fold ?_
  dsimp only [blk_X7_tear, blk_X7_tear_0]
  refine xw_isSheet (fun hs => bs_t (by decide) ?_) (fun hs => bs_f rfl ?_)
  · rcases four hs with rfl | rfl | rfl | rfl
    · exact ⟨vp_in_nI (n := 0) (by omega) (by omega), fun _ => p_tear_0 h rfl, fun n => absurd n (by decide), fun n => absurd n (by decide), fun n => absurd n (by decide)⟩
    · exact ⟨vp_in_nI (n := 1) (by omega) (by omega), fun n => absurd n (by decide), fun _ => p_tear_1 h rfl, fun n => absurd n (by decide), fun n => absurd n (by decide)⟩
    · exact ⟨vp_in_nI (n := 2) (by omega) (by omega), fun n => absurd n (by decide), fun n => absurd n (by decide), fun _ => p_tear_2 h rfl, fun n => absurd n (by decide)⟩
    · exact ⟨vp_in_nI (n := 3) (by omega) (by omega), fun n => absurd n (by decide), fun n => absurd n (by decide), fun n => absurd n (by decide), fun _ => p_tear_3 h rfl⟩
  · refine at_X8_tear_fold ?_
    dsimp only [blk_X8_tear, blk_X8_tear_0]
    exact rw_in (fun n => absurd n (rg_n hs)) (fun _ => bs_f rfl (fnd (Rel_thr h) (-12)))
