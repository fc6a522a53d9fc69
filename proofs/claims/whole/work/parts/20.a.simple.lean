/-! ===== SIMPLE: fence, end, crosses, weigh, cutting, has, count, rank, of ===== -/
section GR
variable {n : Nat} {X Y : Nat → Int} {H B i nx : Nat} {L : List Nat} {MX MR : Mem}
theorem GrW.P (h : GrW n X Y H B i nx L MX MR) : Pts n X Y := h.2.1
theorem GrW.c (h : GrW n X Y H B i nx L MX MR) : cN n X Y ≤ 256 := h.2.2.1
theorem GrW.h28 (h : GrW n X Y H B i nx L MX MR) : H < 2 ^ 28 := h.2.2.2.1
theorem GrW.b28 (h : GrW n X Y H B i nx L MX MR) : B < 2 ^ 28 := h.2.2.2.2.1
theorem GrW.xf (h : GrW n X Y H B i nx L MX MR) : XF n X Y MX := h.2.2.2.2.2.1.1
theorem GrW.xk (h : GrW n X Y H B i nx L MX MR) : XK n X Y MX := h.2.2.2.2.2.1.2.1
theorem GrW.xa (h : GrW n X Y H B i nx L MX MR) : XA n X Y H B MX := h.2.2.2.2.2.1.2.2
theorem GrW.rf (h : GrW n X Y H B i nx L MX MR) : RF n X Y MR := h.2.2.2.2.2.2.1.1
theorem GrW.rk (h : GrW n X Y H B i nx L MX MR) : RK n X Y MR := h.2.2.2.2.2.2.1.2.1
theorem GrW.ra (h : GrW n X Y H B i nx L MX MR) : RA n X Y H B MR := h.2.2.2.2.2.2.1.2.2
theorem GrW.now (h : GrW n X Y H B i nx L MX MR) : MX.1 0 9 = nI i := h.2.2.2.2.2.2.2.1
theorem GrW.cut (h : GrW n X Y H B i nx L MX MR) : MR.1 0 24 = nI (cg n X Y i) := h.2.2.2.2.2.2.2.2.1
theorem GrW.il (h : GrW n X Y H B i nx L MX MR) : i < cN n X Y := h.2.2.2.2.2.2.2.2.2.1
theorem GrW.ip (h : GrW n X Y H B i nx L MX MR) : ap n X Y H B i = true := h.2.2.2.2.2.2.2.2.2.2.1
theorem GrW.pa (h : GrW n X Y H B i nx L MX MR) : PaR n X Y H B nx L MX MR := h.2.2.2.2.2.2.2.2.2.2.2.1
theorem GrW.we (h : GrW n X Y H B i nx L MX MR) : ∀ f, f < fN n X Y → MX.1 33 f = MR.1 12 f := h.2.2.2.2.2.2.2.2.2.2.2.2
theorem GrW.n8 (h : GrW n X Y H B i nx L MX MR) : n ≤ 8 := h.P.1
theorem GrW.f28 (h : GrW n X Y H B i nx L MX MR) : fN n X Y ≤ 28 := h.P.f28
theorem GrW.a256 (h : GrW n X Y H B i nx L MX MR) : aN n X Y H B ≤ 256 := Nat.le_trans aN_le h.c
theorem GrW.i28 (h : GrW n X Y H B i nx L MX MR) : cg n X Y i < 2 ^ 28 := cg_28 h.P h.il
end GR
def inr (v : Int32) (F : Nat) : Prop := 0 ≤ v.toInt ∧ v.toInt < F
theorem inr_nI {v : Int32} {F : Nat} (h : inr v F) : ∃ f, f < F ∧ v = nI f := by
  obtain ⟨j, hj, e1, e2⟩ := to_nI h.1
  have := h.2
  exact ⟨j, by omega, e1⟩
theorem nI_inr {f F : Nat} (h : f < F) (hF : F < 2 ^ 31) : inr (nI f) F := by
  unfold inr
  rw [nI_toInt (by omega)]; omega
section REF
variable {M : Mem} {v : Int32} {F : Nat}
theorem xw_ref (hF : F < 2 ^ 31) (hl : ¬ M.1 0 8 = 0) (hN : M.1 13 4 = nI F) {Q : Int32 → Mem → Prop} (q0 : inr v F → Q 0 M) (q1 : ¬ inr v F → Q (-1) M) : wp_X7_fenceRefusal v M Q := by
  refine bs_t hl ?_
  show _ ∧ _
  rw [hN, in_lt, in_le, nI_toInt hF, show (0 : Int32).toInt = 0 by decide]
  by_cases h1 : v.toInt < 0
  · exact br_t h1 (br_t rfl (q1 fun z => by have := z.1; omega))
  · refine br_f h1 ?_
    by_cases h2 : (F : Int) ≤ v.toInt
    · exact br_t h2 (br_t rfl (q1 fun z => by have := z.2; omega))
    · exact br_f h2 (br_f (by decide) (q0 ⟨by omega, by omega⟩))
theorem xw_ref0 (hl : M.1 0 8 = 0) {Q : Int32 → Mem → Prop} (q : Q (-3) M) : wp_X7_fenceRefusal v M Q := bs_f hl q
theorem xw_rref (hF : F < 2 ^ 31) (hl : ¬ M.1 0 8 = 0) (hN : M.1 25 2 = nI F) {Q : Int32 → Mem → Prop} (q0 : inr v F → Q 0 M) (q1 : ¬ inr v F → Q (-1) M) : wp_X7_rankRefusal v M Q := by
  refine bs_t hl ?_
  show _ ∧ _
  rw [hN, in_lt, in_le, nI_toInt hF, show (0 : Int32).toInt = 0 by decide]
  by_cases h1 : v.toInt < 0
  · exact br_t h1 (q1 fun z => by have := z.1; omega)
  · refine br_f h1 ?_
    by_cases h2 : (F : Int) ≤ v.toInt
    · exact br_t h2 (q1 fun z => by have := z.2; omega)
    · exact br_f h2 (q0 ⟨by omega, by omega⟩)
theorem xw_rref0 (hl : M.1 0 8 = 0) {Q : Int32 → Mem → Prop} (q : Q (-3) M) : wp_X7_rankRefusal v M Q := bs_f hl q
theorem xw_isPost (hF : F < 2 ^ 31) (hN : M.1 14 2 = nI F) {Q : Int32 → Mem → Prop} (q1 : inr v F → Q 1 M) (q0 : ¬ inr v F → Q 0 M) : wp_X2_isPost v M Q := by
  show _ ∧ _
  rw [hN, in_lt, in_le, nI_toInt hF, show (0 : Int32).toInt = 0 by decide]
  by_cases h1 : v.toInt < 0
  · exact br_t h1 (q0 fun z => by have := z.1; omega)
  · refine br_f h1 ?_
    by_cases h2 : (F : Int) ≤ v.toInt
    · exact br_t h2 (q0 fun z => by have := z.2; omega)
    · exact br_f h2 (q1 ⟨by omega, by omega⟩)
/-- between 0 and one below F -/
theorem rw_inp (hF : F < 2 ^ 31) {k : Int32} (hk : k = nI F) {Q : Int32 → Mem → Prop} (q1 : inr v F → Q 1 M) (q0 : ¬ inr v F → Q 0 M) : wp_X8_in v.toInt64 (0 : Int64) ((k - 1).toInt64) M Q := by
  have e : ((0 : Int64).toInt ≤ v.toInt64.toInt ∧ v.toInt64.toInt ≤ ((k - 1).toInt64).toInt) ↔ inr v F := by
    unfold inr
    rw [hk, t32, t32, pred_toInt hF, show (0 : Int64).toInt = 0 by decide]
    omega
  exact rw_in (fun h => q1 (e.mp h)) (fun h => q0 fun z => h (e.mpr z))
theorem rw_noFence (hF : F < 2 ^ 31) (hN : M.1 0 12 = nI F) {Q : Int32 → Mem → Prop} (q0 : inr v F → Q 0 M) (q1 : ¬ inr v F → Q 1 M) : wp_X8_noFence v M Q :=
  rw_inp hF hN (fun h => bs_t (by decide) (q0 h)) (fun h => bs_f rfl (q1 h))
theorem rw_noRank (hF : F < 2 ^ 31) (hN : M.1 0 22 = nI F) {Q : Int32 → Mem → Prop} (q0 : inr v F → Q 0 M) (q1 : ¬ inr v F → Q 1 M) : wp_X8_noRank v M Q :=
  rw_inp hF hN (fun h => bs_t (by decide) (q0 h)) (fun h => bs_f rfl (q1 h))
/-- between two literals -/
theorem rw_inl {lo hi : Int64} {a b : Int} (ha : lo.toInt = a) (hb : hi.toInt = b) {Q : Int32 → Mem → Prop} (q1 : a ≤ v.toInt ∧ v.toInt ≤ b → Q 1 M) (q0 : ¬ (a ≤ v.toInt ∧ v.toInt ≤ b) → Q 0 M) : wp_X8_in v.toInt64 lo hi M Q :=
  rw_in (fun h => q1 (by rw [ha, hb, t32] at h; exact h)) (fun h => q0 fun z => h (by rw [ha, hb, t32]; exact z))
end REF
section ST
variable {MX MR : Mem}
theorem xw_now {n : Nat} {X Y : Nat → Int} {H B i nx : Nat} {L : List Nat} (hw : GrW n X Y H B i nx L MX MR) {Q : Int32 → Mem → Prop} (q : Q (nI (cg n X Y i)) MX) : wp_X7_fencesNow MX Q := by
  have hi := hw.il
  have hc := hw.c
  unfold wp_X7_fencesNow
  rw [hw.now, nI_clamp (by omega), hw.xk.2.1 i hi]
  exact ⟨vp_in_nI (by omega) (by omega), q⟩
theorem st_fence (h : Rel MX MR) (a0 a1 : Int32) : wp_X7_fence a0 a1 MX (fun r M1 => wp_X8_fence a0 a1 MR (fun r2 M2 => r = r2 ∧ Rel M1 M2)) := by
  have h' := Rel_thr h
  rcases Rel_gr h with ⟨x0, r0⟩ | ⟨x0, r0, nx, n, X, Y, H, B, i, L, hnx, h31, hw, hw'⟩
  · exact bs_f x0 (bs_f r0 ⟨rfl, h'⟩)
  · have hn := hw.n8
    refine bs_t x0 (xw_isPost (F := n) (by omega) hw.xf.1.1 (fun hv => ?_) (fun hv => ?_))
    · refine br_f (by decide) (xw_isPost (F := n) (by omega) hw.xf.1.1 (fun hu => ?_) (fun hu => ?_))
      · obtain ⟨a, ha, rfl⟩ := inr_nI hv
        obtain ⟨b, hb, rfl⟩ := inr_nI hu
        refine bs_t (by decide) (xw_between hw.P hw.xf.2.2.1 ha hb ?_)
        refine bs_t r0 (rw_inp (F := n) (by omega) hw.rf.1.1 (fun _ => br_f (by decide) (rw_inp (F := n) (by omega) hw.rf.1.1 (fun _ => br_f (by decide) ?_) (fun z => absurd hu z))) (fun z => absurd hv z))
        rw [ix8', nI_clamp (by omega)]
        exact ⟨vp_in_nI (by omega) (by omega), (hw.rf.2.2.1 a b ha hb).symm, h'⟩
      · refine bs_f rfl ?_
        exact bs_t r0 (rw_inp (F := n) (by omega) hw.rf.1.1 (fun _ => br_f (by decide) (rw_inp (F := n) (by omega) hw.rf.1.1 (fun z => absurd z hu) (fun z => br_t rfl ⟨rfl, h'⟩))) (fun z => absurd hv z))
    · refine br_t rfl ?_
      exact bs_t r0 (rw_inp (F := n) (by omega) hw.rf.1.1 (fun z => absurd z hv) (fun z => br_t rfl ⟨rfl, h'⟩))
theorem lt01 {v : Int32} : (0 ≤ v.toInt ∧ v.toInt ≤ 1) ↔ (v = 0 ∨ v = 1) := by
  constructor
  · intro h
    obtain ⟨j, hj, e1, e2⟩ := to_nI h.1
    have : j = 0 ∨ j = 1 := by omega
    rcases this with rfl | rfl
    · exact Or.inl e1
    · exact Or.inr e1
  · rintro (rfl | rfl) <;> decide
theorem st_end (h : Rel MX MR) (a0 a1 : Int32) : wp_X7_end a0 a1 MX (fun r M1 => wp_X8_end a0 a1 MR (fun r2 M2 => r = r2 ∧ Rel M1 M2)) := by
  have h' := Rel_thr h
  have z0 : (0 : Int64).toInt = 0 := by decide
  have z1 : (1 : Int64).toInt = 1 := by decide
  refine at_X7_end_fold ?_
  by_cases hw2 : a1 = 0 ∨ a1 = 1
  · have go : at_X7_end a0 a1 (fun r M1 => wp_X8_end a0 a1 MR (fun r2 M2 => r = r2 ∧ Rel M1 M2)) 1 0 MX := by
      refine at_X7_end_fold ?_
      dsimp only [blk_X7_end, blk_X7_end_1]
      rcases Rel_gr h with ⟨x0, r0⟩ | ⟨x0, r0, nx, n, X, Y, H, B, i, L, hnx, h31, hw, hw'⟩
      · refine xw_ref0 x0 (br_f (by decide) ?_)
        exact rw_inl z0 z1 (fun _ => bs_t (by decide) (bs_f r0 ⟨rfl, h'⟩)) (fun z => absurd (lt01.mpr hw2) z)
      · have h28 := hw.f28
        refine xw_ref (F := fN n X Y) (by omega) x0 hw.xf.2.1.1 (fun hv => ?_) (fun hv => ?_)
        · obtain ⟨f, hf, rfl⟩ := inr_nI hv
          have vf : vp_in (nI f) 28 := vp_in_nI (by omega) (by omega)
          refine br_t rfl ?_
          rw [nI_clamp (by omega), (hw.xf.2.1.2 f hf).1, (hw.xf.2.1.2 f hf).2]
          have rr : ∀ r : Int32, ((¬ a1 = 0 → r = nI (fhi n X Y f)) ∧ (a1 = 0 → r = nI (flo n X Y f))) → wp_X8_end (nI f) a1 MR (fun r2 M2 => r = r2 ∧ Rel MX M2) := fun r hr => by
            refine rw_inl z0 z1 (fun _ => bs_t (by decide) (bs_t r0 (rw_noFence (F := fN n X Y) (by omega) hw'.rf.2.1.1 (fun _ => br_t rfl ?_) (fun z => absurd hv z)))) (fun z => absurd (lt01.mpr hw2) z)
            rw [nI_clamp (by omega), show (upI MR 0 0 0).1 9 f = nI (fhi n X Y f) from (hw.rf.2.1.2 f hf).2, show (upI MR 0 0 0).1 8 f = nI (flo n X Y f) from (hw.rf.2.1.2 f hf).1]
            exact bs_c (fun e => ⟨vf, hr.1 e, h'⟩) (fun e => ⟨vf, hr.2 e, h'⟩)
          exact bs_c (fun e => ⟨vf, rr _ ⟨fun _ => rfl, fun z => absurd z e⟩⟩) (fun e => ⟨vf, rr _ ⟨fun z => absurd e z, fun _ => rfl⟩⟩)
        · refine br_f (by decide) ?_
          exact rw_inl z0 z1 (fun _ => bs_t (by decide) (bs_t r0 (rw_noFence (F := fN n X Y) (by omega) hw'.rf.2.1.1 (fun z => absurd z hv) (fun _ => br_f (by decide) ⟨rfl, h'⟩)))) (fun z => absurd (lt01.mpr hw2) z)
    by_cases e : a1 = 0
    · exact br_t e go
    · exact br_f e (br_t (hw2.resolve_left e) go)
  · refine br_f (fun e => hw2 (Or.inl e)) (br_f (fun e => hw2 (Or.inr e)) ?_)
    exact rw_inl z0 z1 (fun z => absurd (lt01.mp z) hw2) (fun _ => bs_f rfl ⟨rfl, h'⟩)
theorem st_crosses (h : Rel MX MR) (a0 a1 : Int32) : wp_X7_crosses a0 a1 MX (fun r M1 => wp_X8_crosses a0 a1 MR (fun r2 M2 => r = r2 ∧ Rel M1 M2)) := by
  have h' := Rel_thr h
  refine at_X7_crosses_fold ?_
  dsimp only [blk_X7_crosses, blk_X7_crosses_0]
  rcases Rel_gr h with ⟨x0, r0⟩ | ⟨x0, r0, nx, n, X, Y, H, B, i, L, hnx, h31, hw, hw'⟩
  · exact xw_ref0 x0 (bs_t (by decide) (at_X7_crosses_fold (br_f (by decide) (at_X8_crosses_fold (bs_f r0 ⟨rfl, h'⟩)))))
  · have h28 := hw.f28
    refine xw_ref (F := fN n X Y) (by omega) x0 hw.xf.2.1.1 (fun hv => ?_) (fun hv => ?_)
    · refine bs_f rfl (xw_ref (F := fN n X Y) (by omega) x0 hw.xf.2.1.1 (fun hu => ?_) (fun hu => ?_))
      · obtain ⟨f, hf, rfl⟩ := inr_nI hv
        obtain ⟨g, hg, rfl⟩ := inr_nI hu
        have vf : vp_in (nI f) 28 := vp_in_nI (by omega) (by omega)
        have c28 := cmk_lt hw.P f
        refine at_X7_crosses_fold (br_t rfl ⟨vf, ?_⟩)
        rw [nI_clamp (by omega), hw.xf.2.2.2.1 f hf]
        refine xw_isIn (by omega) (by omega) ?_
        have rr : ∀ b : Bool, (cmk n X Y f).testBit g = b → wp_X8_crosses (nI f) (nI g) MR (fun r2 M2 => bI b = r2 ∧ Rel MX M2) := fun b hb => by
          refine at_X8_crosses_fold (bs_t r0 (rw_noFence (F := fN n X Y) (by omega) hw'.rf.2.1.1 (fun _ => bs_f rfl (rw_noFence (F := fN n X Y) (by omega) hw'.rf.2.1.1 (fun _ => br_t rfl ⟨vf, ?_⟩) (fun z => absurd hu z))) (fun z => absurd hv z)))
          rw [nI_clamp (by omega), show (upI MR 0 0 0).1 11 f = nI (cmk n X Y f) from hw.rf.2.2.2 f hf, tbI (by omega) (by omega), hb]
          exact ⟨rfl, h'⟩
        cases hb : (cmk n X Y f).testBit g with
        | false => exact br_t rfl (rr false hb)
        | true => exact br_f (by decide) (rr true hb)
      · refine at_X7_crosses_fold (br_f (by decide) (at_X8_crosses_fold (bs_t r0 (rw_noFence (F := fN n X Y) (by omega) hw'.rf.2.1.1 (fun _ => bs_f rfl (rw_noFence (F := fN n X Y) (by omega) hw'.rf.2.1.1 (fun z => absurd z hu) (fun _ => br_f (by decide) (at_X8_crosses_fold ⟨rfl, h'⟩)))) (fun z => absurd hv z)))))
    · refine bs_t (by decide) (at_X7_crosses_fold (br_f (by decide) (at_X8_crosses_fold (bs_t r0 (rw_noFence (F := fN n X Y) (by omega) hw'.rf.2.1.1 (fun z => absurd z hv) (fun _ => bs_t (by decide) (at_X8_crosses_fold ⟨rfl, h'⟩)))))))
theorem st_weigh (h : Rel MX MR) (a0 a1 : Int32) : wp_X7_weigh a0 a1 MX (fun r M1 => wp_X8_weigh a0 a1 MR (fun r2 M2 => r = r2 ∧ Rel M1 M2)) := by
  have h' := Rel_thr h
  have z0 : (-1000 : Int64).toInt = -1000 := by decide
  have z1 : (1000 : Int64).toInt = 1000 := by decide
  show _ ∧ _
  rw [in_lt, in_le, show (-1000 : Int32).toInt = -1000 by decide, show (1000 : Int32).toInt = 1000 by decide]
  have bad : ¬ (-1000 ≤ a1.toInt ∧ a1.toInt ≤ 1000) → wp_X8_weigh a0 a1 MR (fun r2 M2 => -2 = r2 ∧ Rel MX M2) := fun hb => rw_inl z0 z1 (fun z => absurd z hb) (fun _ => bs_f rfl ⟨rfl, h'⟩)
  by_cases b1 : a1.toInt < -1000
  · exact br_t b1 (bad (by omega))
  · refine br_f b1 ?_
    by_cases b2 : a1.toInt ≤ 1000
    · refine br_t b2 ?_
      have hb : -1000 ≤ a1.toInt ∧ a1.toInt ≤ 1000 := ⟨by omega, b2⟩
      rcases Rel_gr h with ⟨x0, r0⟩ | ⟨x0, r0, nx, n, X, Y, H, B, i, L, hnx, h31, hw, hw'⟩
      · exact xw_ref0 x0 (br_f (by decide) (rw_inl z0 z1 (fun _ => bs_t (by decide) (bs_f r0 ⟨rfl, h'⟩)) (fun z => absurd hb z)))
      · have h28 := hw.f28
        refine xw_ref (F := fN n X Y) (by omega) x0 hw.xf.2.1.1 (fun hv => ?_) (fun hv => ?_)
        · obtain ⟨f, hf, rfl⟩ := inr_nI hv
          have vf : vp_in (nI f) 28 := vp_in_nI (by omega) (by omega)
          refine br_t rfl ⟨vf, vf, ?_⟩
          rw [nI_clamp (by omega)]
          refine rw_inl z0 z1 (fun _ => bs_t (by decide) (bs_t r0 (rw_noFence (F := fN n X Y) (by omega) hw'.rf.2.1.1 (fun _ => br_t rfl ⟨vf, vf, ?_⟩) (fun z => absurd hv z)))) (fun z => absurd hb z)
          rw [nI_clamp (by omega)]
          refine ⟨hw.we f hf, ?_⟩
          obtain ⟨hs, hfn, hpo, nx', hnx', h31', hg⟩ := h
          refine ⟨hs, hfn, hpo, nx', hnx', h31', ?_⟩
          rcases hg with ⟨a, b⟩ | ⟨a, b, n', X', Y', H', B', i', L', c1, c2, c3, c4, c5, c6, c7, c8, c9, c10, c11, c12, c13⟩
          · exact absurd a x0
          · refine Or.inr ⟨a, b, n', X', Y', H', B', i', L', c1, c2, c3, c4, c5, c6, c7, c8, c9, c10, c11, c12, fun g hg => ?_⟩
            show (upI MX 33 f a1).1 33 g = (upI MR 12 f a1).1 12 g
            by_cases e : g = f
            · rw [e, upI_same, upI_same]
            · rw [upI_oth e, upI_oth e]; exact c13 g hg
        · exact br_f (by decide) (rw_inl z0 z1 (fun _ => bs_t (by decide) (bs_t r0 (rw_noFence (F := fN n X Y) (by omega) hw'.rf.2.1.1 (fun z => absurd z hv) (fun _ => br_f (by decide) ⟨rfl, h'⟩)))) (fun z => absurd hb z))
    · exact br_f b2 (bad (by omega))
theorem st_cutting (h : Rel MX MR) : wp_X7_cutting MX (fun r M1 => wp_X8_cutting MR (fun r2 M2 => r = r2 ∧ Rel M1 M2)) := by
  have h' := Rel_thr h
  rcases Rel_gr h with ⟨x0, r0⟩ | ⟨x0, r0, nx, n, X, Y, H, B, i, L, hnx, h31, hw, hw'⟩
  · exact br_t x0 (br_t r0 ⟨rfl, h'⟩)
  · refine br_f x0 (xw_now hw (br_f r0 ⟨?_, h'⟩))
    show _ = (MR.1 0 24).toInt64
    rw [hw.cut]
theorem st_has (h : Rel MX MR) (a0 : Int32) : wp_X7_has a0 MX (fun r M1 => wp_X8_has a0 MR (fun r2 M2 => r = r2 ∧ Rel M1 M2)) := by
  have h' := Rel_thr h
  rcases Rel_gr h with ⟨x0, r0⟩ | ⟨x0, r0, nx, n, X, Y, H, B, i, L, hnx, h31, hw, hw'⟩
  · exact xw_ref0 x0 (br_f (by decide) (bs_f r0 ⟨rfl, h'⟩))
  · have h28 := hw.f28
    have i28 := hw.i28
    refine xw_ref (F := fN n X Y) (by omega) x0 hw.xf.2.1.1 (fun hv => ?_) (fun hv => ?_)
    · obtain ⟨f, hf, rfl⟩ := inr_nI hv
      refine br_t rfl (xw_now hw (xw_isIn (by omega) (by omega) ?_))
      have rr : ∀ b : Bool, (cg n X Y i).testBit f = b → wp_X8_has (nI f) MR (fun r2 M2 => bI b = r2 ∧ Rel MX M2) := fun b hb => by
        refine bs_t r0 (rw_noFence (F := fN n X Y) (by omega) hw'.rf.2.1.1 (fun _ => br_t rfl ?_) (fun z => absurd hv z))
        rw [show (upI MR 0 0 0).1 0 24 = nI (cg n X Y i) from hw.cut, tbI (by omega) (by omega), hb]
        exact ⟨rfl, h'⟩
      cases hb : (cg n X Y i).testBit f with
      | false => exact br_t rfl (rr false hb)
      | true => exact br_f (by decide) (rr true hb)
    · exact br_f (by decide) (bs_t r0 (rw_noFence (F := fN n X Y) (by omega) hw'.rf.2.1.1 (fun z => absurd z hv) (fun _ => br_f (by decide) ⟨rfl, h'⟩)))
theorem st_count (h : Rel MX MR) : wp_X7_count MX (fun r M1 => wp_X8_count MR (fun r2 M2 => r = r2 ∧ Rel M1 M2)) := by
  have h' := Rel_thr h
  rcases Rel_gr h with ⟨x0, r0⟩ | ⟨x0, r0, nx, n, X, Y, H, B, i, L, hnx, h31, hw, hw'⟩
  · exact br_t x0 (br_t r0 ⟨rfl, h'⟩)
  · exact br_f x0 (br_f r0 ⟨hw.xa.2.2.1.trans hw.ra.2.2.1.symm, h'⟩)
theorem rw_rankOf {n : Nat} {X Y : Nat → Int} {H B : Nat} (hP : Pts n X Y) (hc : cN n X Y ≤ 256) {M : Mem} (hA : RA n X Y H B M) {j : Nat} (hj : j < cN n X Y) (hp : ap n X Y H B j = true) {Q : Int32 → Mem → Prop} (q : Q (nI (ark n X Y H B j)) M) : wp_X8_rankOf (nI (cg n X Y j)) M Q := by
  have ha := ark_lt_aN hj hp
  have hN := aN_le (n := n) (X := X) (Y := Y) (H := H) (B := B)
  have j28 := cg_28 hP hj
  have key : ∀ d r, r + d = ark n X Y H B j → at_X8_rankOf (nI (cg n X Y j)) Q 1 (nI r) M := by
    intro d
    induction d with
    | zero =>
      intro r hr
      refine at_X8_rankOf_fold ⟨vp_in_nI (by omega) (by omega), ?_⟩
      rw [nI_clamp (by omega), show r = ark n X Y H B j by omega, hA.2.2.2 j hj hp]
      exact br_t rfl q
    | succ d ih =>
      intro r hr
      obtain ⟨k, k1, k2, k3⟩ := ark_kth (n := n) (X := X) (Y := Y) (H := H) (B := B) (r := r) (by omega)
      have k28 := cg_28 hP k1
      refine at_X8_rankOf_fold ⟨vp_in_nI (by omega) (by omega), br_f ?_ ?_⟩
      · rw [nI_clamp (by omega), ← k3, hA.2.2.2 k k1 k2, nI_eq (by omega) (by omega)]
        intro e
        have := cg_inj k1 hj e
        rw [this] at k3
        omega
      · rw [nI_1]; exact ih (r + 1) (by omega)
  exact at_X8_rankOf_fold (key (ark n X Y H B j) 0 (by omega))
theorem st_rank (h : Rel MX MR) : wp_X7_rank MX (fun r M1 => wp_X8_rank MR (fun r2 M2 => r = r2 ∧ Rel M1 M2)) := by
  have h' := Rel_thr h
  rcases Rel_gr h with ⟨x0, r0⟩ | ⟨x0, r0, nx, n, X, Y, H, B, i, L, hnx, h31, hw, hw'⟩
  · exact br_t x0 (br_t r0 ⟨rfl, h'⟩)
  · have hi := hw.il
    have hc := hw.c
    refine br_f x0 ?_
    rw [hw.now, nI_clamp (by omega), (hw.xa.2.2.2.1 i hi hw.ip).2]
    refine ⟨vp_in_nI (by omega) (by omega), br_f r0 ?_⟩
    rw [show (upI MR 0 0 0).1 0 24 = nI (cg n X Y i) from hw.cut]
    exact rw_rankOf hw.P hc (M := upI MR 0 0 0) (H := H) (B := B) hw.ra hi hw.ip ⟨rfl, h'⟩
/-- the cutting of a rank, by its place -/
noncomputable def kr (n : Nat) (X Y : Nat → Int) (H B r : Nat) : Nat := @dite _ (∃ i, i < cN n X Y ∧ ap n X Y H B i = true ∧ ark n X Y H B i = r) (Classical.propDecidable _) (fun h => Classical.choose h) (fun _ => 0)
theorem kr_of {n : Nat} {X Y : Nat → Int} {H B r : Nat} (h : r < aN n X Y H B) : kr n X Y H B r < cN n X Y ∧ ap n X Y H B (kr n X Y H B r) = true ∧ ark n X Y H B (kr n X Y H B r) = r := by
  unfold kr
  rw [dif_pos (ark_kth h)]
  exact Classical.choose_spec (ark_kth h)
theorem kr_ark {n : Nat} {X Y : Nat → Int} {H B i : Nat} (hi : i < cN n X Y) (hp : ap n X Y H B i = true) : kr n X Y H B (ark n X Y H B i) = i := by
  obtain ⟨a, b, c⟩ := kr_of (ark_lt_aN hi hp)
  exact ark_inj b hp c
theorem XA.k {n : Nat} {X Y : Nat → Int} {H B r : Nat} {M : Mem} (h : XA n X Y H B M) (hr : r < aN n X Y H B) : M.1 26 r = nI (kr n X Y H B r) := by
  obtain ⟨a, b, c⟩ := kr_of hr
  have := (h.2.2.2.1 _ a b).1
  rw [c] at this
  exact this
theorem RA.k {n : Nat} {X Y : Nat → Int} {H B r : Nat} {M : Mem} (h : RA n X Y H B M) (hr : r < aN n X Y H B) : M.1 14 r = nI (cg n X Y (kr n X Y H B r)) := by
  obtain ⟨a, b, c⟩ := kr_of hr
  have := h.2.2.2 _ a b
  rw [c] at this
  exact this
theorem xw_of {n : Nat} {X Y : Nat → Int} {H B i nx : Nat} {L : List Nat} (hw : GrW n X Y H B i nx L MX MR) {M : Mem} (hk : XK n X Y M) (ha : XA n X Y H B M) {r : Nat} (hr : r < aN n X Y H B) {Q : Int32 → Mem → Prop} (q : Q (nI (cg n X Y (kr n X Y H B r))) M) : wp_X7_fencesOf (nI r) M Q := by
  have hN := hw.a256
  have hc := hw.c
  obtain ⟨a, b, c⟩ := kr_of hr
  unfold wp_X7_fencesOf
  rw [nI_clamp (by omega), ha.k hr, nI_clamp (by omega), hk.2.1 _ a]
  exact ⟨vp_in_nI (by omega) (by omega), vp_in_nI (by omega) (by omega), q⟩
theorem st_of (h : Rel MX MR) (a0 : Int32) : wp_X7_of a0 MX (fun r M1 => wp_X8_of a0 MR (fun r2 M2 => r = r2 ∧ Rel M1 M2)) := by
  have h' := Rel_thr h
  rcases Rel_gr h with ⟨x0, r0⟩ | ⟨x0, r0, nx, n, X, Y, H, B, i, L, hnx, h31, hw, hw'⟩
  · exact xw_rref0 x0 (br_f (by decide) (bs_f r0 ⟨by decide, h'⟩))
  · have hN := hw.a256
    refine xw_rref (F := aN n X Y H B) (by omega) x0 hw.xa.2.2.1 (fun hv => ?_) (fun hv => ?_)
    · obtain ⟨r, hr, rfl⟩ := inr_nI hv
      refine br_t rfl (xw_of hw hw.xk hw.xa hr ?_)
      refine bs_t r0 (rw_noRank (F := aN n X Y H B) (by omega) hw'.ra.2.2.1 (fun _ => br_t rfl ?_) (fun z => absurd hv z))
      rw [nI_clamp (by omega), show (upI MR 0 0 0).1 14 r = _ from hw.ra.k hr]
      exact ⟨vp_in_nI (by omega) (by omega), rfl, h'⟩
    · exact br_f (by decide) (bs_t r0 (rw_noRank (F := aN n X Y H B) (by omega) hw'.ra.2.2.1 (fun z => absurd z hv) (fun _ => br_f (by decide) ⟨by decide, h'⟩)))
end ST
