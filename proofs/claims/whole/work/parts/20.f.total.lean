/-! ===== TOTAL, DEGREE ===== -/
theorem b_add0 (v : Int32) : v + bI false = v := Int32.add_zero v
theorem Sh1_b {m l n n' l' : Int32} {a a' : Nat → Int64} (h : Sh1 m l n a n' l' a') : ∃ b : Bool, (b = true → m = 0 ∧ 0 ≤ n') ∧ (b = false → ¬ m = 0 ∧ ¬ 0 ≤ n') := by
  rcases h with ⟨p1, L, p2, p3, p4, -⟩ | ⟨p1, p2⟩
  · exact ⟨true, fun _ => ⟨p1, by rw [p4]; exact nI_pos' (by omega)⟩, fun z => (by cases z)⟩
  · exact ⟨false, fun z => (by cases z), fun _ => ⟨by rw [p1]; decide, by rw [p2]; decide⟩⟩
section TO
variable {n : Nat} {X Y : Nat → Int} {M : Mem}
theorem rw_isHem (hP : Pts n X Y) (hG : RG n X Y M) (hL : RLw n X Y M) {f : Nat} (hf : f < fN n X Y) {Q : Int32 → Mem → Prop} (q : Q (bI (hem n X Y f)) M) : wp_X8_isHem (nI f) M Q := by
  have h28 := hP.f28
  have vf : vp_in (nI f) 28 := vp_in_nI (by omega) (by omega)
  have key : ∀ d k, k + d = n → at_X8_isHem (nI f) Q 1 (bI (pb (∃ p, p < k ∧ sg X Y (flo n X Y f) (fhi n X Y f) p = .gt))) (bI (pb (∃ p, p < k ∧ sg X Y (flo n X Y f) (fhi n X Y f) p = .lt))) (nI k) M := by
    intro d
    induction d with
    | zero =>
      intro k hk
      have hkn : k = n := by omega
      subst hkn
      refine at_X8_isHem_fold (br_t ?_ ?_)
      · rw [hG.1]; exact (nI_leI (hP.l31 (by omega)) (hP.l31 (by omega))).mpr (by omega)
      · unfold hem at q
        cases h1 : pb (∃ p, p < k ∧ sg X Y (flo k X Y f) (fhi k X Y f) p = .gt) with
        | false =>
          rw [h1] at q
          exact br_t rfl (at_X8_isHem_fold q)
        | true =>
          rw [h1] at q
          refine br_f (by decide) ?_
          cases h2 : pb (∃ p, p < k ∧ sg X Y (flo k X Y f) (fhi k X Y f) p = .lt) with
          | false =>
            rw [h2] at q
            exact bs_f rfl (at_X8_isHem_fold q)
          | true =>
            rw [h2] at q
            exact bs_t (by decide) q
    | succ d ih =>
      intro k hk
      refine at_X8_isHem_fold (br_f ?_ ?_)
      · rw [hG.1, nI_leI (hP.l31 (by omega)) (hP.l31 (by omega))]; omega
      · have nx := ih (k + 1) (by omega)
        rw [pb_ex_succ, pb_ex_succ, ← nI_1] at nx
        generalize pb (∃ p, p < k ∧ sg X Y (flo n X Y f) (fhi n X Y f) p = .gt) = b1 at nx ⊢
        generalize pb (∃ p, p < k ∧ sg X Y (flo n X Y f) (fhi n X Y f) p = .lt) = b2 at nx ⊢
        have l4 : at_X8_isHem (nI f) Q 4 (bI (b1 || pb (sg X Y (flo n X Y f) (fhi n X Y f) k = .gt))) (bI b2) (nI k) M := by
          refine at_X8_isHem_fold ?_
          cases b2 with
          | true => exact bs_t (by decide) (at_X8_isHem_fold (at_X8_isHem_fold nx))
          | false =>
            refine bs_f rfl ⟨vf, vf, ?_⟩
            rw [nI_clamp (hP.f31 (Nat.le_of_lt hf)), (hL.2 f hf).1, (hL.2 f hf).2]
            refine rw_side hP hG (hP.lo hf) (hP.hi hf) (by omega) ?_
            by_cases hl : sg X Y (flo n X Y f) (fhi n X Y f) k = .lt
            · rw [pb_iff.mpr hl] at nx
              exact br_f (fun z => sI_ge.mp z hl) (at_X8_isHem_fold (at_X8_isHem_fold nx))
            · rw [pb_f.mpr hl] at nx
              exact br_t (sI_ge.mpr hl) (at_X8_isHem_fold nx)
        cases b1 with
        | true => exact bs_t (by decide) (at_X8_isHem_fold l4)
        | false =>
          refine bs_f rfl ⟨vf, vf, ?_⟩
          rw [nI_clamp (hP.f31 (Nat.le_of_lt hf)), (hL.2 f hf).1, (hL.2 f hf).2]
          refine rw_side hP hG (hP.lo hf) (hP.hi hf) (by omega) ?_
          by_cases hg : sg X Y (flo n X Y f) (fhi n X Y f) k = .gt
          · rw [pb_iff.mpr hg] at l4
            exact br_f (fun z => sI_le.mp z hg) (at_X8_isHem_fold l4)
          · rw [pb_f.mpr hg] at l4
            exact br_t (sI_le.mpr hg) l4
  have := key n 0 (by omega)
  rw [pb_ex_0, pb_ex_0] at this
  exact at_X8_isHem_fold this
theorem hmk_tb {i : Nat} : (hmk n X Y).testBit i = (decide (i < fN n X Y) && hem n X Y i) := mk_tb _ _ _
theorem hmk_lt (hP : Pts n X Y) : hmk n X Y < 2 ^ 28 := Nat.lt_of_lt_of_le (mk_lt _ _) (Nat.pow_le_pow_right (by omega) hP.f28)
theorem hmk_ct (hP : Pts n X Y) : ct (hmk n X Y).testBit 28 = ct (hem n X Y) (fN n X Y) := by
  rw [ct_more (m := fN n X Y) hP.f28 (fun k hk => by rw [hmk_tb, decide_eq_false (by omega)]; rfl)]
  exact ct_cong fun k hk => by rw [hmk_tb, decide_eq_true hk]; rfl
theorem rw_bitsOf {s : Nat} (hs : s < 2 ^ 28) {Q : Int32 → Mem → Prop} (q : Q (nI (ct s.testBit 28)) M) : wp_X8_bitsOf (nI s) M Q := by
  have key : ∀ d k, k + d = 28 → at_X8_bitsOf (nI s) Q 1 (nI (ct s.testBit k)) (nI k) M := by
    intro d
    induction d with
    | zero =>
      intro k hk
      rw [show k = 28 by omega]
      exact at_X8_bitsOf_fold (br_t (by decide) q)
    | succ d ih =>
      intro k hk
      have nx := ih (k + 1) (by omega)
      rw [← nI_1, ct_succ] at nx
      refine at_X8_bitsOf_fold (br_f ?_ (nm_r ?_ nx))
      · show ¬ nI 28 ≤ nI k
        rw [nI_leI (by omega) (by omega)]; omega
      · rw [tbI (by omega) (by omega), nI_b]
  exact at_X8_bitsOf_fold (key 28 0 (by omega))
end TO
section ST
variable {MX MR : Mem}
theorem both_sheets (h : Rel MX MR) : wp_X7_sheetsThere MX (fun r M1 => at_X8_total 8 (fun r2 M2 => r = r2 ∧ Rel M1 M2) 3 0 0 (upI MR 0 0 0)) := by
  have h' := Rel_thr h
  obtain ⟨s0, s1, s2, s3⟩ := h.1
  obtain ⟨b0, t0, f0⟩ := Sh1_b s0
  obtain ⟨b1, t1, f1⟩ := Sh1_b s1
  obtain ⟨b2, t2, f2⟩ := Sh1_b s2
  obtain ⟨b3, t3, f3⟩ := Sh1_b s3
  have R : ∀ r : Int32, r = 0 + bI b0 + bI b1 + bI b2 + bI b3 → at_X8_total 8 (fun r2 M2 => r = r2 ∧ Rel MX M2) 3 0 0 (upI MR 0 0 0) := by
    intro r hr
    have st : ∀ (s : Nat) (b : Bool) (c : Int32), s < 4 → (b = true → 0 ≤ MR.1 1 s) → (b = false → ¬ 0 ≤ MR.1 1 s) → at_X8_total 8 (fun r2 M2 => r = r2 ∧ Rel MX M2) 3 (c + bI b) (nI (s + 1)) (upI MR 0 0 0) → at_X8_total 8 (fun r2 M2 => r = r2 ∧ Rel MX M2) 3 c (nI s) (upI MR 0 0 0) := by
      intro s b c hs ht hf k
      rw [← nI_1] at k
      refine at_X8_total_fold (br_f ?_ ⟨vp_in_nI hs (by omega), ?_⟩)
      · show ¬ nI 4 ≤ nI s
        rw [nI_leI (by omega) (by omega)]; omega
      · rw [nI_clamp (by omega)]
        cases b with
        | true => exact br_t (ht rfl) (at_X8_total_fold k)
        | false => exact br_f (hf rfl) (at_X8_total_fold k)
    refine st 0 b0 0 (by omega) (fun z => (t0 z).2) (fun z => (f0 z).2) (st 1 b1 _ (by omega) (fun z => (t1 z).2) (fun z => (f1 z).2) (st 2 b2 _ (by omega) (fun z => (t2 z).2) (fun z => (f2 z).2) (st 3 b3 _ (by omega) (fun z => (t3 z).2) (fun z => (f3 z).2) (at_X8_total_fold (br_t (by decide) ⟨hr, h'⟩)))))
  refine at_X7_sheetsThere_fold ?_
  have l2 : ∀ (s : Nat) (c : Int32), at_X7_sheetsThere (fun r M1 => at_X8_total 8 (fun r2 M2 => r = r2 ∧ Rel M1 M2) 3 0 0 (upI MR 0 0 0)) 1 c (nI (s + 1)) MX → at_X7_sheetsThere (fun r M1 => at_X8_total 8 (fun r2 M2 => r = r2 ∧ Rel M1 M2) 3 0 0 (upI MR 0 0 0)) 2 c (nI s) MX := fun s c k => by
    rw [← nI_1] at k
    exact at_X7_sheetsThere_fold k
  have br : ∀ (m : Int32) (b : Bool) (c : Int32) (s : Nat), (b = true → m = 0) → (b = false → ¬ m = 0) → at_X7_sheetsThere (fun r M1 => at_X8_total 8 (fun r2 M2 => r = r2 ∧ Rel M1 M2) 3 0 0 (upI MR 0 0 0)) 1 (c + bI b) (nI (s + 1)) MX → ((¬ m = 0 → at_X7_sheetsThere (fun r M1 => at_X8_total 8 (fun r2 M2 => r = r2 ∧ Rel M1 M2) 3 0 0 (upI MR 0 0 0)) 2 c (nI s) MX) ∧ (m = 0 → at_X7_sheetsThere (fun r M1 => at_X8_total 8 (fun r2 M2 => r = r2 ∧ Rel M1 M2) 3 0 0 (upI MR 0 0 0)) 2 (c + 1) (nI s) MX)) := by
    intro m b c s ht hf k
    cases b with
    | true => exact bs_f (ht rfl) (l2 s _ k)
    | false =>
      rw [b_add0] at k
      exact bs_t (hf rfl) (l2 s _ k)
  have v0 : vp_in (nI 0) 4 := vp_in_nI (by omega) (by omega)
  have v1 : vp_in (nI 1) 4 := vp_in_nI (by omega) (by omega)
  have v2 : vp_in (nI 2) 4 := vp_in_nI (by omega) (by omega)
  have v3 : vp_in (nI 3) 4 := vp_in_nI (by omega) (by omega)
  refine at_X7_sheetsThere_fold (br_f (by decide) ⟨v0, fun _ => br _ b0 0 0 (fun z => (t0 z).1) (fun z => (f0 z).1) ?_, fun z => absurd z (by decide), fun z => absurd z (by decide), fun z => absurd z (by decide)⟩)
  refine at_X7_sheetsThere_fold (br_f (by decide) ⟨v1, fun z => absurd z (by decide), fun _ => br _ b1 _ 1 (fun z => (t1 z).1) (fun z => (f1 z).1) ?_, fun z => absurd z (by decide), fun z => absurd z (by decide)⟩)
  refine at_X7_sheetsThere_fold (br_f (by decide) ⟨v2, fun z => absurd z (by decide), fun z => absurd z (by decide), fun _ => br _ b2 _ 2 (fun z => (t2 z).1) (fun z => (f2 z).1) ?_, fun z => absurd z (by decide)⟩)
  refine at_X7_sheetsThere_fold (br_f (by decide) ⟨v3, fun z => absurd z (by decide), fun z => absurd z (by decide), fun z => absurd z (by decide), fun _ => br _ b3 _ 3 (fun z => (t3 z).1) (fun z => (f3 z).1) ?_⟩)
  exact at_X7_sheetsThere_fold (br_t (by decide) (R _ rfl))
theorem st_total (h : Rel MX MR) (a0 : Int32) : wp_X7_total a0 MX (fun r M1 => wp_X8_total a0 MR (fun r2 M2 => r = r2 ∧ Rel M1 M2)) := by
  have h' := Rel_thr h
  have z0 : (0 : Int64).toInt = 0 := by decide
  have z8 : (8 : Int64).toInt = 8 := by decide
  obtain ⟨m, PX, PY, hP, hX, hR⟩ := h.2.2.1
  have lit : ∀ {k : Nat}, k ≤ 8 → a0.toInt = k → a0 = nI k := fun hk e => Int32.toInt_inj.mp (by rw [e, nI_toInt (by omega)])
  have enter : ∀ {K : Int32 → Mem → Prop}, (0 ≤ a0.toInt ∧ a0.toInt ≤ 8) → blk_X8_total_0 a0 K (at_X8_total a0 K) 0 0 MR → wp_X8_total a0 MR K := fun _ hk => at_X8_total_fold hk
  refine ⟨fun hb => ?_, fun e => ?_, fun e => ?_, fun e => ?_, fun e => ?_, fun e => ?_, fun e => ?_, fun e => ?_, fun e => ?_, fun e => ?_⟩
  · show wp_X8_total a0 MR (fun r2 M2 => -2 = r2 ∧ Rel MX M2)
    refine at_X8_total_fold ?_
    dsimp only [blk_X8_total, blk_X8_total_0]
    exact rw_inl z0 z8 (fun z => by omega) (fun _ => bs_f rfl ⟨rfl, h'⟩)
  · have e' := lit (k := 0) (by omega) (by omega)
    subst e'
    show wp_X8_total (nI 0) MR (fun r2 M2 => MX.1 10 2 = r2 ∧ Rel MX M2)
    refine at_X8_total_fold ?_
    dsimp only [blk_X8_total, blk_X8_total_0]
    exact rw_inl z0 z8 (fun _ => bs_t (by decide) (br_t (by decide) (at_X8_total_fold (bs_f (by decide) ⟨hX.1.trans hR.1.symm, h'⟩)))) (fun z => absurd (by decide) z)
  all_goals try
    have five : ∀ (k : Nat), 1 ≤ k → k ≤ 6 → a0 = nI k → ∀ {K : Int32 → Mem → Prop}, ((¬ MR.1 0 8 = 0 → (((nI k).toInt < 1 ∨ 5 < (nI k).toInt → K ((upI MR 0 0 0).1 0 25) (upI MR 0 0 0)) ∧ ((nI k).toInt = 1 → K ((upI MR 0 0 0).1 0 9) (upI MR 0 0 0)) ∧ ((nI k).toInt = 2 → K ((upI MR 0 0 0).1 0 12) (upI MR 0 0 0)) ∧ ((nI k).toInt = 3 → at_X8_total (nI k) K 2 0 0 (upI MR 0 0 0)) ∧ ((nI k).toInt = 4 → wp_X8_bitsOf ((upI MR 0 0 0).1 0 18) (upI MR 0 0 0) (fun r2 M2 => K r2 M2)) ∧ ((nI k).toInt = 5 → wp_X8_bitsOf ((upI MR 0 0 0).1 0 19) (upI MR 0 0 0) (fun r3 M3 => K r3 M3)))) ∧ (MR.1 0 8 = 0 → K 0 (upI MR 0 0 0))) → wp_X8_total (nI k) MR K := fun k h1 h2 _ K hk => by
      refine at_X8_total_fold ?_
      dsimp only [blk_X8_total, blk_X8_total_0]
      refine rw_inl z0 z8 (fun _ => bs_t (by decide) (br_f ?_ (bs_t ?_ (bs_t ?_ hk)))) (fun z => absurd ?_ z)
      · rw [show (nI k = 0) ↔ (nI k = nI 0) from Iff.rfl, nI_eq (by omega) (by omega)]; omega
      · rw [show (nI k = 7) ↔ (nI k = nI 7) from Iff.rfl, nI_eq (by omega) (by omega)]; omega
      · rw [show (nI k = 8) ↔ (nI k = nI 8) from Iff.rfl, nI_eq (by omega) (by omega)]; omega
      · rw [nI_toInt (by omega)]; omega
  · have e' := lit (k := 1) (by omega) (by omega)
    rcases Rel_gr h with ⟨x0, r0⟩ | ⟨x0, r0, nx, n, X, Y, H, B, i, L, hnx, h31, hw, hw'⟩
    · refine br_t x0 ?_
      rw [e']
      exact five 1 (by omega) (by omega) e' (bs_f r0 ⟨rfl, h'⟩)
    · refine br_f x0 ?_
      rw [e']
      exact five 1 (by omega) (by omega) e' (bs_t r0 ⟨fun z => absurd z (by decide), fun _ => ⟨hw.xf.1.1.trans hw.rf.1.1.symm, h'⟩, fun z => absurd z (by decide), fun z => absurd z (by decide), fun z => absurd z (by decide), fun z => absurd z (by decide)⟩)
  · have e' := lit (k := 2) (by omega) (by omega)
    rcases Rel_gr h with ⟨x0, r0⟩ | ⟨x0, r0, nx, n, X, Y, H, B, i, L, hnx, h31, hw, hw'⟩
    · refine br_t x0 ?_
      rw [e']
      exact five 2 (by omega) (by omega) e' (bs_f r0 ⟨rfl, h'⟩)
    · refine br_f x0 ?_
      rw [e']
      exact five 2 (by omega) (by omega) e' (bs_t r0 ⟨fun z => absurd z (by decide), fun z => absurd z (by decide), fun _ => ⟨hw.xf.2.1.1.trans hw.rf.2.1.1.symm, h'⟩, fun z => absurd z (by decide), fun z => absurd z (by decide), fun z => absurd z (by decide)⟩)
  · have e' := lit (k := 3) (by omega) (by omega)
    rcases Rel_gr h with ⟨x0, r0⟩ | ⟨x0, r0, nx, n, X, Y, H, B, i, L, hnx, h31, hw, hw'⟩
    · refine br_t x0 ?_
      rw [e']
      exact five 3 (by omega) (by omega) e' (bs_f r0 ⟨rfl, h'⟩)
    · have h28 := hw.f28
      refine br_f x0 ?_
      rw [hw.xf.2.2.2.2.1]
      refine x_pop (hmk_lt hw.P) ?_
      rw [hmk_ct hw.P, e']
      refine five 3 (by omega) (by omega) e' (bs_t r0 ⟨fun z => absurd z (by decide), fun z => absurd z (by decide), fun z => absurd z (by decide), fun _ => ?_, fun z => absurd z (by decide), fun z => absurd z (by decide)⟩)
      have key : ∀ d k, k + d = fN n X Y → at_X8_total (nI 3) (fun r2 M2 => nI (ct (hem n X Y) (fN n X Y)) = r2 ∧ Rel MX M2) 2 (nI (ct (hem n X Y) k)) (nI k) (upI MR 0 0 0) := by
        intro d
        induction d with
        | zero =>
          intro k hk
          rw [show k = fN n X Y by omega]
          refine at_X8_total_fold (br_t ?_ ⟨rfl, h'⟩)
          rw [hw'.rf.2.1.1]; exact (nI_leI (by omega) (by omega)).mpr (Nat.le_refl _)
        | succ d ih =>
          intro k hk
          have nx := ih (k + 1) (by omega)
          rw [← nI_1 k, ct_succ, ← nI_b] at nx
          refine at_X8_total_fold (br_f ?_ (rw_isHem hw.P hw'.rf.1 hw'.rf.2.1 (by omega) ?_))
          · rw [hw'.rf.2.1.1, nI_leI (by omega) (by omega)]; omega
          · cases hb : hem n X Y k with
            | false =>
              rw [hb] at nx
              exact br_t rfl (at_X8_total_fold nx)
            | true =>
              rw [hb] at nx
              exact br_f (by decide) (at_X8_total_fold nx)
      exact key (fN n X Y) 0 (by omega)
  · have e' := lit (k := 4) (by omega) (by omega)
    rcases Rel_gr h with ⟨x0, r0⟩ | ⟨x0, r0, nx, n, X, Y, H, B, i, L, hnx, h31, hw, hw'⟩
    · refine br_t x0 ?_
      rw [e']
      exact five 4 (by omega) (by omega) e' (bs_f r0 ⟨rfl, h'⟩)
    · refine br_f x0 ?_
      rw [hw.xa.1]
      refine x_pop hw.h28 ?_
      rw [e']
      refine five 4 (by omega) (by omega) e' (bs_t r0 ⟨fun z => absurd z (by decide), fun z => absurd z (by decide), fun z => absurd z (by decide), fun z => absurd z (by decide), fun _ => ?_, fun z => absurd z (by decide)⟩)
      rw [hw'.ra.1]
      exact rw_bitsOf hw.h28 ⟨rfl, h'⟩
  · have e' := lit (k := 5) (by omega) (by omega)
    rcases Rel_gr h with ⟨x0, r0⟩ | ⟨x0, r0, nx, n, X, Y, H, B, i, L, hnx, h31, hw, hw'⟩
    · refine br_t x0 ?_
      rw [e']
      exact five 5 (by omega) (by omega) e' (bs_f r0 ⟨rfl, h'⟩)
    · refine br_f x0 ?_
      rw [hw.xa.2.1]
      refine x_pop hw.b28 ?_
      rw [e']
      refine five 5 (by omega) (by omega) e' (bs_t r0 ⟨fun z => absurd z (by decide), fun z => absurd z (by decide), fun z => absurd z (by decide), fun z => absurd z (by decide), fun z => absurd z (by decide), fun _ => ?_⟩)
      rw [hw'.ra.2.1]
      exact rw_bitsOf hw.b28 ⟨rfl, h'⟩
  · have e' := lit (k := 6) (by omega) (by omega)
    rcases Rel_gr h with ⟨x0, r0⟩ | ⟨x0, r0, nx, n, X, Y, H, B, i, L, hnx, h31, hw, hw'⟩
    · refine br_t x0 ?_
      rw [e']
      exact five 6 (by omega) (by omega) e' (bs_f r0 ⟨rfl, h'⟩)
    · refine br_f x0 ?_
      rw [e']
      exact five 6 (by omega) (by omega) e' (bs_t r0 ⟨fun _ => ⟨hw.pa.1.trans hw.pa.2.1.symm, h'⟩, fun z => absurd z (by decide), fun z => absurd z (by decide), fun z => absurd z (by decide), fun z => absurd z (by decide), fun z => absurd z (by decide)⟩)
  · have e' := lit (k := 7) (by omega) (by omega)
    subst e'
    show wp_X8_total (nI 7) MR (fun r2 M2 => MX.1 0 10 = r2 ∧ Rel MX M2)
    refine at_X8_total_fold ?_
    dsimp only [blk_X8_total, blk_X8_total_0]
    exact rw_inl z0 z8 (fun _ => bs_t (by decide) (br_f (by decide) (bs_f (by decide) (at_X8_total_fold (bs_t (by decide) ⟨h.2.1, h'⟩))))) (fun z => absurd (by decide) z)
  · have e' := lit (k := 8) (by omega) (by omega)
    subst e'
    refine wp_X7_sheetsThere_mono (fun r M1 hk => ?_) (both_sheets h)
    refine at_X8_total_fold ?_
    dsimp only [blk_X8_total, blk_X8_total_0]
    exact rw_inl z0 z8 (fun _ => bs_t (by decide) (br_f (by decide) (bs_t (by decide) (bs_f (by decide) hk)))) (fun z => absurd (by decide) z)
end ST
