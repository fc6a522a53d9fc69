/-! ===== TELL ===== -/
def hab (b : Bool) (f H : Nat) : Nat := aclr H (1 <<< f) ||| (if b then 1 <<< f else 0)
theorem hab_tb {b : Bool} {f H i : Nat} : (hab b f H).testBit i = true ↔ (H.testBit i = true ∧ i ≠ f) ∨ (b = true ∧ i = f) := by
  unfold hab
  rw [Nat.testBit_or, aclr_tb, tb_one]
  cases b with
  | false =>
    simp only [Bool.or_eq_true, Bool.and_eq_true, Bool.not_eq_true', decide_eq_false_iff_not]
    constructor
    · rintro (⟨x, y⟩ | x)
      · exact Or.inl ⟨x, fun e => y e.symm⟩
      · simp at x
    · rintro (⟨x, y⟩ | ⟨x, -⟩)
      · exact Or.inl ⟨x, fun e => y e.symm⟩
      · cases x
  | true =>
    simp only [if_pos, tb_one, Bool.or_eq_true, Bool.and_eq_true, Bool.not_eq_true', decide_eq_false_iff_not, decide_eq_true_eq]
    constructor
    · rintro (⟨x, y⟩ | x)
      · exact Or.inl ⟨x, fun e => y e.symm⟩
      · exact Or.inr ⟨trivial, x.symm⟩
    · rintro (⟨x, y⟩ | ⟨-, x⟩)
      · exact Or.inl ⟨x, fun e => y e.symm⟩
      · exact Or.inr x.symm
theorem hab_lt {b : Bool} {f H : Nat} (h : H < 2 ^ 28) (hf : f < 28) : hab b f H < 2 ^ 28 := by
  unfold hab
  refine or_lt (aclr_lt h) ?_
  cases b
  · exact Nat.two_pow_pos 28
  · exact one_lt hf
theorem nI_hab0 (f H : Nat) (hf : f < 32) : nI H &&& (((1 : Int32) <<< (nI f &&& 31)) ^^^ (-1 : Int32)) = nI (hab false f H) := by
  rw [nI_shl hf, nI_clr]
  congr 1
  unfold hab
  exact (Nat.or_zero _).symm
theorem nI_hab1 (f H : Nat) (hf : f < 32) : nI (hab false f H) ||| ((1 : Int32) <<< (nI f &&& 31)) = nI (hab true f H) := by
  rw [nI_shl hf, nI_or]
  congr 1
  unfold hab
  show (aclr H (1 <<< f) ||| 0) ||| 1 <<< f = _
  rw [Nat.or_zero]
  rfl
section TE
variable {n : Nat} {X Y : Nat → Int} {H B : Nat}
theorem xw_askAnew (hP : Pts n X Y) (hc : cN n X Y ≤ 256) {M : Mem} (hK : XK n X Y M) (hH : H < 2 ^ 28) (hB : B < 2 ^ 28) (h3 : M.1 25 3 = nI H) (h4 : M.1 25 4 = nI B) {f : Nat} (hf : f < 28) {a1 : Int32} {Q : Mem → Prop} (q : ∀ M', Fr [25, 26, 27] M M' → XA n X Y (hab (decide (a1 = 1)) f H) (hab (decide (a1 = 2)) f B) M' → Q M') : wp_X0_askAnew (nI f) a1 M Q := by
  have l2 : ∀ M', Fr [25] M M' → M'.1 25 3 = nI (hab (decide (a1 = 1)) f H) → M'.1 25 4 = nI (hab (decide (a1 = 2)) f B) → at_X0_askAnew (nI f) a1 Q 2 0 M' := fun M' hF e3 e4 => by
    refine at_X0_askAnew_fold ?_
    dsimp only [blk_X0_askAnew, blk_X0_askAnew_2]
    exact xw_rankThem hP hc (XK_Fr hK hF (fun q a b => by simp; omega)) (hab_lt hH hf) (hab_lt hB hf) e3 e4 fun M2 f2 a2 => q M2 (Fr_trans (Fr_mono (by decide) hF) f2) a2
  have l1 : ∀ M', Fr [25] M M' → M'.1 25 3 = nI (hab (decide (a1 = 1)) f H) → M'.1 25 4 = nI (hab false f B) → at_X0_askAnew (nI f) a1 Q 1 ((1 : Int32) <<< (nI f &&& 31)) M' := fun M' hF e3 e4 => by
    refine at_X0_askAnew_fold ?_
    by_cases e : a1 = 2
    · refine bs_f e (l2 _ (Fr_up hF (by decide) _ _) e3 ?_)
      rw [upI_same, e4, nI_hab1 f B (by omega), decide_eq_true e]
    · refine bs_t e (l2 M' hF e3 ?_)
      rw [e4, decide_eq_false e]
  refine at_X0_askAnew_fold ?_
  show _ ∧ _
  have e3 : (upI (upI M 25 3 (nI (hab false f H))) 25 4 (nI (hab false f B))).1 25 3 = nI (hab false f H) := by rw [upI_oth (by decide), upI_same]
  have e4 : (upI M 25 3 (nI (hab false f H))).1 25 4 = nI B := by rw [upI_oth (by decide)]; exact h4
  rw [h3, nI_hab0 f H (by omega), e4, nI_hab0 f B (by omega), e3, nI_hab1 f H (by omega)]
  by_cases e : a1 = 1
  · refine bs_f e (l1 _ (Fr_up (Fr_up (Fr_up (Fr_refl _ _) (by decide) _ _) (by decide) _ _) (by decide) _ _) ?_ ?_)
    · rw [upI_same, decide_eq_true e]
    · rw [upI_oth (by decide), upI_same]
  · refine bs_t e (l1 _ (Fr_up (Fr_up (Fr_refl _ _) (by decide) _ _) (by decide) _ _) ?_ ?_)
    · rw [e3, decide_eq_false e]
    · rw [upI_same]
theorem rw_tell3 (hP : Pts n X Y) (hc : cN n X Y ≤ 256) {M : Mem} (hK : RK n X Y M) (hH : H < 2 ^ 28) (hB : B < 2 ^ 28) (h3 : M.1 0 18 = nI H) (h4 : M.1 0 19 = nI B) {f : Nat} (hf : f < 28) {a1 : Int32} {Q : Int32 → Mem → Prop} (q : ∀ M', Fq [14] [18, 19, 22, 25] M M' → RA n X Y (hab (decide (a1 = 1)) f H) (hab (decide (a1 = 2)) f B) M' → M'.1 0 25 = 0 → Q (M'.1 0 22) M') : at_X8_tell (nI f) a1 Q 3 0 M := by
  have l5 : ∀ M', Fq [14] [18, 19] M M' → M'.1 0 18 = nI (hab (decide (a1 = 1)) f H) → M'.1 0 19 = nI (hab (decide (a1 = 2)) f B) → at_X8_tell (nI f) a1 Q 5 0 M' := fun M' hF e3 e4 => by
    have hK' : RK n X Y M' := by
      unfold RK
      rw [hF.2.2 20 (by decide), hF.2.1 13 (by decide) (by decide)]
      exact hK
    refine at_X8_tell_fold ?_
    dsimp only [blk_X8_tell, blk_X8_tell_5]
    refine rw_findAsked hP hc hK' (hab_lt hH hf) (hab_lt hB hf) e3 e4 fun M2 f2 a2 => ?_
    exact q _ (Fq_trans (Fq_mono (fun _ z => z) (by decide) hF) (Fq_up0 (Fq_mono (fun _ z => z) (by decide) f2) (by decide) _)) a2 (upI_same ..)
  have l4 : ∀ M', Fq [14] [18, 19] M M' → M'.1 0 18 = nI (hab (decide (a1 = 1)) f H) → M'.1 0 19 = nI B → at_X8_tell (nI f) a1 Q 4 0 M' := fun M' hF e3 e4 => by
    refine at_X8_tell_fold ?_
    show _ ∧ _
    rw [e4, nI_hab0 f B (by omega), nI_hab1 f B (by omega)]
    by_cases e : a1 = 2
    · exact bs_f e (l5 _ (Fq_up0 hF (by decide) _) e3 (by rw [upI_same, decide_eq_true e]))
    · refine bs_t e (l5 _ (Fq_up0 hF (by decide) _) e3 ?_)
      rw [upI_same, decide_eq_false e, show (0 : Int32) = nI 0 from rfl, nI_or, Nat.or_zero]
  refine at_X8_tell_fold ?_
  show _ ∧ _
  rw [h3, nI_hab0 f H (by omega), nI_hab1 f H (by omega)]
  by_cases e : a1 = 1
  · exact bs_f e (l4 _ (Fq_up0 (Fq_refl _ _ _) (by decide) _) (by rw [upI_same, decide_eq_true e]) h4)
  · refine bs_t e (l4 _ (Fq_up0 (Fq_refl _ _ _) (by decide) _) ?_ h4)
    rw [upI_same, decide_eq_false e, show (0 : Int32) = nI 0 from rfl, nI_or, Nat.or_zero]
end TE
theorem st_tell {MX MR : Mem} (h : Rel MX MR) (a0 a1 : Int32) : wp_X7_tell a0 a1 MX (fun r M1 => wp_X8_tell a0 a1 MR (fun r2 M2 => r = r2 ∧ Rel M1 M2)) := by
  have h' := Rel_thr h
  have z0 : (0 : Int64).toInt = 0 := by decide
  have z2 : (2 : Int64).toInt = 2 := by decide
  refine at_X7_tell_fold ?_
  show _ ∧ _
  rw [in_lt, in_le, show (0 : Int32).toInt = 0 by decide, show (2 : Int32).toInt = 2 by decide]
  have bad : ¬ (0 ≤ a1.toInt ∧ a1.toInt ≤ 2) → wp_X8_tell a0 a1 MR (fun r2 M2 => -2 = r2 ∧ Rel MX M2) := fun hb => by
    refine at_X8_tell_fold ?_
    dsimp only [blk_X8_tell, blk_X8_tell_0]
    exact rw_inl z0 z2 (fun z => absurd z hb) (fun _ => bs_f rfl ⟨rfl, h'⟩)
  by_cases b1 : a1.toInt < 0
  · exact br_t b1 (bad (by omega))
  refine br_f b1 ?_
  by_cases b2 : a1.toInt ≤ 2
  · refine br_t b2 ?_
    have hb : 0 ≤ a1.toInt ∧ a1.toInt ≤ 2 := ⟨by omega, b2⟩
    rcases Rel_gr h with ⟨x0, r0⟩ | ⟨x0, r0, nx, n, X, Y, H, B, i, L, hnx, h31, hw, hw'⟩
    · refine xw_ref0 x0 (br_f (by decide) ?_)
      refine at_X8_tell_fold ?_
      dsimp only [blk_X8_tell, blk_X8_tell_0]
      exact rw_inl z0 z2 (fun _ => bs_t (by decide) (bs_f r0 ⟨rfl, h'⟩)) (fun z => absurd hb z)
    · have h28 := hw.f28
      have i28 := hw.i28
      have hi := hw.il
      obtain ⟨x1, r1⟩ := Rel_one h x0
      refine xw_ref (F := fN n X Y) (by omega) x0 hw.xf.2.1.1 (fun hv => ?_) (fun hv => ?_)
      · obtain ⟨f, hf, rfl⟩ := inr_nI hv
        refine br_t rfl (xw_now hw (xw_isIn (by omega) (by omega) ?_))
        -- the reference, up to its second question
        have rr : ∀ (r : Int32) (M1 : Mem), (at_X8_tell (nI f) a1 (fun r2 M2 => r = r2 ∧ Rel M1 M2) 1 (bI ((cg n X Y i).testBit f)) (upI MR 0 0 0)) → wp_X8_tell (nI f) a1 MR (fun r2 M2 => r = r2 ∧ Rel M1 M2) := fun r M1 hk => by
          refine at_X8_tell_fold ?_
          dsimp only [blk_X8_tell, blk_X8_tell_0]
          refine rw_inl z0 z2 (fun _ => bs_t (by decide) (bs_t r0 (rw_noFence (F := fN n X Y) (by omega) hw'.rf.2.1.1 (fun _ => br_t rfl ?_) (fun z => absurd hv z)))) (fun z => absurd hb z)
          rw [hw'.cut, tbI (by omega) (by omega), bI_1]
          cases hbit : (cg n X Y i).testBit f with
          | false => rw [hbit] at hk; exact bs_t Bool.false_ne_true hk
          | true => rw [hbit] at hk; exact bs_f rfl hk
        -- the telling itself
        have go : (a1 = 1 → (cg n X Y i).testBit f = true) → (a1 = 2 → (cg n X Y i).testBit f = false) → at_X7_tell (nI f) a1 (fun r M1 => wp_X8_tell (nI f) a1 MR (fun r2 M2 => r = r2 ∧ Rel M1 M2)) 2 0 0 MX := fun g1 g2 => by
          refine at_X7_tell_fold ?_
          dsimp only [blk_X7_tell, blk_X7_tell_2]
          refine xw_askAnew hw.P hw.c hw.xk hw.h28 hw.b28 hw.xa.1 hw.xa.2.1 (by omega) fun M4 f4 a4 => ?_
          show wp_X8_tell (nI f) a1 MR (fun r2 M2 => M4.1 25 2 = r2 ∧ Rel (upI M4 31 0 0) M2)
          refine rr _ _ (at_X8_tell_fold ?_)
          have k2 : at_X8_tell (nI f) a1 (fun r2 M2 => M4.1 25 2 = r2 ∧ Rel (upI M4 31 0 0) M2) 2 (bI ((cg n X Y i).testBit f)) (upI MR 0 0 0) := by
            refine at_X8_tell_fold ?_
            have k3 : at_X8_tell (nI f) a1 (fun r2 M2 => M4.1 25 2 = r2 ∧ Rel (upI M4 31 0 0) M2) 3 0 (upI MR 0 0 0) := by
              refine rw_tell3 hw.P hw.c hw'.rk hw.h28 hw.b28 hw'.ra.1 hw'.ra.2.1 (by omega) fun M5 f5 a5 b5 => ⟨a4.2.2.1.trans a5.2.2.1.symm, ?_⟩
              refine Rel_mk h ⟨f4.1, f4.2 2 (by decide), f4.2 3 (by decide), f4.2 4 (by decide), f4.2 5 (by decide), f4.2 10 (by decide), f4.2 11 (by decide), f4.2 12 (by decide), ?_⟩ ⟨f5.1, f5.2.1 1 (by decide) (by decide), f5.2.1 2 (by decide) (by decide), f5.2.1 4 (by decide) (by decide), f5.2.1 5 (by decide) (by decide), f5.2.2 4 (by decide), f5.2.2 5 (by decide)⟩ (nx := nx) hnx ?_ ?_ ((f5.2.2 8 (by decide)).trans r1) (n := n) (X := X) (Y := Y) (H := hab (decide (a1 = 1)) f H) (B := hab (decide (a1 = 2)) f B) (i := i) (L := []) ?_
              · show M4.1 0 10 = _
                rw [f4.2 0 (by decide)]
              · show M4.1 31 2 = _
                rw [f4.2 31 (by decide)]; exact h31
              · show M4.1 0 8 = 1
                rw [f4.2 0 (by decide)]; exact x1
              · refine ⟨hw.1, hw.P, hw.c, hab_lt hw.h28 (by omega), hab_lt hw.b28 (by omega), ⟨?_, ?_, a4⟩, ⟨?_, ?_, a5⟩, ?_, (f5.2.2 24 (by decide)).trans hw.cut, hi, ?_, ⟨rfl, b5, by decide, fun k c z => (by cases z)⟩, ?_⟩
                · exact XF_Fr (M' := M4) hw.xf f4 fun q a b => not_in3 (by omega) (by omega) (by omega)
                · exact XK_Fr (M' := M4) hw.xk f4 fun q a b => not_in3 (by omega) (by omega) (by omega)
                · exact RF_fr hw.rf (f5.2.2 9 (by decide)) (f5.2.2 12 (by decide)) (f5.2.1 6 (by decide) (by decide)) (f5.2.1 7 (by decide) (by decide)) (f5.2.1 8 (by decide) (by decide)) (f5.2.1 9 (by decide) (by decide)) (f5.2.1 10 (by decide) (by decide)) (f5.2.1 11 (by decide) (by decide))
                · unfold RK
                  rw [f5.2.2 20 (by decide), f5.2.1 13 (by decide) (by decide)]
                  exact hw.rk
                · show M4.1 0 9 = _
                  rw [f4.2 0 (by decide)]; exact hw.now
                · obtain ⟨p1, p2⟩ := asb_iff.mp hw.ip
                  refine asb_iff.mpr ⟨fun j hj => ?_, fun j hj => ?_⟩
                  · rcases hab_tb.mp hj with ⟨q1, q2⟩ | ⟨q1, q2⟩
                    · exact p1 j q1
                    · rw [q2]; exact g1 (of_decide_eq_true q1)
                  · rcases hab_tb.mp hj with ⟨q1, q2⟩ | ⟨q1, q2⟩
                    · exact p2 j q1
                    · rw [q2]; exact g2 (of_decide_eq_true q1)
                · intro g hg
                  show M4.1 33 g = M5.1 12 g
                  rw [f4.2 33 (by decide), f5.2.1 12 (by decide) (by decide)]
                  exact hw.we g hg
            by_cases e2 : a1 = 2
            · exact bs_f e2 (br_t (by rw [g2 e2]; rfl) k3)
            · exact bs_t e2 k3
          by_cases e1 : a1 = 1
          · exact bs_f e1 (br_f (by rw [g1 e1]; decide) k2)
          · exact bs_t e1 k2
        by_cases e1 : a1 = 1
        · refine bs_f e1 ?_
          cases hbit : (cg n X Y i).testBit f with
          | false =>
            refine br_t rfl (rr _ _ (at_X8_tell_fold (bs_f e1 (br_t ?_ ⟨rfl, h'⟩))))
            rw [hbit]; rfl
          | true =>
            refine br_f (by decide) (at_X7_tell_fold (bs_t ?_ (go (fun _ => hbit) (fun e2 => ?_))))
            · rw [e1]; decide
            · rw [e1] at e2; exact absurd e2 (by decide)
        · refine bs_t e1 (at_X7_tell_fold ?_)
          by_cases e2 : a1 = 2
          · refine bs_f e2 ?_
            cases hbit : (cg n X Y i).testBit f with
            | false => exact br_t rfl (go (fun e => absurd e e1) (fun _ => hbit))
            | true =>
              refine br_f (by decide) (rr _ _ (at_X8_tell_fold (bs_t e1 (at_X8_tell_fold (bs_f e2 (br_f ?_ ⟨rfl, h'⟩))))))
              rw [hbit]; decide
          · exact bs_t e2 (go (fun e => absurd e e1) (fun e => absurd e e2))
      · refine br_f (by decide) ?_
        refine at_X8_tell_fold ?_
        dsimp only [blk_X8_tell, blk_X8_tell_0]
        exact rw_inl z0 z2 (fun _ => bs_t (by decide) (bs_t r0 (rw_noFence (F := fN n X Y) (by omega) hw'.rf.2.1.1 (fun z => absurd z hv) (fun _ => br_f (by decide) ⟨rfl, h'⟩)))) (fun z => absurd hb z)
  · exact br_f b2 (bad (by omega))
