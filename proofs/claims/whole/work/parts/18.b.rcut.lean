/-! ===== RCUT: the reference finds all cuttings, those asked; its ground is laid ===== -/
def RD (n : Nat) (X Y : Nat → Int) (M : Mem) : Prop := M.1 0 12 = nI (fN n X Y) ∧ RC n X Y M
theorem nI_m1 (f : Nat) : nI (f + 1) + (-1) = nI f := by
  rw [nI_succ, Int32.add_assoc, show (1 : Int32) + (-1) = 0 by decide, Int32.add_zero]
theorem dl_one' {r : Nat → Nat → Bool} {N inn : Nat} (h : ¬ isG r N inn) : dl r N 0 inn = [] := by
  unfold dl
  rw [show List.range (2 ^ 0) = [0] from rfl]
  show List.filter _ [inn] = []
  rw [List.filter_cons, if_neg (fun z => h (pb_iff.mp z))]
  rfl
/-- sets from f on without crossings -/
def rInv (r : Nat → Nat → Bool) (N f inn : Nat) : Prop := (∀ i, inn.testBit i = true → f ≤ i ∧ i < N) ∧ ∀ i j, inn.testBit i = true → inn.testBit j = true → r i j = false
section RCUT
variable {n : Nat} {X Y : Nat → Int}
theorem rInv_low {r : Nat → Nat → Bool} {N f inn : Nat} (h : rInv r N f inn) : ∀ i, i < f → inn.testBit i = false := fun i hi => by
  cases q : inn.testBit i with
  | false => rfl
  | true => have := (h.1 i q).1; omega
theorem rInv_28 (hP : Pts n X Y) {f inn : Nat} (h : rInv (crf n X Y) (fN n X Y) f inn) : inn < 2 ^ 28 := bits_lt (fun i hi => (h.1 i hi).2) hP.f28
theorem RD_fr {M M' : Mem} (h : RD n X Y M) (hF : Fq [13, 21] [20] M M') : RD n X Y M' := by
  unfold RD RC
  rw [hF.2.2 12 (by decide), hF.2.1 11 (by decide) (by decide)]
  exact h
theorem rw_isGreatest (hP : Pts n X Y) {M : Mem} (hD : RD n X Y M) {s : Nat} (hs : s < 2 ^ 28) (hN : ∀ i, s.testBit i = true → i < fN n X Y) {Q : Int32 → Mem → Prop} (q : Q (bI (pb (∀ x, x < fN n X Y → s.testBit x = false → ∃ t, s.testBit t = true ∧ crf n X Y t x = true))) M) : wp_X8_isGreatest (nI s) M Q := by
  have h28 := hP.f28
  have key : ∀ d k, k + d = fN n X Y → (∀ x, x < k → s.testBit x = false → ∃ t, s.testBit t = true ∧ crf n X Y t x = true) → at_X8_isGreatest (nI s) Q 1 (nI k) M := by
    intro d
    induction d with
    | zero =>
      intro k hk h
      refine at_X8_isGreatest_fold (br_t ?_ ?_)
      · rw [hD.1]; exact (nI_leI (by omega) (by omega)).mpr (by omega)
      · rw [pb_iff.mpr (fun x hx => h x (by omega))] at q
        exact q
    | succ d ih =>
      intro k hk h
      have nx : (s.testBit k = false → ∃ t, s.testBit t = true ∧ crf n X Y t k = true) → at_X8_isGreatest (nI s) Q 2 (nI k) M := fun hk' => by
        refine at_X8_isGreatest_fold ?_
        show at_X8_isGreatest _ Q 1 (nI k + 1) M
        rw [nI_1]
        exact ih (k + 1) (by omega) (lt_s h hk')
      refine at_X8_isGreatest_fold (br_f ?_ ?_)
      · rw [hD.1, nI_leI (by omega) (by omega)]; omega
      · rw [tbI (by omega) (by omega), bI_0]
        cases hb : s.testBit k with
        | true => exact bs_t Bool.false_ne_true.symm (nx fun z => by rw [hb] at z; cases z)
        | false =>
          refine bs_f rfl ⟨vp_in_nI (by omega) (by omega), ?_⟩
          rw [nI_clamp (by omega), hD.2 k (by omega), nI_and, nI_0s (and_lt (cmk_lt hP k))]
          by_cases hz : cmk n X Y k &&& s = 0
          · have : ¬ ∀ x, x < fN n X Y → s.testBit x = false → ∃ t, s.testBit t = true ∧ crf n X Y t x = true := fun h => by
              obtain ⟨t, t1, t2⟩ := h k (by omega) hb
              have := dis_iff.mp hz t t1
              rw [cmk_tb.mpr ⟨hN t t1, by rw [crf_comm]; exact t2⟩] at this
              cases this
            rw [pb_f.mpr this] at q
            exact bs_f hz q
          · refine bs_t hz (nx fun _ => ?_)
            refine Classical.byContradiction fun hno => hz (dis_iff.mpr fun i hi => ?_)
            cases hc : (cmk n X Y k).testBit i with
            | false => rfl
            | true => exact absurd ⟨i, hi, by rw [crf_comm]; exact (cmk_tb.mp hc).2⟩ hno
  exact at_X8_isGreatest_fold (key (fN n X Y) 0 (by omega) lt_0)
/-- what is known once the cuttings L have been found -/
def Fnd (L : List Nat) (k f : Nat) (M M' : Mem) : Prop := Fq [13, 21] [20] M M' ∧ M'.1 0 20 = nI (k + L.length) ∧ (∀ i, i < k → M'.1 13 i = M.1 13 i) ∧ (∀ i c, L[i]? = some c → M'.1 13 (k + i) = nI c) ∧ ∀ j, f ≤ j → M'.1 21 j = M.1 21 j
theorem Fnd_nil {k f : Nat} {M : Mem} (h : M.1 0 20 = nI k) : Fnd [] k f M M := ⟨Fq_refl _ _ _, h, fun _ _ => rfl, fun i c z => (by cases z), fun _ _ => rfl⟩
theorem Fnd_app {L1 L2 : List Nat} {k f : Nat} {M M1 M2 : Mem} (h : Fnd L1 k f M M1) (g : Fnd L2 (k + L1.length) f M1 M2) : Fnd (L1 ++ L2) k f M M2 := by
  obtain ⟨a1, a2, a3, a4, a5⟩ := h
  obtain ⟨b1, b2, b3, b4, b5⟩ := g
  refine ⟨Fq_trans a1 b1, by rw [b2, List.length_append, Nat.add_assoc], fun i hi => (b3 i (by omega)).trans (a3 i hi), fun i c hc => ?_, fun j hj => (b5 j hj).trans (a5 j hj)⟩
  rw [List.getElem?_append] at hc
  split at hc
  · rw [b3 (k + i) (by omega)]; exact a4 i c hc
  · have := b4 _ c hc
    rw [show k + L1.length + (i - L1.length) = k + i by omega] at this
    exact this
theorem Fnd_mono {L : List Nat} {k f g : Nat} {M M' : Mem} (h : Fnd L k f M M') (hfg : f ≤ g) : Fnd L k g M M' := ⟨h.1, h.2.1, h.2.2.1, h.2.2.2.1, fun j hj => h.2.2.2.2 j (by omega)⟩
def rClaim (n : Nat) (X Y : Nat → Int) (Q : Mem → Prop) (f : Nat) : Prop := ∀ (inn : Nat) (M : Mem) (k : Nat), rInv (crf n X Y) (fN n X Y) (f + 1) inn → RD n X Y M → M.1 21 f = 0 → M.1 0 20 = nI k → k + (dl (crf n X Y) (fN n X Y) (f + 1) inn).length ≤ 256 → (∀ M', Fnd (dl (crf n X Y) (fN n X Y) (f + 1) inn) k (f + 1) M M' → at_X8_findCuttings Q 1 (nI (f + 1)) (nI inn) 0 0 M') → at_X8_findCuttings Q 1 (nI f) (nI inn) 0 0 M
def rSub (n : Nat) (X Y : Nat → Int) (Q : Mem → Prop) (f : Nat) : Prop := ∀ (s : Nat) (M : Mem) (k : Nat), rInv (crf n X Y) (fN n X Y) f s → RD n X Y M → M.1 0 20 = nI k → k + (dl (crf n X Y) (fN n X Y) f s).length ≤ 256 → (∀ M', Fnd (dl (crf n X Y) (fN n X Y) f s) k f M M' → at_X8_findCuttings Q 1 (nI f) (nI s) 0 0 M') → at_X8_findCuttings Q 4 (nI f) (nI s) 0 1 M
theorem rw_sub0 (hP : Pts n X Y) (Q : Mem → Prop) : rSub n X Y Q 0 := by
  intro s M k hI hD hk hb kk
  refine at_X8_findCuttings_fold (br_f (by decide) (bs_f rfl (rw_isGreatest hP hD (rInv_28 hP hI) (fun i hi => (hI.1 i hi).2) ?_)))
  by_cases hg : ∀ x, x < fN n X Y → s.testBit x = false → ∃ t, s.testBit t = true ∧ crf n X Y t x = true
  · rw [pb_iff.mpr hg]
    have hG : isG (crf n X Y) (fN n X Y) s := ⟨fun i hi => (hI.1 i hi).2, hI.2, hg⟩
    rw [dl_one hG] at hb kk
    have hb' : k + 1 ≤ 256 := hb
    refine br_f (by decide) ⟨?_, at_X8_findCuttings_fold ?_⟩
    · rw [hk]; exact vp_in_nI (by omega) (by omega)
    · rw [hk, nI_clamp (by omega)]
      have e : (upI M 13 k (nI s)).1 0 20 = nI k := hk
      show at_X8_findCuttings Q 1 (nI 0) (nI s) 0 0 (upI (upI M 13 k (nI s)) 0 20 ((upI M 13 k (nI s)).1 0 20 + 1))
      rw [e, nI_1]
      refine kk _ ⟨Fq_up0 (Fq_up (Fq_refl _ _ _) (by decide) (by decide) _ _) (by decide) _, upI_same .., fun i hi => ?_, fun i c hc => ?_, fun j hj => rfl⟩
      · rw [upI_ne (by decide), upI_oth (by omega)]
      · cases i with
        | zero =>
          injection hc with hc
          rw [upI_ne (by decide), show k + 0 = k from rfl, upI_same, hc]
        | succ i => cases hc
  · rw [pb_f.mpr hg]
    rw [dl_one' (fun z : isG _ _ _ => hg z.2.2)] at kk
    exact br_t rfl (at_X8_findCuttings_fold (kk M (Fnd_nil hk)))
theorem rw_subS (hP : Pts n X Y) {Q : Mem → Prop} {f : Nat} (hf : f + 1 < fN n X Y) (hc : rClaim n X Y Q f) : rSub n X Y Q (f + 1) := by
  have h28 := hP.f28
  intro s M k hI hD hk hb kk
  refine at_X8_findCuttings_fold (br_f (by decide) (bs_t (fun z => ?_) (at_X8_findCuttings_fold (br_f (by decide) ?_))))
  · have := (nI_eq (a := f + 1) (b := 0) (by omega) (by omega)).mp z
    omega
  · show vp_in (nI (f + 1) + (-1)) 29 ∧ at_X8_findCuttings Q 6 (nI (f + 1) + (-1)) (nI s) 0 0 (upI M 21 (nI (f + 1) + (-1)).toNatClampNeg 0)
    rw [nI_m1, nI_clamp (by omega)]
    refine ⟨vp_in_nI (by omega) (by omega), at_X8_findCuttings_fold ?_⟩
    have hF : Fq [13, 21] [20] M (upI M 21 f 0) := Fq_up (Fq_refl _ _ _) (by decide) (by decide) _ _
    refine hc s _ k hI (RD_fr hD hF) (upI_same ..) hk hb fun M' h => kk M' ?_
    obtain ⟨a1, a2, a3, a4, a5⟩ := h
    refine ⟨Fq_trans hF a1, a2, fun i hi => a3 i hi, a4, fun j hj => ?_⟩
    rw [a5 j hj, upI_oth (by omega)]
theorem rInv_up {r : Nat → Nat → Bool} {N f inn : Nat} (h : rInv r N (f + 1) inn) : rInv r N f inn := ⟨fun i hi => by have := h.1 i hi; omega, h.2⟩
theorem rw_step (hP : Pts n X Y) {Q : Mem → Prop} {f : Nat} (hf : f < fN n X Y) (hsub : rSub n X Y Q f) : rClaim n X Y Q f := by
  have h28 := hP.f28
  intro inn M k hI hD hc hk hb kk
  have hlow := rInv_low hI
  have h2f := rInv_28 hP hI
  have v29 : vp_in (nI f) 29 := vp_in_nI (by omega) (by omega)
  have v28 : vp_in (nI f) 28 := vp_in_nI (by omega) (by omega)
  rw [dl_succ] at hb kk
  rw [List.length_append] at hb
  have hin : inn ||| 1 <<< f = inn + 2 ^ f := or_add hlow
  have clr1 : aclr inn (1 <<< f) = inn := by
    apply Nat.eq_of_testBit_eq
    intro i
    rw [aclr_tb, tb_one]
    by_cases e : f = i
    · rw [decide_eq_true e, ← e, hlow f (by omega)]; rfl
    · rw [decide_eq_false e]; simp
  have clr2 : aclr (inn ||| 1 <<< f) (1 <<< f) = inn := by
    apply Nat.eq_of_testBit_eq
    intro i
    rw [aclr_tb, tb_set, tb_one]
    by_cases e : f = i
    · rw [decide_eq_true e, ← e, hlow f (by omega)]; rfl
    · rw [decide_eq_false e]; simp
  have nlt : ∀ {M' : Mem}, RD n X Y M' → ¬ M'.1 0 12 ≤ nI f := fun hD' => by rw [hD'.1, nI_leI (by omega) (by omega)]; omega
  -- the third visit
  have V2 : ∀ M2 s, aclr s (1 <<< f) = inn → RD n X Y M2 → M2.1 21 f = 2 → at_X8_findCuttings Q 1 (nI (f + 1)) (nI inn) 0 0 M2 → at_X8_findCuttings Q 1 (nI f) (nI s) 0 0 M2 := by
    intro M2 s hs hD2 hc2 k2
    refine at_X8_findCuttings_fold (br_f (nlt hD2) ⟨v29, nm_r (e' := nI inn) (by rw [nI_shl (by omega), nI_clr, hs]) ?_⟩)
    rw [nI_clamp (by omega), hc2, nI_1]
    exact br_f (by decide) k2
  -- the second visit
  have V1 : ∀ M1 s k1, aclr s (1 <<< f) = inn → RD n X Y M1 → M1.1 21 f = 1 → M1.1 0 20 = nI k1 → k1 + (dl (crf n X Y) (fN n X Y) f (inn + 2 ^ f)).length ≤ 256 → (∀ M', Fnd (dl (crf n X Y) (fN n X Y) f (inn + 2 ^ f)) k1 (f + 1) M1 M' → at_X8_findCuttings Q 1 (nI (f + 1)) (nI inn) 0 0 M') → at_X8_findCuttings Q 1 (nI f) (nI s) 0 0 M1 := by
    intro M1 s k1 hs hD1 hc1 hk1 hb1 kk1
    refine at_X8_findCuttings_fold (br_f (nlt hD1) ⟨v29, nm_r (e' := nI inn) (by rw [nI_shl (by omega), nI_clr, hs]) ?_⟩)
    rw [nI_clamp (by omega), hc1]
    refine br_t (by decide) ⟨v29, v29, bs_t (by decide) ⟨v28, ?_⟩⟩
    · rw [show ((1 : Int32) + 1) = 2 by decide, show (upI M1 21 f 2).1 11 f = nI (cmk n X Y f) from hD1.2 f hf, nI_and, nI_0s (and_lt (cmk_lt hP f))]
      have hF : Fq [13, 21] [20] M1 (upI M1 21 f 2) := Fq_up (Fq_refl _ _ _) (by decide) (by decide) _ _
      have hD1' := RD_fr hD1 hF
      have hc2 : (upI M1 21 f 2).1 21 f = 2 := upI_same ..
      have hoth : ∀ j, f + 1 ≤ j → (upI M1 21 f 2).1 21 j = M1.1 21 j := fun j hj => upI_oth (by omega)
      have hk1' : (upI M1 21 f 2).1 0 20 = nI k1 := hk1
      have h13 : (upI M1 21 f 2).1 13 = M1.1 13 := rfl
      generalize upI M1 21 f 2 = M2 at hF hD1' hc2 hoth hk1' h13 ⊢
      by_cases hz : cmk n X Y f &&& inn = 0
      · refine bs_f hz (at_X8_findCuttings_fold (br_f (by decide) ?_))
        rw [nI_shl (by omega), nI_or]
        have hI' : rInv (crf n X Y) (fN n X Y) f (inn ||| 1 <<< f) := by
          have hno : ∀ t, inn.testBit t = true → crf n X Y f t = false := fun t ht => by
            cases q : crf n X Y f t with
            | false => rfl
            | true =>
              have := dis_iff.mp hz t ht
              rw [cmk_tb.mpr ⟨(hI.1 t ht).2, q⟩] at this
              cases this
          have hbits : ∀ i, (inn ||| (1 <<< f)).testBit i = true ↔ inn.testBit i = true ∨ i = f := fun i => by
            rw [tb_set, Bool.or_eq_true, decide_eq_true_eq]
            exact ⟨fun q => q.imp id Eq.symm, fun q => q.imp id Eq.symm⟩
          refine ⟨fun i hi => ?_, fun i j hi hj => ?_⟩
          · rcases (hbits i).mp hi with z | z
            · have := hI.1 i z; omega
            · omega
          · rcases (hbits i).mp hi with z | z <;> rcases (hbits j).mp hj with w | w
            · exact hI.2 i j z w
            · rw [w, crf_comm]; exact hno i z
            · rw [z]; exact hno j w
            · rw [z, w]; exact crf_self f
        refine hsub _ M2 k1 hI' hD1' hk1' (by rw [hin]; exact hb1) fun M' h => ?_
        obtain ⟨a1, a2, a3, a4, a5⟩ := h
        rw [hin] at a2 a4
        refine V2 M' _ clr2 (RD_fr hD1' a1) (by rw [a5 f (Nat.le_refl f)]; exact hc2) (kk1 M' ⟨Fq_trans hF a1, a2, fun i hi => by rw [a3 i hi, h13], a4, fun j hj => by rw [a5 j (by omega), hoth j hj]⟩)
      · have hnil : dl (crf n X Y) (fN n X Y) f (inn + 2 ^ f) = [] := by
          have : ∃ t, inn.testBit t = true ∧ crf n X Y f t = true := by
            refine Classical.byContradiction fun hno => hz (dis_iff.mpr fun i hi => ?_)
            cases hcc : (cmk n X Y f).testBit i with
            | false => rfl
            | true => exact absurd ⟨i, hi, (cmk_tb.mp hcc).2⟩ hno
          obtain ⟨t, t1, t2⟩ := this
          exact dl_in_nil hlow t1 (by rw [crf_comm]; exact t2)
        rw [hnil] at kk1
        refine bs_t hz (at_X8_findCuttings_fold (br_t rfl (at_X8_findCuttings_fold (br_t rfl (at_X8_findCuttings_fold (br_t rfl (at_X8_findCuttings_fold ?_)))))))
        show at_X8_findCuttings Q 1 (nI f) (nI inn ||| 0) 0 0 M2
        rw [show (0 : Int32) = nI 0 from rfl, nI_or, Nat.or_zero]
        exact V2 M2 inn clr1 hD1' hc2 (kk1 M2 ⟨hF, hk1', fun i hi => by rw [h13], fun i c z => (by cases z), hoth⟩)
  -- the first visit
  refine at_X8_findCuttings_fold (br_f (nlt hD) ⟨v29, nm_r (e' := nI inn) (by rw [nI_shl (by omega), nI_clr, clr1]) ?_⟩)
  rw [nI_clamp (by omega), hc]
  refine br_t (by decide) ⟨v29, v29, bs_f rfl ⟨v28, ?_⟩⟩
  rw [show ((0 : Int32) + 1) = 1 by decide, show (upI M 21 f 1).1 11 f = nI (cmk n X Y f) from hD.2 f hf, nI_shl (by omega), nI_mask, nI_or, nI_and, nI_0s (and_lt (cmk_lt hP f))]
  have hF : Fq [13, 21] [20] M (upI M 21 f 1) := Fq_up (Fq_refl _ _ _) (by decide) (by decide) _ _
  have hD' := RD_fr hD hF
  have hc1 : (upI M 21 f 1).1 21 f = 1 := upI_same ..
  have hoth : ∀ j, f + 1 ≤ j → (upI M 21 f 1).1 21 j = M.1 21 j := fun j hj => upI_oth (by omega)
  have hk' : (upI M 21 f 1).1 0 20 = nI k := hk
  have h13 : (upI M 21 f 1).1 13 = M.1 13 := rfl
  generalize upI M 21 f 1 = M1 at hF hD' hc1 hoth hk' h13 ⊢
  have fin : ∀ M2 L1, L1 = dl (crf n X Y) (fN n X Y) f inn → Fnd L1 k f M1 M2 → at_X8_findCuttings Q 1 (nI f) (nI inn) 0 0 M2 := by
    intro M2 L1 hL1 h
    refine V1 M2 inn (k + L1.length) clr1 (RD_fr hD' h.1) (by rw [h.2.2.2.2 f (Nat.le_refl f)]; exact hc1) h.2.1 (by rw [hL1]; omega) fun M' h2 => ?_
    have h3 := Fnd_app (Fnd_mono h (show f ≤ f + 1 by omega)) h2
    obtain ⟨a1, a2, a3, a4, a5⟩ := h3
    rw [hL1] at a2 a4
    exact kk M' ⟨Fq_trans hF a1, a2, fun i hi => by rw [a3 i hi, h13], a4, fun j hj => by rw [a5 j hj, hoth j hj]⟩
  by_cases hz : cmk n X Y f &&& (inn ||| (2 ^ f - 1)) = 0
  · have hnil : dl (crf n X Y) (fN n X Y) f inn = [] := by
      refine dl_out_nil crf_comm hf hlow fun i hr hi => ?_
      have hc' : (cmk n X Y f).testBit i = true := cmk_tb.mpr ⟨hi, hr⟩
      have : (inn ||| (2 ^ f - 1)).testBit i = false := by
        cases q : (inn ||| (2 ^ f - 1)).testBit i with
        | false => rfl
        | true => rw [dis_iff.mp hz i q] at hc'; cases hc'
      rw [Nat.testBit_or, Nat.testBit_two_pow_sub_one, Bool.or_eq_false_iff, decide_eq_false_iff_not] at this
      refine ⟨?_, this.1⟩
      rcases Nat.lt_or_ge f i with w | w
      · exact w
      · have : i = f := by omega
        rw [this, crf_self] at hr
        cases hr
    exact br_t hz (at_X8_findCuttings_fold (at_X8_findCuttings_fold (br_t rfl (at_X8_findCuttings_fold (br_t rfl (at_X8_findCuttings_fold (fin M1 [] hnil.symm (Fnd_nil hk'))))))))
  · exact br_f hz (at_X8_findCuttings_fold (hsub inn M1 k (rInv_up hI) hD' hk' (by omega) fun M' h => fin M' _ rfl h))
theorem rw_find (hP : Pts n X Y) (Q : Mem → Prop) : ∀ f, f < fN n X Y → rClaim n X Y Q f
  | 0, h => rw_step hP h (rw_sub0 hP Q)
  | f + 1, h => rw_step hP h (rw_subS hP h (rw_find hP Q f (by omega)))
def RK (n : Nat) (X Y : Nat → Int) (M : Mem) : Prop := M.1 0 20 = nI (cN n X Y) ∧ ∀ i, i < cN n X Y → M.1 13 i = nI (cg n X Y i)
theorem rw_findCuttings (hP : Pts n X Y) (hc : cN n X Y ≤ 256) (h1 : 0 < fN n X Y) {M : Mem} (hD : RD n X Y M) {Q : Mem → Prop} (q : ∀ M', Fq [13, 21] [20] M M' → RK n X Y M' → Q M') : wp_X8_findCuttings M Q := by
  have h28 := hP.f28
  obtain ⟨f, hf⟩ : ∃ f, fN n X Y = f + 1 := ⟨fN n X Y - 1, by omega⟩
  have ecl : cl n X Y = dl (crf n X Y) (fN n X Y) (f + 1) 0 := by rw [← hf]; exact cutl_dl
  have hlen : (dl (crf n X Y) (fN n X Y) (f + 1) 0).length = cN n X Y := by rw [← ecl]; rfl
  refine at_X8_findCuttings_fold ?_
  have e12 : (upI M 0 20 0).1 0 12 = nI (f + 1) := by rw [← hf]; exact hD.1
  show blk_X8_findCuttings_0 Q (at_X8_findCuttings Q) 0 0 0 0 M
  unfold blk_X8_findCuttings_0
  rw [e12, nI_pred, nI_clamp (by omega)]
  refine ⟨vp_in_nI (by omega) (by omega), ?_⟩
  refine rw_find hP Q f (by omega) 0 _ 0 ⟨fun i h => by simp at h, fun i j h => by simp at h⟩ hD (upI_same ..) rfl (by omega) fun M' h => ?_
  obtain ⟨a1, a2, a3, a4, a5⟩ := h
  have hF : Fq [13, 21] [20] M M' := Fq_trans (Fq_up (Fq_up0 (Fq_refl _ _ _) (by decide) _) (by decide) (by decide) _ _) a1
  refine at_X8_findCuttings_fold (br_t ?_ (q M' hF ⟨by rw [a2, hlen, Nat.zero_add], fun i hi => ?_⟩))
  · rw [hF.2.2 12 (by decide), hD.1, nI_leI (by omega) (by omega)]; omega
  · have := a4 i (cg n X Y i) (by rw [← ecl]; exact cg_get hi)
    rw [Nat.zero_add] at this
    exact this
end RCUT
