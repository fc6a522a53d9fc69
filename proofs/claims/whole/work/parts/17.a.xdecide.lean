/-! ===== XDECIDE: the class finds all cuttings ===== -/
theorem xw_isIn {f s : Nat} (hf : f < 32) (hs : s < 2 ^ 31) {M : Mem} {Q : Int32 → Mem → Prop} (q : Q (bI (s.testBit f)) M) : wp_X7_isIn (nI f) (nI s) M Q := by
  unfold wp_X7_isIn
  rw [tbI hs hf]
  cases h : s.testBit f with
  | false => rw [h] at q; exact br_t rfl q
  | true => rw [h] at q; exact br_f (by decide) q
theorem and_one {s f : Nat} : s &&& (1 <<< f) = 0 ↔ s.testBit f = false := by
  rw [dis_iff]
  constructor
  · intro h; exact h f (by rw [tb_one]; simp)
  · intro h i hi
    rw [tb_one, decide_eq_true_eq] at hi
    rw [← hi]; exact h
theorem cmk_tb {n : Nat} {X Y : Nat → Int} {f i : Nat} : (cmk n X Y f).testBit i = true ↔ i < fN n X Y ∧ crf n X Y f i = true := by
  unfold cmk
  rw [mk_tb, Bool.and_eq_true, decide_eq_true_eq]
theorem bits_lt {s N n : Nat} (h : ∀ i, s.testBit i = true → i < N) (hN : N ≤ n) : s < 2 ^ n := Nat.lt_pow_two_of_testBit _ fun i hi => by
  cases q : s.testBit i with
  | false => rfl
  | true => have := h i q; omega
theorem nI_0s {s : Nat} (h : s < 2 ^ 28) : nI s = 0 ↔ s = 0 := nI_0' (by omega)
def XD (n : Nat) (X Y : Nat → Int) (M : Mem) : Prop := M.1 13 4 = nI (fN n X Y) ∧ XC' n X Y M
section XDEC
variable {n : Nat} {X Y : Nat → Int}
theorem xw_canBePaid (hP : Pts n X Y) {M : Mem} (hD : XD n X Y M) {ow cr f : Nat} (how : ∀ i, ow.testBit i = true → i < fN n X Y) (hcr : cr < 2 ^ 28) (hf : f ≤ fN n X Y) {Q : Int32 → Mem → Prop} (q : Q (bI (pb (dPaid (crf n X Y) f cr ow))) M) : wp_X1_canBePaid (nI ow) (nI cr) (nI f) M Q := by
  have h28 := hP.f28
  have hol : ow < 2 ^ 28 := bits_lt how h28
  have hfl : aclr (2 ^ f - 1) cr < 2 ^ 28 := aclr_lt (by have := Nat.pow_le_pow_right (show 0 < 2 by omega) (show f ≤ 28 by omega); omega)
  have key : ∀ d k, k + d = fN n X Y → f ≤ k → (∀ g, f ≤ g → g < k → ow.testBit g = true → ∃ i, i < f ∧ cr.testBit i = false ∧ crf n X Y g i = true) → at_X1_canBePaid (nI ow) (nI cr) (nI f) Q 1 (nI (aclr (2 ^ f - 1) cr)) (nI k) M := by
    intro d
    induction d with
    | zero =>
      intro k hk hfk h
      refine at_X1_canBePaid_fold (br_t ?_ ?_)
      · rw [hD.1]; exact (nI_leI (by omega) (by omega)).mpr (by omega)
      · have : dPaid (crf n X Y) f cr ow := fun g hg ho => h g hg (by have := how g ho; omega) ho
        rw [pb_iff.mpr this] at q
        exact q
    | succ d ih =>
      intro k hk hfk h
      have nx : (f ≤ k → ow.testBit k = true → ∃ i, i < f ∧ cr.testBit i = false ∧ crf n X Y k i = true) → at_X1_canBePaid (nI ow) (nI cr) (nI f) Q 2 (nI (aclr (2 ^ f - 1) cr)) (nI k) M := fun hk' => by
        refine at_X1_canBePaid_fold ?_
        show at_X1_canBePaid _ _ _ Q 1 _ (nI k + 1) M
        rw [nI_1]
        refine ih (k + 1) (by omega) (by omega) fun g h1 h2 h3 => ?_
        rcases Nat.lt_or_ge g k with z | z
        · exact h g h1 z h3
        · have : g = k := by omega
          subst this
          exact hk' h1 h3
      refine at_X1_canBePaid_fold (br_f ?_ (xw_isIn (by omega) (by omega) ?_))
      · rw [hD.1, nI_leI (by omega) (by omega)]; omega
      · cases ho : ow.testBit k with
        | false => exact br_t rfl (nx fun _ z => by rw [ho] at z; cases z)
        | true =>
          refine br_f (by decide) ⟨vp_in_nI (by omega) (by omega), ?_⟩
          rw [nI_clamp (by omega), hD.2 k (by omega), nI_and]
          by_cases hz : cmk n X Y k &&& aclr (2 ^ f - 1) cr = 0
          · rw [hz]
            refine bs_f rfl ?_
            · have : ¬ dPaid (crf n X Y) f cr ow := fun hp => by
                obtain ⟨i, i1, i2, i3⟩ := hp k hfk ho
                have a : (cmk n X Y k &&& aclr (2 ^ f - 1) cr).testBit i = true := by
                  rw [Nat.testBit_and, aclr_tb, Nat.testBit_two_pow_sub_one, decide_eq_true i1, i2, cmk_tb.mpr ⟨by omega, i3⟩]
                  rfl
                rw [hz, Nat.zero_testBit] at a
                cases a
              rw [pb_f.mpr this] at q
              exact q
          · refine bs_t (fun z => hz ((nI_0s (and_lt (cmk_lt hP k))).mp z)) (nx fun _ _ => ?_)
            refine Classical.byContradiction fun hno => hz ?_
            rw [dis_iff]
            intro i hi
            rw [aclr_tb, Nat.testBit_two_pow_sub_one, Bool.and_eq_true, decide_eq_true_eq, Bool.not_eq_true'] at hi
            cases hc : (cmk n X Y k).testBit i with
            | false => rfl
            | true => exact absurd ⟨i, hi.1, hi.2, (cmk_tb.mp hc).2⟩ hno
  refine at_X1_canBePaid_fold (nm_r ?_ (key (fN n X Y - f) f (by omega) (Nat.le_refl f) (fun g h1 h2 => by omega)))
  rw [nI_shl (by omega), nI_mask, nI_clr]
/-- a cutting is kept -/
def kpX (M : Mem) (T : Nat) : Mem := upI (upI M 23 (M.1 22 1).toNatClampNeg (nI T)) 22 1 (M.1 22 1 + 1)
def kpL (M : Mem) (L : List Nat) : Mem := L.foldl kpX M
theorem kpL_app (M : Mem) (L1 L2 : List Nat) : kpL M (L1 ++ L2) = kpL (kpL M L1) L2 := List.foldl_append ..
theorem kpX_spec {M : Mem} {T k : Nat} (hk : M.1 22 1 = nI k) (hb : k < 256) : (kpX M T).1 22 1 = nI (k + 1) ∧ Fr [22, 23] M (kpX M T) ∧ (∀ i, i ≠ k → (kpX M T).1 23 i = M.1 23 i) ∧ (kpX M T).1 23 k = nI T := by
  unfold kpX
  rw [hk, nI_clamp (by omega), nI_1]
  refine ⟨upI_same .., Fr_up (Fr_up (Fr_refl _ _) (by decide) _ _) (by decide) _ _, fun i hi => ?_, ?_⟩
  · rw [upI_ne (by decide), upI_oth hi]
  · rw [upI_ne (by decide), upI_same]
theorem kpL_spec : ∀ (L : List Nat) {M : Mem} {k : Nat}, M.1 22 1 = nI k → k + L.length ≤ 256 → (kpL M L).1 22 1 = nI (k + L.length) ∧ Fr [22, 23] M (kpL M L) ∧ (∀ i, i < k → (kpL M L).1 23 i = M.1 23 i) ∧ ∀ i c, L[i]? = some c → (kpL M L).1 23 (k + i) = nI c
  | [], M, k, hk, _ => ⟨hk, Fr_refl _ _, fun _ _ => rfl, fun i c h => by cases h⟩
  | T :: L, M, k, hk, hb => by
    have hb' : k + (L.length + 1) ≤ 256 := hb
    obtain ⟨a1, a2, a3, a4⟩ := kpX_spec (T := T) hk (by omega)
    obtain ⟨b1, b2, b3, b4⟩ := kpL_spec L a1 (by omega)
    show (kpL (kpX M T) L).1 22 1 = nI (k + (L.length + 1)) ∧ Fr [22, 23] M (kpL (kpX M T) L) ∧ (∀ i, i < k → (kpL (kpX M T) L).1 23 i = M.1 23 i) ∧ ∀ i c, (T :: L)[i]? = some c → (kpL (kpX M T) L).1 23 (k + i) = nI c
    refine ⟨by rw [b1]; congr 1; omega, Fr_trans a2 b2, fun i hi => (b3 i (by omega)).trans (a3 i (by omega)), fun i c h => ?_⟩
    cases i with
    | zero =>
      injection h with h
      rw [Nat.add_zero, b3 k (by omega), a4, h]
    | succ i =>
      have := b4 i c h
      rw [show k + 1 + i = k + (i + 1) by omega] at this
      exact this
theorem xw_keep {M : Mem} {T k : Nat} (hk : M.1 22 1 = nI k) (hb : k < 256) {Q : Mem → Prop} (q : Q (kpX M T)) : wp_X1_keep (nI T) M Q := by
  unfold wp_X1_keep
  refine br_f ?_ ⟨?_, q⟩
  · rw [hk]; show ¬ nI 256 ≤ nI k; rw [nI_leI (by omega) (by omega)]; omega
  · rw [hk]; exact vp_in_nI hb (by omega)
theorem XD_fr {M M' : Mem} (h : XD n X Y M) (hF : Fr [22, 23] M M') : XD n X Y M' := by
  unfold XD XC'
  rw [hF.2 13 (by decide), hF.2 19 (by decide)]
  exact h
theorem xw_decide (hP : Pts n X Y) : ∀ (f inn cr ow d : Nat) (M : Mem) (k : Nat) (Q : Mem → Prop), f + 1 ≤ d → dInv (crf n X Y) (fN n X Y) f inn cr ow → dPaid (crf n X Y) f cr ow → XD n X Y M → M.1 22 1 = nI k → k + (dl (crf n X Y) (fN n X Y) f inn).length ≤ 256 → Q (kpL M (dl (crf n X Y) (fN n X Y) f inn)) → wp_X1_decide d (nI f - 1) (nI inn) (nI cr) (nI ow) M Q := by
  have h28 := hP.f28
  intro f
  induction f with
  | zero =>
    intro inn cr ow d M k Q hd hI hp hD hk hb q
    obtain ⟨d, rfl⟩ : ∃ e, d = e + 1 := ⟨d - 1, by omega⟩
    rw [dl_one (dInv_end crf_comm hI hp)] at hb q
    exact ⟨fun h => absurd h (by decide), fun _ => xw_keep hk (by have : k + 1 ≤ 256 := hb; omega) q⟩
  | succ f ih =>
    intro inn cr ow d M k Q hd hI hp hD hk hb q
    obtain ⟨d, rfl⟩ : ∃ e, d = e + 1 := ⟨d - 1, by omega⟩
    have hfN : f + 1 ≤ fN n X Y := hI.1
    have hcr : ∀ i, cr.testBit i = true → i < fN n X Y := fun i hi => ((hI.2.2.2.1 i).mp hi).1
    have how : ∀ i, ow.testBit i = true → i < fN n X Y := fun i hi => ((hI.2.2.2.2 i).mp hi).2.1
    have hcrl : cr < 2 ^ 28 := bits_lt hcr h28
    rw [dl_succ, kpL_app] at q
    rw [dl_succ, List.length_append] at hb
    rw [nI_pred]
    unfold wp_X1_decide
    refine ⟨fun _ => ?_, fun h => absurd (nI_pos' (by omega)) h⟩
    rw [nI_shl (by omega), nI_and, nI_0s (and_lt hcrl), and_one]
    refine ⟨fun hc => ?_, fun hc => ?_⟩
    · have hI1 := dInv_out2 hI hc
      have hI2 := dInv_in crf_comm crf_self hI hc (c1 := cmk n X Y f) (fun i => cmk_tb)
      have how1 : ∀ i, (ow ||| 1 <<< f).testBit i = true → i < fN n X Y := fun i hi => ((hI1.2.2.2.2 i).mp hi).2.1
      have hcr2 : ∀ i, (cr ||| cmk n X Y f).testBit i = true → i < fN n X Y := fun i hi => ((hI2.2.2.2.1 i).mp hi).1
      have how2 : ∀ i, (aclr ow (cr ||| cmk n X Y f)).testBit i = true → i < fN n X Y := fun i hi => ((hI2.2.2.2.2 i).mp hi).2.1
      have vf : vp_in (nI f) 28 := vp_in_nI (by omega) (by omega)
      have hin : inn ||| 1 <<< f = inn + 2 ^ f := or_add (dInv_low hI)
      have part2 : ∀ M1 k1, XD n X Y M1 → M1.1 22 1 = nI k1 → k1 + (dl (crf n X Y) (fN n X Y) f (inn + 2 ^ f)).length ≤ 256 → Q (kpL M1 (dl (crf n X Y) (fN n X Y) f (inn + 2 ^ f))) →
          (vp_in (nI f) 28 ∧ ∀ x : Int32, x = (nI ow &&& ((nI cr ||| M1.1 19 (nI f).toNatClampNeg) ^^^ (-1 : Int32))) → wp_X1_canBePaid x (nI cr ||| M1.1 19 (nI f).toNatClampNeg) (nI f) M1 (fun r3 M3 => ((r3 = 0 → Q M3) ∧ (¬ r3 = 0 → wp_X1_decide d (nI f - 1) (nI inn ||| nI (1 <<< f)) (nI cr ||| M1.1 19 (nI f).toNatClampNeg) x M3 (fun M4 => Q M4))))) := by
        intro M1 k1 hD1 hk1 hb1 q1
        rw [nI_clamp (by omega), hD1.2 f (by omega), nI_or, nI_or, hin]
        rw [hin] at hI2
        refine ⟨vf, nm_r (nI_clr ow (cr ||| cmk n X Y f)) (xw_canBePaid hP hD1 how2 (bits_lt hcr2 h28) (by omega) ?_)⟩
        by_cases h3 : dPaid (crf n X Y) f (cr ||| cmk n X Y f) (aclr ow (cr ||| cmk n X Y f))
        · rw [pb_iff.mpr h3]
          exact br_f (by decide) (ih _ _ _ d M1 k1 Q (by omega) hI2 h3 hD1 hk1 hb1 q1)
        · rw [pb_f.mpr h3]
          rw [dInv_nil crf_comm hI2 h3] at q1
          exact br_t rfl q1
      rw [nI_or]
      refine xw_canBePaid hP hD how1 hcrl (by omega) ?_
      by_cases h2 : dPaid (crf n X Y) f cr (ow ||| 1 <<< f)
      · rw [pb_iff.mpr h2]
        refine bs_t (by decide) ?_ |> fun z => ⟨z.2, z.1⟩
        have hs := kpL_spec (dl (crf n X Y) (fN n X Y) f inn) hk (by omega)
        exact ih _ _ _ d M k _ (by omega) hI1 h2 hD hk (by omega) (part2 _ _ (XD_fr hD hs.2.1) hs.1 (by omega) q)
      · rw [pb_f.mpr h2]
        rw [dInv_nil crf_comm hI1 h2] at q hb
        exact br_t rfl (part2 M k hD hk (by simp at hb; omega) q)
    · have hc : cr.testBit f = true := by simpa using hc
      have hI1 := dInv_out1 hI hc
      obtain ⟨-, t, t1, t2⟩ := (hI.2.2.2.1 f).mp hc
      have hnil : dl (crf n X Y) (fN n X Y) f (inn + 2 ^ f) = [] := dl_in_nil (dInv_low hI) t1 t2
      rw [hnil] at q hb
      refine xw_canBePaid hP hD how hcrl (by omega) ?_
      by_cases h2 : dPaid (crf n X Y) f cr ow
      · rw [pb_iff.mpr h2]
        exact br_f (by decide) (ih _ _ _ d M k Q (by omega) hI1 h2 hD hk (by simp at hb; omega) q)
      · rw [pb_f.mpr h2]
        rw [dInv_nil crf_comm hI1 h2] at q
        exact br_t rfl q
end XDEC
