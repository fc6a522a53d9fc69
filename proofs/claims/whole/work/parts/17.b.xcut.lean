/-! ===== XCUT: thirds, what comes, the cuttings and what turns lead where ===== -/
section CL
variable (n : Nat) (X Y : Nat → Int)
noncomputable def cl : List Nat := cutl (crf n X Y) (fN n X Y)
noncomputable def cN : Nat := (cl n X Y).length
noncomputable def cg (i : Nat) : Nat := (cl n X Y).getD i 0
noncomputable def cx (T : Nat) : Nat := @dite _ (∃ i, i < cN n X Y ∧ cg n X Y i = T) (Classical.propDecidable _) (fun h => Classical.choose h) (fun _ => 0)
noncomputable def aft (i f : Nat) : Option Nat := if (cg n X Y i).testBit f = true then (match acl n X Y (cg n X Y i) f with
  | some g => some (cx n X Y (trn (cg n X Y i) f g))
  | none => none) else none
end CL
section CL2
variable {n : Nat} {X Y : Nat → Int}
theorem cg_get {i : Nat} (h : i < cN n X Y) : (cl n X Y)[i]? = some (cg n X Y i) := by
  unfold cg
  rw [List.getD_eq_getElem?_getD, List.getElem?_eq_getElem h]; rfl
theorem cg_mem {i : Nat} (h : i < cN n X Y) : cg n X Y i ∈ cl n X Y := List.mem_of_getElem? (cg_get h)
theorem cg_G {i : Nat} (h : i < cN n X Y) : isG (crf n X Y) (fN n X Y) (cg n X Y i) := mem_cutl.mp (cg_mem h)
theorem cg_lt {i j : Nat} (hij : i < j) (hj : j < cN n X Y) : cg n X Y i < cg n X Y j := by
  have h := List.pairwise_iff_getElem.mp (cutl_sorted (r := crf n X Y) (N := fN n X Y)) i j (Nat.lt_trans hij hj) hj hij
  have e1 := cg_get (Nat.lt_trans hij hj)
  have e2 := cg_get hj
  rw [List.getElem?_eq_getElem (Nat.lt_trans hij hj)] at e1
  rw [List.getElem?_eq_getElem hj] at e2
  injection e1 with e1
  injection e2 with e2
  rw [← e1, ← e2]
  exact h
theorem cg_inj {i j : Nat} (hi : i < cN n X Y) (hj : j < cN n X Y) (h : cg n X Y i = cg n X Y j) : i = j := by
  rcases Nat.lt_trichotomy i j with z | z | z
  · have := cg_lt z hj; omega
  · exact z
  · have := cg_lt z hi; omega
theorem cg_ex {T : Nat} (h : isG (crf n X Y) (fN n X Y) T) : ∃ i, i < cN n X Y ∧ cg n X Y i = T := by
  obtain ⟨i, hi, e⟩ := List.getElem_of_mem (mem_cutl.mpr h)
  refine ⟨i, hi, ?_⟩
  have : (cutl (crf n X Y) (fN n X Y))[i]? = some (cg n X Y i) := cg_get (n := n) (X := X) (Y := Y) hi
  rw [List.getElem?_eq_getElem hi] at this
  injection this with this
  rw [← this]
  exact e
theorem cx_of {T : Nat} (h : isG (crf n X Y) (fN n X Y) T) : cx n X Y T < cN n X Y ∧ cg n X Y (cx n X Y T) = T := by
  unfold cx
  rw [dif_pos (cg_ex h)]
  exact Classical.choose_spec (cg_ex h)
theorem cx_cg {i : Nat} (h : i < cN n X Y) : cx n X Y (cg n X Y i) = i := cg_inj (cx_of (cg_G h)).1 h (cx_of (cg_G h)).2
theorem cg_28 (hP : Pts n X Y) {i : Nat} (h : i < cN n X Y) : cg n X Y i < 2 ^ 28 := Nat.lt_of_lt_of_le (isG_lt (cg_G h)) (Nat.pow_le_pow_right (by omega) hP.f28)
theorem aft_some (hP : Pts n X Y) {i f j : Nat} (hi : i < cN n X Y) (h : aft n X Y i f = some j) : ∃ g, (cg n X Y i).testBit f = true ∧ acl n X Y (cg n X Y i) f = some g ∧ g < fN n X Y ∧ (cg n X Y i).testBit g = false ∧ j < cN n X Y ∧ cg n X Y j = trn (cg n X Y i) f g := by
  unfold aft at h
  split at h
  · rename_i hf
    cases q : acl n X Y (cg n X Y i) f with
    | none => rw [q] at h; cases h
    | some g =>
      rw [q] at h
      injection h with h
      obtain ⟨a1, a2, a3⟩ := acr_G hP.2.2 (cg_G hi) hf q
      obtain ⟨b1, b2⟩ := cx_of a3
      rw [h] at b1 b2
      exact ⟨g, hf, rfl, a1, a2, b1, b2⟩
  · cases h
end CL2
section XCUT
variable {n : Nat} {X Y : Nat → Int} {M : Mem}
theorem xw_isThird (hP : Pts n X Y) (hS : XS' n X Y M) {f c T : Nat} (hf : f < fN n X Y) (hc : c < n) {Q : Int32 → Mem → Prop} (q : Q (bI (thr n X Y T (flo n X Y f) (fhi n X Y f) c)) M) : wp_X2_isThird (nI f) (nI c) (nI T) M Q := by
  have h28 := hP.f28
  have hn := hP.1
  have hl := sid_lt hn (c := c) hf
  unfold wp_X2_isThird
  rw [ix8, nI_clamp (by omega), hS f c hf hc, nI_and, nI_0s hl, nI_eq (Nat.lt_of_lt_of_le (and_lt hl) (by omega)) (by omega)]
  refine ⟨vp_in_nI (by omega) (by omega), ?_⟩
  by_cases h0 : sid n X Y f c = 0
  · have : thr n X Y T (flo n X Y f) (fhi n X Y f) c = false := by
      cases z : thr n X Y T (flo n X Y f) (fhi n X Y f) c with
      | false => rfl
      | true => exact absurd h0 ((sid_thr hf).mpr z).1
    rw [this] at q
    exact br_t h0 q
  · refine br_f h0 ?_
    by_cases h1 : sid n X Y f c &&& T = sid n X Y f c
    · rw [(sid_thr hf).mp ⟨h0, h1⟩] at q
      exact bs_f h1 q
    · have : thr n X Y T (flo n X Y f) (fhi n X Y f) c = false := by
        cases z : thr n X Y T (flo n X Y f) (fhi n X Y f) c with
        | false => rfl
        | true => exact absurd ((sid_thr hf).mpr z).2 h1
      rw [this] at q
      exact bs_t h1 q
theorem xw_fenceAcross (hP : Pts n X Y) (hF : XF n X Y M) {f T : Nat} (hf : f < fN n X Y) (hT : isG (crf n X Y) (fN n X Y) T) {Q : Int32 → Mem → Prop} (q : Q (oI (acr n X Y T f)) M) : wp_X2_fenceAcross (nI f) (nI T) M Q := by
  obtain ⟨hG, hL, hB, -, -, hS⟩ := hF
  have h28 := hP.f28
  have hn := hP.1
  have vf : vp_in (nI f) 28 := vp_in_nI (by omega) (by omega)
  have hu := lplr (T := T) (f := f) (fun c d h1 h2 h3 => thr_uniq hP.2.2 hT h1 h2 h3)
  have key : ∀ d k, k + d = n → at_X2_fenceAcross (nI f) (nI T) Q 1 (oI (lp n X Y T f k).1) (oI (lp n X Y T f k).2) (nI k) 0 0 M := by
    intro d
    induction d with
    | zero =>
      intro k hk
      have hkn : k = n := by omega
      rw [hkn]
      refine at_X2_fenceAcross_fold (br_t ?_ ?_)
      · rw [hG.1]; exact (nI_leI (hP.l31 (by omega)) (hP.l31 (by omega))).mpr (by omega)
      · unfold acr at q
        rcases hu n with ⟨p, -⟩ | ⟨d, hd, t, p, -⟩ | ⟨c, d, hcd, hd, t1, t2, hne, p, -⟩
        · rw [p] at q ⊢
          exact bs_f rfl q
        · rw [p] at q ⊢
          exact bs_f rfl q
        · rw [p] at q ⊢
          obtain ⟨-, -, lc, -⟩ := thr_lt t1
          obtain ⟨-, -, ld, -⟩ := thr_lt t2
          refine bs_t (ne9 (by omega)) ⟨vf, vf, ?_⟩
          rw [nI_clamp (hP.f31 (Nat.le_of_lt hf)), (hL.2 f hf).1, (hL.2 f hf).2]
          refine xw_areParted hP hG (hP.lo hf) (hP.hi hf) lc ld ?_
          rw [ob_pb]
          by_cases c1 : om (sg X Y (flo n X Y f) (fhi n X Y f) c) (sg X Y (flo n X Y f) (fhi n X Y f) d) = .lt
          · rw [pb_iff.mpr c1]
            refine br_f (by decide) (xw_areParted hP hG lc ld (hP.lo hf) (hP.hi hf) ?_)
            rw [ob_pb]
            by_cases c2 : om (sg X Y c d (flo n X Y f)) (sg X Y c d (fhi n X Y f)) = .lt
            · rw [pb_iff.mpr c2]
              simp only [if_pos (And.intro c1 c2)] at q
              exact br_f (by decide) (at_X2_fenceAcross_fold (br_f (by decide) (xw_between hP hB lc ld q)))
            · rw [pb_f.mpr c2]
              simp only [if_neg (fun z : _ ∧ _ => c2 z.2)] at q
              exact br_t rfl (at_X2_fenceAcross_fold (at_X2_fenceAcross_fold (br_t rfl q)))
          · rw [pb_f.mpr c1]
            simp only [if_neg (fun z : _ ∧ _ => c1 z.1)] at q
            exact br_t rfl (at_X2_fenceAcross_fold (at_X2_fenceAcross_fold (br_t rfl q)))
    | succ d ih =>
      intro k hk
      have nx := ih (k + 1) (by omega)
      have e1 : lp n X Y T f (k + 1) = if thr n X Y T (flo n X Y f) (fhi n X Y f) k = true then ((lp n X Y T f k).2, some k) else lp n X Y T f k := rfl
      rw [e1, ← nI_1] at nx
      refine at_X2_fenceAcross_fold (br_f ?_ (xw_isThird hP hS hf (by omega) ?_))
      · rw [hG.1, nI_leI (hP.l31 (by omega)) (hP.l31 (by omega))]; omega
      · cases h : thr n X Y T (flo n X Y f) (fhi n X Y f) k with
        | false =>
          rw [h, if_neg Bool.false_ne_true] at nx
          exact br_t rfl (at_X2_fenceAcross_fold nx)
        | true =>
          rw [h, if_pos rfl] at nx
          exact br_f (by decide) (at_X2_fenceAcross_fold nx)
  exact at_X2_fenceAcross_fold (key n 0 (by omega))
def hst : Nat → Nat
  | 0 => 0
  | j + 1 => 2 ^ j
theorem hst_half : ∀ j, j < 8 → nI (2 ^ j) / 2 = nI (hst j) := by decide +kernel
theorem hst_le : ∀ j, j < 9 → hst j ≤ 128 := by decide +kernel
theorem xw_indexOf (hP : Pts n X Y) (hc : cN n X Y ≤ 256) (h1 : M.1 22 1 = nI (cN n X Y)) (h2 : ∀ i, i < cN n X Y → M.1 23 i = nI (cg n X Y i)) {p : Nat} (hp : p < cN n X Y) {Q : Int32 → Mem → Prop} (q : Q (nI p) M) : wp_X1_indexOf (nI (cg n X Y p)) M Q := by
  have hp28 := cg_28 hP hp
  have key : ∀ j i, j < 9 → i ≤ p → p < i + 2 ^ j → at_X1_indexOf (nI (cg n X Y p)) Q 1 (nI i) (nI (hst j)) M := by
    intro j
    induction j with
    | zero =>
      intro i _ hi hp2
      have : i = p := by omega
      subst this
      refine at_X1_indexOf_fold (br_t (by decide) ⟨vp_in_nI (by omega) (by omega), ?_⟩)
      rw [nI_clamp (by omega), h2 i hp]
      exact bs_f rfl q
    | succ j ih =>
      intro i hj hi hp2
      have h128 := hst_le (j + 1) hj
      have e2 : 2 ^ (j + 1) = 2 ^ j + 2 ^ j := by rw [Nat.pow_succ]; omega
      have hpos := Nat.two_pow_pos j
      have es : hst (j + 1) = 2 ^ j := rfl
      rw [es] at h128
      have nx : ∀ i', i' ≤ p → p < i' + 2 ^ j → at_X1_indexOf (nI (cg n X Y p)) Q 2 (nI i') (nI (2 ^ j)) M := fun i' a b => by
        refine at_X1_indexOf_fold ?_
        show at_X1_indexOf _ Q 1 (nI i') (nI (2 ^ j) / 2) M
        rw [hst_half j (by omega)]
        exact ih i' (by omega) a b
      refine at_X1_indexOf_fold ?_
      show _ ∧ _
      rw [es, h1, nI_add]
      refine br_f (fun z => ?_) ?_
      · have := (nI_leI (a := 2 ^ j) (b := 0) (by omega) (by omega)).mp z
        omega
      · rcases Nat.lt_or_ge (i + 2 ^ j) (cN n X Y) with g | g
        · refine br_f ?_ ⟨vp_in_nI (by omega) (by omega), ?_⟩
          · rw [nI_leI (by omega) (by omega)]; omega
          · have l28 := cg_28 hP g
            rw [nI_clamp (by omega), h2 _ g, nI_ltI (by omega) (by omega)]
            refine br_c (fun z => ?_) (fun z => ?_)
            · refine nx i hi ?_
              rcases Nat.lt_or_ge p (i + 2 ^ j) with w | w
              · exact w
              · rcases Nat.eq_or_lt_of_le w with w | w
                · rw [w] at z; omega
                · have := cg_lt w hp; omega
            · refine nx (i + 2 ^ j) ?_ (by omega)
              rcases Nat.lt_or_ge p (i + 2 ^ j) with w | w
              · have := cg_lt w g; omega
              · exact w
        · exact br_t ((nI_leI (by omega) (by omega)).mpr g) (nx i hi (by omega))
  exact at_X1_indexOf_fold (key 8 0 (by omega) (Nat.zero_le _) (by omega))
theorem cx_lt (hP : Pts n X Y) {i f : Nat} (hi : i < cN n X Y) {j : Nat} (h : aft n X Y i f = some j) : j < cN n X Y := by
  obtain ⟨g, -, -, -, -, a, -⟩ := aft_some hP hi h
  exact a
theorem xw_findAfter (hP : Pts n X Y) (hc : cN n X Y ≤ 256) (hF : XF n X Y M) (h1 : M.1 22 1 = nI (cN n X Y)) (h2 : ∀ i, i < cN n X Y → M.1 23 i = nI (cg n X Y i)) {i f : Nat} (hi : i < cN n X Y) (hf : f < 28) {Q : Int32 → Mem → Prop} (q : Q (oI (aft n X Y i f)) M) : wp_X1_findAfter (nI i) (nI f) M Q := by
  have h28 := hP.f28
  have c28 := cg_28 hP hi
  have vi : vp_in (nI i) 256 := vp_in_nI (by omega) (by omega)
  unfold aft at q
  refine at_X1_findAfter_fold ?_
  show blk_X1_findAfter_0 (nI i) (nI f) Q (at_X1_findAfter (nI i) (nI f) Q) 0 M
  unfold blk_X1_findAfter_0
  rw [nI_clamp (by omega), h2 i hi]
  refine ⟨vi, xw_isIn (by omega) (by omega) ?_⟩
  cases hb : (cg n X Y i).testBit f with
  | false =>
    rw [hb, if_neg Bool.false_ne_true] at q
    exact br_t rfl (at_X1_findAfter_fold (bs_f rfl q))
  | true =>
    rw [hb, if_pos rfl] at q
    have hfN := (cg_G hi).1 f hb
    refine br_f (by decide) ⟨vi, ?_⟩
    rw [h2 i hi]
    refine xw_fenceAcross hP hF hfN (cg_G hi) ?_
    rw [← acl_acr hP.2.2 (cg_G hi)]
    cases ha : acl n X Y (cg n X Y i) f with
    | none =>
      rw [ha] at q
      exact at_X1_findAfter_fold (bs_f rfl q)
    | some g =>
      rw [ha] at q
      obtain ⟨a1, a2, a3⟩ := acr_G hP.2.2 (cg_G hi) hb ha
      obtain ⟨b1, b2⟩ := cx_of a3
      refine at_X1_findAfter_fold (bs_t (ne9 (by omega)) ⟨vi, ?_⟩)
      show wp_X1_indexOf (((M.1 23 (nI i).toNatClampNeg) &&& (((1 : Int32) <<< (nI f &&& 31)) ^^^ ((-1) : Int32))) ||| ((1 : Int32) <<< (nI g &&& 31))) M _
      rw [nI_clamp (by omega), h2 i hi, nI_shl (by omega), nI_shl (by omega), nI_clr, nI_or]
      show wp_X1_indexOf (nI (trn (cg n X Y i) f g)) M _
      rw [← b2]
      refine xw_indexOf hP hc h1 h2 b1 ?_
      exact q
/-- the class's cuttings -/
def XK (n : Nat) (X Y : Nat → Int) (M : Mem) : Prop := M.1 22 1 = nI (cN n X Y) ∧ (∀ i, i < cN n X Y → M.1 23 i = nI (cg n X Y i)) ∧ ∀ i f, i < cN n X Y → f < 28 → M.1 24 (i * 28 + f) = oI (aft n X Y i f)
theorem XF_fr {M' : Mem} (h : XF n X Y M) (h0 : M'.1 13 = M.1 13) (h1 : M'.1 14 = M.1 14) (h2 : M'.1 15 = M.1 15) (h3 : M'.1 16 = M.1 16) (h4 : M'.1 17 = M.1 17) (h5 : M'.1 18 = M.1 18) (h6 : M'.1 19 = M.1 19) (h7 : M'.1 20 = M.1 20) (h8 : M'.1 21 = M.1 21) : XF n X Y M' := by
  unfold XF XG XL XB' XC' XH' XS'
  rw [h0, h1, h2, h3, h4, h5, h6, h7, h8]
  exact h
theorem XF_Fr {l : List Nat} {M' : Mem} (h : XF n X Y M) (hF : Fr l M M') (hl : ∀ q, 13 ≤ q → q ≤ 21 → q ∉ l) : XF n X Y M' :=
  XF_fr h (hF.2 13 (hl 13 (by omega) (by omega))) (hF.2 14 (hl 14 (by omega) (by omega))) (hF.2 15 (hl 15 (by omega) (by omega))) (hF.2 16 (hl 16 (by omega) (by omega))) (hF.2 17 (hl 17 (by omega) (by omega))) (hF.2 18 (hl 18 (by omega) (by omega))) (hF.2 19 (hl 19 (by omega) (by omega))) (hF.2 20 (hl 20 (by omega) (by omega))) (hF.2 21 (hl 21 (by omega) (by omega)))
theorem not_in3 {q a b c : Nat} (h1 : q ≠ a) (h2 : q ≠ b) (h3 : q ≠ c) : q ∉ [a, b, c] := by simp [h1, h2, h3]
theorem xw_cut (hP : Pts n X Y) (hc : cN n X Y ≤ 256) (hF : XF n X Y M) {Q : Mem → Prop} (q : ∀ M', Fr [22, 23, 24] M M' → XK n X Y M' → Q M') : wp_X1_cut M Q := by
  have h28 := hP.f28
  have inner : ∀ i, i < cN n X Y → (∀ M', Fr [22, 23, 24] M M' → M'.1 22 1 = nI (cN n X Y) → (∀ i, i < cN n X Y → M'.1 23 i = nI (cg n X Y i)) → (∀ j f, j < i + 1 → f < 28 → M'.1 24 (j * 28 + f) = oI (aft n X Y j f)) → at_X1_cut Q 1 (nI (i + 1)) 0 M') → ∀ d f M', f + d = 28 → Fr [22, 23, 24] M M' → M'.1 22 1 = nI (cN n X Y) → (∀ i, i < cN n X Y → M'.1 23 i = nI (cg n X Y i)) → (∀ j f, j < i → f < 28 → M'.1 24 (j * 28 + f) = oI (aft n X Y j f)) → (∀ g, g < f → M'.1 24 (i * 28 + g) = oI (aft n X Y i g)) → at_X1_cut Q 2 (nI i) (nI f) M' := by
    intro i hi kk d
    induction d with
    | zero =>
      intro f M' hd hFr h1 h2 h3 h4
      refine at_X1_cut_fold (br_t ?_ ?_)
      · show nI 28 ≤ nI f
        rw [nI_leI (by omega) (by omega)]; omega
      · rw [nI_1]
        refine kk M' hFr h1 h2 fun j g hj hg => ?_
        rcases Nat.lt_or_ge j i with z | z
        · exact h3 j g z hg
        · rw [show j = i by omega]; exact h4 g (by omega)
    | succ d ih =>
      intro f M' hd hFr h1 h2 h3 h4
      have hF' : XF n X Y M' := XF_Fr hF hFr fun q a b => not_in3 (by omega) (by omega) (by omega)
      refine at_X1_cut_fold (br_f ?_ (xw_findAfter hP hc hF' h1 h2 hi (by omega) ?_))
      · show ¬ nI 28 ≤ nI f
        rw [nI_leI (by omega) (by omega)]; omega
      · rw [ix28, nI_1, nI_clamp (by omega)]
        refine ⟨vp_in_nI (by omega) (by omega), ih (f + 1) _ (by omega) (Fr_up hFr (by decide) _ _) h1 h2 (fun j g hj hg => ?_) (fun g hg => ?_)⟩
        · rw [upI_oth (by omega)]; exact h3 j g hj hg
        · rcases Nat.lt_or_ge g f with z | z
          · rw [upI_oth (by omega)]; exact h4 g z
          · rw [show g = f by omega, upI_same]
  have outer : ∀ d i M', i + d = cN n X Y → Fr [22, 23, 24] M M' → M'.1 22 1 = nI (cN n X Y) → (∀ i, i < cN n X Y → M'.1 23 i = nI (cg n X Y i)) → (∀ j f, j < i → f < 28 → M'.1 24 (j * 28 + f) = oI (aft n X Y j f)) → at_X1_cut Q 1 (nI i) 0 M' := by
    intro d
    induction d with
    | zero =>
      intro i M' hd hFr h1 h2 h3
      refine at_X1_cut_fold (br_t ?_ (q M' hFr ⟨h1, h2, fun j f hj hf => h3 j f (by omega) hf⟩))
      rw [h1, nI_leI (by omega) (by omega)]; omega
    | succ d ih =>
      intro i M' hd hFr h1 h2 h3
      refine at_X1_cut_fold (br_f ?_ (inner i (by omega) (fun M1 a1 a2 a3 a4 => ih (i + 1) M1 (by omega) a1 a2 a3 a4) 28 0 M' (by omega) hFr h1 h2 h3 lt_0))
      rw [h1, nI_leI (by omega) (by omega)]; omega
  refine at_X1_cut_fold ⟨32, Nat.le_refl _, ?_⟩
  have hD : XD n X Y (upI M 22 1 0) := ⟨hF.2.1.1, hF.2.2.2.1⟩
  have e13 : (upI M 22 1 0).1 13 4 = nI (fN n X Y) := hF.2.1.1
  rw [e13]
  have ecl : cl n X Y = dl (crf n X Y) (fN n X Y) (fN n X Y) 0 := cutl_dl
  have hlen : (dl (crf n X Y) (fN n X Y) (fN n X Y) 0).length = cN n X Y := by rw [← ecl]; rfl
  refine xw_decide hP (fN n X Y) 0 0 0 32 (upI M 22 1 0) 0 _ (by omega) dInv_0 (fun g _ h => by simp at h) hD (upI_same ..) (by omega) ?_
  obtain ⟨a1, a2, a3, a4⟩ := kpL_spec (dl (crf n X Y) (fN n X Y) (fN n X Y) 0) (M := upI M 22 1 0) (k := 0) (upI_same ..) (by omega)
  refine outer (cN n X Y) 0 _ (by omega) (Fr_trans (Fr_up (Fr_refl _ _) (q := 22) (by decide) _ _) (Fr_mono (by decide) a2)) (by rw [a1, hlen, Nat.zero_add]) (fun i hi => ?_) (fun j f hj => absurd hj (Nat.not_lt_zero _))
  have := a4 i (cg n X Y i) (by rw [← ecl]; exact cg_get hi)
  rw [Nat.zero_add] at this
  exact this
end XCUT
