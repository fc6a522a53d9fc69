/-! ===== XLAY: crossings, hems, sides; the ground is laid ===== -/
theorem pb_ex_succ {P : Nat → Prop} (k : Nat) : pb (∃ p, p < k + 1 ∧ P p) = (pb (∃ p, p < k ∧ P p) || pb (P k)) := by
  cases h : pb (P k) with
  | true => rw [Bool.or_true]; exact pb_iff.mpr ⟨k, by omega, pb_iff.mp h⟩
  | false =>
    rw [Bool.or_false]
    refine pb_cong ⟨fun ⟨p, h1, h2⟩ => ⟨p, ?_, h2⟩, fun ⟨p, h1, h2⟩ => ⟨p, by omega, h2⟩⟩
    rcases Nat.lt_or_ge p k with g | g
    · exact g
    · rw [show p = k by omega] at h2; exact absurd h2 (pb_f.mp h)
theorem pb_ex_0 {P : Nat → Prop} : pb (∃ p, p < 0 ∧ P p) = false := pb_f.mpr fun ⟨_, h, _⟩ => absurd h (Nat.not_lt_zero _)
def XL (n : Nat) (X Y : Nat → Int) (M : Mem) : Prop := M.1 13 4 = nI (fN n X Y) ∧ ∀ f, f < fN n X Y → M.1 17 f = nI (flo n X Y f) ∧ M.1 18 f = nI (fhi n X Y f)
def XB' (n : Nat) (X Y : Nat → Int) (M : Mem) : Prop := ∀ c d, c < n → d < n → M.1 20 (c * 8 + d) = oI (fbt n X Y c d)
def XC' (n : Nat) (X Y : Nat → Int) (M : Mem) : Prop := ∀ f, f < fN n X Y → M.1 19 f = nI (cmk n X Y f)
def XH' (n : Nat) (X Y : Nat → Int) (M : Mem) : Prop := M.1 13 5 = nI (hmk n X Y)
def XS' (n : Nat) (X Y : Nat → Int) (M : Mem) : Prop := ∀ f c, f < fN n X Y → c < n → M.1 21 (f * 8 + c) = nI (sid n X Y f c)
/-- the class's ground -/
def XF (n : Nat) (X Y : Nat → Int) (M : Mem) : Prop := XG n X Y M ∧ XL n X Y M ∧ XB' n X Y M ∧ XC' n X Y M ∧ XH' n X Y M ∧ XS' n X Y M
section XLAY
variable {n : Nat} {X Y : Nat → Int} {M : Mem}
theorem Pts.f28 (hP : Pts n X Y) : fN n X Y ≤ 28 := fN_le hP.1
theorem Pts.f31 (hP : Pts n X Y) {f : Nat} (h : f ≤ fN n X Y) : f < 2 ^ 31 := by have := hP.f28; omega
theorem Pts.lo (hP : Pts n X Y) {f : Nat} (h : f < fN n X Y) : flo n X Y f < n := by have := f_pair h; omega
theorem Pts.hi (_ : Pts n X Y) {f : Nat} (h : f < fN n X Y) : fhi n X Y f < n := (f_pair h).2.1
theorem XL_of (h : XN n X Y (frows n X Y n) M) : XL n X Y M := ⟨h.1, fun f hf => h.2 f ((frows n X Y n).getD f (0, 0)) (by rw [List.getD_eq_getElem?_getD, List.getElem?_eq_getElem hf]; rfl)⟩
theorem xw_areParted (hP : Pts n X Y) (hG : XG n X Y M) {a b c d : Nat} (ha : a < n) (hb : b < n) (hc : c < n) (hd : d < n) {Q : Int32 → Mem → Prop} (q : Q (bI (ob (om (sg X Y a b c) (sg X Y a b d)) .lt)) M) : wp_X4_areParted (nI c) (nI d) (nI a) (nI b) M Q := by
  refine xw_side hP hG ha hb hc (xw_side hP hG ha hb hd ?_)
  by_cases h : om (sg X Y a b c) (sg X Y a b d) = .lt
  · rw [ob_iff.mpr h] at q
    exact br_f (fun z => sI_mul.mp z h) q
  · have : ob (om (sg X Y a b c) (sg X Y a b d)) .lt = false := by
      cases z : ob (om (sg X Y a b c) (sg X Y a b d)) .lt with
      | false => rfl
      | true => exact absurd (ob_iff.mp z) h
    rw [this] at q
    exact br_t (sI_mul.mpr h) q
theorem ob_pb {p q : Ordering} : ob p q = pb (p = q) := by
  cases h : ob p q with
  | true => exact (pb_iff.mpr (ob_iff.mp h)).symm
  | false => exact (pb_f.mpr fun z => by rw [ob_iff.mpr z] at h; cases h).symm
theorem xw_doCross (hP : Pts n X Y) (hG : XG n X Y M) (hL : XL n X Y M) {f g : Nat} (hf : f < fN n X Y) (hg : g < fN n X Y) {Q : Int32 → Mem → Prop} (q : Q (bI (crf n X Y f g)) M) : wp_X2_doCross (nI f) (nI g) M Q := by
  have h28 := hP.f28
  have vf : vp_in (nI f) 28 := vp_in_nI (by omega) (by omega)
  have vg : vp_in (nI g) 28 := vp_in_nI (by omega) (by omega)
  unfold wp_X2_doCross
  rw [nI_clamp (hP.f31 (Nat.le_of_lt hf)), nI_clamp (hP.f31 (Nat.le_of_lt hg)), (hL.2 f hf).1, (hL.2 f hf).2, (hL.2 g hg).1, (hL.2 g hg).2]
  refine ⟨vf, vf, vg, vg, xw_areParted hP hG (hP.lo hg) (hP.hi hg) (hP.lo hf) (hP.hi hf) ?_⟩
  rw [ob_pb]
  cases h1 : pb (om (sg X Y (flo n X Y g) (fhi n X Y g) (flo n X Y f)) (sg X Y (flo n X Y g) (fhi n X Y g) (fhi n X Y f)) = .lt) with
  | false =>
    have : crf n X Y f g = false := pb_f.mpr fun z => pb_f.mp h1 z.2
    rw [this] at q
    exact br_t rfl q
  | true =>
    refine br_f (by decide) ⟨vg, vg, vf, vf, ?_⟩
    show wp_X4_areParted (M.1 17 g) (M.1 18 g) (M.1 17 f) (M.1 18 f) M _
    rw [(hL.2 f hf).1, (hL.2 f hf).2, (hL.2 g hg).1, (hL.2 g hg).2]
    refine xw_areParted hP hG (hP.lo hf) (hP.hi hf) (hP.lo hg) (hP.hi hg) ?_
    rw [ob_pb]
    cases h2 : pb (om (sg X Y (flo n X Y f) (fhi n X Y f) (flo n X Y g)) (sg X Y (flo n X Y f) (fhi n X Y f) (fhi n X Y g)) = .lt) with
    | false =>
      have : crf n X Y f g = false := pb_f.mpr fun z => pb_f.mp h2 z.1
      rw [this] at q
      exact br_t rfl q
    | true =>
      have : crf n X Y f g = true := pb_iff.mpr ⟨pb_iff.mp h2, pb_iff.mp h1⟩
      rw [this] at q
      exact br_f (by decide) q
theorem cmk_lt (hP : Pts n X Y) (f : Nat) : cmk n X Y f < 2 ^ 28 := Nat.lt_of_lt_of_le (mk_lt _ _) (Nat.pow_le_pow_right (by omega) hP.f28)
theorem xw_findCrossings (hP : Pts n X Y) (hG : XG n X Y M) (hL : XL n X Y M) {Q : Mem → Prop} (q : ∀ M', Fr [19] M M' → XC' n X Y M' → Q M') : wp_X2_findCrossings M Q := by
  have h28 := hP.f28
  have fr : ∀ {M'}, Fr [19] M M' → XG n X Y M' ∧ XL n X Y M' := fun hF => by
    refine ⟨XG_fr hG (hF.2 14 (by decide)) (hF.2 15 (by decide)) (hF.2 16 (by decide)), ?_⟩
    unfold XL
    rw [hF.2 13 (by decide), hF.2 17 (by decide), hF.2 18 (by decide)]
    exact hL
  have inner : ∀ f, f < fN n X Y → (∀ M', Fr [19] M M' → (∀ i, i < f + 1 → M'.1 19 i = nI (cmk n X Y i)) → at_X2_findCrossings Q 1 (nI (f + 1)) 0 M') → ∀ d g M', g + d = fN n X Y → Fr [19] M M' → (∀ i, i < f → M'.1 19 i = nI (cmk n X Y i)) → M'.1 19 f = nI (mk (crf n X Y f) g) → at_X2_findCrossings Q 2 (nI f) (nI g) M' := by
    intro f hf kk d
    induction d with
    | zero =>
      intro g M' hg hF h1 h2
      obtain ⟨hG', hL'⟩ := fr hF
      refine at_X2_findCrossings_fold (br_t ?_ ?_)
      · rw [hL'.1]; exact (nI_leI (hP.f31 (by omega)) (hP.f31 (by omega))).mpr (by omega)
      · rw [nI_1]
        refine kk M' hF (lt_s h1 ?_)
        rw [h2, show g = fN n X Y by omega]
        rfl
    | succ d ih =>
      intro g M' hg hF h1 h2
      obtain ⟨hG', hL'⟩ := fr hF
      have vf : vp_in (nI f) 28 := vp_in_nI (by omega) (by omega)
      have e : mk (crf n X Y f) (g + 1) = if crf n X Y f g then mk (crf n X Y f) g ||| (1 <<< g) else mk (crf n X Y f) g := rfl
      refine at_X2_findCrossings_fold (br_f ?_ (xw_doCross hP hG' hL' hf (by omega) ?_))
      · rw [hL'.1, nI_leI (hP.f31 (by omega)) (hP.f31 (by omega))]; omega
      · cases hc : crf n X Y f g with
        | false =>
          refine br_t rfl (at_X2_findCrossings_fold ?_)
          show at_X2_findCrossings Q 2 (nI f) (nI g + 1) M'
          rw [nI_1]
          refine ih (g + 1) M' (by omega) hF h1 ?_
          rw [e, hc]
          exact h2
        | true =>
          refine br_f (by decide) ⟨vf, vf, at_X2_findCrossings_fold ?_⟩
          show at_X2_findCrossings Q 2 (nI f) (nI g + 1) _
          rw [nI_1, nI_clamp (by omega), h2, nI_shl (by omega), nI_or]
          refine ih (g + 1) _ (by omega) (Fr_up hF (by decide) _ _) (fun i hi => by rw [upI_oth (by omega)]; exact h1 i hi) ?_
          rw [upI_same, e, hc]
          rfl
  have outer : ∀ d f M', f + d = fN n X Y → Fr [19] M M' → (∀ i, i < f → M'.1 19 i = nI (cmk n X Y i)) → at_X2_findCrossings Q 1 (nI f) 0 M' := by
    intro d
    induction d with
    | zero =>
      intro f M' hd hF h1
      obtain ⟨hG', hL'⟩ := fr hF
      refine at_X2_findCrossings_fold (br_t ?_ ?_)
      · rw [hL'.1]; exact (nI_leI (hP.f31 (by omega)) (hP.f31 (by omega))).mpr (by omega)
      · exact q M' hF fun f' hf' => h1 f' (by omega)
    | succ d ih =>
      intro f M' hd hF h1
      obtain ⟨hG', hL'⟩ := fr hF
      refine at_X2_findCrossings_fold (br_f ?_ ⟨vp_in_nI (by omega) (by omega), ?_⟩)
      · rw [hL'.1, nI_leI (hP.f31 (by omega)) (hP.f31 (by omega))]; omega
      · rw [nI_clamp (by omega)]
        exact inner f (by omega) (fun M1 a1 a2 => ih (f + 1) M1 (by omega) a1 a2) (fN n X Y) 0 _ (by omega) (Fr_up hF (by decide) _ _) (fun i hi => by rw [upI_oth (by omega)]; exact h1 i hi) (upI_same ..)
  exact at_X2_findCrossings_fold (outer (fN n X Y) 0 M (by omega) (Fr_refl _ _) lt_0)
theorem xw_isHem (hP : Pts n X Y) (hG : XG n X Y M) (hL : XL n X Y M) {f : Nat} (hf : f < fN n X Y) {Q : Int32 → Mem → Prop} (q : Q (bI (hem n X Y f)) M) : wp_X2_isHem (nI f) M Q := by
  have h28 := hP.f28
  have vf : vp_in (nI f) 28 := vp_in_nI (by omega) (by omega)
  have key : ∀ d k, k + d = n → at_X2_isHem (nI f) Q 1 (bI (pb (∃ p, p < k ∧ sg X Y (flo n X Y f) (fhi n X Y f) p = .gt))) (bI (pb (∃ p, p < k ∧ sg X Y (flo n X Y f) (fhi n X Y f) p = .lt))) (nI k) 0 M := by
    intro d
    induction d with
    | zero =>
      intro k hk
      have hkn : k = n := by omega
      subst hkn
      refine at_X2_isHem_fold (br_t ?_ ?_)
      · rw [hG.1]; exact (nI_leI (hP.l31 (by omega)) (hP.l31 (by omega))).mpr (by omega)
      · unfold hem at q
        cases h1 : pb (∃ p, p < k ∧ sg X Y (flo k X Y f) (fhi k X Y f) p = .gt) with
        | false =>
          rw [h1] at q
          exact br_t rfl (at_X2_isHem_fold q)
        | true =>
          rw [h1] at q
          refine br_f (by decide) ?_
          cases h2 : pb (∃ p, p < k ∧ sg X Y (flo k X Y f) (fhi k X Y f) p = .lt) with
          | false =>
            rw [h2] at q
            exact bs_f rfl (at_X2_isHem_fold q)
          | true =>
            rw [h2] at q
            exact bs_t (by decide) q
    | succ d ih =>
      intro k hk
      refine at_X2_isHem_fold (br_f ?_ ?_)
      · rw [hG.1, nI_leI (hP.l31 (by omega)) (hP.l31 (by omega))]; omega
      · rw [nI_clamp (hP.f31 (Nat.le_of_lt hf)), (hL.2 f hf).1, (hL.2 f hf).2]
        refine ⟨vf, vf, xw_side hP hG (hP.lo hf) (hP.hi hf) (by omega) ?_⟩
        have nx := ih (k + 1) (by omega)
        rw [pb_ex_succ, pb_ex_succ, ← nI_1] at nx
        generalize pb (∃ p, p < k ∧ sg X Y (flo n X Y f) (fhi n X Y f) p = .gt) = b1 at nx ⊢
        generalize pb (∃ p, p < k ∧ sg X Y (flo n X Y f) (fhi n X Y f) p = .lt) = b2 at nx ⊢
        have l4 : ∀ o : Ordering, sg X Y (flo n X Y f) (fhi n X Y f) k = o → at_X2_isHem (nI f) Q 4 (bI (b1 || pb (o = .gt))) (bI b2) (nI k) (sI o) M := by
          intro o ho
          rw [ho] at nx
          refine at_X2_isHem_fold ?_
          cases b2 with
          | true => exact bs_t (by decide) (at_X2_isHem_fold (at_X2_isHem_fold nx))
          | false =>
            refine bs_f rfl ?_
            cases o with
            | lt =>
              rw [show pb (Ordering.lt = Ordering.lt) = true from pb_iff.mpr rfl] at nx
              exact br_f (by decide) (at_X2_isHem_fold (at_X2_isHem_fold nx))
            | eq =>
              rw [show pb (Ordering.eq = Ordering.lt) = false from pb_f.mpr (by decide)] at nx
              exact br_t (by decide) (at_X2_isHem_fold nx)
            | gt =>
              rw [show pb (Ordering.gt = Ordering.lt) = false from pb_f.mpr (by decide)] at nx
              exact br_t (by decide) (at_X2_isHem_fold nx)
        have l5 := l4 (sg X Y (flo n X Y f) (fhi n X Y f) k) rfl
        cases b1 with
        | true => exact bs_t (by decide) (at_X2_isHem_fold l5)
        | false =>
          refine bs_f rfl ?_
          generalize sg X Y (flo n X Y f) (fhi n X Y f) k = o at l5 ⊢
          cases o with
          | gt =>
            rw [show pb (Ordering.gt = Ordering.gt) = true from pb_iff.mpr rfl] at l5
            exact br_f (by decide) (at_X2_isHem_fold l5)
          | eq =>
            rw [show pb (Ordering.eq = Ordering.gt) = false from pb_f.mpr (by decide)] at l5
            exact br_t (by decide) l5
          | lt =>
            rw [show pb (Ordering.lt = Ordering.gt) = false from pb_f.mpr (by decide)] at l5
            exact br_t (by decide) l5
  have := key n 0 (by omega)
  rw [pb_ex_0, pb_ex_0] at this
  exact at_X2_isHem_fold this
theorem xw_findHems (hP : Pts n X Y) (hG : XG n X Y M) (hL : XL n X Y M) {Q : Mem → Prop} (q : Q (upI M 13 5 (nI (hmk n X Y)))) : wp_X2_findHems M Q := by
  have h28 := hP.f28
  have upup : ∀ (v w : Int32), upI (upI M 13 5 v) 13 5 w = upI M 13 5 w := fun v w => by
    refine Prod.ext (funext fun a => ?_) rfl
    by_cases h : a = 13
    · subst h
      funext k
      by_cases g : k = 5
      · subst g; rw [upI_same, upI_same]
      · rw [upI_oth g, upI_oth g, upI_oth g]
    · rw [upI_ne h, upI_ne h, upI_ne h]
  have key : ∀ d k, k + d = fN n X Y → at_X2_findHems Q 1 (nI k) (upI M 13 5 (nI (mk (hem n X Y) k))) := by
    intro d
    induction d with
    | zero =>
      intro k hk
      refine at_X2_findHems_fold (br_t ?_ ?_)
      · show M.1 13 4 ≤ _
        rw [hL.1]; exact (nI_leI (hP.f31 (by omega)) (hP.f31 (by omega))).mpr (by omega)
      · rw [show k = fN n X Y by omega]
        exact q
    | succ d ih =>
      intro k hk
      have e : mk (hem n X Y) (k + 1) = if hem n X Y k then mk (hem n X Y) k ||| (1 <<< k) else mk (hem n X Y) k := rfl
      refine at_X2_findHems_fold (br_f ?_ (xw_isHem hP ?_ ?_ (by omega) ?_))
      · show ¬ M.1 13 4 ≤ _
        rw [hL.1, nI_leI (hP.f31 (by omega)) (hP.f31 (by omega))]; omega
      · exact hG
      · exact hL
      · have nx := ih (k + 1) (by omega)
        rw [← nI_1] at nx
        cases hc : hem n X Y k with
        | false =>
          rw [e, hc] at nx
          exact br_t rfl (at_X2_findHems_fold nx)
        | true =>
          rw [e, hc, if_pos rfl] at nx
          refine br_f (by decide) (at_X2_findHems_fold ?_)
          show at_X2_findHems Q 1 (nI k + 1) _
          rw [upI_same, nI_shl (by omega), nI_or, upup]
          exact nx
  exact at_X2_findHems_fold (key (fN n X Y) 0 (by omega))
theorem xw_isWithin (hP : Pts n X Y) (hG : XG n X Y M) {p a b c : Nat} (hp : p < n) (ha : a < n) (hb : b < n) (hc : c < n) {Q : Int32 → Mem → Prop} (q : Q (bI (pb (wth X Y p a b c))) M) : wp_X4_isWithin (nI p) (nI a) (nI b) (nI c) M Q := by
  refine xw_side hP hG ha hb hp ?_
  by_cases h0 : sg X Y a b p = .eq
  · rw [pb_f.mpr (fun z => z.1 h0)] at q
    exact br_t (sI_0.mpr h0) q
  · refine br_f (fun z => h0 (sI_0.mp z)) (xw_side hP hG hb hc hp ?_)
    by_cases h1 : sg X Y a b p = sg X Y b c p
    · refine bs_f (sI_inj.mpr h1) (xw_side hP hG hc ha hp ?_)
      by_cases h2 : sg X Y a b p = sg X Y c a p
      · rw [pb_iff.mpr ⟨h0, h1, h2⟩] at q
        exact bs_f (sI_inj.mpr h2) q
      · rw [pb_f.mpr (fun z => h2 z.2.2)] at q
        exact bs_t (fun z => h2 (sI_inj.mp z)) q
    · rw [pb_f.mpr (fun z => h1 z.2.1)] at q
      exact bs_t (fun z => h1 (sI_inj.mp z)) q
theorem xw_between (hP : Pts n X Y) (hB : XB' n X Y M) {a b : Nat} (ha : a < n) (hb : b < n) {Q : Int32 → Mem → Prop} (q : Q (oI (fbt n X Y a b)) M) : wp_X2_fenceBetween (nI a) (nI b) M Q := by
  have hn := hP.1
  unfold wp_X2_fenceBetween
  rw [ix8, nI_clamp (by omega), hB a b ha hb]
  exact ⟨vp_in_nI (by omega) (by omega), q⟩
theorem oI_no {o : Option Nat} (h : o = none) : oI o = -9 := by rw [h]; rfl
theorem xw_sidesOf (hP : Pts n X Y) (hG : XG n X Y M) (hL : XL n X Y M) (hB : XB' n X Y M) {f c : Nat} (hf : f < fN n X Y) (hc : c < n) {Q : Int32 → Mem → Prop} (q : Q (nI (sid n X Y f c)) M) : wp_X2_sidesOf (nI f) (nI c) M Q := by
  have h28 := hP.f28
  have vf : vp_in (nI f) 28 := vp_in_nI (by omega) (by omega)
  refine at_X2_sidesOf_fold ?_
  show blk_X2_sidesOf_0 (nI f) (nI c) Q (at_X2_sidesOf (nI f) (nI c) Q) 0 0 0 0 0 M
  unfold blk_X2_sidesOf_0
  rw [nI_clamp (hP.f31 (Nat.le_of_lt hf)), (hL.2 f hf).1, (hL.2 f hf).2]
  refine ⟨vf, vf, xw_between hP hB (hP.lo hf) hc (xw_between hP hB (hP.hi hf) hc ?_)⟩
  cases h1 : fbt n X Y (flo n X Y f) c with
  | none =>
    have : sid n X Y f c = 0 := by unfold sid; rw [h1]
    rw [this] at q
    exact br_t rfl q
  | some g =>
    have g28 := fbt_lt28 hP.1 h1
    refine br_f (ne9 (by omega)) ?_
    cases h2 : fbt n X Y (fhi n X Y f) c with
    | none =>
      have : sid n X Y f c = 0 := by unfold sid; rw [h1, h2]
      rw [this] at q
      exact br_t rfl q
    | some h =>
      have k28 := fbt_lt28 hP.1 h2
      have es : sid n X Y f c = if sg X Y (flo n X Y f) (fhi n X Y f) c ≠ .eq ∧ emp n X Y (flo n X Y f) (fhi n X Y f) c = true then (1 <<< f ||| 1 <<< g) ||| 1 <<< h else 0 := by
        unfold sid
        rw [h1, h2]
      rw [es] at q
      refine br_f (ne9 (by omega)) (xw_side hP hG (hP.lo hf) (hP.hi hf) hc ?_)
      by_cases h3 : sg X Y (flo n X Y f) (fhi n X Y f) c = .eq
      · rw [if_neg (fun z => z.1 h3)] at q
        exact bs_f (sI_0.mpr h3) q
      · refine bs_t (fun z => h3 (sI_0.mp z)) ?_
        have key : ∀ d k, k + d = n → (∀ p, p < k → ¬ wth X Y p (flo n X Y f) (fhi n X Y f) c) → at_X2_sidesOf (nI f) (nI c) Q 1 (nI (flo n X Y f)) (nI (fhi n X Y f)) (nI g) (nI h) (nI k) M := by
          intro d
          induction d with
          | zero =>
            intro k hk hw
            refine at_X2_sidesOf_fold (br_t ?_ ?_)
            · rw [hG.1]; exact (nI_leI (hP.l31 (by omega)) (hP.l31 (by omega))).mpr (by omega)
            · rw [if_pos ⟨h3, emp_iff.mpr fun p hp => hw p (by omega)⟩] at q
              rw [nI_shl (by omega), nI_shl (by omega), nI_shl (by omega), nI_or, nI_or]
              exact q
          | succ d ih =>
            intro k hk hw
            refine at_X2_sidesOf_fold (br_f ?_ (xw_isWithin hP hG (by omega) (hP.lo hf) (hP.hi hf) hc ?_))
            · rw [hG.1, nI_leI (hP.l31 (by omega)) (hP.l31 (by omega))]; omega
            · cases h4 : pb (wth X Y k (flo n X Y f) (fhi n X Y f) c) with
              | true =>
                rw [if_neg (fun z => emp_iff.mp z.2 k (by omega) (pb_iff.mp h4))] at q
                exact br_f (by decide) q
              | false =>
                refine br_t rfl ?_
                rw [nI_1]
                exact ih (k + 1) (by omega) (lt_s hw (pb_f.mp h4))
        exact key n 0 (by omega) lt_0
theorem xw_findSides (hP : Pts n X Y) (hG : XG n X Y M) (hL : XL n X Y M) (hB : XB' n X Y M) {Q : Mem → Prop} (q : ∀ M', Fr [21] M M' → XS' n X Y M' → Q M') : wp_X2_findSides M Q := by
  have h28 := hP.f28
  have hn := hP.1
  have fr : ∀ {M'}, Fr [21] M M' → XG n X Y M' ∧ XL n X Y M' ∧ XB' n X Y M' := fun hF => by
    refine ⟨XG_fr hG (hF.2 14 (by decide)) (hF.2 15 (by decide)) (hF.2 16 (by decide)), ?_, ?_⟩
    · unfold XL
      rw [hF.2 13 (by decide), hF.2 17 (by decide), hF.2 18 (by decide)]
      exact hL
    · unfold XB'
      rw [hF.2 20 (by decide)]
      exact hB
  have inner : ∀ f, f < fN n X Y → (∀ M', Fr [21] M M' → (∀ i c, i < f + 1 → c < n → M'.1 21 (i * 8 + c) = nI (sid n X Y i c)) → at_X2_findSides Q 1 (nI (f + 1)) 0 M') → ∀ d g M', g + d = n → Fr [21] M M' → (∀ i c, i < f → c < n → M'.1 21 (i * 8 + c) = nI (sid n X Y i c)) → (∀ c, c < g → M'.1 21 (f * 8 + c) = nI (sid n X Y f c)) → at_X2_findSides Q 2 (nI f) (nI g) M' := by
    intro f hf kk d
    induction d with
    | zero =>
      intro g M' hg hF h1 h2
      obtain ⟨hG', hL', hB'⟩ := fr hF
      refine at_X2_findSides_fold (br_t ?_ ?_)
      · rw [hG'.1]; exact (nI_leI (hP.l31 (by omega)) (hP.l31 (by omega))).mpr (by omega)
      · rw [nI_1]
        refine kk M' hF fun i c hi hc => ?_
        rcases Nat.lt_or_ge i f with z | z
        · exact h1 i c z hc
        · rw [show i = f by omega]; exact h2 c (by omega)
    | succ d ih =>
      intro g M' hg hF h1 h2
      obtain ⟨hG', hL', hB'⟩ := fr hF
      refine at_X2_findSides_fold (br_f ?_ (xw_sidesOf hP hG' hL' hB' hf (by omega) ?_))
      · rw [hG'.1, nI_leI (hP.l31 (by omega)) (hP.l31 (by omega))]; omega
      · rw [ix8, nI_1, nI_clamp (by omega)]
        refine ⟨vp_in_nI (by omega) (by omega), ih (g + 1) _ (by omega) (Fr_up hF (by decide) _ _) (fun i c hi hc => by rw [upI_oth (by omega)]; exact h1 i c hi hc) fun c hc => ?_⟩
        rcases Nat.lt_or_ge c g with z | z
        · rw [upI_oth (by omega)]; exact h2 c z
        · rw [show c = g by omega, upI_same]
  have outer : ∀ d f M', f + d = fN n X Y → Fr [21] M M' → (∀ i c, i < f → c < n → M'.1 21 (i * 8 + c) = nI (sid n X Y i c)) → at_X2_findSides Q 1 (nI f) 0 M' := by
    intro d
    induction d with
    | zero =>
      intro f M' hd hF h1
      obtain ⟨hG', hL', hB'⟩ := fr hF
      refine at_X2_findSides_fold (br_t ?_ ?_)
      · rw [hL'.1]; exact (nI_leI (hP.f31 (by omega)) (hP.f31 (by omega))).mpr (by omega)
      · exact q M' hF fun f' c hf' hc => h1 f' c (by omega) hc
    | succ d ih =>
      intro f M' hd hF h1
      obtain ⟨hG', hL', hB'⟩ := fr hF
      refine at_X2_findSides_fold (br_f ?_ ?_)
      · rw [hL'.1, nI_leI (hP.f31 (by omega)) (hP.f31 (by omega))]; omega
      · exact inner f (by omega) (fun M1 a1 a2 => ih (f + 1) M1 (by omega) a1 a2) n 0 _ (by omega) hF h1 lt_0
  exact at_X2_findSides_fold (outer (fN n X Y) 0 M (by omega) (Fr_refl _ _) (fun i c h => absurd h (Nat.not_lt_zero i)))
def XP (n : Nat) (X Y : Nat → Int) (M : Mem) : Prop := M.1 10 2 = nI n ∧ (∀ i, i < n → M.1 11 i = iI (X i)) ∧ ∀ i, i < n → M.1 12 i = iI (Y i)
theorem xw_become (hP : Pts n X Y) (hC : XP n X Y M) {Q : Mem → Prop} (q : ∀ M', Fr [14, 15, 16] M M' → XG n X Y M' → Q M') : wp_X4_becomeThoseOf M Q := by
  have hn := hP.1
  have key : ∀ d k M', k + d = n → Fr [14, 15, 16] M M' → M'.1 14 2 = nI k → (∀ i, i < k → M'.1 15 i = iI (X i) ∧ M'.1 16 i = iI (Y i)) → at_X4_becomeThoseOf Q 1 (nI k) M' := by
    intro d
    induction d with
    | zero =>
      intro k M' hk hF h1 h2
      refine at_X4_becomeThoseOf_fold (br_t ?_ ?_)
      · rw [hF.2 10 (by decide), hC.1]; exact (nI_leI (hP.l31 (by omega)) (hP.l31 (by omega))).mpr (by omega)
      · refine q M' hF ⟨by rw [h1, show k = n by omega], fun i hi => (h2 i (by omega)).1, fun i hi => (h2 i (by omega)).2⟩
    | succ d ih =>
      intro k M' hk hF h1 h2
      have vk : vp_in (nI k) 8 := vp_in_nI (by omega) (by omega)
      refine at_X4_becomeThoseOf_fold (br_f ?_ ⟨vk, vk, ?_⟩)
      · rw [hF.2 10 (by decide), hC.1, nI_leI (hP.l31 (by omega)) (hP.l31 (by omega))]; omega
      · rw [nI_clamp (by omega), hF.2 11 (by decide), hF.2 12 (by decide), hC.2.1 k (by omega), hC.2.2 k (by omega)]
        unfold wp_X4_add_14
        rw [h1]
        refine br_f ?_ ⟨vk, ?_⟩
        · show ¬ nI 8 ≤ nI k
          rw [nI_leI (by omega) (by omega)]; omega
        · have e1 : (upI M' 15 (nI k).toNatClampNeg (iI (X k))).1 14 2 = nI k := h1
          rw [e1]
          refine ⟨vk, ?_⟩
          have e2 : (upI (upI M' 15 (nI k).toNatClampNeg (iI (X k))) 16 (nI k).toNatClampNeg (iI (Y k))).1 14 2 = nI k := h1
          rw [e2, nI_1, nI_clamp (by omega)]
          refine ih (k + 1) _ (by omega) (Fr_up (Fr_up (Fr_up hF (by decide) _ _) (by decide) _ _) (by decide) _ _) (upI_same ..) (lt_s (fun i hi => ?_) ?_)
          · rw [upI_ne (by decide), upI_ne (by decide), upI_oth (by omega), upI_ne (by decide), upI_oth (by omega), upI_ne (by decide)]
            exact h2 i hi
          · rw [upI_ne (by decide), upI_ne (by decide), upI_same, upI_ne (by decide), upI_same]
            exact ⟨rfl, rfl⟩
  refine at_X4_becomeThoseOf_fold ?_
  exact key n 0 _ (by omega) (Fr_up (Fr_refl _ _) (by decide) _ _) (upI_same ..) lt_0
abbrev layL : List Nat := [13, 14, 15, 16, 17, 18, 19, 20, 21]
theorem xw_layOf (hP : Pts n X Y) (hC : XP n X Y M) {Q : Mem → Prop} (q : ∀ M', Fr layL M M' → XF n X Y M' → Q M') : wp_X2_layOf M Q := by
  refine xw_become hP hC fun M1 f1 g1 => ?_
  refine xw_numberFences hP g1 fun M2 f2 n2 b2 => ?_
  have g2 := XG_fr g1 (f2.2 14 (by decide)) (f2.2 15 (by decide)) (f2.2 16 (by decide))
  have l2 := XL_of n2
  have b2' : XB' n X Y M2 := fun c d hc hd => b2 c d hc hd trivial
  refine xw_findCrossings hP g2 l2 fun M3 f3 c3 => ?_
  have g3 := XG_fr g2 (f3.2 14 (by decide)) (f3.2 15 (by decide)) (f3.2 16 (by decide))
  have l3 : XL n X Y M3 := by
    unfold XL
    rw [f3.2 13 (by decide), f3.2 17 (by decide), f3.2 18 (by decide)]
    exact l2
  have b3 : XB' n X Y M3 := by
    unfold XB'
    rw [f3.2 20 (by decide)]
    exact b2'
  refine xw_findHems hP g3 l3 ?_
  have f4 : Fr [13] M3 (upI M3 13 5 (nI (hmk n X Y))) := Fr_up (Fr_refl _ _) (by decide) _ _
  have g4 := XG_fr g3 (f4.2 14 (by decide)) (f4.2 15 (by decide)) (f4.2 16 (by decide))
  have l4 : XL n X Y (upI M3 13 5 (nI (hmk n X Y))) := l3
  have b4 : XB' n X Y (upI M3 13 5 (nI (hmk n X Y))) := b3
  have h4 : XH' n X Y (upI M3 13 5 (nI (hmk n X Y))) := upI_same ..
  have c4 : XC' n X Y (upI M3 13 5 (nI (hmk n X Y))) := c3
  generalize upI M3 13 5 (nI (hmk n X Y)) = M4 at *
  refine xw_findSides hP g4 l4 b4 fun M5 f5 s5 => ?_
  refine q M5 ?_ ⟨XG_fr g4 (f5.2 14 (by decide)) (f5.2 15 (by decide)) (f5.2 16 (by decide)), ?_, ?_, ?_, ?_, s5⟩
  · exact Fr_trans (Fr_trans (Fr_trans (Fr_trans (Fr_mono (by decide) f1) (Fr_mono (by decide) f2)) (Fr_mono (by decide) f3)) (Fr_mono (by decide) f4)) (Fr_mono (by decide) f5)
  · unfold XL
    rw [f5.2 13 (by decide), f5.2 17 (by decide), f5.2 18 (by decide)]
    exact l4
  · unfold XB'
    rw [f5.2 20 (by decide)]
    exact b4
  · unfold XC'
    rw [f5.2 19 (by decide)]
    exact c4
  · unfold XH'
    rw [f5.2 13 (by decide)]
    exact h4
end XLAY
