/-! ===== COMES: what would come for a fence; turns, turn ===== -/
section RT
variable {n : Nat} {X Y : Nat → Int} {M : Mem}
theorem rw_hasFence (hP : Pts n X Y) (hB : RB n X Y M) {T a b : Nat} (hT : T < 2 ^ 28) (ha : a < n) (hb : b < n) {Q : Int32 → Mem → Prop} (q : Q (bI (hsf n X Y T a b)) M) : wp_X8_hasFence (nI T) (nI a) (nI b) M Q := by
  have hn := hP.1
  unfold wp_X8_hasFence
  rw [ix8', nI_clamp (by omega), hB a b ha hb]
  refine ⟨vp_in_nI (by omega) (by omega), ?_⟩
  unfold hsf at q
  cases h : fbt n X Y a b with
  | none => rw [h] at q; exact br_t rfl q
  | some f =>
    have f28 := fbt_lt28 hn h
    rw [h] at q
    refine br_f (ne9 (by omega)) ?_
    show (¬ (nI T >>> (nI f &&& 31)) &&& 1 = 1 → Q 0 M) ∧ ((nI T >>> (nI f &&& 31)) &&& 1 = 1 → Q 1 M)
    rw [tbI (by omega) (by omega), bI_1]
    have q : Q (bI (T.testBit f)) M := q
    cases hb : T.testBit f with
    | false => rw [hb] at q; exact bs_t Bool.false_ne_true q
    | true => rw [hb] at q; exact bs_f rfl q
theorem rw_isWithin (hP : Pts n X Y) (hG : RG n X Y M) {p a b c : Nat} (hp : p < n) (ha : a < n) (hb : b < n) (hc : c < n) {Q : Int32 → Mem → Prop} (q : Q (bI (pb (wth X Y p a b c))) M) : wp_X8_isWithin (nI a) (nI b) (nI c) (nI p) M Q := by
  refine rw_side hP hG ha hb hp ?_
  by_cases h0 : sg X Y a b p = .eq
  · rw [pb_f.mpr (fun z => z.1 h0)] at q
    exact br_t (sI_0.mpr h0) q
  · refine br_f (fun z => h0 (sI_0.mp z)) (rw_side hP hG hb hc hp ?_)
    by_cases h1 : sg X Y a b p = sg X Y b c p
    · refine bs_f (sI_inj.mpr h1) (rw_side hP hG hc ha hp ?_)
      by_cases h2 : sg X Y a b p = sg X Y c a p
      · rw [pb_iff.mpr ⟨h0, h1, h2⟩] at q
        exact bs_f (sI_inj.mpr h2) q
      · rw [pb_f.mpr (fun z => h2 z.2.2)] at q
        exact bs_t (fun z => h2 (sI_inj.mp z)) q
    · rw [pb_f.mpr (fun z => h1 z.2.1)] at q
      exact bs_t (fun z => h1 (sI_inj.mp z)) q
theorem rw_isThird (hP : Pts n X Y) (hG : RG n X Y M) (hB : RB n X Y M) {T a b c : Nat} (hT : T < 2 ^ 28) (ha : a < n) (hb : b < n) (hc : c < n) {Q : Int32 → Mem → Prop} (q : Q (bI (thr n X Y T a b c)) M) : wp_X8_isThird (nI T) (nI a) (nI b) (nI c) M Q := by
  have hn := hP.1
  have z3 : ∀ k, k ≤ n → Q 0 M → at_X8_isThird (nI T) (nI a) (nI b) (nI c) Q 3 0 (nI k) M := fun k hk q0 => by
    refine at_X8_isThird_fold ?_
    show _ ∧ _
    rw [hG.1, nI_leI (by omega) (by omega)]
    exact br_c (fun _ => ⟨Or.inl rfl, q0⟩) (fun _ => br_t rfl ⟨Or.inl rfl, q0⟩)
  have no : thr n X Y T a b c = false → at_X8_isThird (nI T) (nI a) (nI b) (nI c) Q 1 0 0 M := fun h => by
    rw [h] at q
    exact at_X8_isThird_fold (at_X8_isThird_fold (z3 0 (by omega) q))
  have nof : ∀ {p : Prop}, (thr n X Y T a b c = true → p) → ¬ p → thr n X Y T a b c = false := fun h hp => by
    cases z : thr n X Y T a b c with
    | false => rfl
    | true => exact absurd (h z) hp
  refine at_X8_isThird_fold ?_
  dsimp only [blk_X8_isThird, blk_X8_isThird_0]
  refine rw_side hP hG ha hb hc ?_
  by_cases h0 : sg X Y a b c = .eq
  · exact br_t (sI_0.mpr h0) (no (nof (fun z => (thr_iff.mp z).1) (fun z => z h0)))
  · refine br_f (fun z => h0 (sI_0.mp z)) (rw_hasFence hP hB hT ha hb ?_)
    cases h1 : hsf n X Y T a b with
    | false => exact br_t rfl (no (nof (fun z => (thr_iff.mp z).2.1) (by rw [h1]; decide)))
    | true =>
      refine br_f (by decide) (rw_hasFence hP hB hT ha hc ?_)
      cases h2 : hsf n X Y T a c with
      | false => exact br_t rfl (no (nof (fun z => (thr_iff.mp z).2.2.1) (by rw [h2]; decide)))
      | true =>
        refine br_f (by decide) (rw_hasFence hP hB hT hb hc ?_)
        cases h3 : hsf n X Y T b c with
        | false => exact br_t rfl (no (nof (fun z => (thr_iff.mp z).2.2.2.1) (by rw [h3]; decide)))
        | true =>
          refine br_f (by decide) (at_X8_isThird_fold ?_)
          have key : ∀ d k, k + d = n → (∀ p, p < k → ¬ wth X Y p a b c) → at_X8_isThird (nI T) (nI a) (nI b) (nI c) Q 3 1 (nI k) M := by
            intro d
            induction d with
            | zero =>
              intro k hk h
              refine at_X8_isThird_fold (br_t ?_ ⟨Or.inr rfl, ?_⟩)
              · rw [hG.1, nI_leI (by omega) (by omega)]; omega
              · rw [thr_iff.mpr ⟨h0, h1, h2, h3, emp_iff.mpr fun p hp => h p (by omega)⟩] at q
                exact q
            | succ d ih =>
              intro k hk h
              refine at_X8_isThird_fold (br_f ?_ (br_f (by decide) (rw_isWithin hP hG (by omega) ha hb hc ?_)))
              · rw [hG.1, nI_leI (by omega) (by omega)]; omega
              · cases hw : pb (wth X Y k a b c) with
                | true =>
                  have hno : thr n X Y T a b c = false := nof (fun z => emp_iff.mp (thr_iff.mp z).2.2.2.2 k (by omega)) (fun z => z (pb_iff.mp hw))
                  rw [hno] at q
                  refine bs_t (by decide) (at_X8_isThird_fold ?_)
                  show at_X8_isThird _ _ _ _ Q 3 0 (nI k + 1) M
                  rw [nI_1]
                  exact z3 (k + 1) (by omega) q
                | false =>
                  refine bs_f rfl (at_X8_isThird_fold ?_)
                  show at_X8_isThird _ _ _ _ Q 3 1 (nI k + 1) M
                  rw [nI_1]
                  exact ih (k + 1) (by omega) (lt_s h (pb_f.mp hw))
          exact key n 0 (by omega) lt_0
theorem lr_lt {T f : Nat} : ∀ {k : Nat}, k ≤ n → (∀ c, (lr n X Y T f k).1 = some c → c < n) ∧ ∀ c, (lr n X Y T f k).2 = some c → c < n
  | 0, _ => ⟨fun c h => (by cases h), fun c h => (by cases h)⟩
  | k + 1, hk => by
    obtain ⟨h1, h2⟩ := lr_lt (T := T) (f := f) (k := k) (by omega)
    have e : lr n X Y T f (k + 1) = if thr n X Y T (flo n X Y f) (fhi n X Y f) k = true then (if sg X Y (flo n X Y f) (fhi n X Y f) k = .gt then (some k, (lr n X Y T f k).2) else ((lr n X Y T f k).1, some k)) else lr n X Y T f k := rfl
    rw [e]
    by_cases a : thr n X Y T (flo n X Y f) (fhi n X Y f) k = true
    · rw [if_pos a]
      by_cases b : sg X Y (flo n X Y f) (fhi n X Y f) k = .gt
      · rw [if_pos b]
        exact ⟨fun c h => by injection h with h; omega, h2⟩
      · rw [if_neg b]
        exact ⟨h1, fun c h => by injection h with h; omega⟩
    · rw [if_neg a]
      exact ⟨h1, h2⟩
theorem rw_comes (hP : Pts n X Y) (hF : RF n X Y M) {H B T f : Nat} (hH : H < 2 ^ 28) (hBl : B < 2 ^ 28) (e18 : M.1 0 18 = nI H) (e19 : M.1 0 19 = nI B) (hT : T < 2 ^ 28) (hf : f < fN n X Y) {Q : Int32 → Mem → Prop} (q : Q (oI (cms n X Y H B T f)) M) : wp_X8_comes (nI T) (nI f) M Q := by
  obtain ⟨hG, hL, hB, hC⟩ := hF
  have hn := hP.1
  have h28 := hP.f28
  have vf : vp_in (nI f) 28 := vp_in_nI (by omega) (by omega)
  have hlo := hP.lo hf
  have hhi := hP.hi hf
  unfold cms at q
  refine at_X8_comes_fold ?_
  show _ ∧ _
  rw [tbI (by omega) (by omega), bI_0, e18, tbI (by omega) (by omega), bI_1]
  cases hb : T.testBit f with
  | false =>
    rw [if_neg (fun z => by rw [hb] at z; exact absurd z.1 Bool.false_ne_true)] at q
    exact br_t rfl q
  | true =>
    refine br_f Bool.false_ne_true.symm ?_
    cases hh : H.testBit f with
    | true =>
      rw [if_neg (fun z => by rw [hh] at z; exact absurd z.2.symm Bool.false_ne_true)] at q
      exact bs_f rfl q
    | false =>
      rw [if_pos ⟨hb, hh⟩] at q
      refine bs_t Bool.false_ne_true ⟨vf, vf, ?_⟩
      rw [nI_clamp (by omega), (hL.2 f hf).1, (hL.2 f hf).2]
      have key : ∀ d k, k + d = n → at_X8_comes (nI T) (nI f) Q 1 (nI (flo n X Y f)) (nI (fhi n X Y f)) (oI (lr n X Y T f k).1) (oI (lr n X Y T f k).2) (nI k) M := by
        intro d
        induction d with
        | zero =>
          intro k hk
          have hkn : k = n := by omega
          obtain ⟨l1, l2⟩ := lr_lt (n := n) (X := X) (Y := Y) (T := T) (f := f) (k := k) (by omega)
          rw [← hkn] at l1 l2
          unfold acl at q
          rw [hkn] at l1 l2 ⊢
          refine at_X8_comes_fold (br_t ?_ ?_)
          · rw [hG.1, nI_leI (by omega) (by omega)]; omega
          · generalize lr n X Y T f n = pr at q l1 l2 ⊢
            obtain ⟨p1, p2⟩ := pr
            cases p1 with
            | none => exact br_t rfl q
            | some c =>
              have lc := l1 c rfl
              refine br_f (ne9 (by omega)) ?_
              cases p2 with
              | none => exact br_t rfl q
              | some d =>
                have ld := l2 d rfl
                refine br_f (ne9 (by omega)) (rw_side hP hG lc ld hlo (rw_side hP hG lc ld hhi ?_))
                simp only at q
                by_cases ho : om (sg X Y c d (flo n X Y f)) (sg X Y c d (fhi n X Y f)) = .lt
                · rw [if_pos ho] at q
                  refine br_t (sI_mul'.mpr ho) ?_
                  show vp_in (8 * nI c + nI d) 64 ∧ _
                  rw [ix8']
                  refine ⟨vp_in_nI (by omega) (by omega), ?_⟩
                  show (¬ (M.1 0 19 >>> (M.1 10 (8 * nI c + nI d).toNatClampNeg &&& 31)) &&& 1 = 1 → Q (M.1 10 (8 * nI c + nI d).toNatClampNeg) M) ∧ ((M.1 0 19 >>> (M.1 10 (8 * nI c + nI d).toNatClampNeg &&& 31)) &&& 1 = 1 → Q (-9) M)
                  rw [ix8', nI_clamp (by omega), hB c d lc ld]
                  cases hg : fbt n X Y c d with
                  | none =>
                    rw [hg] at q
                    exact bs_c (fun _ => q) (fun _ => q)
                  | some g =>
                    have g28 := fbt_lt28 hn hg
                    rw [hg] at q
                    show (¬ (M.1 0 19 >>> (nI g &&& 31)) &&& 1 = 1 → Q (nI g) M) ∧ ((M.1 0 19 >>> (nI g &&& 31)) &&& 1 = 1 → Q (-9) M)
                    rw [e19, tbI (by omega) (by omega), bI_1]
                    cases hbg : B.testBit g with
                    | false =>
                      simp only [hbg] at q
                      exact bs_t Bool.false_ne_true q
                    | true =>
                      simp only [hbg] at q
                      exact bs_f rfl q
                · rw [if_neg ho] at q
                  exact br_f (fun z => ho (sI_mul'.mp z)) q
        | succ d ih =>
          intro k hk
          have nx := ih (k + 1) (by omega)
          have e : lr n X Y T f (k + 1) = if thr n X Y T (flo n X Y f) (fhi n X Y f) k = true then (if sg X Y (flo n X Y f) (fhi n X Y f) k = .gt then (some k, (lr n X Y T f k).2) else ((lr n X Y T f k).1, some k)) else lr n X Y T f k := rfl
          rw [e, ← nI_1] at nx
          have skip : thr n X Y T (flo n X Y f) (fhi n X Y f) k = false → at_X8_comes (nI T) (nI f) Q 2 (nI (flo n X Y f)) (nI (fhi n X Y f)) (oI (lr n X Y T f k).1) (oI (lr n X Y T f k).2) (nI k) M := fun h => by
            rw [h, if_neg Bool.false_ne_true] at nx
            exact at_X8_comes_fold nx
          refine at_X8_comes_fold (br_f ?_ ?_)
          · rw [hG.1, nI_leI (by omega) (by omega)]; omega
          · by_cases e1 : k = flo n X Y f
            · refine br_t (by rw [e1]) (skip ?_)
              cases z : thr n X Y T (flo n X Y f) (fhi n X Y f) k with
              | false => rfl
              | true => exact absurd e1.symm (thr_lt z).2.2.2.2.1
            · refine br_f (fun z => e1 ((nI_eq (by omega) (by omega)).mp z)) ?_
              by_cases e2 : k = fhi n X Y f
              · refine br_t (by rw [e2]) (skip ?_)
                cases z : thr n X Y T (flo n X Y f) (fhi n X Y f) k with
                | false => rfl
                | true => exact absurd e2.symm (thr_lt z).2.2.2.2.2
              · refine br_f (fun z => e2 ((nI_eq (by omega) (by omega)).mp z)) (rw_isThird hP hG hB hT hlo hhi (by omega) ?_)
                cases hz : thr n X Y T (flo n X Y f) (fhi n X Y f) k with
                | false => exact br_t rfl (skip hz)
                | true =>
                  refine br_f (by decide) (rw_side hP hG hlo hhi (by omega) ?_)
                  rw [if_pos hz] at nx
                  have hne := (thr_iff.mp hz).1
                  have l3 : ∀ u w : Int32, (if sg X Y (flo n X Y f) (fhi n X Y f) k = .lt then at_X8_comes (nI T) (nI f) Q 1 (nI (flo n X Y f)) (nI (fhi n X Y f)) u (nI k) (nI k + 1) M else at_X8_comes (nI T) (nI f) Q 1 (nI (flo n X Y f)) (nI (fhi n X Y f)) u w (nI k + 1) M) → at_X8_comes (nI T) (nI f) Q 3 (nI (flo n X Y f)) (nI (fhi n X Y f)) u w (nI k) M := fun u w h => by
                    refine at_X8_comes_fold ?_
                    dsimp only [blk_X8_comes, blk_X8_comes_3]
                    refine rw_side hP hG hlo hhi (by omega) ?_
                    by_cases hl : sg X Y (flo n X Y f) (fhi n X Y f) k = .lt
                    · rw [if_pos hl] at h
                      exact br_f (fun z => sI_ge.mp z hl) (at_X8_comes_fold h)
                    · rw [if_neg hl] at h
                      exact br_t (sI_ge.mpr hl) (at_X8_comes_fold h)
                  by_cases hg : sg X Y (flo n X Y f) (fhi n X Y f) k = .gt
                  · rw [if_pos hg] at nx
                    refine br_f (fun z => sI_le.mp z hg) (l3 _ _ ?_)
                    rw [if_neg (by rw [hg]; decide)]
                    exact nx
                  · rw [if_neg hg] at nx
                    refine br_t (sI_le.mpr hg) (l3 _ _ ?_)
                    have hl : sg X Y (flo n X Y f) (fhi n X Y f) k = .lt := by
                      revert hne hg
                      cases sg X Y (flo n X Y f) (fhi n X Y f) k <;> decide
                    rw [if_pos hl]
                    exact nx
      exact key n 0 (by omega)
/-- what comes, and where the class's turn leads -/
theorem cms_aft (hP : Pts n X Y) {H B i f : Nat} (hi : i < cN n X Y) (hp : ap n X Y H B i = true) : (cms n X Y H B (cg n X Y i) f = none ∧ (aft n X Y i f = none ∨ ∃ j, aft n X Y i f = some j ∧ j < cN n X Y ∧ ap n X Y H B j = false)) ∨ ∃ g j, cms n X Y H B (cg n X Y i) f = some g ∧ acl n X Y (cg n X Y i) f = some g ∧ aft n X Y i f = some j ∧ j < cN n X Y ∧ ap n X Y H B j = true ∧ cg n X Y j = trn (cg n X Y i) f g ∧ g < fN n X Y ∧ (cg n X Y i).testBit f = true := by
  have hG := cg_G hi
  cases hc : cms n X Y H B (cg n X Y i) f with
  | none =>
    left
    refine ⟨rfl, ?_⟩
    cases ha : aft n X Y i f with
    | none => exact Or.inl rfl
    | some j =>
      obtain ⟨g, g1, g2, g3, g4, g5, g6⟩ := aft_some hP hi ha
      refine Or.inr ⟨j, rfl, g5, ?_⟩
      rcases cms_none hP.2.2 hG hp hc with h | h | ⟨g', h1, h2⟩
      · rw [g1] at h; cases h
      · rw [g2] at h; cases h
      · rw [g2] at h1
        injection h1 with h1
        unfold ap
        rw [g6, h1]; exact h2
  | some g =>
    right
    obtain ⟨h1, h2, h3, h4, h5⟩ := cms_some hP.2.2 hG hp hc
    obtain ⟨c1, c2⟩ := cx_of h4
    refine ⟨g, cx n X Y (trn (cg n X Y i) f g), rfl, h2, ?_, c1, ?_, c2, h3, h1⟩
    · unfold aft
      rw [if_pos h1, h2]
    · unfold ap
      rw [c2]; exact h5
end RT
section ST
variable {MX MR : Mem}
theorem xw_comingFor {n : Nat} {X Y : Nat → Int} {H B i nx : Nat} {L : List Nat} (hw : GrW n X Y H B i nx L MX MR) {f : Nat} (hf : f < fN n X Y) {Q : Int32 → Mem → Prop} (q : Q (oI (cms n X Y H B (cg n X Y i) f)) MX) : wp_X7_comingFor (nI f) MX Q := by
  have hP := hw.P
  have hi := hw.il
  have hc := hw.c
  have h28 := hw.f28
  unfold wp_X7_comingFor wp_X1_afterTurn
  rw [hw.now, ix28, nI_clamp (by omega), hw.xk.2.2 i f hi (by omega)]
  refine ⟨vp_in_nI (by omega) (by omega), ?_⟩
  rcases cms_aft hP (H := H) (B := B) (f := f) hi hw.ip with ⟨h1, h2 | ⟨j, h2, h3, h4⟩⟩ | ⟨g, j, h1, h2, h3, h4, h5, h6, h7, h8⟩
  · rw [h1] at q
    rw [h2]
    exact br_t rfl q
  · rw [h1] at q
    rw [h2]
    refine br_f (ne9 (by omega)) ⟨vp_in_nI (by omega) (by omega), ?_⟩
    show (¬ MX.1 27 (nI j).toNatClampNeg = -9 → _) ∧ (MX.1 27 (nI j).toNatClampNeg = -9 → Q (-9) MX)
    rw [nI_clamp (by omega), hw.xa.2.2.2.2 j h3 h4]
    exact bs_f rfl q
  · rw [h1] at q
    rw [h3]
    have hk := ark_le (n := n) (X := X) (Y := Y) (H := H) (B := B) j
    refine br_f (ne9 (by omega)) ⟨vp_in_nI (by omega) (by omega), ?_⟩
    show (¬ MX.1 27 (nI j).toNatClampNeg = -9 → _) ∧ (MX.1 27 (nI j).toNatClampNeg = -9 → Q (-9) MX)
    rw [nI_clamp (by omega), (hw.xa.2.2.2.1 j h4 h5).2]
    refine bs_t (ne9 (by omega)) (xw_now hw (xw_fenceAcross hP hw.xf hf (cg_G hi) ?_))
    rw [← acl_acr hP.2.2 (cg_G hi), h2]
    exact q
theorem st_turns (h : Rel MX MR) (a0 : Int32) : wp_X7_turns a0 MX (fun r M1 => wp_X8_turns a0 MR (fun r2 M2 => r = r2 ∧ Rel M1 M2)) := by
  have h' := Rel_thr h
  rcases Rel_gr h with ⟨x0, r0⟩ | ⟨x0, r0, nx, n, X, Y, H, B, i, L, hnx, h31, hw, hw'⟩
  · exact xw_ref0 x0 (br_f (by decide) (bs_f r0 ⟨rfl, h'⟩))
  · have h28 := hw.f28
    refine xw_ref (F := fN n X Y) (by omega) x0 hw.xf.2.1.1 (fun hv => ?_) (fun hv => ?_)
    · obtain ⟨f, hf, rfl⟩ := inr_nI hv
      refine br_t rfl (xw_comingFor hw hf ?_)
      refine bs_t r0 (rw_noFence (F := fN n X Y) (by omega) hw'.rf.2.1.1 (fun _ => br_t rfl ?_) (fun z => absurd hv z))
      rw [hw'.cut]
      exact rw_comes hw.P hw'.rf hw.h28 hw.b28 hw'.ra.1 hw'.ra.2.1 hw.i28 hf ⟨rfl, h'⟩
    · exact br_f (by decide) (bs_t r0 (rw_noFence (F := fN n X Y) (by omega) hw'.rf.2.1.1 (fun z => absurd z hv) (fun _ => br_f (by decide) ⟨rfl, h'⟩)))
theorem st_turn (h : Rel MX MR) (a0 : Int32) : wp_X7_turn a0 MX (fun r M1 => wp_X8_turn a0 MR (fun r2 M2 => r = r2 ∧ Rel M1 M2)) := by
  have h' := Rel_thr h
  rcases Rel_gr h with ⟨x0, r0⟩ | ⟨x0, r0, nx, n, X, Y, H, B, i, L, hnx, h31, hw, hw'⟩
  · exact xw_ref0 x0 (br_f (by decide) (bs_f r0 ⟨rfl, h'⟩))
  · have h28 := hw.f28
    have hi := hw.il
    have hc := hw.c
    refine xw_ref (F := fN n X Y) (by omega) x0 hw.xf.2.1.1 (fun hv => ?_) (fun hv => ?_)
    · obtain ⟨f, hf, rfl⟩ := inr_nI hv
      refine br_t rfl (xw_comingFor hw hf ?_)
      have rr : ∀ (r : Int32) (M1 : Mem) (K : Prop), (wp_X8_comes (nI (cg n X Y i)) (nI f) (upI MR 0 0 0) (fun r2 M2 => ((¬ r2 = (-9) → wp_X8_remember M2 (fun M3 => r = r2 ∧ Rel M1 (upI M3 0 24 (((M3.1 0 24) &&& (((1 : Int32) <<< (nI f &&& 31)) ^^^ ((-1) : Int32))) ||| ((1 : Int32) <<< (r2 &&& 31)))))) ∧ (r2 = (-9) → r = -3 ∧ Rel M1 M2)))) → wp_X8_turn (nI f) MR (fun r2 M2 => r = r2 ∧ Rel M1 M2) := fun r M1 _ hk => by
        refine bs_t r0 (rw_noFence (F := fN n X Y) (by omega) hw'.rf.2.1.1 (fun _ => br_t rfl ?_) (fun z => absurd hv z))
        rw [hw'.cut]
        exact hk
      rcases cms_aft hw.P (H := H) (B := B) (f := f) hi hw.ip with ⟨h1, -⟩ | ⟨g, j, h1, h2, h3, h4, h5, h6, h7, h8⟩
      · rw [h1]
        refine bs_f rfl (rr _ _ True (rw_comes hw.P hw'.rf hw.h28 hw.b28 hw'.ra.1 hw'.ra.2.1 hw.i28 hf ?_))
        rw [h1]
        exact bs_f rfl ⟨rfl, h'⟩
      · rw [h1]
        have hne : ¬ oI (some g) = -9 := ne9 (by omega)
        refine bs_t hne ?_
        unfold wp_X1_afterTurn
        rw [hw.now, ix28, nI_clamp (by omega), hw.xk.2.2 i f hi (by omega), h3]
        refine ⟨vp_in_nI (by omega) (by omega), ?_⟩
        refine both_move h x0 hnx h31 hw h4 h5 fun M1 hrem => rr _ _ True (rw_comes hw.P hw'.rf hw.h28 hw.b28 hw'.ra.1 hw'.ra.2.1 hw.i28 hf ?_)
        rw [h1]
        refine bs_t hne (hrem _ fun M2 f2 hrel => ⟨rfl, ?_⟩)
        have e24 : M2.1 0 24 = nI (cg n X Y i) := (f2.2.2 24 (by decide)).trans hw.cut
        show Rel M1 (upI M2 0 24 (((M2.1 0 24) &&& (((1 : Int32) <<< (nI f &&& 31)) ^^^ ((-1) : Int32))) ||| ((1 : Int32) <<< (nI g &&& 31))))
        rw [e24, nI_shl (by omega), nI_shl (by omega), nI_clr, nI_or]
        show Rel M1 (upI M2 0 24 (nI (trn (cg n X Y i) f g)))
        rw [← h6]
        exact hrel
    · exact br_f (by decide) (bs_t r0 (rw_noFence (F := fN n X Y) (by omega) hw'.rf.2.1.1 (fun z => absurd z hv) (fun _ => br_f (by decide) ⟨rfl, h'⟩)))
end ST
