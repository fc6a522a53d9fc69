/-! ===== POSTS: post, take, clear ===== -/
def cin (v : Int) : Prop := 0 ≤ v ∧ v ≤ 60
def updZ (f : Nat → Int) (k : Nat) (v : Int) : Nat → Int := fun i => if i = k then v else f i
theorem updZ_same (f : Nat → Int) (k : Nat) (v : Int) : updZ f k v k = v := if_pos rfl
theorem updZ_ne {f : Nat → Int} {k i : Nat} {v : Int} (h : i ≠ k) : updZ f k v i = f i := if_neg h
def gdp (n : Nat) (X Y : Nat → Int) (v w : Int) : Prop := cin v ∧ cin w ∧ (∀ p, p < n → ¬ (X p = v ∧ Y p = w)) ∧ n < 8
theorem Pts_add {n : Nat} {X Y : Nat → Int} (hP : Pts n X Y) {v w : Int} (hg : gdp n X Y v w) : Pts (n + 1) (updZ X n v) (updZ Y n w) := by
  obtain ⟨h1, h2, h3⟩ := hP
  obtain ⟨g1, g2, g3, g4⟩ := hg
  refine ⟨by omega, fun i hi => ?_, fun i j hi hj ex ey => ?_⟩
  · by_cases e : i = n
    · rw [e, updZ_same, updZ_same]; exact ⟨g1.1, g1.2, g2.1, g2.2⟩
    · rw [updZ_ne e, updZ_ne e]; exact h2 i (by omega)
  · by_cases e : i = n <;> by_cases e' : j = n
    · omega
    · rw [e, updZ_same, updZ_ne e'] at ex
      rw [e, updZ_same, updZ_ne e'] at ey
      exact absurd ⟨ex.symm, ey.symm⟩ (g3 j (by omega))
    · rw [e', updZ_same, updZ_ne e] at ex
      rw [e', updZ_same, updZ_ne e] at ey
      exact absurd ⟨ex, ey⟩ (g3 i (by omega))
    · rw [updZ_ne e, updZ_ne e'] at ex
      rw [updZ_ne e, updZ_ne e'] at ey
      exact h3 i j (by omega) (by omega) ex ey
theorem l2i {v : Int64} (h : cin v.toInt) : v.toInt32 = iI v.toInt := by
  obtain ⟨h1, h2⟩ := h
  apply Int32.toInt_inj.mp
  rw [iI_toInt (by omega) (by omega), ← t32, lg_i2l_l2i (by omega) (by omega)]
theorem iI_ne {z : Int} {v : Int64} (h1 : 0 ≤ z ∧ z ≤ 60) : (iI z).toInt64 = v ↔ z = v.toInt := by
  rw [← Int64.toInt_inj, t32, iI_toInt (by omega) (by omega)]
theorem xw_isPlace {v : Int64} {M : Mem} {Q : Int32 → Mem → Prop} (q1 : cin v.toInt → Q 1 M) (q0 : ¬ cin v.toInt → Q 0 M) : wp_X7_isPlace v M Q := by
  unfold wp_X7_isPlace
  rw [lg_cmp_lt, lg_cmp_gt, Int64.lt_iff_toInt_lt, Int64.lt_iff_toInt_lt, show (0 : Int64).toInt = 0 by decide, show (60 : Int64).toInt = 60 by decide]
  by_cases h1 : v.toInt < 0
  · exact br_t h1 (q0 (fun z => by have := z.1; omega))
  · refine br_f h1 ?_
    by_cases h2 : 60 < v.toInt
    · exact br_t h2 (q0 (fun z => by have := z.2; omega))
    · exact br_f h2 (q1 ⟨by omega, by omega⟩)
section CO
variable {n : Nat} {X Y : Nat → Int} {M : Mem} {v w : Int64}
theorem xw_collect (hP : Pts n X Y) (hX : XP n X Y M) {Q : Int32 → Mem → Prop} (qb : ¬ (cin v.toInt ∧ cin w.toInt) → Q (-2) M) (qs : cin v.toInt → cin w.toInt → ¬ (∀ p, p < n → ¬ (X p = v.toInt ∧ Y p = w.toInt)) → Q (-3) M) (qf : cin v.toInt → cin w.toInt → (∀ p, p < n → ¬ (X p = v.toInt ∧ Y p = w.toInt)) → ¬ n < 8 → Q (-4) M) (qa : gdp n X Y v.toInt w.toInt → Q (nI (n + 1)) (upI (upI (upI M 11 n (iI v.toInt)) 12 n (iI w.toInt)) 10 2 (nI (n + 1)))) : wp_X7_collect v w M Q := by
  have hn := hP.1
  refine xw_isPlace (fun hv => ?_) (fun hv => br_t rfl (qb fun z => hv z.1))
  refine br_f (by decide) (xw_isPlace (fun hw => ?_) (fun hw => bs_f rfl (qb fun z => hw z.2)))
  refine bs_t (by decide) ?_
  rw [l2i hv, l2i hw]
  have key : ∀ (R : Int32 → Mem → Prop), (¬ (∀ p, p < n → ¬ (X p = v.toInt ∧ Y p = w.toInt)) → R 1 M) → ((∀ p, p < n → ¬ (X p = v.toInt ∧ Y p = w.toInt)) → R 0 M) → wp_X4_standsAt (iI v.toInt) (iI w.toInt) M R := by
    intro R r1 r0
    have key : ∀ d k, k + d = n → (∀ p, p < k → ¬ (X p = v.toInt ∧ Y p = w.toInt)) → at_X4_standsAt (iI v.toInt) (iI w.toInt) R 1 (nI k) M := by
      intro d
      induction d with
      | zero =>
        intro k hk h
        refine at_X4_standsAt_fold (br_t ?_ (r0 fun p hp => h p (by omega)))
        rw [hX.1, nI_leI (by omega) (by omega)]; omega
      | succ d ih =>
        intro k hk h
        have vk : vp_in (nI k) 8 := vp_in_nI (by omega) (by omega)
        have bx := hP.2.1 k (by omega)
        obtain ⟨hv1, hv2⟩ := hv
        obtain ⟨hw1, hw2⟩ := hw
        have nx : ¬ (X k = v.toInt ∧ Y k = w.toInt) → at_X4_standsAt (iI v.toInt) (iI w.toInt) R 2 (nI k) M := fun hno => by
          refine at_X4_standsAt_fold ?_
          show at_X4_standsAt _ _ R 1 (nI k + 1) M
          rw [nI_1]
          exact ih (k + 1) (by omega) (lt_s h hno)
        refine at_X4_standsAt_fold (br_f ?_ ⟨vk, ?_⟩)
        · rw [hX.1, nI_leI (by omega) (by omega)]; omega
        · rw [nI_clamp (by omega), hX.2.1 k (by omega), hX.2.2 k (by omega), iI_eq (by omega) (by omega) (by omega) (by omega), iI_eq (by omega) (by omega) (by omega) (by omega)]
          by_cases e1 : X k = v.toInt
          · refine bs_f e1 ⟨vk, ?_⟩
            by_cases e2 : Y k = w.toInt
            · exact bs_f e2 (r1 fun z => z k (by omega) ⟨e1, e2⟩)
            · exact bs_t e2 (nx fun z => e2 z.2)
          · exact bs_t e1 (nx fun z => e1 z.1)
    exact at_X4_standsAt_fold (key n 0 (by omega) lt_0)
  refine key _ (fun hno => br_f (by decide) (qs hv hw hno)) (fun hno => br_t rfl ?_)
  · by_cases h8 : n < 8
    · refine bs_t ?_ ?_
      · rw [hX.1]; show ¬ nI n = nI 8; rw [nI_eq (by omega) (by omega)]; omega
      · unfold wp_X4_add_10
        rw [hX.1]
        have vk : vp_in (nI n) 8 := vp_in_nI (by omega) (by omega)
        refine br_f ?_ ⟨vk, ?_⟩
        · show ¬ nI 8 ≤ nI n
          rw [nI_leI (by omega) (by omega)]; omega
        · rw [show (upI M 11 (nI n).toNatClampNeg (iI v.toInt)).1 10 2 = nI n from hX.1]
          refine ⟨vk, ?_⟩
          rw [show (upI (upI M 11 (nI n).toNatClampNeg (iI v.toInt)) 12 (nI n).toNatClampNeg (iI w.toInt)).1 10 2 = nI n from hX.1, nI_1, nI_clamp (by omega)]
          exact qa ⟨hv, hw, hno, h8⟩
    · refine bs_f ?_ (qf hv hw hno h8)
      rw [hX.1]; show nI n = nI 8; rw [show n = 8 by omega]
theorem rw_collect (hP : Pts n X Y) (hX : RP n X Y M) {Q : Int32 → Mem → Prop} (qb : ¬ (cin v.toInt ∧ cin w.toInt) → Q (-2) M) (qs : cin v.toInt → cin w.toInt → ¬ (∀ p, p < n → ¬ (X p = v.toInt ∧ Y p = w.toInt)) → Q (-3) M) (qf : cin v.toInt → cin w.toInt → (∀ p, p < n → ¬ (X p = v.toInt ∧ Y p = w.toInt)) → ¬ n < 8 → Q (-4) M) (qa : gdp n X Y v.toInt w.toInt → Q (nI (n + 1)) (upI (upI (upI M 4 n (iI v.toInt)) 5 n (iI w.toInt)) 0 5 (nI (n + 1)))) : wp_X8_collect v w M Q := by
  have hn := hP.1
  have z0 : (0 : Int64).toInt = 0 := by decide
  have z60 : (60 : Int64).toInt = 60 := by decide
  have vk8 : n < 8 → vp_in (nI n) 8 := fun h => vp_in_nI (by omega) (by omega)
  refine at_X8_collect_fold ?_
  dsimp only [blk_X8_collect, blk_X8_collect_0]
  refine rw_in (fun hv => br_f (by decide) (rw_in (fun hw => bs_t (by decide) ?_) (fun hw => bs_f rfl (qb fun z => hw (by rw [z0, z60]; exact z.2))))) (fun hv => br_t rfl (qb fun z => hv (by rw [z0, z60]; exact z.1)))
  rw [z0, z60] at hv hw
  have hv : cin v.toInt := hv
  have hw : cin w.toInt := hw
  have key : ∀ d k, k + d = n → (∀ p, p < k → ¬ (X p = v.toInt ∧ Y p = w.toInt)) → at_X8_collect v w Q 1 (nI k) M := by
    intro d
    induction d with
    | zero =>
      intro k hk h
      refine at_X8_collect_fold (br_t ?_ ?_)
      · rw [hX.1, nI_leI (by omega) (by omega)]; omega
      · have hno : ∀ p, p < n → ¬ (X p = v.toInt ∧ Y p = w.toInt) := fun p hp => h p (by omega)
        by_cases h8 : n < 8
        · refine bs_t ?_ ?_
          · rw [hX.1]; show ¬ nI n = nI 8; rw [nI_eq (by omega) (by omega)]; omega
          · rw [hX.1, l2i hv, l2i hw]
            refine ⟨vk8 h8, ?_⟩
            rw [show (upI M 4 (nI n).toNatClampNeg (iI v.toInt)).1 0 5 = nI n from hX.1]
            refine ⟨vk8 h8, ?_⟩
            rw [show (upI (upI M 4 (nI n).toNatClampNeg (iI v.toInt)) 5 (nI n).toNatClampNeg (iI w.toInt)).1 0 5 = nI n from hX.1, nI_1, nI_clamp (by omega), upI_same]
            exact qa ⟨hv, hw, hno, h8⟩
        · refine bs_f ?_ (qf hv hw hno h8)
          rw [hX.1]; show nI n = nI 8; rw [show n = 8 by omega]
    | succ d ih =>
      intro k hk h
      have vk : vp_in (nI k) 8 := vp_in_nI (by omega) (by omega)
      have bx := hP.2.1 k (by omega)
      have nx : ¬ (X k = v.toInt ∧ Y k = w.toInt) → at_X8_collect v w Q 2 (nI k) M := fun hno => by
        refine at_X8_collect_fold ?_
        show at_X8_collect _ _ Q 1 (nI k + 1) M
        rw [nI_1]
        exact ih (k + 1) (by omega) (lt_s h hno)
      refine at_X8_collect_fold (br_f ?_ ⟨vk, ?_⟩)
      · rw [hX.1, nI_leI (by omega) (by omega)]; omega
      · rw [nI_clamp (by omega), hX.2.1 k (by omega), hX.2.2 k (by omega), lg_cmp_eq, lg_cmp_eq, iI_ne ⟨bx.1, bx.2.1⟩, iI_ne ⟨bx.2.2.1, bx.2.2.2⟩]
        by_cases e1 : X k = v.toInt
        · refine bs_f e1 ⟨vk, ?_⟩
          by_cases e2 : Y k = w.toInt
          · exact bs_f e2 (qs hv hw fun z => z k (by omega) ⟨e1, e2⟩)
          · exact bs_t e2 (nx fun z => e2 z.2)
        · exact bs_t e1 (nx fun z => e1 z.1)
  exact key n 0 (by omega) lt_0
theorem XP_add (hX : XP n X Y M) (a b : Int) : XP (n + 1) (updZ X n a) (updZ Y n b) (upI (upI (upI M 11 n (iI a)) 12 n (iI b)) 10 2 (nI (n + 1))) := by
  refine ⟨upI_same .., fun i hi => ?_, fun i hi => ?_⟩
  · by_cases e : i = n
    · rw [e, updZ_same, upI_ne (by decide), upI_ne (by decide), upI_same]
    · rw [updZ_ne e, upI_ne (by decide), upI_ne (by decide), upI_oth e]; exact hX.2.1 i (by omega)
  · by_cases e : i = n
    · rw [e, updZ_same, upI_ne (by decide), upI_same]
    · rw [updZ_ne e, upI_ne (by decide), upI_oth e, upI_ne (by decide)]; exact hX.2.2 i (by omega)
theorem RP_add (hX : RP n X Y M) (a b : Int) : RP (n + 1) (updZ X n a) (updZ Y n b) (upI (upI (upI M 4 n (iI a)) 5 n (iI b)) 0 5 (nI (n + 1))) := by
  refine ⟨upI_same .., fun i hi => ?_, fun i hi => ?_⟩
  · by_cases e : i = n
    · rw [e, updZ_same, upI_ne (by decide), upI_ne (by decide), upI_same]
    · rw [updZ_ne e, upI_ne (by decide), upI_ne (by decide), upI_oth e]; exact hX.2.1 i (by omega)
  · by_cases e : i = n
    · rw [e, updZ_same, upI_ne (by decide), upI_same]
    · rw [updZ_ne e, upI_ne (by decide), upI_oth e, upI_ne (by decide)]; exact hX.2.2 i (by omega)
end CO
/-- only the collected posts change -/
theorem RsR_po {MX MR MX' MR' : Mem} (h : RsR MX MR) (hx : Fr [10, 11, 12] MX MX') (hr : Fq [4, 5] [0, 5] MR MR') (hp : PoR MX' MR') : RsR MX' MR' := by
  obtain ⟨h1, h2, nx, h3, h4, h5⟩ := h
  refine ⟨by rw [hx.2 0 (by decide), hr.2.2 4 (by decide)]; exact h1, hp, nx, h3, by rw [hx.2 31 (by decide)]; exact h4, ?_⟩
  rcases h5 with ⟨a, b⟩ | ⟨a, b, n, X, Y, H, B, i, L, c1, c2, c3, c4, c5, c6, c7, c8, c9, c10, c11, c12, c13⟩
  · exact Or.inl ⟨by rw [hx.2 0 (by decide)]; exact a, by rw [hr.2.2 8 (by decide)]; exact b⟩
  · refine Or.inr ⟨by rw [hx.2 0 (by decide)]; exact a, by rw [hr.2.2 8 (by decide)]; exact b, n, X, Y, H, B, i, L, c1, c2, c3, c4, c5, ?_, ?_, by rw [hx.2 0 (by decide)]; exact c8, by rw [hr.2.2 24 (by decide)]; exact c9, c10, c11, ?_, ?_⟩
    · obtain ⟨d1, d2, d3⟩ := c6
      refine ⟨XF_Fr d1 hx (fun q a b => not_in3 (by omega) (by omega) (by omega)), XK_Fr d2 hx (fun q a b => not_in3 (by omega) (by omega) (by omega)), ?_⟩
      unfold XA
      rw [hx.2 25 (by decide), hx.2 26 (by decide), hx.2 27 (by decide)]
      exact d3
    · obtain ⟨d1, d2, d3⟩ := c7
      refine ⟨RF_fr d1 (hr.2.2 9 (by decide)) (hr.2.2 12 (by decide)) (hr.2.1 6 (by decide) (by decide)) (hr.2.1 7 (by decide) (by decide)) (hr.2.1 8 (by decide) (by decide)) (hr.2.1 9 (by decide) (by decide)) (hr.2.1 10 (by decide) (by decide)) (hr.2.1 11 (by decide) (by decide)), ?_, ?_⟩
      · unfold RK
        rw [hr.2.2 20 (by decide), hr.2.1 13 (by decide) (by decide)]
        exact d2
      · unfold RA
        rw [hr.2.2 18 (by decide), hr.2.2 19 (by decide), hr.2.2 22 (by decide), hr.2.1 14 (by decide) (by decide)]
        exact d3
    · unfold PaR
      rw [hx.2 31 (by decide), hx.2 32 (by decide), hr.2.2 25 (by decide), hr.2.1 15 (by decide) (by decide)]
      exact c12
    · rw [hx.2 33 (by decide), hr.2.1 12 (by decide) (by decide)]
      exact c13
theorem ShR_po {MX MR MX' MR' : Mem} (h : ShR MX MR) (hx : Fr [10, 11, 12] MX MX') (hr : Fq [4, 5] [0, 5] MR MR') : ShR MX' MR' := by
  unfold ShR
  rw [hx.1, hr.1, hx.2 2 (by decide), hx.2 3 (by decide), hx.2 4 (by decide), hx.2 5 (by decide), hr.2.1 1 (by decide) (by decide), hr.2.1 2 (by decide) (by decide)]
  exact h
theorem Rel_po {MX MR MX' MR' : Mem} (h : Rel MX MR) (hx : Fr [10, 11, 12] MX MX') (hr : Fq [4, 5] [0, 5] MR MR') {n : Nat} {X Y : Nat → Int} (h1 : Pts n X Y) (h2 : XP n X Y MX') (h3 : RP n X Y MR') : Rel MX' MR' := ⟨ShR_po h.1 hx hr, RsR_po h.2 hx hr ⟨n, X, Y, h1, h2, h3⟩⟩
theorem st_post {MX MR : Mem} (h : Rel MX MR) (a0 a1 : Int32) : wp_X7_post a0 a1 MX (fun r M1 => wp_X8_post a0 a1 MR (fun r2 M2 => r = r2 ∧ Rel M1 M2)) := by
  have h' := Rel_thr h
  obtain ⟨n, X, Y, hP, hX, hR⟩ := h.2.2.1
  have hR' : RP n X Y (upI MR 0 0 0) := hR
  unfold wp_X7_post wp_X8_post
  refine xw_collect hP hX (fun c => ?_) (fun c1 c2 c3 => ?_) (fun c1 c2 c3 c4 => ?_) (fun c => ?_)
  · exact rw_collect hP hR' (fun _ => ⟨rfl, h'⟩) (fun d1 d2 _ => absurd ⟨d1, d2⟩ c) (fun d1 d2 _ _ => absurd ⟨d1, d2⟩ c) (fun d => absurd ⟨d.1, d.2.1⟩ c)
  · exact rw_collect hP hR' (fun d => absurd ⟨c1, c2⟩ d) (fun _ _ _ => ⟨rfl, h'⟩) (fun _ _ d _ => absurd d c3) (fun d => absurd d.2.2.1 c3)
  · exact rw_collect hP hR' (fun d => absurd ⟨c1, c2⟩ d) (fun _ _ d => absurd c3 d) (fun _ _ _ _ => ⟨rfl, h'⟩) (fun d => absurd d.2.2.2 c4)
  · refine rw_collect hP hR' (fun d => absurd ⟨c.1, c.2.1⟩ d) (fun _ _ d => absurd c.2.2.1 d) (fun _ _ _ d => absurd c.2.2.2 d) (fun _ => ⟨rfl, ?_⟩)
    exact Rel_po h' (Fr_up (Fr_up (Fr_up (Fr_refl _ _) (by decide) _ _) (by decide) _ _) (by decide) _ _) (Fq_up0 (Fq_up (Fq_up (Fq_refl _ _ _) (by decide) (by decide) _ _) (by decide) (by decide) _ _) (by decide) _) (Pts_add hP c) (XP_add hX _ _) (RP_add hR' _ _)
theorem Pts_0 : Pts 0 (fun _ => 0) (fun _ => 0) := ⟨by omega, fun i h => absurd h (Nat.not_lt_zero i), fun i j h => absurd h (Nat.not_lt_zero i)⟩
theorem st_clear {MX MR : Mem} (h : Rel MX MR) : wp_X7_clear MX (fun r M1 => wp_X8_clear MR (fun r2 M2 => r = r2 ∧ Rel M1 M2)) := by
  have h' := Rel_thr h
  obtain ⟨n, X, Y, hP, hX, hR⟩ := h.2.2.1
  refine ⟨hX.1.trans hR.1.symm, ?_⟩
  exact Rel_po h' (Fr_up (Fr_refl _ _) (q := 10) (by decide) 2 0) (Fq_up0 (Fq_refl _ _ _) (k := 5) (by decide) 0) Pts_0 ⟨rfl, fun i h => absurd h (Nat.not_lt_zero i), fun i h => absurd h (Nat.not_lt_zero i)⟩ ⟨rfl, fun i h => absurd h (Nat.not_lt_zero i), fun i h => absurd h (Nat.not_lt_zero i)⟩
/-- what take comes to -/
noncomputable def tks (a : Nat → Int64) (L : Nat) : Nat → Nat → Nat → Nat → (Nat → Int) → (Nat → Int) → Nat × Nat × (Nat → Int) × (Nat → Int)
  | 0, _, c, n, X, Y => (c, n, X, Y)
  | d + 1, k, c, n, X, Y => if k + 1 < L ∧ pb (gdp n X Y (a k).toInt (a (k + 1)).toInt) = true then tks a L d (k + 2) (c + 1) (n + 1) (updZ X n (a k).toInt) (updZ Y n (a (k + 1)).toInt) else (c, n, X, Y)
theorem rw_take1 {s L : Nat} (hs : s < 4) (hL : L ≤ 20) {a1 : Int32} {a : Nat → Int64} {Q : Int32 → Mem → Prop} : ∀ (d k c n : Nat) (X Y : Nat → Int) (M : Mem), L ≤ k + 2 * d → k ≤ 20 → c ≤ k → Pts n X Y → RP n X Y M → M.1 1 s = nI L → (∀ i, i < L → M.2 3 (20 * s + i) = a i) → (∀ M', Fq [4, 5] [5] M M' → Pts (tks a L d k c n X Y).2.1 (tks a L d k c n X Y).2.2.1 (tks a L d k c n X Y).2.2.2 → RP (tks a L d k c n X Y).2.1 (tks a L d k c n X Y).2.2.1 (tks a L d k c n X Y).2.2.2 M' → Q (nI (tks a L d k c n X Y).1) M') → at_X8_take (nI s) a1 Q 1 (nI c) (nI k) M := by
  intro d
  induction d with
  | zero =>
    intro k c n X Y M hd hk20 hck hP hR h1 ha q
    refine at_X8_take_fold ⟨vp_in_nI hs (by omega), br_t ?_ (q M (Fq_refl _ _ _) hP hR)⟩
    rw [nI_clamp (by omega), h1, nI_1, nI_leI (by omega) (by omega)]; omega
  | succ d ih =>
    intro k c n X Y M hd hk20 hck hP hR h1 ha q
    have e : tks a L (d + 1) k c n X Y = if k + 1 < L ∧ pb (gdp n X Y (a k).toInt (a (k + 1)).toInt) = true then tks a L d (k + 2) (c + 1) (n + 1) (updZ X n (a k).toInt) (updZ Y n (a (k + 1)).toInt) else (c, n, X, Y) := rfl
    rw [e] at q
    refine at_X8_take_fold ⟨vp_in_nI hs (by omega), ?_⟩
    rw [nI_clamp (by omega), h1]
    by_cases hkL : k + 1 < L
    · refine br_f ?_ ?_
      · rw [nI_1, nI_leI (by omega) (by omega)]; omega
      · rw [ix20, nI_1, nI_clamp (by omega), nI_clamp (by omega)]
        refine ⟨vp_in_nI (by omega) (by omega), vp_in_nI (by omega) (by omega), ?_⟩
        rw [ha k (by omega), show 20 * s + k + 1 = 20 * s + (k + 1) by omega, ha (k + 1) hkL]
        have stop : ¬ gdp n X Y (a k).toInt (a (k + 1)).toInt → Q (nI c) M := fun hno => by
          rw [if_neg (fun z => hno (pb_iff.mp z.2))] at q
          exact q M (Fq_refl _ _ _) hP hR
        refine rw_collect hP hR (fun z => br_f (by decide) (stop fun g => z ⟨g.1, g.2.1⟩)) (fun _ _ z => br_f (by decide) (stop fun g => z g.2.2.1)) (fun _ _ _ z => br_f (by decide) (stop fun g => z g.2.2.2)) (fun g => br_t (nI_pos' (by have := hP.1; omega)) ?_)
        rw [if_pos ⟨hkL, pb_iff.mpr g⟩] at q
        rw [nI_1, show nI k + 2 = nI (k + 2) from nI_add k 2]
        refine ih (k + 2) (c + 1) (n + 1) _ _ _ (by omega) (by omega) (by omega) (Pts_add hP g) (RP_add hR _ _) h1 ha fun M' f1 f2 f3 => q M' (Fq_trans (Fq_up0 (Fq_up (Fq_up (Fq_refl _ _ _) (by decide) (by decide) _ _) (by decide) (by decide) _ _) (by decide) _) f1) f2 f3
    · rw [if_neg (fun z => hkL z.1)] at q
      refine br_t ?_ (q M (Fq_refl _ _ _) hP hR)
      rw [nI_1, nI_leI (by omega) (by omega)]; omega

theorem xw_take_0 {L : Nat} (hL : L ≤ 20) {a1 : Int32} {a : Nat → Int64} {Q : Int32 → Mem → Prop} : ∀ (d k c n : Nat) (X Y : Nat → Int) (M : Mem), L ≤ k + 2 * d → k ≤ 20 → c ≤ k → Pts n X Y → XP n X Y M → M.1 2 3 = nI L → M.2 6 = a → (∀ M', Fr [10, 11, 12] M M' → Pts (tks a L d k c n X Y).2.1 (tks a L d k c n X Y).2.2.1 (tks a L d k c n X Y).2.2.2 → XP (tks a L d k c n X Y).2.1 (tks a L d k c n X Y).2.2.1 (tks a L d k c n X Y).2.2.2 M' → Q (nI (tks a L d k c n X Y).1) M') → at_X7_take 0 a1 Q 2 (nI c) (nI k) M := by
  intro d
  induction d with
  | zero =>
    intro k c n X Y M hd hk20 hck hP hR h1 ha q
    refine at_X7_take_fold (br_t ?_ (q M (Fr_refl _ _) hP hR))
    rw [h1, nI_1, nI_leI (by omega) (by omega)]; omega
  | succ d ih =>
    intro k c n X Y M hd hk20 hck hP hR h1 ha q
    have e : tks a L (d + 1) k c n X Y = if k + 1 < L ∧ pb (gdp n X Y (a k).toInt (a (k + 1)).toInt) = true then tks a L d (k + 2) (c + 1) (n + 1) (updZ X n (a k).toInt) (updZ Y n (a (k + 1)).toInt) else (c, n, X, Y) := rfl
    rw [e] at q
    refine at_X7_take_fold ?_
    show _ ∧ _
    rw [h1]
    by_cases hkL : k + 1 < L
    · refine br_f ?_ ?_
      · rw [nI_1, nI_leI (by omega) (by omega)]; omega
      · rw [nI_1, nI_clamp (by omega), nI_clamp (by omega)]
        refine ⟨vp_in_nI (by omega) (by omega), vp_in_nI (by omega) (by omega), ?_⟩
        rw [ha]
        have stop : ¬ gdp n X Y (a k).toInt (a (k + 1)).toInt → Q (nI c) M := fun hno => by
          rw [if_neg (fun z => hno (pb_iff.mp z.2))] at q
          exact q M (Fr_refl _ _) hP hR
        refine xw_collect hP hR (fun z => br_f (by decide) (stop fun g => z ⟨g.1, g.2.1⟩)) (fun _ _ z => br_f (by decide) (stop fun g => z g.2.2.1)) (fun _ _ _ z => br_f (by decide) (stop fun g => z g.2.2.2)) (fun g => br_t (nI_pos' (by have := hP.1; omega)) ?_)
        rw [if_pos ⟨hkL, pb_iff.mpr g⟩] at q
        rw [nI_1, show nI k + 2 = nI (k + 2) from nI_add k 2]
        refine ih (k + 2) (c + 1) (n + 1) _ _ _ (by omega) (by omega) (by omega) (Pts_add hP g) (XP_add hR _ _) h1 ha fun M' f1 f2 f3 => q M' (Fr_trans (Fr_up (Fr_up (Fr_up (Fr_refl _ _) (by decide) _ _) (by decide) _ _) (by decide) _ _) f1) f2 f3
    · rw [if_neg (fun z => hkL z.1)] at q
      refine br_t ?_ (q M (Fr_refl _ _) hP hR)
      rw [nI_1, nI_leI (by omega) (by omega)]; omega
theorem p_take_0 {MX MR : Mem} (h : Rel MX MR) (a1 : Int32) {Q : Int32 → Mem → Prop} (q : Q = fun r M1 => wp_X8_take 0 a1 MR (fun r2 M2 => r = r2 ∧ Rel M1 M2)) : (((MX.1 2 1) = 0 → ((a1 < 0 → at_X7_take 0 a1 Q 1 0 0 MX) ∧ (¬ a1 < 0 → ((a1 ≤ (MX.1 2 3) → at_X7_take 0 a1 Q 2 0 a1 MX) ∧ (¬ a1 ≤ (MX.1 2 3) → at_X7_take 0 a1 Q 1 0 0 MX))))) ∧ (¬ (MX.1 2 1) = 0 → wp_X7_found (-11) MX (fun r2 M2 => Q r2 M2))) := by
  subst q
  have h' := Rel_thr h
  have i0 : (0 : Int32).toInt = 0 := by decide
  have z0 : (0 : Int64).toInt = 0 := by decide
  have v4 : vp_in 0 4 := vp_in_nI (n := 0) (by omega) (by omega)
  obtain ⟨n, X, Y, hP, hX, hR⟩ := h.2.2.1
  obtain ⟨⟨h0, h1, h2, h3⟩, hr⟩ := id h
  rcases h0 with ⟨m0, L, hL, hn, hn', hl, ha⟩ | ⟨m1, hn'⟩
  · have no : ¬ (0 ≤ a1.toInt ∧ a1.toInt ≤ L) → at_X7_take 0 a1 (fun r M1 => wp_X8_take 0 a1 MR (fun r2 M2 => r = r2 ∧ Rel M1 M2)) 1 0 0 MX := fun hno => by
      refine at_X7_take_fold ?_
      have pn : wp_X8_take 0 a1 MR (fun r2 M2 => (-12) = r2 ∧ Rel (upI MX 0 10 (MX.1 0 10 + 1)) M2) := by
        refine at_X8_take_fold ?_
        dsimp only [blk_X8_take, blk_X8_take_0]
        refine rw_in (fun _ => bs_t (by decide) ⟨v4, br_t (by show 0 ≤ MR.1 1 0; rw [hn']; exact nI_pos' (by omega)) ⟨v4, rw_in (fun z => absurd z ?_) (fun _ => bs_f rfl (fnd h' _))⟩⟩) (fun n => absurd (rg_s (s := 0) (by omega)) n)
        show ¬ ((0 : Int64).toInt ≤ a1.toInt64.toInt ∧ a1.toInt64.toInt ≤ (MR.1 1 0).toInt64.toInt)
        rw [hn', t32, t32, z0, nI_toInt (by omega)]
        exact hno
      exact pn
    refine br_t m0 ?_
    rw [hn, in_lt, in_le, i0, nI_toInt (by omega)]
    by_cases c1 : a1.toInt < 0
    · exact br_t c1 (no (by omega))
    · refine br_f c1 ?_
      by_cases c2 : a1.toInt ≤ L
      · obtain ⟨j, hj, e1, e2⟩ := to_nI (a := a1) (by omega)
        refine br_t c2 ?_
        have go := xw_take_0 hL (a1 := a1) (a := MX.2 6) (Q := fun r M1 => wp_X8_take 0 a1 MR (fun r2 M2 => r = r2 ∧ Rel M1 M2)) 20 j 0 n X Y MX (by omega) (by omega) (by omega) hP hX hn rfl (fun M1 f1 f2 f3 => ?_)
        · rw [← e1] at go
          exact go
        · refine at_X8_take_fold ?_
          dsimp only [blk_X8_take, blk_X8_take_0]
          refine rw_in (fun _ => bs_t (by decide) ⟨v4, br_t (by show 0 ≤ MR.1 1 0; rw [hn']; exact nI_pos' (by omega)) ⟨v4, rw_in (fun _ => bs_t (by decide) ?_) (fun z => absurd ?_ z)⟩⟩) (fun n => absurd (rg_s (s := 0) (by omega)) n)
          · have gr := rw_take1 (s := 0) (by omega) hL (a1 := a1) (a := MX.2 6) (Q := fun r2 M2 => nI (tks (MX.2 6) L 20 j 0 n X Y).1 = r2 ∧ Rel M1 M2) 20 j 0 n X Y (upI MR 0 0 0) (by omega) (by omega) (by omega) hP hR hn' (fun i hi => ha i hi) (fun M2 g1 g2 g3 => ⟨rfl, Rel_po h' f1 (Fq_mono (fun _ z => z) (by decide) g1) f2 f3 g3⟩)
            rw [← e1] at gr
            exact gr
          · show (0 : Int64).toInt ≤ a1.toInt64.toInt ∧ a1.toInt64.toInt ≤ (MR.1 1 0).toInt64.toInt
            rw [hn', t32, t32, z0, nI_toInt (by omega)]
            omega
      · exact br_f c2 (no (by omega))
  · refine br_f (by rw [m1]; decide) ?_
    have pn : wp_X8_take 0 a1 MR (fun r2 M2 => (-11) = r2 ∧ Rel (upI MX 0 10 (MX.1 0 10 + 1)) M2) := by
      refine at_X8_take_fold ?_
      dsimp only [blk_X8_take, blk_X8_take_0]
      exact rw_in (fun _ => bs_t (by decide) ⟨v4, br_f (by show ¬ 0 ≤ MR.1 1 0; rw [hn']; decide) (fnd h' _)⟩) (fun n => absurd (rg_s (s := 0) (by omega)) n)
    exact pn

theorem xw_take_1 {L : Nat} (hL : L ≤ 20) {a1 : Int32} {a : Nat → Int64} {Q : Int32 → Mem → Prop} : ∀ (d k c n : Nat) (X Y : Nat → Int) (M : Mem), L ≤ k + 2 * d → k ≤ 20 → c ≤ k → Pts n X Y → XP n X Y M → M.1 3 3 = nI L → M.2 7 = a → (∀ M', Fr [10, 11, 12] M M' → Pts (tks a L d k c n X Y).2.1 (tks a L d k c n X Y).2.2.1 (tks a L d k c n X Y).2.2.2 → XP (tks a L d k c n X Y).2.1 (tks a L d k c n X Y).2.2.1 (tks a L d k c n X Y).2.2.2 M' → Q (nI (tks a L d k c n X Y).1) M') → at_X7_take 1 a1 Q 3 (nI c) (nI k) M := by
  intro d
  induction d with
  | zero =>
    intro k c n X Y M hd hk20 hck hP hR h1 ha q
    refine at_X7_take_fold (br_t ?_ (q M (Fr_refl _ _) hP hR))
    rw [h1, nI_1, nI_leI (by omega) (by omega)]; omega
  | succ d ih =>
    intro k c n X Y M hd hk20 hck hP hR h1 ha q
    have e : tks a L (d + 1) k c n X Y = if k + 1 < L ∧ pb (gdp n X Y (a k).toInt (a (k + 1)).toInt) = true then tks a L d (k + 2) (c + 1) (n + 1) (updZ X n (a k).toInt) (updZ Y n (a (k + 1)).toInt) else (c, n, X, Y) := rfl
    rw [e] at q
    refine at_X7_take_fold ?_
    show _ ∧ _
    rw [h1]
    by_cases hkL : k + 1 < L
    · refine br_f ?_ ?_
      · rw [nI_1, nI_leI (by omega) (by omega)]; omega
      · rw [nI_1, nI_clamp (by omega), nI_clamp (by omega)]
        refine ⟨vp_in_nI (by omega) (by omega), vp_in_nI (by omega) (by omega), ?_⟩
        rw [ha]
        have stop : ¬ gdp n X Y (a k).toInt (a (k + 1)).toInt → Q (nI c) M := fun hno => by
          rw [if_neg (fun z => hno (pb_iff.mp z.2))] at q
          exact q M (Fr_refl _ _) hP hR
        refine xw_collect hP hR (fun z => br_f (by decide) (stop fun g => z ⟨g.1, g.2.1⟩)) (fun _ _ z => br_f (by decide) (stop fun g => z g.2.2.1)) (fun _ _ _ z => br_f (by decide) (stop fun g => z g.2.2.2)) (fun g => br_t (nI_pos' (by have := hP.1; omega)) ?_)
        rw [if_pos ⟨hkL, pb_iff.mpr g⟩] at q
        rw [nI_1, show nI k + 2 = nI (k + 2) from nI_add k 2]
        refine ih (k + 2) (c + 1) (n + 1) _ _ _ (by omega) (by omega) (by omega) (Pts_add hP g) (XP_add hR _ _) h1 ha fun M' f1 f2 f3 => q M' (Fr_trans (Fr_up (Fr_up (Fr_up (Fr_refl _ _) (by decide) _ _) (by decide) _ _) (by decide) _ _) f1) f2 f3
    · rw [if_neg (fun z => hkL z.1)] at q
      refine br_t ?_ (q M (Fr_refl _ _) hP hR)
      rw [nI_1, nI_leI (by omega) (by omega)]; omega
theorem p_take_1 {MX MR : Mem} (h : Rel MX MR) (a1 : Int32) {Q : Int32 → Mem → Prop} (q : Q = fun r M1 => wp_X8_take 1 a1 MR (fun r2 M2 => r = r2 ∧ Rel M1 M2)) : (((MX.1 3 1) = 0 → ((a1 < 0 → at_X7_take 1 a1 Q 1 0 0 MX) ∧ (¬ a1 < 0 → ((a1 ≤ (MX.1 3 3) → at_X7_take 1 a1 Q 3 0 a1 MX) ∧ (¬ a1 ≤ (MX.1 3 3) → at_X7_take 1 a1 Q 1 0 0 MX))))) ∧ (¬ (MX.1 3 1) = 0 → wp_X7_found (-11) MX (fun r2 M2 => Q r2 M2))) := by
  subst q
  have h' := Rel_thr h
  have i0 : (0 : Int32).toInt = 0 := by decide
  have z0 : (0 : Int64).toInt = 0 := by decide
  have v4 : vp_in 1 4 := vp_in_nI (n := 1) (by omega) (by omega)
  obtain ⟨n, X, Y, hP, hX, hR⟩ := h.2.2.1
  obtain ⟨⟨h0, h1, h2, h3⟩, hr⟩ := id h
  rcases h1 with ⟨m0, L, hL, hn, hn', hl, ha⟩ | ⟨m1, hn'⟩
  · have no : ¬ (0 ≤ a1.toInt ∧ a1.toInt ≤ L) → at_X7_take 1 a1 (fun r M1 => wp_X8_take 1 a1 MR (fun r2 M2 => r = r2 ∧ Rel M1 M2)) 1 0 0 MX := fun hno => by
      refine at_X7_take_fold ?_
      have pn : wp_X8_take 1 a1 MR (fun r2 M2 => (-12) = r2 ∧ Rel (upI MX 0 10 (MX.1 0 10 + 1)) M2) := by
        refine at_X8_take_fold ?_
        dsimp only [blk_X8_take, blk_X8_take_0]
        refine rw_in (fun _ => bs_t (by decide) ⟨v4, br_t (by show 0 ≤ MR.1 1 1; rw [hn']; exact nI_pos' (by omega)) ⟨v4, rw_in (fun z => absurd z ?_) (fun _ => bs_f rfl (fnd h' _))⟩⟩) (fun n => absurd (rg_s (s := 1) (by omega)) n)
        show ¬ ((0 : Int64).toInt ≤ a1.toInt64.toInt ∧ a1.toInt64.toInt ≤ (MR.1 1 1).toInt64.toInt)
        rw [hn', t32, t32, z0, nI_toInt (by omega)]
        exact hno
      exact pn
    refine br_t m0 ?_
    rw [hn, in_lt, in_le, i0, nI_toInt (by omega)]
    by_cases c1 : a1.toInt < 0
    · exact br_t c1 (no (by omega))
    · refine br_f c1 ?_
      by_cases c2 : a1.toInt ≤ L
      · obtain ⟨j, hj, e1, e2⟩ := to_nI (a := a1) (by omega)
        refine br_t c2 ?_
        have go := xw_take_1 hL (a1 := a1) (a := MX.2 7) (Q := fun r M1 => wp_X8_take 1 a1 MR (fun r2 M2 => r = r2 ∧ Rel M1 M2)) 20 j 0 n X Y MX (by omega) (by omega) (by omega) hP hX hn rfl (fun M1 f1 f2 f3 => ?_)
        · rw [← e1] at go
          exact go
        · refine at_X8_take_fold ?_
          dsimp only [blk_X8_take, blk_X8_take_0]
          refine rw_in (fun _ => bs_t (by decide) ⟨v4, br_t (by show 0 ≤ MR.1 1 1; rw [hn']; exact nI_pos' (by omega)) ⟨v4, rw_in (fun _ => bs_t (by decide) ?_) (fun z => absurd ?_ z)⟩⟩) (fun n => absurd (rg_s (s := 1) (by omega)) n)
          · have gr := rw_take1 (s := 1) (by omega) hL (a1 := a1) (a := MX.2 7) (Q := fun r2 M2 => nI (tks (MX.2 7) L 20 j 0 n X Y).1 = r2 ∧ Rel M1 M2) 20 j 0 n X Y (upI MR 0 0 0) (by omega) (by omega) (by omega) hP hR hn' (fun i hi => ha i hi) (fun M2 g1 g2 g3 => ⟨rfl, Rel_po h' f1 (Fq_mono (fun _ z => z) (by decide) g1) f2 f3 g3⟩)
            rw [← e1] at gr
            exact gr
          · show (0 : Int64).toInt ≤ a1.toInt64.toInt ∧ a1.toInt64.toInt ≤ (MR.1 1 1).toInt64.toInt
            rw [hn', t32, t32, z0, nI_toInt (by omega)]
            omega
      · exact br_f c2 (no (by omega))
  · refine br_f (by rw [m1]; decide) ?_
    have pn : wp_X8_take 1 a1 MR (fun r2 M2 => (-11) = r2 ∧ Rel (upI MX 0 10 (MX.1 0 10 + 1)) M2) := by
      refine at_X8_take_fold ?_
      dsimp only [blk_X8_take, blk_X8_take_0]
      exact rw_in (fun _ => bs_t (by decide) ⟨v4, br_f (by show ¬ 0 ≤ MR.1 1 1; rw [hn']; decide) (fnd h' _)⟩) (fun n => absurd (rg_s (s := 1) (by omega)) n)
    exact pn

theorem xw_take_2 {L : Nat} (hL : L ≤ 20) {a1 : Int32} {a : Nat → Int64} {Q : Int32 → Mem → Prop} : ∀ (d k c n : Nat) (X Y : Nat → Int) (M : Mem), L ≤ k + 2 * d → k ≤ 20 → c ≤ k → Pts n X Y → XP n X Y M → M.1 4 3 = nI L → M.2 8 = a → (∀ M', Fr [10, 11, 12] M M' → Pts (tks a L d k c n X Y).2.1 (tks a L d k c n X Y).2.2.1 (tks a L d k c n X Y).2.2.2 → XP (tks a L d k c n X Y).2.1 (tks a L d k c n X Y).2.2.1 (tks a L d k c n X Y).2.2.2 M' → Q (nI (tks a L d k c n X Y).1) M') → at_X7_take 2 a1 Q 4 (nI c) (nI k) M := by
  intro d
  induction d with
  | zero =>
    intro k c n X Y M hd hk20 hck hP hR h1 ha q
    refine at_X7_take_fold (br_t ?_ (q M (Fr_refl _ _) hP hR))
    rw [h1, nI_1, nI_leI (by omega) (by omega)]; omega
  | succ d ih =>
    intro k c n X Y M hd hk20 hck hP hR h1 ha q
    have e : tks a L (d + 1) k c n X Y = if k + 1 < L ∧ pb (gdp n X Y (a k).toInt (a (k + 1)).toInt) = true then tks a L d (k + 2) (c + 1) (n + 1) (updZ X n (a k).toInt) (updZ Y n (a (k + 1)).toInt) else (c, n, X, Y) := rfl
    rw [e] at q
    refine at_X7_take_fold ?_
    show _ ∧ _
    rw [h1]
    by_cases hkL : k + 1 < L
    · refine br_f ?_ ?_
      · rw [nI_1, nI_leI (by omega) (by omega)]; omega
      · rw [nI_1, nI_clamp (by omega), nI_clamp (by omega)]
        refine ⟨vp_in_nI (by omega) (by omega), vp_in_nI (by omega) (by omega), ?_⟩
        rw [ha]
        have stop : ¬ gdp n X Y (a k).toInt (a (k + 1)).toInt → Q (nI c) M := fun hno => by
          rw [if_neg (fun z => hno (pb_iff.mp z.2))] at q
          exact q M (Fr_refl _ _) hP hR
        refine xw_collect hP hR (fun z => br_f (by decide) (stop fun g => z ⟨g.1, g.2.1⟩)) (fun _ _ z => br_f (by decide) (stop fun g => z g.2.2.1)) (fun _ _ _ z => br_f (by decide) (stop fun g => z g.2.2.2)) (fun g => br_t (nI_pos' (by have := hP.1; omega)) ?_)
        rw [if_pos ⟨hkL, pb_iff.mpr g⟩] at q
        rw [nI_1, show nI k + 2 = nI (k + 2) from nI_add k 2]
        refine ih (k + 2) (c + 1) (n + 1) _ _ _ (by omega) (by omega) (by omega) (Pts_add hP g) (XP_add hR _ _) h1 ha fun M' f1 f2 f3 => q M' (Fr_trans (Fr_up (Fr_up (Fr_up (Fr_refl _ _) (by decide) _ _) (by decide) _ _) (by decide) _ _) f1) f2 f3
    · rw [if_neg (fun z => hkL z.1)] at q
      refine br_t ?_ (q M (Fr_refl _ _) hP hR)
      rw [nI_1, nI_leI (by omega) (by omega)]; omega
theorem p_take_2 {MX MR : Mem} (h : Rel MX MR) (a1 : Int32) {Q : Int32 → Mem → Prop} (q : Q = fun r M1 => wp_X8_take 2 a1 MR (fun r2 M2 => r = r2 ∧ Rel M1 M2)) : (((MX.1 4 1) = 0 → ((a1 < 0 → at_X7_take 2 a1 Q 1 0 0 MX) ∧ (¬ a1 < 0 → ((a1 ≤ (MX.1 4 3) → at_X7_take 2 a1 Q 4 0 a1 MX) ∧ (¬ a1 ≤ (MX.1 4 3) → at_X7_take 2 a1 Q 1 0 0 MX))))) ∧ (¬ (MX.1 4 1) = 0 → wp_X7_found (-11) MX (fun r2 M2 => Q r2 M2))) := by
  subst q
  have h' := Rel_thr h
  have i0 : (0 : Int32).toInt = 0 := by decide
  have z0 : (0 : Int64).toInt = 0 := by decide
  have v4 : vp_in 2 4 := vp_in_nI (n := 2) (by omega) (by omega)
  obtain ⟨n, X, Y, hP, hX, hR⟩ := h.2.2.1
  obtain ⟨⟨h0, h1, h2, h3⟩, hr⟩ := id h
  rcases h2 with ⟨m0, L, hL, hn, hn', hl, ha⟩ | ⟨m1, hn'⟩
  · have no : ¬ (0 ≤ a1.toInt ∧ a1.toInt ≤ L) → at_X7_take 2 a1 (fun r M1 => wp_X8_take 2 a1 MR (fun r2 M2 => r = r2 ∧ Rel M1 M2)) 1 0 0 MX := fun hno => by
      refine at_X7_take_fold ?_
      have pn : wp_X8_take 2 a1 MR (fun r2 M2 => (-12) = r2 ∧ Rel (upI MX 0 10 (MX.1 0 10 + 1)) M2) := by
        refine at_X8_take_fold ?_
        dsimp only [blk_X8_take, blk_X8_take_0]
        refine rw_in (fun _ => bs_t (by decide) ⟨v4, br_t (by show 0 ≤ MR.1 1 2; rw [hn']; exact nI_pos' (by omega)) ⟨v4, rw_in (fun z => absurd z ?_) (fun _ => bs_f rfl (fnd h' _))⟩⟩) (fun n => absurd (rg_s (s := 2) (by omega)) n)
        show ¬ ((0 : Int64).toInt ≤ a1.toInt64.toInt ∧ a1.toInt64.toInt ≤ (MR.1 1 2).toInt64.toInt)
        rw [hn', t32, t32, z0, nI_toInt (by omega)]
        exact hno
      exact pn
    refine br_t m0 ?_
    rw [hn, in_lt, in_le, i0, nI_toInt (by omega)]
    by_cases c1 : a1.toInt < 0
    · exact br_t c1 (no (by omega))
    · refine br_f c1 ?_
      by_cases c2 : a1.toInt ≤ L
      · obtain ⟨j, hj, e1, e2⟩ := to_nI (a := a1) (by omega)
        refine br_t c2 ?_
        have go := xw_take_2 hL (a1 := a1) (a := MX.2 8) (Q := fun r M1 => wp_X8_take 2 a1 MR (fun r2 M2 => r = r2 ∧ Rel M1 M2)) 20 j 0 n X Y MX (by omega) (by omega) (by omega) hP hX hn rfl (fun M1 f1 f2 f3 => ?_)
        · rw [← e1] at go
          exact go
        · refine at_X8_take_fold ?_
          dsimp only [blk_X8_take, blk_X8_take_0]
          refine rw_in (fun _ => bs_t (by decide) ⟨v4, br_t (by show 0 ≤ MR.1 1 2; rw [hn']; exact nI_pos' (by omega)) ⟨v4, rw_in (fun _ => bs_t (by decide) ?_) (fun z => absurd ?_ z)⟩⟩) (fun n => absurd (rg_s (s := 2) (by omega)) n)
          · have gr := rw_take1 (s := 2) (by omega) hL (a1 := a1) (a := MX.2 8) (Q := fun r2 M2 => nI (tks (MX.2 8) L 20 j 0 n X Y).1 = r2 ∧ Rel M1 M2) 20 j 0 n X Y (upI MR 0 0 0) (by omega) (by omega) (by omega) hP hR hn' (fun i hi => ha i hi) (fun M2 g1 g2 g3 => ⟨rfl, Rel_po h' f1 (Fq_mono (fun _ z => z) (by decide) g1) f2 f3 g3⟩)
            rw [← e1] at gr
            exact gr
          · show (0 : Int64).toInt ≤ a1.toInt64.toInt ∧ a1.toInt64.toInt ≤ (MR.1 1 2).toInt64.toInt
            rw [hn', t32, t32, z0, nI_toInt (by omega)]
            omega
      · exact br_f c2 (no (by omega))
  · refine br_f (by rw [m1]; decide) ?_
    have pn : wp_X8_take 2 a1 MR (fun r2 M2 => (-11) = r2 ∧ Rel (upI MX 0 10 (MX.1 0 10 + 1)) M2) := by
      refine at_X8_take_fold ?_
      dsimp only [blk_X8_take, blk_X8_take_0]
      exact rw_in (fun _ => bs_t (by decide) ⟨v4, br_f (by show ¬ 0 ≤ MR.1 1 2; rw [hn']; decide) (fnd h' _)⟩) (fun n => absurd (rg_s (s := 2) (by omega)) n)
    exact pn

theorem xw_take_3 {L : Nat} (hL : L ≤ 20) {a1 : Int32} {a : Nat → Int64} {Q : Int32 → Mem → Prop} : ∀ (d k c n : Nat) (X Y : Nat → Int) (M : Mem), L ≤ k + 2 * d → k ≤ 20 → c ≤ k → Pts n X Y → XP n X Y M → M.1 5 3 = nI L → M.2 9 = a → (∀ M', Fr [10, 11, 12] M M' → Pts (tks a L d k c n X Y).2.1 (tks a L d k c n X Y).2.2.1 (tks a L d k c n X Y).2.2.2 → XP (tks a L d k c n X Y).2.1 (tks a L d k c n X Y).2.2.1 (tks a L d k c n X Y).2.2.2 M' → Q (nI (tks a L d k c n X Y).1) M') → at_X7_take 3 a1 Q 5 (nI c) (nI k) M := by
  intro d
  induction d with
  | zero =>
    intro k c n X Y M hd hk20 hck hP hR h1 ha q
    refine at_X7_take_fold (br_t ?_ (q M (Fr_refl _ _) hP hR))
    rw [h1, nI_1, nI_leI (by omega) (by omega)]; omega
  | succ d ih =>
    intro k c n X Y M hd hk20 hck hP hR h1 ha q
    have e : tks a L (d + 1) k c n X Y = if k + 1 < L ∧ pb (gdp n X Y (a k).toInt (a (k + 1)).toInt) = true then tks a L d (k + 2) (c + 1) (n + 1) (updZ X n (a k).toInt) (updZ Y n (a (k + 1)).toInt) else (c, n, X, Y) := rfl
    rw [e] at q
    refine at_X7_take_fold ?_
    show _ ∧ _
    rw [h1]
    by_cases hkL : k + 1 < L
    · refine br_f ?_ ?_
      · rw [nI_1, nI_leI (by omega) (by omega)]; omega
      · rw [nI_1, nI_clamp (by omega), nI_clamp (by omega)]
        refine ⟨vp_in_nI (by omega) (by omega), vp_in_nI (by omega) (by omega), ?_⟩
        rw [ha]
        have stop : ¬ gdp n X Y (a k).toInt (a (k + 1)).toInt → Q (nI c) M := fun hno => by
          rw [if_neg (fun z => hno (pb_iff.mp z.2))] at q
          exact q M (Fr_refl _ _) hP hR
        refine xw_collect hP hR (fun z => br_f (by decide) (stop fun g => z ⟨g.1, g.2.1⟩)) (fun _ _ z => br_f (by decide) (stop fun g => z g.2.2.1)) (fun _ _ _ z => br_f (by decide) (stop fun g => z g.2.2.2)) (fun g => br_t (nI_pos' (by have := hP.1; omega)) ?_)
        rw [if_pos ⟨hkL, pb_iff.mpr g⟩] at q
        rw [nI_1, show nI k + 2 = nI (k + 2) from nI_add k 2]
        refine ih (k + 2) (c + 1) (n + 1) _ _ _ (by omega) (by omega) (by omega) (Pts_add hP g) (XP_add hR _ _) h1 ha fun M' f1 f2 f3 => q M' (Fr_trans (Fr_up (Fr_up (Fr_up (Fr_refl _ _) (by decide) _ _) (by decide) _ _) (by decide) _ _) f1) f2 f3
    · rw [if_neg (fun z => hkL z.1)] at q
      refine br_t ?_ (q M (Fr_refl _ _) hP hR)
      rw [nI_1, nI_leI (by omega) (by omega)]; omega
theorem p_take_3 {MX MR : Mem} (h : Rel MX MR) (a1 : Int32) {Q : Int32 → Mem → Prop} (q : Q = fun r M1 => wp_X8_take 3 a1 MR (fun r2 M2 => r = r2 ∧ Rel M1 M2)) : (((MX.1 5 1) = 0 → ((a1 < 0 → at_X7_take 3 a1 Q 1 0 0 MX) ∧ (¬ a1 < 0 → ((a1 ≤ (MX.1 5 3) → at_X7_take 3 a1 Q 5 0 a1 MX) ∧ (¬ a1 ≤ (MX.1 5 3) → at_X7_take 3 a1 Q 1 0 0 MX))))) ∧ (¬ (MX.1 5 1) = 0 → wp_X7_found (-11) MX (fun r2 M2 => Q r2 M2))) := by
  subst q
  have h' := Rel_thr h
  have i0 : (0 : Int32).toInt = 0 := by decide
  have z0 : (0 : Int64).toInt = 0 := by decide
  have v4 : vp_in 3 4 := vp_in_nI (n := 3) (by omega) (by omega)
  obtain ⟨n, X, Y, hP, hX, hR⟩ := h.2.2.1
  obtain ⟨⟨h0, h1, h2, h3⟩, hr⟩ := id h
  rcases h3 with ⟨m0, L, hL, hn, hn', hl, ha⟩ | ⟨m1, hn'⟩
  · have no : ¬ (0 ≤ a1.toInt ∧ a1.toInt ≤ L) → at_X7_take 3 a1 (fun r M1 => wp_X8_take 3 a1 MR (fun r2 M2 => r = r2 ∧ Rel M1 M2)) 1 0 0 MX := fun hno => by
      refine at_X7_take_fold ?_
      have pn : wp_X8_take 3 a1 MR (fun r2 M2 => (-12) = r2 ∧ Rel (upI MX 0 10 (MX.1 0 10 + 1)) M2) := by
        refine at_X8_take_fold ?_
        dsimp only [blk_X8_take, blk_X8_take_0]
        refine rw_in (fun _ => bs_t (by decide) ⟨v4, br_t (by show 0 ≤ MR.1 1 3; rw [hn']; exact nI_pos' (by omega)) ⟨v4, rw_in (fun z => absurd z ?_) (fun _ => bs_f rfl (fnd h' _))⟩⟩) (fun n => absurd (rg_s (s := 3) (by omega)) n)
        show ¬ ((0 : Int64).toInt ≤ a1.toInt64.toInt ∧ a1.toInt64.toInt ≤ (MR.1 1 3).toInt64.toInt)
        rw [hn', t32, t32, z0, nI_toInt (by omega)]
        exact hno
      exact pn
    refine br_t m0 ?_
    rw [hn, in_lt, in_le, i0, nI_toInt (by omega)]
    by_cases c1 : a1.toInt < 0
    · exact br_t c1 (no (by omega))
    · refine br_f c1 ?_
      by_cases c2 : a1.toInt ≤ L
      · obtain ⟨j, hj, e1, e2⟩ := to_nI (a := a1) (by omega)
        refine br_t c2 ?_
        have go := xw_take_3 hL (a1 := a1) (a := MX.2 9) (Q := fun r M1 => wp_X8_take 3 a1 MR (fun r2 M2 => r = r2 ∧ Rel M1 M2)) 20 j 0 n X Y MX (by omega) (by omega) (by omega) hP hX hn rfl (fun M1 f1 f2 f3 => ?_)
        · rw [← e1] at go
          exact go
        · refine at_X8_take_fold ?_
          dsimp only [blk_X8_take, blk_X8_take_0]
          refine rw_in (fun _ => bs_t (by decide) ⟨v4, br_t (by show 0 ≤ MR.1 1 3; rw [hn']; exact nI_pos' (by omega)) ⟨v4, rw_in (fun _ => bs_t (by decide) ?_) (fun z => absurd ?_ z)⟩⟩) (fun n => absurd (rg_s (s := 3) (by omega)) n)
          · have gr := rw_take1 (s := 3) (by omega) hL (a1 := a1) (a := MX.2 9) (Q := fun r2 M2 => nI (tks (MX.2 9) L 20 j 0 n X Y).1 = r2 ∧ Rel M1 M2) 20 j 0 n X Y (upI MR 0 0 0) (by omega) (by omega) (by omega) hP hR hn' (fun i hi => ha i hi) (fun M2 g1 g2 g3 => ⟨rfl, Rel_po h' f1 (Fq_mono (fun _ z => z) (by decide) g1) f2 f3 g3⟩)
            rw [← e1] at gr
            exact gr
          · show (0 : Int64).toInt ≤ a1.toInt64.toInt ∧ a1.toInt64.toInt ≤ (MR.1 1 3).toInt64.toInt
            rw [hn', t32, t32, z0, nI_toInt (by omega)]
            omega
      · exact br_f c2 (no (by omega))
  · refine br_f (by rw [m1]; decide) ?_
    have pn : wp_X8_take 3 a1 MR (fun r2 M2 => (-11) = r2 ∧ Rel (upI MX 0 10 (MX.1 0 10 + 1)) M2) := by
      refine at_X8_take_fold ?_
      dsimp only [blk_X8_take, blk_X8_take_0]
      exact rw_in (fun _ => bs_t (by decide) ⟨v4, br_f (by show ¬ 0 ≤ MR.1 1 3; rw [hn']; decide) (fnd h' _)⟩) (fun n => absurd (rg_s (s := 3) (by omega)) n)
    exact pn

theorem st_take {MX MR : Mem} (h : Rel MX MR) (a0 a1 : Int32) : wp_X7_take a0 a1 MX (fun r M1 => wp_X8_take a0 a1 MR (fun r2 M2 => r = r2 ∧ Rel M1 M2)) := by
  refine at_X7_take_fold ?_
  dsimp only [blk_X7_take, blk_X7_take_0]
  refine xw_isSheet (fun hs => bs_t (by decide) ?_) (fun hs => bs_f rfl ?_)
  · rcases four hs with rfl | rfl | rfl | rfl
    · exact ⟨vp_in_nI (n := 0) (by omega) (by omega), fun _ => p_take_0 h a1 rfl, fun n => absurd n (by decide), fun n => absurd n (by decide), fun n => absurd n (by decide)⟩
    · exact ⟨vp_in_nI (n := 1) (by omega) (by omega), fun n => absurd n (by decide), fun _ => p_take_1 h a1 rfl, fun n => absurd n (by decide), fun n => absurd n (by decide)⟩
    · exact ⟨vp_in_nI (n := 2) (by omega) (by omega), fun n => absurd n (by decide), fun n => absurd n (by decide), fun _ => p_take_2 h a1 rfl, fun n => absurd n (by decide)⟩
    · exact ⟨vp_in_nI (n := 3) (by omega) (by omega), fun n => absurd n (by decide), fun n => absurd n (by decide), fun n => absurd n (by decide), fun _ => p_take_3 h a1 rfl⟩
  · have pn : wp_X8_take a0 a1 MR (fun r2 M2 => (-12) = r2 ∧ Rel (upI MX 0 10 (MX.1 0 10 + 1)) M2) := by
      refine at_X8_take_fold ?_
      dsimp only [blk_X8_take, blk_X8_take_0]
      exact rw_in (fun n => absurd n (rg_n hs)) (fun _ => bs_f rfl (fnd (Rel_thr h) (-12)))
    exact pn
