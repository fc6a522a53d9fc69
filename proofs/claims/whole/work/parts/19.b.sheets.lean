/-! ===== SHEETS: sheet, tear, put, at ===== -/
def gup (g : Nat → Nat → Int64) (q k : Nat) (v : Int64) : Nat → Nat → Int64 := fun a => if a = q then vp_updL (g q) k v else g a
theorem gup_ne {g : Nat → Nat → Int64} {q k a : Nat} {v : Int64} (h : a ≠ q) : gup g q k v a = g a := if_neg h
theorem gup_same (g : Nat → Nat → Int64) (q k : Nat) (v : Int64) : gup g q k v q k = v := by
  unfold gup
  rw [if_pos rfl]
  exact if_pos rfl
theorem gup_oth {g : Nat → Nat → Int64} {q k j : Nat} {v : Int64} (h : j ≠ k) : gup g q k v q j = g q j := by
  unfold gup
  rw [if_pos rfl]
  exact if_neg h
theorem Sh1_cong {m l n n' l' : Int32} {a b a' b' : Nat → Int64} (h : Sh1 m l n a n' l' a') (h1 : ∀ i, i < 20 → b i = a i) (h2 : ∀ i, i < 20 → b' i = a' i) : Sh1 m l n b n' l' b' := by
  rcases h with ⟨p1, L, p2, p3, p4, p5, p6⟩ | h
  · exact Or.inl ⟨p1, L, p2, p3, p4, p5, fun i hi => by rw [h1 i (by omega), h2 i (by omega)]; exact p6 i hi⟩
  · exact Or.inr h
theorem rw_sheet1 {s L : Nat} (hs : s < 4) (hL : L ≤ 20) {v2 : Int32} {f : Nat → Nat → Int32} {g : Nat → Nat → Int64} {Q : Int32 → Mem → Prop} (q : ∀ g', (∀ j, j < 20 * s ∨ 20 * s + 20 ≤ j → g' 3 j = g 3 j) → (∀ i, i < L → g' 3 (20 * s + i) = 0) → Q (nI L) (f, g')) : at_X8_sheet (nI s) v2 (nI L) Q 1 (nI 0) (f, g) := by
  have key : ∀ d k g', k + d = L → (∀ j, j < 20 * s ∨ 20 * s + 20 ≤ j → g' 3 j = g 3 j) → (∀ i, i < k → g' 3 (20 * s + i) = 0) → at_X8_sheet (nI s) v2 (nI L) Q 1 (nI k) (f, g') := by
    intro d
    induction d with
    | zero =>
      intro k g' hk h1 h2
      refine at_X8_sheet_fold (br_t ?_ (q g' h1 fun i hi => h2 i (by omega)))
      rw [nI_leI (by omega) (by omega)]; omega
    | succ d ih =>
      intro k g' hk h1 h2
      refine at_X8_sheet_fold (br_f ?_ ?_)
      · rw [nI_leI (by omega) (by omega)]; omega
      · rw [ix20, nI_1, nI_clamp (by omega)]
        refine ⟨vp_in_nI (by omega) (by omega), ih (k + 1) (gup g' 3 (20 * s + k) 0) (by omega) (fun j hj => ?_) (lt_s (fun i hi => ?_) (gup_same ..))⟩
        · rw [gup_oth (by omega)]; exact h1 j hj
        · rw [gup_oth (by omega)]; exact h2 i hi
  exact key L 0 g (by omega) (fun _ _ => rfl) lt_0

theorem xw_become_2 {l n : Int32} {M : Mem} {Q : Mem → Prop} (q : ∀ g, (∀ q, q ≠ 6 → g q = M.2 q) → (∀ i, i < 20 → g 6 i = 0) → Q ((upI (upI (upI M 2 1 0) 2 2 l) 2 3 n).1, g)) : wp_X5_become_2 l n M Q := by
  have key : ∀ d k g, k + d = 20 → (∀ q, q ≠ 6 → g q = M.2 q) → (∀ i, i < k → g 6 i = 0) → at_X5_become_2 l n Q 1 (nI k) ((upI (upI (upI M 2 1 0) 2 2 l) 2 3 n).1, g) := by
    intro d
    induction d with
    | zero =>
      intro k g hk h1 h2
      refine at_X5_become_2_fold (br_t ?_ (q g h1 fun i hi => h2 i (by omega)))
      show nI 20 ≤ nI k
      rw [nI_leI (by omega) (by omega)]; omega
    | succ d ih =>
      intro k g hk h1 h2
      refine at_X5_become_2_fold (br_f ?_ ⟨vp_in_nI (by omega) (by omega), ?_⟩)
      · show ¬ nI 20 ≤ nI k
        rw [nI_leI (by omega) (by omega)]; omega
      · rw [nI_1, nI_clamp (by omega)]
        refine ih (k + 1) (gup g 6 k 0) (by omega) (fun q hq => ?_) (lt_s (fun i hi => ?_) (gup_same ..))
        · rw [gup_ne hq]; exact h1 q hq
        · rw [gup_oth (by omega)]; exact h2 i hi
  exact at_X5_become_2_fold (key 20 0 M.2 (by omega) (fun _ _ => rfl) lt_0)

theorem xw_become_3 {l n : Int32} {M : Mem} {Q : Mem → Prop} (q : ∀ g, (∀ q, q ≠ 7 → g q = M.2 q) → (∀ i, i < 20 → g 7 i = 0) → Q ((upI (upI (upI M 3 1 0) 3 2 l) 3 3 n).1, g)) : wp_X5_become_3 l n M Q := by
  have key : ∀ d k g, k + d = 20 → (∀ q, q ≠ 7 → g q = M.2 q) → (∀ i, i < k → g 7 i = 0) → at_X5_become_3 l n Q 1 (nI k) ((upI (upI (upI M 3 1 0) 3 2 l) 3 3 n).1, g) := by
    intro d
    induction d with
    | zero =>
      intro k g hk h1 h2
      refine at_X5_become_3_fold (br_t ?_ (q g h1 fun i hi => h2 i (by omega)))
      show nI 20 ≤ nI k
      rw [nI_leI (by omega) (by omega)]; omega
    | succ d ih =>
      intro k g hk h1 h2
      refine at_X5_become_3_fold (br_f ?_ ⟨vp_in_nI (by omega) (by omega), ?_⟩)
      · show ¬ nI 20 ≤ nI k
        rw [nI_leI (by omega) (by omega)]; omega
      · rw [nI_1, nI_clamp (by omega)]
        refine ih (k + 1) (gup g 7 k 0) (by omega) (fun q hq => ?_) (lt_s (fun i hi => ?_) (gup_same ..))
        · rw [gup_ne hq]; exact h1 q hq
        · rw [gup_oth (by omega)]; exact h2 i hi
  exact at_X5_become_3_fold (key 20 0 M.2 (by omega) (fun _ _ => rfl) lt_0)

theorem xw_become_4 {l n : Int32} {M : Mem} {Q : Mem → Prop} (q : ∀ g, (∀ q, q ≠ 8 → g q = M.2 q) → (∀ i, i < 20 → g 8 i = 0) → Q ((upI (upI (upI M 4 1 0) 4 2 l) 4 3 n).1, g)) : wp_X5_become_4 l n M Q := by
  have key : ∀ d k g, k + d = 20 → (∀ q, q ≠ 8 → g q = M.2 q) → (∀ i, i < k → g 8 i = 0) → at_X5_become_4 l n Q 1 (nI k) ((upI (upI (upI M 4 1 0) 4 2 l) 4 3 n).1, g) := by
    intro d
    induction d with
    | zero =>
      intro k g hk h1 h2
      refine at_X5_become_4_fold (br_t ?_ (q g h1 fun i hi => h2 i (by omega)))
      show nI 20 ≤ nI k
      rw [nI_leI (by omega) (by omega)]; omega
    | succ d ih =>
      intro k g hk h1 h2
      refine at_X5_become_4_fold (br_f ?_ ⟨vp_in_nI (by omega) (by omega), ?_⟩)
      · show ¬ nI 20 ≤ nI k
        rw [nI_leI (by omega) (by omega)]; omega
      · rw [nI_1, nI_clamp (by omega)]
        refine ih (k + 1) (gup g 8 k 0) (by omega) (fun q hq => ?_) (lt_s (fun i hi => ?_) (gup_same ..))
        · rw [gup_ne hq]; exact h1 q hq
        · rw [gup_oth (by omega)]; exact h2 i hi
  exact at_X5_become_4_fold (key 20 0 M.2 (by omega) (fun _ _ => rfl) lt_0)

theorem xw_become_5 {l n : Int32} {M : Mem} {Q : Mem → Prop} (q : ∀ g, (∀ q, q ≠ 9 → g q = M.2 q) → (∀ i, i < 20 → g 9 i = 0) → Q ((upI (upI (upI M 5 1 0) 5 2 l) 5 3 n).1, g)) : wp_X5_become_5 l n M Q := by
  have key : ∀ d k g, k + d = 20 → (∀ q, q ≠ 9 → g q = M.2 q) → (∀ i, i < k → g 9 i = 0) → at_X5_become_5 l n Q 1 (nI k) ((upI (upI (upI M 5 1 0) 5 2 l) 5 3 n).1, g) := by
    intro d
    induction d with
    | zero =>
      intro k g hk h1 h2
      refine at_X5_become_5_fold (br_t ?_ (q g h1 fun i hi => h2 i (by omega)))
      show nI 20 ≤ nI k
      rw [nI_leI (by omega) (by omega)]; omega
    | succ d ih =>
      intro k g hk h1 h2
      refine at_X5_become_5_fold (br_f ?_ ⟨vp_in_nI (by omega) (by omega), ?_⟩)
      · show ¬ nI 20 ≤ nI k
        rw [nI_leI (by omega) (by omega)]; omega
      · rw [nI_1, nI_clamp (by omega)]
        refine ih (k + 1) (gup g 9 k 0) (by omega) (fun q hq => ?_) (lt_s (fun i hi => ?_) (gup_same ..))
        · rw [gup_ne hq]; exact h1 q hq
        · rw [gup_oth (by omega)]; exact h2 i hi
  exact at_X5_become_5_fold (key 20 0 M.2 (by omega) (fun _ _ => rfl) lt_0)

theorem st_sheet_0 {MX MR : Mem} (h : Rel MX MR) {la : Int32} {L : Nat} (hL : L ≤ 20) : wp_X5_become_2 la (nI L) MX (fun M3 => (at_X8_sheet 0 la (nI L) (fun r2 M2 => nI L = r2 ∧ Rel M3 M2) 1 0 (upI (upI (upI MR 0 0 0) 1 0 (nI L)) 2 0 la))) := by
  obtain ⟨⟨h0, h1, h2, h3⟩, hr⟩ := h
  refine xw_become_2 fun g a1 a2 => ?_
  refine rw_sheet1 (s := 0) (f := (upI (upI (upI MR 0 0 0) 1 0 (nI L)) 2 0 la).1) (g := MR.2) (by omega) hL fun g' b1 b2 => ⟨rfl, ⟨Or.inl ⟨rfl, L, hL, rfl, rfl, rfl, fun i hi => (b2 i hi).trans (a2 i (by omega)).symm⟩, Sh1_cong h1 (fun i hi => congrFun (a1 7 (by decide)) i) (fun i hi => b1 (20 + i) (by omega)), Sh1_cong h2 (fun i hi => congrFun (a1 8 (by decide)) i) (fun i hi => b1 (40 + i) (by omega)), Sh1_cong h3 (fun i hi => congrFun (a1 9 (by decide)) i) (fun i hi => b1 (60 + i) (by omega))⟩, ?_⟩
  have hr' : RsR (upI (upI (upI MX 2 1 0) 2 2 la) 2 3 (nI L)) (upI (upI (upI MR 0 0 0) 1 0 (nI L)) 2 0 la) := hr
  exact RsR_eq hr' rfl rfl

theorem st_sheet_1 {MX MR : Mem} (h : Rel MX MR) {la : Int32} {L : Nat} (hL : L ≤ 20) : wp_X5_become_3 la (nI L) MX (fun M3 => (at_X8_sheet 1 la (nI L) (fun r2 M2 => nI L = r2 ∧ Rel M3 M2) 1 0 (upI (upI (upI MR 0 0 0) 1 1 (nI L)) 2 1 la))) := by
  obtain ⟨⟨h0, h1, h2, h3⟩, hr⟩ := h
  refine xw_become_3 fun g a1 a2 => ?_
  refine rw_sheet1 (s := 1) (f := (upI (upI (upI MR 0 0 0) 1 1 (nI L)) 2 1 la).1) (g := MR.2) (by omega) hL fun g' b1 b2 => ⟨rfl, ⟨Sh1_cong h0 (fun i hi => congrFun (a1 6 (by decide)) i) (fun i hi => b1 (0 + i) (by omega)), Or.inl ⟨rfl, L, hL, rfl, rfl, rfl, fun i hi => (b2 i hi).trans (a2 i (by omega)).symm⟩, Sh1_cong h2 (fun i hi => congrFun (a1 8 (by decide)) i) (fun i hi => b1 (40 + i) (by omega)), Sh1_cong h3 (fun i hi => congrFun (a1 9 (by decide)) i) (fun i hi => b1 (60 + i) (by omega))⟩, ?_⟩
  have hr' : RsR (upI (upI (upI MX 3 1 0) 3 2 la) 3 3 (nI L)) (upI (upI (upI MR 0 0 0) 1 1 (nI L)) 2 1 la) := hr
  exact RsR_eq hr' rfl rfl

theorem st_sheet_2 {MX MR : Mem} (h : Rel MX MR) {la : Int32} {L : Nat} (hL : L ≤ 20) : wp_X5_become_4 la (nI L) MX (fun M3 => (at_X8_sheet 2 la (nI L) (fun r2 M2 => nI L = r2 ∧ Rel M3 M2) 1 0 (upI (upI (upI MR 0 0 0) 1 2 (nI L)) 2 2 la))) := by
  obtain ⟨⟨h0, h1, h2, h3⟩, hr⟩ := h
  refine xw_become_4 fun g a1 a2 => ?_
  refine rw_sheet1 (s := 2) (f := (upI (upI (upI MR 0 0 0) 1 2 (nI L)) 2 2 la).1) (g := MR.2) (by omega) hL fun g' b1 b2 => ⟨rfl, ⟨Sh1_cong h0 (fun i hi => congrFun (a1 6 (by decide)) i) (fun i hi => b1 (0 + i) (by omega)), Sh1_cong h1 (fun i hi => congrFun (a1 7 (by decide)) i) (fun i hi => b1 (20 + i) (by omega)), Or.inl ⟨rfl, L, hL, rfl, rfl, rfl, fun i hi => (b2 i hi).trans (a2 i (by omega)).symm⟩, Sh1_cong h3 (fun i hi => congrFun (a1 9 (by decide)) i) (fun i hi => b1 (60 + i) (by omega))⟩, ?_⟩
  have hr' : RsR (upI (upI (upI MX 4 1 0) 4 2 la) 4 3 (nI L)) (upI (upI (upI MR 0 0 0) 1 2 (nI L)) 2 2 la) := hr
  exact RsR_eq hr' rfl rfl

theorem st_sheet_3 {MX MR : Mem} (h : Rel MX MR) {la : Int32} {L : Nat} (hL : L ≤ 20) : wp_X5_become_5 la (nI L) MX (fun M3 => (at_X8_sheet 3 la (nI L) (fun r2 M2 => nI L = r2 ∧ Rel M3 M2) 1 0 (upI (upI (upI MR 0 0 0) 1 3 (nI L)) 2 3 la))) := by
  obtain ⟨⟨h0, h1, h2, h3⟩, hr⟩ := h
  refine xw_become_5 fun g a1 a2 => ?_
  refine rw_sheet1 (s := 3) (f := (upI (upI (upI MR 0 0 0) 1 3 (nI L)) 2 3 la).1) (g := MR.2) (by omega) hL fun g' b1 b2 => ⟨rfl, ⟨Sh1_cong h0 (fun i hi => congrFun (a1 6 (by decide)) i) (fun i hi => b1 (0 + i) (by omega)), Sh1_cong h1 (fun i hi => congrFun (a1 7 (by decide)) i) (fun i hi => b1 (20 + i) (by omega)), Sh1_cong h2 (fun i hi => congrFun (a1 8 (by decide)) i) (fun i hi => b1 (40 + i) (by omega)), Or.inl ⟨rfl, L, hL, rfl, rfl, rfl, fun i hi => (b2 i hi).trans (a2 i (by omega)).symm⟩⟩, ?_⟩
  have hr' : RsR (upI (upI (upI MX 5 1 0) 5 2 la) 5 3 (nI L)) (upI (upI (upI MR 0 0 0) 1 3 (nI L)) 2 3 la) := hr
  exact RsR_eq hr' rfl rfl

theorem st_sheet {MX MR : Mem} (h : Rel MX MR) (a0 a1 a2 : Int32) : wp_X7_sheet a0 a1 a2 MX (fun r M1 => wp_X8_sheet a0 a1 a2 MR (fun r2 M2 => r = r2 ∧ Rel M1 M2)) := by
  have z0 : (0 : Int64).toInt = 0 := by decide
  have z3 : (3 : Int64).toInt = 3 := by decide
  have i0 : (0 : Int32).toInt = 0 := by decide
  have i20 : (20 : Int32).toInt = 20 := by decide
  refine xw_isSheet (fun hs => ?_) (fun hs => ?_)
  · refine bs_t (by decide) (xw_isLane (fun hl => ?_) (fun hl => ?_)) |> fun z => ⟨z.1, z.2⟩
    · refine br_f (by decide) ?_
      by_cases h20 : a2 ≤ 20
      · refine br_t h20 ?_
        by_cases hz : 0 ≤ a2
        · refine br_t hz ?_
          rw [in_le, i0] at hz
          rw [in_le, i20] at h20
          obtain ⟨L, hL, rfl, e2⟩ := to_nI hz
          have hL20 : L ≤ 20 := by omega
          have rr : ∀ M1 : Mem, ∀ s : Nat, s < 4 → a0 = nI s → at_X8_sheet (nI s) a1 (nI L) (fun r2 M2 => nI L = r2 ∧ Rel M1 M2) 1 0 (upI (upI (upI MR 0 0 0) 1 s (nI L)) 2 s a1) → wp_X8_sheet a0 a1 (nI L) MR (fun r2 M2 => nI L = r2 ∧ Rel M1 M2) := by
            intro M1 s hs4 hs0 hk
            subst hs0
            have v4 : vp_in (nI s) 4 := vp_in_nI hs4 (by omega)
            refine at_X8_sheet_fold ?_
            dsimp only [blk_X8_sheet, blk_X8_sheet_0]
            refine rw_in (fun _ => ?_) (fun n => absurd (by rw [t32, z0, z3]; exact hs) n)
            refine bs_t (by decide) (rw_in (fun _ => ?_) (fun n => absurd (by rw [t32, z0, z3]; exact hl) n)) |> fun z => ⟨z.1, z.2⟩
            refine br_f (by decide) (br_t (by rw [in_le, i20]; omega) (br_t (by rw [in_le, i0]; omega) ⟨v4, v4, ?_⟩))
            rw [nI_clamp (by omega)]
            exact hk
          rcases four hs with rfl | rfl | rfl | rfl
          · exact ⟨vp_in_nI (n := 0) (by omega) (by omega), fun _ => wp_X5_become_2_mono (fun M3 hk => rr M3 0 (by omega) rfl hk) (st_sheet_0 h hL20), fun n => absurd n (by decide), fun n => absurd n (by decide), fun n => absurd n (by decide)⟩
          · exact ⟨vp_in_nI (n := 1) (by omega) (by omega), fun n => absurd n (by decide), fun _ => wp_X5_become_3_mono (fun M3 hk => rr M3 1 (by omega) rfl hk) (st_sheet_1 h hL20), fun n => absurd n (by decide), fun n => absurd n (by decide)⟩
          · exact ⟨vp_in_nI (n := 2) (by omega) (by omega), fun n => absurd n (by decide), fun n => absurd n (by decide), fun _ => wp_X5_become_4_mono (fun M3 hk => rr M3 2 (by omega) rfl hk) (st_sheet_2 h hL20), fun n => absurd n (by decide)⟩
          · exact ⟨vp_in_nI (n := 3) (by omega) (by omega), fun n => absurd n (by decide), fun n => absurd n (by decide), fun n => absurd n (by decide), fun _ => wp_X5_become_5_mono (fun M3 hk => rr M3 3 (by omega) rfl hk) (st_sheet_3 h hL20)⟩
        · refine br_f hz ?_
          refine (?_ : wp_X7_found (-14) MX _)
          refine at_X8_sheet_fold ?_
          dsimp only [blk_X8_sheet, blk_X8_sheet_0]
          refine rw_in (fun _ => ?_) (fun n => absurd (by rw [t32, z0, z3]; exact hs) n)
          refine bs_t (by decide) (rw_in (fun _ => ?_) (fun n => absurd (by rw [t32, z0, z3]; exact hl) n)) |> fun z => ⟨z.1, z.2⟩
          exact br_f (by decide) (br_t h20 (br_f hz (both_found (Rel_thr h) (-14))))
      · refine br_f h20 ?_
        refine at_X8_sheet_fold ?_
        dsimp only [blk_X8_sheet, blk_X8_sheet_0]
        refine rw_in (fun _ => ?_) (fun n => absurd (by rw [t32, z0, z3]; exact hs) n)
        refine bs_t (by decide) (rw_in (fun _ => ?_) (fun n => absurd (by rw [t32, z0, z3]; exact hl) n)) |> fun z => ⟨z.1, z.2⟩
        exact br_f (by decide) (br_f h20 ⟨rfl, Rel_thr h⟩)
    · refine br_t rfl ?_
      refine at_X8_sheet_fold ?_
      dsimp only [blk_X8_sheet, blk_X8_sheet_0]
      refine rw_in (fun _ => ?_) (fun n => absurd (by rw [t32, z0, z3]; exact hs) n)
      refine bs_t (by decide) (rw_in (fun n => absurd (by rw [t32, z0, z3] at n; exact n) hl) (fun _ => ?_)) |> fun z => ⟨z.1, z.2⟩
      exact br_t rfl ⟨rfl, Rel_thr h⟩
  · refine bs_f rfl ?_
    refine at_X8_sheet_fold ?_
    dsimp only [blk_X8_sheet, blk_X8_sheet_0]
    refine rw_in (fun n => absurd (by rw [t32, z0, z3] at n; exact n) hs) (fun _ => ?_)
    exact bs_f rfl (both_found (Rel_thr h) (-12))
