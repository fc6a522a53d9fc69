/-! ===== LAY ===== -/
theorem cN_256 {n : Nat} {X Y : Nat → Int} (hP : Pts n X Y) : cN n X Y ≤ 256 := cutl_256 hP
theorem ShR_fr {MX MR MX' MR' : Mem} (h : ShR MX MR) (x0 : MX'.2 = MX.2) (x2 : MX'.1 2 = MX.1 2) (x3 : MX'.1 3 = MX.1 3) (x4 : MX'.1 4 = MX.1 4) (x5 : MX'.1 5 = MX.1 5) (r0 : MR'.2 = MR.2) (r1 : MR'.1 1 = MR.1 1) (r2 : MR'.1 2 = MR.1 2) : ShR MX' MR' := by
  unfold ShR
  rw [x0, x2, x3, x4, x5, r0, r1, r2]
  exact h
theorem XP_fr {n : Nat} {X Y : Nat → Int} {M M' : Mem} (h : XP n X Y M) (h0 : M'.1 10 = M.1 10) (h1 : M'.1 11 = M.1 11) (h2 : M'.1 12 = M.1 12) : XP n X Y M' := by
  unfold XP
  rw [h0, h1, h2]
  exact h
theorem RP_fr {n : Nat} {X Y : Nat → Int} {M M' : Mem} (h : RP n X Y M) (h0 : M'.1 0 5 = M.1 0 5) (h1 : M'.1 4 = M.1 4) (h2 : M'.1 5 = M.1 5) : RP n X Y M' := by
  unfold RP
  rw [h0, h1, h2]
  exact h
theorem st_lay {MX MR : Mem} (h : Rel MX MR) : wp_X7_lay MX (fun r M1 => wp_X8_lay MR (fun r2 M2 => r = r2 ∧ Rel M1 M2)) := by
  have h' := Rel_thr h
  obtain ⟨hs, hf, ⟨n, X, Y, hP, hX, hR⟩, nx, hnx, h31, hg⟩ := h
  have hn := hP.1
  by_cases h3 : 3 ≤ n
  · have hc := cN_256 hP
    refine xw_lay0 hP hc h3 hX fun M1 f1 w1 a1 a2 a3 a4 a5 a6 => ?_
    refine rw_lay0 hP hc h3 hR fun M2 f2 w2 b1 b2 b3 b4 => ⟨rfl, ?_, ?_⟩
    · exact ShR_fr hs f1.1 (f1.2 2 (by decide)) (f1.2 3 (by decide)) (f1.2 4 (by decide)) (f1.2 5 (by decide)) f2.1 (f2.2.1 1 (by decide) (by decide)) (f2.2.1 2 (by decide) (by decide))
    · refine ⟨?_, ⟨n, X, Y, hP, XP_fr hX (f1.2 10 (by decide)) (f1.2 11 (by decide)) (f1.2 12 (by decide)), RP_fr hR (f2.2.2 5 (by decide)) (f2.2.1 4 (by decide) (by decide)) (f2.2.1 5 (by decide) (by decide))⟩, nx, hnx, ?_, Or.inr ⟨a2, b1, n, X, Y, 0, 0, 0, [], h3, hP, hc, by omega, by omega, w1, w2, a3, b2, cN_pos, ap_all, ⟨a5, b3, by decide, fun k c z => (by cases z)⟩, fun f hf => ?_⟩⟩
      · rw [a1 10 (by decide) (by decide), f2.2.2 4 (by decide)]; exact hf
      · rw [a4 2 (by decide)]; exact h31
      · rw [a6 f (by have := hP.f28; omega), b4 f hf]
  · refine at_X7_lay_fold (br_f ?_ ?_)
    · rw [hX.1]; show ¬ nI 3 ≤ nI n; rw [nI_leI (by omega) (by omega)]; exact h3
    · refine at_X8_lay_fold (br_f ?_ ⟨rfl, h'⟩)
      rw [show (upI MR 0 0 0).1 0 5 = nI n from hR.1]
      show ¬ nI 3 ≤ nI n
      rw [nI_leI (by omega) (by omega)]; exact h3
/-! scratch cells: steps; thirds, ways -/
theorem GrW_scr {n : Nat} {X Y : Nat → Int} {H B i nx : Nat} {L : List Nat} {MX MR MX' MR' : Mem} (h : GrW n X Y H B i nx L MX MR) (hx : Fr [28, 29, 30] MX MX') (hr : Fq [16, 17, 18, 19, 20, 21] [0, 27] MR MR') : GrW n X Y H B i nx L MX' MR' := by
  obtain ⟨c1, c2, c3, c4, c5, c6, c7, c8, c9, c10, c11, c12, c13⟩ := h
  refine ⟨c1, c2, c3, c4, c5, ?_, ?_, by rw [hx.2 0 (by decide)]; exact c8, by rw [hr.2.2 24 (by decide)]; exact c9, c10, c11, ?_, ?_⟩
  · obtain ⟨d1, d2, d3⟩ := c6
    refine ⟨XF_Fr d1 hx (fun q a b => not_in3 (by omega) (by omega) (by omega)), XK_Fr d2 hx (fun q a b => not_in3 (by omega) (by omega) (by omega)), ?_⟩
    unfold XA
    rw [hx.2 25 (by decide), hx.2 26 (by decide), hx.2 27 (by decide)]
    exact d3
  · obtain ⟨d1, d2, d3⟩ := c7
    refine ⟨RF_fr d1 (hr.2.2 9 (by decide)) (hr.2.2 12 (by decide)) (hr.2.1 6 (by decide) (by decide)) (hr.2.1 7 (by decide) (by decide)) (hr.2.1 8 (by decide) (by decide)) (hr.2.1 9 (by decide) (by decide)) (hr.2.1 10 (by decide) (by decide)) (hr.2.1 11 (by decide) (by decide)), ?_, ?_⟩
    · unfold RK
      rw [hr.2.2 20 (by decide), hr.2.1 13 (by decide) (by decide)]
      exact d2
    · unfold RA
      rw [hr.2.2 18 (by decide), hr.2.2 19 (by decide), hr.2.2 22 (by decide), hr.2.1 14 (by decide) (by decide)]
      exact d3
  · unfold PaR
    rw [hx.2 31 (by decide), hx.2 32 (by decide), hr.2.2 25 (by decide), hr.2.1 15 (by decide) (by decide)]
    exact c12
  · rw [hx.2 33 (by decide), hr.2.1 12 (by decide) (by decide)]
    exact c13
theorem Rel_scr {MX MR MX' MR' : Mem} (h : Rel MX MR) (hx : Fr [28, 29, 30] MX MX') (hr : Fq [16, 17, 18, 19, 20, 21] [0, 27] MR MR') : Rel MX' MR' := by
  obtain ⟨hs, hf, ⟨n, X, Y, hP, hX, hR⟩, nx, hnx, h31, hg⟩ := h
  refine ⟨ShR_fr hs hx.1 (hx.2 2 (by decide)) (hx.2 3 (by decide)) (hx.2 4 (by decide)) (hx.2 5 (by decide)) hr.1 (hr.2.1 1 (by decide) (by decide)) (hr.2.1 2 (by decide) (by decide)), by rw [hx.2 0 (by decide), hr.2.2 4 (by decide)]; exact hf, ⟨n, X, Y, hP, XP_fr hX (hx.2 10 (by decide)) (hx.2 11 (by decide)) (hx.2 12 (by decide)), RP_fr hR (hr.2.2 5 (by decide)) (hr.2.1 4 (by decide) (by decide)) (hr.2.1 5 (by decide) (by decide))⟩, nx, hnx, by rw [hx.2 31 (by decide)]; exact h31, ?_⟩
  rcases hg with ⟨a, b⟩ | ⟨a, b, n, X, Y, H, B, i, L, hw⟩
  · exact Or.inl ⟨by rw [hx.2 0 (by decide)]; exact a, by rw [hr.2.2 8 (by decide)]; exact b⟩
  · exact Or.inr ⟨by rw [hx.2 0 (by decide)]; exact a, by rw [hr.2.2 8 (by decide)]; exact b, n, X, Y, H, B, i, L, GrW_scr hw hx hr⟩
/-- no ground, or one -/
theorem Rel_gr {MX MR : Mem} (h : Rel MX MR) : (MX.1 0 8 = 0 ∧ MR.1 0 8 = 0) ∨ (¬ MX.1 0 8 = 0 ∧ ¬ MR.1 0 8 = 0 ∧ ∃ nx n X Y H B i L, nx < 10 ∧ MX.1 31 2 = nI nx ∧ GrW n X Y H B i nx L MX MR ∧ GrW n X Y H B i nx L MX (upI MR 0 0 0)) := by
  obtain ⟨hs, hf, hp, nx, hnx, h31, hg⟩ := h
  rcases hg with g | ⟨a, b, n, X, Y, H, B, i, L, hw⟩
  · exact Or.inl g
  · exact Or.inr ⟨by rw [a]; decide, by rw [b]; decide, nx, n, X, Y, H, B, i, L, hnx, h31, hw, hw⟩
