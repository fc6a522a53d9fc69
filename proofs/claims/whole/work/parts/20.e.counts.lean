/-! ===== COUNTS: sure, best, bestRank, crossings ===== -/
theorem nI_b (a : Nat) (b : Bool) : nI a + bI b = nI (a + (if b then 1 else 0)) := by
  cases b
  · show nI a + nI 0 = nI a
    rw [nI_add]; rfl
  · exact nI_1 a
section CT
variable {n : Nat} {X Y : Nat → Int} {H B i nx : Nat} {L : List Nat} {MX MR : Mem}
theorem aN_pos (hw : GrW n X Y H B i nx L MX MR) : 0 < aN n X Y H B := by
  have := ark_lt_aN hw.il hw.ip
  omega
theorem st_sure (h : Rel MX MR) (a0 : Int32) : wp_X7_sure a0 MX (fun r M1 => wp_X8_sure a0 MR (fun r2 M2 => r = r2 ∧ Rel M1 M2)) := by
  have h' := Rel_thr h
  refine at_X7_sure_fold ?_
  dsimp only [blk_X7_sure, blk_X7_sure_0]
  rcases Rel_gr h with ⟨x0, r0⟩ | ⟨x0, r0, nx, n, X, Y, H, B, i, L, hnx, h31, hw, hw'⟩
  · exact xw_ref0 x0 (br_f (by decide) (at_X8_sure_fold (bs_f r0 ⟨rfl, h'⟩)))
  · have h28 := hw.f28
    have hN := hw.a256
    have hpos := aN_pos hw
    refine xw_ref (F := fN n X Y) (by omega) x0 hw.xf.2.1.1 (fun hv => ?_) (fun hv => ?_)
    · obtain ⟨f, hf, rfl⟩ := inr_nI hv
      refine br_t rfl ?_
      have rr : ∀ (r : Int32), (at_X8_sure (nI f) (fun r2 M2 => r = r2 ∧ Rel MX M2) 1 (nI 0) (nI 0) (upI MR 0 0 0)) → wp_X8_sure (nI f) MR (fun r2 M2 => r = r2 ∧ Rel MX M2) := fun r hk =>
        at_X8_sure_fold (bs_t r0 (rw_noFence (F := fN n X Y) (by omega) hw'.rf.2.1.1 (fun _ => br_t rfl hk) (fun z => absurd hv z)))
      have rl : ∀ r : Int32, (¬ ct (fun r => (cg n X Y (kr n X Y H B r)).testBit f) (aN n X Y H B) = 0 → ¬ ct (fun r => (cg n X Y (kr n X Y H B r)).testBit f) (aN n X Y H B) = aN n X Y H B → r = 1) → (ct (fun r => (cg n X Y (kr n X Y H B r)).testBit f) (aN n X Y H B) = aN n X Y H B → r = 2) → (ct (fun r => (cg n X Y (kr n X Y H B r)).testBit f) (aN n X Y H B) = 0 → r = 0) → wp_X8_sure (nI f) MR (fun r2 M2 => r = r2 ∧ Rel MX M2) := fun r q1 q2 q0 => by
        refine rr r ?_
        have key : ∀ d k, k + d = aN n X Y H B → at_X8_sure (nI f) (fun r2 M2 => r = r2 ∧ Rel MX M2) 1 (nI (ct (fun r => (cg n X Y (kr n X Y H B r)).testBit f) k)) (nI k) (upI MR 0 0 0) := by
          intro d
          induction d with
          | zero =>
            intro k hk
            have hkn : k = aN n X Y H B := by omega
            have hle := ct_le (fun r => (cg n X Y (kr n X Y H B r)).testBit f) (aN n X Y H B)
            rw [hkn]
            refine at_X8_sure_fold ?_
            show _ ∧ _
            rw [hw'.ra.2.2.1]
            refine br_t ((nI_leI (by omega) (by omega)).mpr (Nat.le_refl _)) ?_
            generalize ct (fun r => (cg n X Y (kr n X Y H B r)).testBit f) (aN n X Y H B) = c at q1 q2 q0 hle ⊢
            rw [nI_eq (by omega) (by omega)]
            by_cases e : c = aN n X Y H B
            · exact bs_f e ⟨q2 e, h'⟩
            · refine bs_t e ?_
              rw [show (nI c ≤ 0) ↔ (nI c ≤ nI 0) from Iff.rfl, nI_leI (by omega) (by omega)]
              by_cases e0 : c ≤ 0
              · exact br_t e0 ⟨q0 (by omega), h'⟩
              · exact br_f e0 ⟨q1 (by omega) e, h'⟩
          | succ d ih =>
            intro k hk
            have k28 := cg_28 hw.P (kr_of (n := n) (X := X) (Y := Y) (H := H) (B := B) (r := k) (by omega)).1
            refine at_X8_sure_fold ?_
            show _ ∧ _
            rw [hw'.ra.2.2.1]
            have nx := ih (k + 1) (by omega)
            rw [← nI_1] at nx
            refine br_f (by rw [nI_leI (by omega) (by omega)]; omega) ⟨vp_in_nI (by omega) (by omega), nm_r ?_ nx⟩
            rw [nI_clamp (by omega), hw'.ra.k (by omega), tbI (by omega) (by omega), nI_b, ct_succ]
        exact key (aN n X Y H B) 0 (by omega)
      have key : ∀ d k, k + d = aN n X Y H B → at_X7_sure (nI f) (fun r M1 => wp_X8_sure (nI f) MR (fun r2 M2 => r = r2 ∧ Rel M1 M2)) 1 0 (nI (ct (fun r => (cg n X Y (kr n X Y H B r)).testBit f) k)) (nI k) MX := by
        intro d
        induction d with
        | zero =>
          intro k hk
          have hkn : k = aN n X Y H B := by omega
          have hle := ct_le (fun r => (cg n X Y (kr n X Y H B r)).testBit f) (aN n X Y H B)
          rw [hkn]
          refine at_X7_sure_fold ?_
          show _ ∧ _
          rw [hw.xa.2.2.1]
          refine br_t ((nI_leI (by omega) (by omega)).mpr (Nat.le_refl _)) ?_
          rw [nI_0' (by omega), nI_eq (by omega) (by omega)]
          by_cases e0 : ct (fun r => (cg n X Y (kr n X Y H B r)).testBit f) (aN n X Y H B) = 0
          · exact bs_f e0 (rl 0 (fun z => absurd e0 z) (fun z => by omega) (fun _ => rfl))
          · refine bs_t e0 ?_
            by_cases e : ct (fun r => (cg n X Y (kr n X Y H B r)).testBit f) (aN n X Y H B) = aN n X Y H B
            · exact bs_f e (rl 2 (fun _ z => absurd e z) (fun _ => rfl) (fun z => absurd z e0))
            · exact bs_t e (rl 1 (fun _ _ => rfl) (fun z => absurd z e) (fun z => absurd z e0))
        | succ d ih =>
          intro k hk
          have k28 := cg_28 hw.P (kr_of (n := n) (X := X) (Y := Y) (H := H) (B := B) (r := k) (by omega)).1
          have nx := ih (k + 1) (by omega)
          rw [ct_succ, ← nI_1, ← nI_b] at nx
          refine at_X7_sure_fold ?_
          show _ ∧ _
          rw [hw.xa.2.2.1]
          refine br_f (by rw [nI_leI (by omega) (by omega)]; omega) (xw_of hw hw.xk hw.xa (by omega) (xw_isIn (by omega) (by omega) ?_))
          cases hb : (cg n X Y (kr n X Y H B k)).testBit f with
          | false =>
            simp only [hb] at nx
            refine br_t rfl (at_X7_sure_fold ?_)
            have e : nI (ct (fun r => (cg n X Y (kr n X Y H B r)).testBit f) k) + bI false = nI (ct (fun r => (cg n X Y (kr n X Y H B r)).testBit f) k) := by rw [nI_b]; rfl
            rw [e] at nx
            exact nx
          | true =>
            simp only [hb] at nx
            exact br_f (by decide) (at_X7_sure_fold nx)
      exact key (aN n X Y H B) 0 (by omega)
    · exact br_f (by decide) (at_X8_sure_fold (bs_t r0 (rw_noFence (F := fN n X Y) (by omega) hw'.rf.2.1.1 (fun z => absurd z hv) (fun _ => br_f (by decide) ⟨rfl, h'⟩))))
/-! weights -/
def ws (W : Nat → Int32) (T : Nat) : Nat → Int32
  | 0 => 0
  | k + 1 => if T.testBit k then ws W T k + W k else ws W T k
theorem ws_cong {W V : Nat → Int32} {T : Nat} : ∀ {k : Nat}, (∀ f, f < k → W f = V f) → ws W T k = ws V T k
  | 0, _ => rfl
  | k + 1, h => by
    show (if T.testBit k then ws W T k + W k else ws W T k) = (if T.testBit k then ws V T k + V k else ws V T k)
    rw [ws_cong (k := k) fun f hf => h f (by omega), h k (by omega)]
theorem xw_weightOf (hw : GrW n X Y H B i nx L MX MR) {T : Nat} (hT : T < 2 ^ 28) {Q : Int32 → Mem → Prop} (q : Q (ws (MX.1 33) T (fN n X Y)) MX) : wp_X7_weightOf (nI T) MX Q := by
  have h28 := hw.f28
  have key : ∀ d k, k + d = fN n X Y → at_X7_weightOf (nI T) Q 1 (ws (MX.1 33) T k) (nI k) MX := by
    intro d
    induction d with
    | zero =>
      intro k hk
      rw [show k = fN n X Y by omega]
      refine at_X7_weightOf_fold (br_t ?_ q)
      rw [hw.xf.2.1.1]; exact (nI_leI (by omega) (by omega)).mpr (Nat.le_refl _)
    | succ d ih =>
      intro k hk
      have nx := ih (k + 1) (by omega)
      have e : ws (MX.1 33) T (k + 1) = if T.testBit k then ws (MX.1 33) T k + MX.1 33 k else ws (MX.1 33) T k := rfl
      rw [e, ← nI_1] at nx
      refine at_X7_weightOf_fold (br_f ?_ (xw_isIn (by omega) (by omega) ?_))
      · rw [hw.xf.2.1.1, nI_leI (by omega) (by omega)]; omega
      · cases hb : T.testBit k with
        | false =>
          rw [hb] at nx
          exact br_t rfl (at_X7_weightOf_fold nx)
        | true =>
          rw [hb] at nx
          refine br_f (by decide) ⟨vp_in_nI (by omega) (by omega), at_X7_weightOf_fold ?_⟩
          rw [nI_clamp (by omega)]
          exact nx
  exact at_X7_weightOf_fold (key (fN n X Y) 0 (by omega))
theorem rw_sumOf (hw : GrW n X Y H B i nx L MX MR) {T : Nat} (hT : T < 2 ^ 28) {Q : Int32 → Mem → Prop} (q : Q (ws (MX.1 33) T (fN n X Y)) MR) : wp_X8_sumOf (nI T) MR Q := by
  have h28 := hw.f28
  rw [ws_cong (V := MR.1 12) hw.we] at q
  have key : ∀ d k, k + d = fN n X Y → at_X8_sumOf (nI T) Q 1 (ws (MR.1 12) T k) (nI k) MR := by
    intro d
    induction d with
    | zero =>
      intro k hk
      rw [show k = fN n X Y by omega]
      refine at_X8_sumOf_fold (br_t ?_ q)
      rw [hw.rf.2.1.1]; exact (nI_leI (by omega) (by omega)).mpr (Nat.le_refl _)
    | succ d ih =>
      intro k hk
      have nx := ih (k + 1) (by omega)
      have e : ws (MR.1 12) T (k + 1) = if T.testBit k then ws (MR.1 12) T k + MR.1 12 k else ws (MR.1 12) T k := rfl
      rw [e, ← nI_1] at nx
      refine at_X8_sumOf_fold (br_f ?_ ?_)
      · rw [hw.rf.2.1.1, nI_leI (by omega) (by omega)]; omega
      · rw [tbI (by omega) (by omega), bI_1]
        cases hb : T.testBit k with
        | false =>
          rw [hb] at nx
          refine bs_t Bool.false_ne_true (at_X8_sumOf_fold ?_)
          show at_X8_sumOf _ Q 1 (ws (MR.1 12) T k + 0) (nI k + 1) MR
          rw [Int32.add_zero]
          exact nx
        | true =>
          rw [hb] at nx
          refine bs_f rfl ⟨vp_in_nI (by omega) (by omega), at_X8_sumOf_fold ?_⟩
          rw [nI_clamp (by omega)]
          exact nx
  exact at_X8_sumOf_fold (key (fN n X Y) 0 (by omega))
/-- the best rank below k -/
def bst (v : Int32) (S : Nat → Int32) : Nat → Nat
  | 0 => 0
  | 1 => 0
  | k + 2 => if (if v = 0 then S (bst v S (k + 1)) ≤ S (k + 1) else S (k + 1) ≤ S (bst v S (k + 1))) then bst v S (k + 1) else k + 1
theorem bst_lt (v : Int32) (S : Nat → Int32) : ∀ k, 0 < k → bst v S k < k
  | 0, h => h
  | 1, _ => Nat.zero_lt_one
  | k + 2, _ => by
    have := bst_lt v S (k + 1) (by omega)
    show (if (if v = 0 then S (bst v S (k + 1)) ≤ S (k + 1) else S (k + 1) ≤ S (bst v S (k + 1))) then bst v S (k + 1) else k + 1) < k + 2
    by_cases c : (if v = 0 then S (bst v S (k + 1)) ≤ S (k + 1) else S (k + 1) ≤ S (bst v S (k + 1)))
    · rw [if_pos c]; omega
    · rw [if_neg c]; omega
theorem bst_succ (v : Int32) (S : Nat → Int32) {k : Nat} (hk : 0 < k) : bst v S (k + 1) = if (if v = 0 then S (bst v S k) ≤ S k else S k ≤ S (bst v S k)) then bst v S k else k := by
  cases k with
  | zero => omega
  | succ k => rfl
theorem xw_least (hw : GrW n X Y H B i nx L MX MR) {v : Int32} {Q : Int32 → Mem → Prop} (q : Q (nI (bst v (fun r => ws (MX.1 33) (cg n X Y (kr n X Y H B r)) (fN n X Y)) (aN n X Y H B))) MX) : wp_X7_leastBestRank v MX Q := by
  have hN := hw.a256
  have hpos := aN_pos hw
  have c28 : ∀ r, r < aN n X Y H B → cg n X Y (kr n X Y H B r) < 2 ^ 28 := fun r hr => cg_28 hw.P (kr_of hr).1
  generalize hS : (fun r => ws (MX.1 33) (cg n X Y (kr n X Y H B r)) (fN n X Y)) = S at q
  have hSr : ∀ r, ws (MX.1 33) (cg n X Y (kr n X Y H B r)) (fN n X Y) = S r := fun r => by rw [← hS]
  have key : ∀ d k, k + d = aN n X Y H B → 0 < k → at_X7_leastBestRank v Q 1 (nI (bst v S k)) (S (bst v S k)) (nI k) 0 MX := by
    intro d
    induction d with
    | zero =>
      intro k hk hk0
      rw [show k = aN n X Y H B by omega]
      refine at_X7_leastBestRank_fold (br_t ?_ q)
      rw [hw.xa.2.2.1]; exact (nI_leI (by omega) (by omega)).mpr (Nat.le_refl _)
    | succ d ih =>
      intro k hk hk0
      have nx := ih (k + 1) (by omega) (by omega)
      rw [bst_succ v S hk0, ← nI_1] at nx
      refine at_X7_leastBestRank_fold (br_f ?_ (xw_of hw hw.xk hw.xa (by omega) (xw_weightOf hw (c28 k (by omega)) ?_)))
      · rw [hw.xa.2.2.1, nI_leI (by omega) (by omega)]; omega
      · rw [hSr k]
        have y2 : (if v = 0 then S (bst v S k) ≤ S k else S k ≤ S (bst v S k)) → at_X7_leastBestRank v Q 2 (nI (bst v S k)) (S (bst v S k)) (nI k) 0 MX := fun z => by
          rw [if_pos z] at nx
          exact at_X7_leastBestRank_fold nx
        have y3 : ¬ (if v = 0 then S (bst v S k) ≤ S k else S k ≤ S (bst v S k)) → at_X7_leastBestRank v Q 3 0 0 (nI k) (S k) MX := fun z => by
          rw [if_neg z] at nx
          exact at_X7_leastBestRank_fold (at_X7_leastBestRank_fold nx)
        by_cases hv : v = 0
        · rw [if_pos hv] at y2 y3
          exact br_t hv (br_c y2 y3)
        · rw [if_neg hv] at y2 y3
          exact br_f hv (br_c y2 y3)
  refine at_X7_leastBestRank_fold ?_
  dsimp only [blk_X7_leastBestRank, blk_X7_leastBestRank_0]
  refine xw_of (r := 0) hw hw.xk hw.xa hpos (xw_weightOf hw (c28 0 hpos) ?_)
  rw [hSr 0]
  exact key (aN n X Y H B - 1) 1 (by omega) (by omega)
theorem rw_bestOf (hw : GrW n X Y H B i nx L MX MR) {v : Int32} {Q : Int32 → Mem → Prop} (q : Q (nI (bst v (fun r => ws (MX.1 33) (cg n X Y (kr n X Y H B r)) (fN n X Y)) (aN n X Y H B))) MR) : wp_X8_bestOf v MR Q := by
  have hN := hw.a256
  have hpos := aN_pos hw
  have c28 : ∀ r, r < aN n X Y H B → cg n X Y (kr n X Y H B r) < 2 ^ 28 := fun r hr => cg_28 hw.P (kr_of hr).1
  generalize hS : (fun r => ws (MX.1 33) (cg n X Y (kr n X Y H B r)) (fN n X Y)) = S at q
  have hSr : ∀ r, ws (MX.1 33) (cg n X Y (kr n X Y H B r)) (fN n X Y) = S r := fun r => by rw [← hS]
  have key : ∀ d k, k + d = aN n X Y H B → 0 < k → at_X8_bestOf v Q 1 (nI (bst v S k)) (nI k) 0 0 MR := by
    intro d
    induction d with
    | zero =>
      intro k hk hk0
      rw [show k = aN n X Y H B by omega]
      refine at_X8_bestOf_fold (br_t ?_ q)
      rw [hw.ra.2.2.1]; exact (nI_leI (by omega) (by omega)).mpr (Nat.le_refl _)
    | succ d ih =>
      intro k hk hk0
      have nx := ih (k + 1) (by omega) (by omega)
      have hb := bst_lt v S k hk0
      rw [bst_succ v S hk0, ← nI_1] at nx
      refine at_X8_bestOf_fold (br_f ?_ ⟨vp_in_nI (by omega) (by omega), ?_⟩)
      · rw [hw.ra.2.2.1, nI_leI (by omega) (by omega)]; omega
      · rw [nI_clamp (by omega), hw.ra.k (by omega)]
        refine rw_sumOf hw (c28 k (by omega)) ⟨vp_in_nI (by omega) (by omega), ?_⟩
        rw [nI_clamp (by omega), hw.ra.k (by omega)]
        refine rw_sumOf hw (c28 _ (by omega)) ?_
        rw [hSr k, hSr (bst v S k)]
        have y2 : (if v = 0 then S (bst v S k) ≤ S k else S k ≤ S (bst v S k)) → at_X8_bestOf v Q 2 (nI (bst v S k)) (nI k) 0 0 MR := fun z => by
          rw [if_pos z] at nx
          exact at_X8_bestOf_fold (at_X8_bestOf_fold nx)
        have y3 : ¬ (if v = 0 then S (bst v S k) ≤ S k else S k ≤ S (bst v S k)) → at_X8_bestOf v Q 3 0 (nI k) 0 0 MR := fun z => by
          rw [if_neg z] at nx
          exact at_X8_bestOf_fold (at_X8_bestOf_fold nx)
        by_cases hv : v = 0
        · rw [if_pos hv] at y2 y3
          exact br_t hv (br_c y2 y3)
        · rw [if_neg hv] at y2 y3
          exact br_f hv (br_c y2 y3)
  exact at_X8_bestOf_fold (key (aN n X Y H B - 1) 1 (by omega) (by omega))
theorem st_best (h : Rel MX MR) (a0 : Int32) : wp_X7_best a0 MX (fun r M1 => wp_X8_best a0 MR (fun r2 M2 => r = r2 ∧ Rel M1 M2)) := by
  have h' := Rel_thr h
  rcases Rel_gr h with ⟨x0, r0⟩ | ⟨x0, r0, nx, n, X, Y, H, B, i, L, hnx, h31, hw, hw'⟩
  · exact br_t x0 (br_t r0 ⟨rfl, h'⟩)
  · have hN := hw.a256
    have hb := bst_lt a0 (fun r => ws (MX.1 33) (cg n X Y (kr n X Y H B r)) (fN n X Y)) _ (aN_pos hw)
    have k28 := cg_28 hw.P (kr_of hb).1
    refine br_f x0 (xw_least hw (xw_of hw hw.xk hw.xa hb (xw_weightOf hw k28 ?_)))
    refine br_f r0 (rw_bestOf hw' ⟨vp_in_nI (by omega) (by omega), ?_⟩)
    rw [nI_clamp (by omega), hw'.ra.k hb]
    exact rw_sumOf hw' k28 ⟨rfl, h'⟩
theorem st_bestRank (h : Rel MX MR) (a0 : Int32) : wp_X7_bestRank a0 MX (fun r M1 => wp_X8_bestRank a0 MR (fun r2 M2 => r = r2 ∧ Rel M1 M2)) := by
  have h' := Rel_thr h
  rcases Rel_gr h with ⟨x0, r0⟩ | ⟨x0, r0, nx, n, X, Y, H, B, i, L, hnx, h31, hw, hw'⟩
  · exact br_t x0 (br_t r0 ⟨rfl, h'⟩)
  · exact br_f x0 (xw_least hw (br_f r0 (rw_bestOf hw' ⟨rfl, h'⟩)))
/-! crossings -/
noncomputable def cpp (n : Nat) (X Y : Nat → Int) (T S : Nat) : Nat → Nat
  | 0 => 0
  | k + 1 => cpp n X Y T S k + (if T.testBit k then ct (fun g => S.testBit g && crf n X Y k g) (fN n X Y) else 0)
theorem st_crossings (h : Rel MX MR) (a0 : Int32) : wp_X7_crossings a0 MX (fun r M1 => wp_X8_crossings a0 MR (fun r2 M2 => r = r2 ∧ Rel M1 M2)) := by
  have h' := Rel_thr h
  refine at_X7_crossings_fold ?_
  dsimp only [blk_X7_crossings, blk_X7_crossings_0]
  rcases Rel_gr h with ⟨x0, r0⟩ | ⟨x0, r0, nx, n, X, Y, H, B, i, L, hnx, h31, hw, hw'⟩
  · exact xw_rref0 x0 (br_f (by decide) (at_X8_crossings_fold (bs_f r0 ⟨rfl, h'⟩)))
  · have hN := hw.a256
    have h28 := hw.f28
    have i28 := hw.i28
    refine xw_rref (F := aN n X Y H B) (by omega) x0 hw.xa.2.2.1 (fun hv => ?_) (fun hv => ?_)
    · obtain ⟨r, hr, rfl⟩ := inr_nI hv
      have k28 := cg_28 hw.P (kr_of hr).1
      refine br_t rfl ?_
      have rl : wp_X8_crossings (nI r) MR (fun r2 M2 => nI (cpp n X Y (cg n X Y i) (cg n X Y (kr n X Y H B r)) (fN n X Y)) = r2 ∧ Rel MX M2) := by
        refine at_X8_crossings_fold (bs_t r0 (rw_noRank (F := aN n X Y H B) (by omega) hw'.ra.2.2.1 (fun _ => br_t rfl ?_) (fun z => absurd hv z)))
        have inner : ∀ k, k < fN n X Y → (at_X8_crossings (nI r) (fun r2 M2 => nI (cpp n X Y (cg n X Y i) (cg n X Y (kr n X Y H B r)) (fN n X Y)) = r2 ∧ Rel MX M2) 1 (nI (cpp n X Y (cg n X Y i) (cg n X Y (kr n X Y H B r)) (k + 1))) (nI (k + 1)) 0 (upI MR 0 0 0)) → ∀ d g, g + d = fN n X Y → at_X8_crossings (nI r) (fun r2 M2 => nI (cpp n X Y (cg n X Y i) (cg n X Y (kr n X Y H B r)) (fN n X Y)) = r2 ∧ Rel MX M2) 2 (nI (cpp n X Y (cg n X Y i) (cg n X Y (kr n X Y H B r)) k + (if (cg n X Y i).testBit k then ct (fun g => (cg n X Y (kr n X Y H B r)).testBit g && crf n X Y k g) g else 0))) (nI k) (nI g) (upI MR 0 0 0) := by
          intro k hk kk d
          induction d with
          | zero =>
            intro g hg
            rw [show g = fN n X Y by omega]
            refine at_X8_crossings_fold (br_t ?_ ?_)
            · rw [hw'.rf.2.1.1]; exact (nI_leI (by omega) (by omega)).mpr (Nat.le_refl _)
            · rw [nI_1]; exact kk
          | succ d ih =>
            intro g hg
            have nx := ih (g + 1) (by omega)
            rw [← nI_1] at nx
            refine at_X8_crossings_fold (br_f ?_ ?_)
            · rw [hw'.rf.2.1.1, nI_leI (by omega) (by omega)]; omega
            · rw [hw'.cut, tbI (by omega) (by omega), bI_1, nI_clamp (by omega), hw'.ra.k hr, tbI (by omega) (by omega), bI_1, nI_clamp (by omega), hw'.rf.2.2.2 k hk, Int32.add_zero]
              have c28 := cmk_lt hw.P k
              have ec : (cmk n X Y k).testBit g = crf n X Y k g := by
                cases z : crf n X Y k g with
                | true => exact cmk_tb.mpr ⟨by omega, z⟩
                | false =>
                  cases w : (cmk n X Y k).testBit g with
                  | false => rfl
                  | true => rw [(cmk_tb.mp w).2] at z; cases z
              cases hb : (cg n X Y i).testBit k with
              | false =>
                rw [hb] at nx
                exact bs_t Bool.false_ne_true (at_X8_crossings_fold nx)
              | true =>
                rw [hb, if_pos rfl, ct_succ] at nx
                refine bs_f rfl ⟨vp_in_nI (by omega) (by omega), ?_⟩
                cases hg2 : (cg n X Y (kr n X Y H B r)).testBit g with
                | false =>
                  rw [hg2] at nx
                  exact bs_t Bool.false_ne_true (at_X8_crossings_fold nx)
                | true =>
                  rw [hg2, Bool.true_and, ← Nat.add_assoc, ← nI_b] at nx
                  refine bs_f rfl ⟨vp_in_nI (by omega) (by omega), nm_r ?_ (at_X8_crossings_fold nx)⟩
                  rw [tbI (by omega) (by omega), ec]
                  rfl
        have outer : ∀ d k, k + d = fN n X Y → at_X8_crossings (nI r) (fun r2 M2 => nI (cpp n X Y (cg n X Y i) (cg n X Y (kr n X Y H B r)) (fN n X Y)) = r2 ∧ Rel MX M2) 1 (nI (cpp n X Y (cg n X Y i) (cg n X Y (kr n X Y H B r)) k)) (nI k) 0 (upI MR 0 0 0) := by
          intro d
          induction d with
          | zero =>
            intro k hk
            rw [show k = fN n X Y by omega]
            refine at_X8_crossings_fold (br_t ?_ ⟨rfl, h'⟩)
            rw [hw'.rf.2.1.1]; exact (nI_leI (by omega) (by omega)).mpr (Nat.le_refl _)
          | succ d ih =>
            intro k hk
            refine at_X8_crossings_fold (br_f ?_ ?_)
            · rw [hw'.rf.2.1.1, nI_leI (by omega) (by omega)]; omega
            · have := inner k (by omega) (ih (k + 1) (by omega)) (fN n X Y) 0 (by omega)
              have e : (if (cg n X Y i).testBit k then ct (fun g => (cg n X Y (kr n X Y H B r)).testBit g && crf n X Y k g) 0 else 0) = 0 := by split <;> rfl
              rw [e, Nat.add_zero] at this
              exact this
        exact outer (fN n X Y) 0 (by omega)
      have key : ∀ d k, k + d = fN n X Y → at_X7_crossings (nI r) (fun r2 M1 => wp_X8_crossings (nI r) MR (fun r3 M2 => r2 = r3 ∧ Rel M1 M2)) 1 0 (nI (cpp n X Y (cg n X Y i) (cg n X Y (kr n X Y H B r)) k)) (nI k) MX := by
        intro d
        induction d with
        | zero =>
          intro k hk
          rw [show k = fN n X Y by omega]
          refine at_X7_crossings_fold (br_t ?_ rl)
          rw [hw.xf.2.1.1]; exact (nI_leI (by omega) (by omega)).mpr (Nat.le_refl _)
        | succ d ih =>
          intro k hk
          have nx := ih (k + 1) (by omega)
          have e : cpp n X Y (cg n X Y i) (cg n X Y (kr n X Y H B r)) (k + 1) = cpp n X Y (cg n X Y i) (cg n X Y (kr n X Y H B r)) k + (if (cg n X Y i).testBit k then ct (fun g => (cg n X Y (kr n X Y H B r)).testBit g && crf n X Y k g) (fN n X Y) else 0) := rfl
          rw [e, ← nI_1] at nx
          refine at_X7_crossings_fold (br_f ?_ (xw_now hw (xw_isIn (by omega) (by omega) ?_)))
          · rw [hw.xf.2.1.1, nI_leI (by omega) (by omega)]; omega
          · cases hb : (cg n X Y i).testBit k with
            | false =>
              rw [hb] at nx
              exact br_t rfl (at_X7_crossings_fold nx)
            | true =>
              rw [hb, if_pos rfl, ← nI_add] at nx
              refine br_f (by decide) ⟨vp_in_nI (by omega) (by omega), xw_of hw hw.xk hw.xa hr ?_⟩
              rw [nI_clamp (by omega), hw.xf.2.2.2.1 k (by omega), nI_and]
              refine x_pop (and_lt (cmk_lt hw.P k)) (at_X7_crossings_fold ?_)
              have ec : ct (cmk n X Y k &&& cg n X Y (kr n X Y H B r)).testBit 28 = ct (fun g => (cg n X Y (kr n X Y H B r)).testBit g && crf n X Y k g) (fN n X Y) := by
                rw [ct_more (m := fN n X Y) h28 (fun g hg => ?_)]
                · refine ct_cong fun g hg => ?_
                  rw [Nat.testBit_and, Bool.and_comm]
                  congr 1
                  cases z : crf n X Y k g with
                  | true => exact cmk_tb.mpr ⟨hg, z⟩
                  | false =>
                    cases w : (cmk n X Y k).testBit g with
                    | false => rfl
                    | true => rw [(cmk_tb.mp w).2] at z; cases z
                · rw [Nat.testBit_and]
                  cases w : (cmk n X Y k).testBit g with
                  | false => rfl
                  | true => have := (cmk_tb.mp w).1; omega
              rw [ec]
              exact nx
      exact key (fN n X Y) 0 (by omega)
    · exact br_f (by decide) (at_X8_crossings_fold (bs_t r0 (rw_noRank (F := aN n X Y H B) (by omega) hw'.ra.2.2.1 (fun z => absurd z hv) (fun _ => br_f (by decide) ⟨rfl, h'⟩))))
end CT
