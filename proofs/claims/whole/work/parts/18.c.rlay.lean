/-! ===== RLAY: who is asked in the reference; its ground is laid ===== -/
def d2 (X Y : Nat → Int) (b : Nat) : Int := (X b - X 0) * (X b - X 0) + (Y b - Y 0) * (Y b - Y 0)
theorem min_ex (g : Nat → Int) : ∀ n, 2 ≤ n → ∃ b, 1 ≤ b ∧ b < n ∧ ∀ c, 1 ≤ c → c < n → g b ≤ g c := by
  intro n
  induction n with
  | zero => intro h; omega
  | succ n ih =>
    intro h
    rcases Nat.lt_or_ge n 2 with z | z
    · have : n = 1 := by omega
      subst this
      exact ⟨1, by omega, by omega, fun c a b => by rw [show c = 1 by omega]; exact Int.le_refl _⟩
    · obtain ⟨b, b1, b2, b3⟩ := ih z
      rcases Int.lt_or_le (g n) (g b) with w | w
      · refine ⟨n, by omega, by omega, fun c c1 c2 => ?_⟩
        rcases Nat.lt_or_ge c n with y | y
        · have := b3 c c1 y; omega
        · rw [show c = n by omega]; exact Int.le_refl _
      · refine ⟨b, b1, by omega, fun c c1 c2 => ?_⟩
        rcases Nat.lt_or_ge c n with y | y
        · exact b3 c c1 y
        · rw [show c = n by omega]; exact w
theorem fN_pos {n : Nat} {X Y : Nat → Int} (h : 2 ≤ n) : 0 < fN n X Y := by
  obtain ⟨b, b1, b2, b3⟩ := min_ex (d2 X Y) n h
  obtain ⟨f, hf⟩ := fbt_open (n := n) (X := X) (Y := Y) (a := 0) (b := b) (by omega) b2 (by omega) (fun p hp hb => by
    have hp0 : p ≠ 0 := fun e => by rw [e] at hb; exact btw_end1 0 b hb
    have h1 := b3 p (by omega) hp
    have h2 := hb.2
    have i : d2 X Y b = d2 X Y p - 2 * dot X Y 0 b p + ((X b - X p) * (X b - X p) + (Y b - Y p) * (Y b - Y p)) := by unfold d2 dot; grind
    have q1 := isq_nonneg (X b - X p)
    have q2 := isq_nonneg (Y b - Y p)
    omega)
  have := (fbt_some hf).1
  omega
theorem cN_pos {n : Nat} {X Y : Nat → Int} : 0 < cN n X Y := by
  obtain ⟨T, h0, h1, h2, h3⟩ := g_ext (r := crf n X Y) crf_comm crf_self (N := fN n X Y) (T0 := 0) (fun i h => by simp at h) (fun i j h => by simp at h)
  obtain ⟨i, hi, -⟩ := cg_ex (n := n) (X := X) (Y := Y) ⟨h1, h2, h3⟩
  omega
def RA (n : Nat) (X Y : Nat → Int) (H B : Nat) (M : Mem) : Prop := M.1 0 18 = nI H ∧ M.1 0 19 = nI B ∧ M.1 0 22 = nI (aN n X Y H B) ∧ ∀ i, i < cN n X Y → ap n X Y H B i = true → M.1 14 (ark n X Y H B i) = nI (cg n X Y i)
def RP (n : Nat) (X Y : Nat → Int) (M : Mem) : Prop := M.1 0 5 = nI n ∧ (∀ i, i < n → M.1 4 i = iI (X i)) ∧ ∀ i, i < n → M.1 5 i = iI (Y i)
/-- the whole of the reference's ground -/
def RW (n : Nat) (X Y : Nat → Int) (H B : Nat) (M : Mem) : Prop := RF n X Y M ∧ RK n X Y M ∧ RA n X Y H B M
section RLAY
variable {n : Nat} {X Y : Nat → Int} {M : Mem} {H B : Nat}
theorem rw_findAsked (hP : Pts n X Y) (hc : cN n X Y ≤ 256) (hK : RK n X Y M) (hH : H < 2 ^ 28) (hB : B < 2 ^ 28) (h3 : M.1 0 18 = nI H) (h4 : M.1 0 19 = nI B) {Q : Mem → Prop} (q : ∀ M', Fq [14] [22] M M' → RA n X Y H B M' → Q M') : wp_X8_findAsked M Q := by
  have key : ∀ d i M', i + d = cN n X Y → Fq [14] [22] M M' → M'.1 0 22 = nI (ark n X Y H B i) → (∀ j, j < i → ap n X Y H B j = true → M'.1 14 (ark n X Y H B j) = nI (cg n X Y j)) → at_X8_findAsked Q 1 (nI i) M' := by
    intro d
    induction d with
    | zero =>
      intro i M' hd hF a2 b1
      have hi : i = cN n X Y := by omega
      refine at_X8_findAsked_fold (br_t ?_ (q M' hF ⟨by rw [hF.2.2 18 (by decide)]; exact h3, by rw [hF.2.2 19 (by decide)]; exact h4, by rw [a2, hi]; rfl, fun j hj => b1 j (by omega)⟩))
      rw [hF.2.2 20 (by decide), hK.1, nI_leI (by omega) (by omega)]; omega
    | succ d ih =>
      intro i M' hd hF a2 b1
      have hi : i < cN n X Y := by omega
      have c28 := cg_28 hP hi
      have vi : vp_in (nI i) 2000 := vp_in_nI (by omega) (by omega)
      have hrk := ark_le (n := n) (X := X) (Y := Y) (H := H) (B := B) i
      have step := ark_succ (n := n) (X := X) (Y := Y) (H := H) (B := B) i
      have e13 : M'.1 13 i = nI (cg n X Y i) := by rw [hF.2.1 13 (by decide) (by decide)]; exact hK.2 i hi
      have e18 : M'.1 0 18 = nI H := by rw [hF.2.2 18 (by decide)]; exact h3
      have e19 : M'.1 0 19 = nI B := by rw [hF.2.2 19 (by decide)]; exact h4
      have no : ap n X Y H B i = false → at_X8_findAsked Q 2 (nI i) M' := fun hp => by
        refine at_X8_findAsked_fold ?_
        show at_X8_findAsked Q 1 (nI i + 1) M'
        rw [nI_1]
        rw [hp] at step
        have step : ark n X Y H B (i + 1) = ark n X Y H B i := step
        refine ih (i + 1) M' (by omega) hF (by rw [step]; exact a2) fun j hj hpj => ?_
        have hji : j ≠ i := fun e => by rw [e, hp] at hpj; cases hpj
        exact b1 j (by omega) hpj
      have nap : ¬ (cg n X Y i &&& H = H ∧ cg n X Y i &&& B = 0) → ap n X Y H B i = false := fun z => decide_eq_false z
      refine at_X8_findAsked_fold (br_f ?_ ⟨vi, ?_⟩)
      · rw [hF.2.2 20 (by decide), hK.1, nI_leI (by omega) (by omega)]; omega
      · rw [nI_clamp (by omega), e13, e18, e19, nI_and, nI_and, nI_eq (Nat.lt_of_lt_of_le (and_lt c28) (by omega)) (by omega), nI_0s (and_lt c28)]
        by_cases z1 : cg n X Y i &&& H = H
        · refine bs_f z1 ⟨vi, ?_⟩
          by_cases z2 : cg n X Y i &&& B = 0
          · have hp : ap n X Y H B i = true := decide_eq_true ⟨z1, z2⟩
            refine bs_f z2 ⟨vi, ?_, ?_⟩
            · rw [a2]; exact vp_in_nI (by omega) (by omega)
            · rw [a2, nI_clamp (by omega)]
              have e22 : (upI M' 14 (ark n X Y H B i) (nI (cg n X Y i))).1 0 22 = nI (ark n X Y H B i) := a2
              rw [e22, nI_1]
              refine at_X8_findAsked_fold ?_
              show at_X8_findAsked Q 1 (nI i + 1) _
              rw [nI_1]
              rw [hp] at step
              have step : ark n X Y H B (i + 1) = ark n X Y H B i + 1 := step
              refine ih (i + 1) _ (by omega) (Fq_up0 (Fq_up hF (by decide) (by decide) _ _) (by decide) _) (by rw [step]; exact upI_same ..) fun j hj hpj => ?_
              by_cases hji : j = i
              · rw [hji, upI_ne (by decide), upI_same]
              · have hl : ark n X Y H B j < ark n X Y H B i := ark_lt (by omega) hpj
                rw [upI_ne (by decide), upI_oth (by omega)]
                exact b1 j (by omega) hpj
          · exact bs_t z2 (no (nap fun z => z2 z.2))
        · exact bs_t z1 (no (nap fun z => z1 z.1))
  refine at_X8_findAsked_fold ?_
  exact key (cN n X Y) 0 _ (by omega) (Fq_up0 (Fq_refl _ _ _) (by decide) _) (upI_same ..) (fun j hj => absurd hj (Nat.not_lt_zero j))
theorem RF_fr {M' : Mem} (h : RF n X Y M) (h9 : M'.1 0 9 = M.1 0 9) (h12 : M'.1 0 12 = M.1 0 12) (h6 : M'.1 6 = M.1 6) (h7 : M'.1 7 = M.1 7) (h8 : M'.1 8 = M.1 8) (h9' : M'.1 9 = M.1 9) (h10 : M'.1 10 = M.1 10) (h11 : M'.1 11 = M.1 11) : RF n X Y M' := by
  unfold RF RG RLw RB RC
  rw [h9, h12, h6, h7, h8, h9', h10, h11]
  exact h
theorem rw_lay0 (hP : Pts n X Y) (hc : cN n X Y ≤ 256) (h3 : 3 ≤ n) (hC : RP n X Y M) {Q : Int32 → Mem → Prop} (q : ∀ M', Fq [6, 7, 8, 9, 10, 11, 12, 13, 14, 21] [0, 8, 9, 12, 18, 19, 20, 22, 24, 25] M M' → RW n X Y 0 0 M' → M'.1 0 8 = 1 → M'.1 0 24 = nI (cg n X Y 0) → M'.1 0 25 = 0 → (∀ f, f < fN n X Y → M'.1 12 f = 0) → Q (nI (fN n X Y)) M') : wp_X8_lay M Q := by
  have hn := hP.1
  have key : ∀ d k M', k + d = n → Fq [6, 7] [0, 9] M M' → M'.1 0 9 = nI n → (∀ i, i < k → M'.1 6 i = iI (X i) ∧ M'.1 7 i = iI (Y i)) → at_X8_lay Q 1 (nI k) M' := by
    intro d
    induction d with
    | zero =>
      intro k M' hd hF h9 hz
      refine at_X8_lay_fold (br_t ?_ ?_)
      · rw [h9, nI_leI (by omega) (by omega)]; omega
      · have hG : RG n X Y M' := ⟨h9, fun i hi => (hz i (by omega)).1, fun i hi => (hz i (by omega)).2⟩
        refine rw_layFences hP hG fun M1 f1 g1 w1 => ?_
        refine rw_findCuttings hP hc (fN_pos (by omega)) ⟨g1.2.1.1, g1.2.2.2⟩ fun M2 f2 k2 => ?_
        have g2 : RF n X Y M2 := RF_fr g1 (f2.2.2 9 (by decide)) (f2.2.2 12 (by decide)) (f2.2.1 6 (by decide) (by decide)) (f2.2.1 7 (by decide) (by decide)) (f2.2.1 8 (by decide) (by decide)) (f2.2.1 9 (by decide) (by decide)) (f2.2.1 10 (by decide) (by decide)) (f2.2.1 11 (by decide) (by decide))
        have k2' : RK n X Y (upI (upI M2 0 18 0) 0 19 0) := k2
        refine rw_findAsked hP hc k2' (H := 0) (B := 0) (by omega) (by omega) rfl rfl fun M3 f3 a3 => ?_
        have f3' : Fq [14] [18, 19, 22] M2 M3 := Fq_trans (Fq_up0 (Fq_up0 (Fq_refl _ _ M2) (k := 18) (by decide) 0) (k := 19) (by decide) 0) (Fq_mono (fun _ h => h) (by decide) f3)
        have fa : Fq [6, 7, 8, 9, 10, 11, 12, 13, 14, 21] [0, 9, 12, 18, 19, 20, 22] M M3 := Fq_trans (Fq_trans (Fq_trans (Fq_mono (by decide) (by decide) hF) (Fq_mono (by decide) (by decide) f1)) (Fq_mono (by decide) (by decide) f2)) (Fq_mono (by decide) (by decide) f3')
        have h0 : M3.1 14 0 = nI (cg n X Y 0) := a3.2.2.2 0 cN_pos ap_all
        have e0 : (0 : Int32).toNatClampNeg = 0 := by decide
        refine ⟨vp_in_nI (n := 0) (by omega) (by omega), ?_⟩
        rw [e0, h0]
        have e12 : (upI (upI (upI M3 0 24 (nI (cg n X Y 0))) 0 25 0) 0 8 1).1 0 12 = nI (fN n X Y) := by
          show M3.1 0 12 = _
          rw [f3'.2.2 12 (by decide)]
          exact g2.2.1.1
        rw [e12]
        refine q _ (Fq_up0 (Fq_up0 (Fq_up0 (Fq_mono (by decide) (by decide) fa) (by decide) _) (by decide) _) (by decide) _) ⟨RF_fr g2 ?_ ?_ ?_ ?_ ?_ ?_ ?_ ?_, ?_, a3⟩ (upI_same ..) ?_ ?_ ?_
        · show M3.1 0 9 = _; exact f3'.2.2 9 (by decide)
        · show M3.1 0 12 = _; exact f3'.2.2 12 (by decide)
        · show M3.1 6 = _; exact f3'.2.1 6 (by decide) (by decide)
        · show M3.1 7 = _; exact f3'.2.1 7 (by decide) (by decide)
        · show M3.1 8 = _; exact f3'.2.1 8 (by decide) (by decide)
        · show M3.1 9 = _; exact f3'.2.1 9 (by decide) (by decide)
        · show M3.1 10 = _; exact f3'.2.1 10 (by decide) (by decide)
        · show M3.1 11 = _; exact f3'.2.1 11 (by decide) (by decide)
        · show M3.1 0 20 = _ ∧ ∀ i, i < cN n X Y → M3.1 13 i = _
          rw [f3'.2.2 20 (by decide), f3'.2.1 13 (by decide) (by decide)]
          exact k2
        · rw [upI_oth (by decide), upI_oth (by decide), upI_same]
        · rw [upI_oth (by decide), upI_same]
        · intro f hf
          show M3.1 12 f = 0
          rw [f3'.2.1 12 (by decide) (by decide), f2.2.1 12 (by decide) (by decide)]
          exact w1 f hf
    | succ d ih =>
      intro k M' hd hF h9 hz
      have vk : vp_in (nI k) 8 := vp_in_nI (by omega) (by omega)
      refine at_X8_lay_fold (br_f ?_ ⟨vk, vk, vk, vk, ?_⟩)
      · rw [h9, nI_leI (by omega) (by omega)]; omega
      · have e4 : M'.1 4 k = iI (X k) := by rw [hF.2.1 4 (by decide) (by decide)]; exact hC.2.1 k (by omega)
        have e5 : (upI M' 6 k (iI (X k))).1 5 k = iI (Y k) := by
          show M'.1 5 k = _
          rw [hF.2.1 5 (by decide) (by decide)]; exact hC.2.2 k (by omega)
        rw [nI_1, nI_clamp (by omega), e4, e5]
        refine ih (k + 1) _ (by omega) (Fq_up (Fq_up hF (by decide) (by decide) _ _) (by decide) (by decide) _ _) h9 (lt_s (fun i hi => ?_) ?_)
        · rw [upI_ne (by decide), upI_oth (by omega), upI_oth (by omega), upI_ne (by decide)]
          exact hz i hi
        · rw [upI_ne (by decide), upI_same, upI_same]
          exact ⟨rfl, rfl⟩
  have e5 : (upI M 0 0 0).1 0 5 = nI n := hC.1
  refine at_X8_lay_fold ?_
  show blk_X8_lay_0 Q (at_X8_lay Q) 0 M
  unfold blk_X8_lay_0
  rw [e5]
  refine br_t ?_ (key n 0 _ (by omega) (Fq_up0 (Fq_up0 (Fq_refl _ _ _) (by decide) _) (by decide) _) (upI_same ..) lt_0)
  show nI 3 ≤ nI n
  rw [nI_leI (by omega) (by omega)]; omega
end RLAY
