/-! ===== XASK: who is asked; the ground is laid ===== -/
section AK
variable (n : Nat) (X Y : Nat → Int) (H B : Nat)
noncomputable def ap (i : Nat) : Bool := asb H B (cg n X Y i)
noncomputable def ark (i : Nat) : Nat := ct (ap n X Y H B) i
noncomputable def aN : Nat := ct (ap n X Y H B) (cN n X Y)
end AK
section XASK
variable {n : Nat} {X Y : Nat → Int} {M : Mem} {H B : Nat}
theorem ark_succ (i : Nat) : ark n X Y H B (i + 1) = ark n X Y H B i + (if ap n X Y H B i then 1 else 0) := rfl
theorem ct_le' (p : Nat → Bool) {i j : Nat} (h : i ≤ j) : ct p i ≤ ct p j := by
  obtain ⟨d, rfl⟩ : ∃ d, j = i + d := ⟨j - i, by omega⟩
  rw [ct_split]; omega
theorem ark_lt {i j : Nat} (hij : i < j) (hp : ap n X Y H B i = true) : ark n X Y H B i < ark n X Y H B j := by
  have h1 : ark n X Y H B (i + 1) ≤ ark n X Y H B j := ct_le' _ hij
  rw [ark_succ, hp] at h1
  simp at h1
  omega
theorem ark_lt_aN {i : Nat} (hi : i < cN n X Y) (hp : ap n X Y H B i = true) : ark n X Y H B i < aN n X Y H B := ark_lt hi hp
theorem aN_le : aN n X Y H B ≤ cN n X Y := ct_le _ _
theorem ark_le (i : Nat) : ark n X Y H B i ≤ i := ct_le _ _
theorem ark_inj {i j : Nat} (hi : ap n X Y H B i = true) (hj : ap n X Y H B j = true) (h : ark n X Y H B i = ark n X Y H B j) : i = j := by
  rcases Nat.lt_trichotomy i j with z | z | z
  · have := ark_lt z hi; omega
  · exact z
  · have := ark_lt z hj; omega
theorem ct_kth {p : Nat → Bool} {k : Nat} : ∀ {n : Nat}, k < ct p n → ∃ i, i < n ∧ p i = true ∧ ct p i = k
  | 0, h => absurd h (Nat.not_lt_zero _)
  | n + 1, h => by
    rw [ct_succ] at h
    rcases Nat.lt_or_ge k (ct p n) with z | z
    · obtain ⟨i, a, b, c⟩ := ct_kth z
      exact ⟨i, by omega, b, c⟩
    · cases hp : p n with
      | false => rw [hp] at h; simp at h; omega
      | true => rw [hp] at h; simp at h; exact ⟨n, by omega, hp, by omega⟩
theorem ark_kth {r : Nat} (h : r < aN n X Y H B) : ∃ i, i < cN n X Y ∧ ap n X Y H B i = true ∧ ark n X Y H B i = r := ct_kth h
/-- the class's asked ones -/
def XA (n : Nat) (X Y : Nat → Int) (H B : Nat) (M : Mem) : Prop := M.1 25 3 = nI H ∧ M.1 25 4 = nI B ∧ M.1 25 2 = nI (aN n X Y H B) ∧ (∀ i, i < cN n X Y → ap n X Y H B i = true → M.1 26 (ark n X Y H B i) = nI i ∧ M.1 27 i = nI (ark n X Y H B i)) ∧ ∀ i, i < cN n X Y → ap n X Y H B i = false → M.1 27 i = -9
theorem XK_fr {M' : Mem} (h : XK n X Y M) (h1 : M'.1 22 = M.1 22) (h2 : M'.1 23 = M.1 23) (h3 : M'.1 24 = M.1 24) : XK n X Y M' := by
  unfold XK
  rw [h1, h2, h3]
  exact h
theorem XK_Fr {l : List Nat} {M' : Mem} (h : XK n X Y M) (hF : Fr l M M') (hl : ∀ q, 22 ≤ q → q ≤ 24 → q ∉ l) : XK n X Y M' := XK_fr h (hF.2 22 (hl 22 (by omega) (by omega))) (hF.2 23 (hl 23 (by omega) (by omega))) (hF.2 24 (hl 24 (by omega) (by omega)))
theorem xw_rankThem (hP : Pts n X Y) (hc : cN n X Y ≤ 256) (hK : XK n X Y M) (hH : H < 2 ^ 28) (hB : B < 2 ^ 28) (h3 : M.1 25 3 = nI H) (h4 : M.1 25 4 = nI B) {Q : Mem → Prop} (q : ∀ M', Fr [25, 26, 27] M M' → XA n X Y H B M' → Q M') : wp_X0_rankThem M Q := by
  have key : ∀ d i M', i + d = cN n X Y → Fr [25, 26, 27] M M' → M'.1 25 3 = nI H → M'.1 25 4 = nI B → M'.1 25 2 = nI (ark n X Y H B i) → (∀ j, j < i → ap n X Y H B j = true → M'.1 26 (ark n X Y H B j) = nI j ∧ M'.1 27 j = nI (ark n X Y H B j)) → (∀ j, j < i → ap n X Y H B j = false → M'.1 27 j = -9) → at_X0_rankThem Q 1 (nI i) 0 M' := by
    intro d
    induction d with
    | zero =>
      intro i M' hd hF a3 a4 a2 b1 b2
      have hi : i = cN n X Y := by omega
      refine at_X0_rankThem_fold (br_t ?_ (q M' hF ⟨a3, a4, by rw [a2, hi]; rfl, fun j hj => b1 j (by omega), fun j hj => b2 j (by omega)⟩))
      rw [hF.2 22 (by decide), hK.1, nI_leI (by omega) (by omega)]; omega
    | succ d ih =>
      intro i M' hd hF a3 a4 a2 b1 b2
      have hi : i < cN n X Y := by omega
      have c28 := cg_28 hP hi
      have vi : vp_in (nI i) 256 := vp_in_nI (by omega) (by omega)
      have hrk := ark_le (n := n) (X := X) (Y := Y) (H := H) (B := B) i
      have step := ark_succ (n := n) (X := X) (Y := Y) (H := H) (B := B) i
      refine at_X0_rankThem_fold (br_f ?_ ⟨vi, vi, nm_r (e' := nI (cg n X Y i)) ?_ ?_⟩)
      · rw [hF.2 22 (by decide), hK.1, nI_leI (by omega) (by omega)]; omega
      · rw [upI_ne (by decide), nI_clamp (by omega), hF.2 23 (by decide)]
        exact hK.2.1 i hi
      · rw [nI_clamp (by omega), show (upI M' 27 i (-9)).1 25 3 = nI H from a3, show (upI M' 27 i (-9)).1 25 4 = nI B from a4, show (upI M' 27 i (-9)).1 25 2 = nI (ark n X Y H B i) from a2, nI_and, nI_and, nI_eq (Nat.lt_of_lt_of_le (and_lt c28) (by omega)) (by omega), nI_0s (and_lt c28)]
        have no : ap n X Y H B i = false → at_X0_rankThem Q 2 (nI i) 0 (upI M' 27 i (-9)) := fun hp => by
          refine at_X0_rankThem_fold ?_
          show at_X0_rankThem Q 1 (nI i + 1) 0 _
          rw [nI_1]
          rw [hp] at step
          have step : ark n X Y H B (i + 1) = ark n X Y H B i := step
          refine ih (i + 1) _ (by omega) (Fr_up hF (by decide) _ _) a3 a4 (by rw [step]; exact a2) (fun j hj hpj => ?_) (fun j hj hpj => ?_)
          · have hji : j ≠ i := fun e => by rw [e, hp] at hpj; cases hpj
            rw [upI_ne (by decide), upI_oth hji]
            exact b1 j (by omega) hpj
          · by_cases hji : j = i
            · rw [hji, upI_same]
            · rw [upI_oth hji]; exact b2 j (by omega) hpj
        have nap : ¬ (cg n X Y i &&& H = H ∧ cg n X Y i &&& B = 0) → ap n X Y H B i = false := fun z => decide_eq_false z
        by_cases z1 : cg n X Y i &&& H = H
        · refine bs_f z1 ?_
          by_cases z2 : cg n X Y i &&& B = 0
          · have hp : ap n X Y H B i = true := decide_eq_true ⟨z1, z2⟩
            refine bs_f z2 ⟨vi, ?_, ?_⟩
            · show vp_in (M'.1 25 2) 256
              rw [a2]; exact vp_in_nI (by omega) (by omega)
            · have e25 : (upI (upI M' 27 i (-9)) 27 i (nI (ark n X Y H B i))).1 25 2 = nI (ark n X Y H B i) := a2
              rw [e25, nI_clamp (by omega)]
              have e25' : (upI (upI (upI M' 27 i (-9)) 27 i (nI (ark n X Y H B i))) 26 (ark n X Y H B i) (nI i)).1 25 2 = nI (ark n X Y H B i) := a2
              rw [e25', nI_1]
              refine at_X0_rankThem_fold ?_
              show at_X0_rankThem Q 1 (nI i + 1) 0 _
              rw [nI_1]
              rw [hp] at step
              have step : ark n X Y H B (i + 1) = ark n X Y H B i + 1 := step
              refine ih (i + 1) _ (by omega) (Fr_up (Fr_up (Fr_up (Fr_up hF (by decide) _ _) (by decide) _ _) (by decide) _ _) (by decide) _ _) a3 a4 (by rw [step]; exact upI_same ..) (fun j hj hpj => ?_) (fun j hj hpj => ?_)
              · by_cases hji : j = i
                · subst hji
                  constructor
                  · rw [upI_ne (by decide), upI_same]
                  · rw [upI_ne (by decide), upI_ne (by decide), upI_same]
                · have hl : ark n X Y H B j < ark n X Y H B i := ark_lt (by omega) hpj
                  constructor
                  · rw [upI_ne (by decide), upI_oth (by omega), upI_ne (by decide), upI_ne (by decide)]
                    exact (b1 j (by omega) hpj).1
                  · rw [upI_ne (by decide), upI_ne (by decide), upI_oth hji, upI_oth hji]
                    exact (b1 j (by omega) hpj).2
              · have hji : j ≠ i := fun e => by rw [e, hp] at hpj; cases hpj
                rw [upI_ne (by decide), upI_ne (by decide), upI_oth hji, upI_oth hji]
                exact b2 j (by omega) hpj
          · exact bs_t z2 (no (nap fun z => z2 z.2))
        · exact bs_t z1 (no (nap fun z => z1 z.1))
  refine at_X0_rankThem_fold ?_
  exact key (cN n X Y) 0 _ (by omega) (Fr_up (Fr_refl _ _) (by decide) _ _) h3 h4 (upI_same ..) (fun j hj => absurd hj (Nat.not_lt_zero j)) (fun j hj => absurd hj (Nat.not_lt_zero j))
theorem ap_all {i : Nat} : ap n X Y 0 0 i = true := by
  unfold ap
  rw [asb_iff]
  exact ⟨fun i h => by simp at h, fun i h => by simp at h⟩
/-- the whole of the class's ground, as laid -/
def XW (n : Nat) (X Y : Nat → Int) (H B : Nat) (M : Mem) : Prop := XF n X Y M ∧ XK n X Y M ∧ XA n X Y H B M
theorem xw_lay0 (hP : Pts n X Y) (hc : cN n X Y ≤ 256) (h3 : 3 ≤ n) (hC : XP n X Y M) {Q : Int32 → Mem → Prop} (q : ∀ M', Fr [0, 13, 14, 15, 16, 17, 18, 19, 20, 21, 22, 23, 24, 25, 26, 27, 31, 33] M M' → XW n X Y 0 0 M' → (∀ k, k ≠ 8 → k ≠ 9 → M'.1 0 k = M.1 0 k) → M'.1 0 8 = 1 → M'.1 0 9 = 0 → (∀ k, k ≠ 0 → M'.1 31 k = M.1 31 k) → M'.1 31 0 = 0 → (∀ f, f < 28 → M'.1 33 f = 0) → Q (nI (fN n X Y)) M') : wp_X7_lay M Q := by
  have hn := hP.1
  refine at_X7_lay_fold (br_t ?_ ?_)
  · rw [hC.1]; show nI 3 ≤ nI n; rw [nI_leI (by omega) (by omega)]; omega
  · refine xw_layOf hP hC fun M1 f1 g1 => ?_
    refine xw_cut hP hc g1 fun M2 f2 k2 => ?_
    have g2 : XF n X Y M2 := XF_Fr g1 f2 fun q a b => not_in3 (by omega) (by omega) (by omega)
    have k3 : XK n X Y (upI (upI M2 25 3 0) 25 4 0) := k2
    refine xw_rankThem hP hc k3 (H := 0) (B := 0) (by omega) (by omega) rfl rfl fun M3 f3 a3 => ?_
    have f3' : Fr [25, 26, 27] M2 M3 := Fr_trans (Fr_up (Fr_up (Fr_refl _ M2) (q := 25) (by decide) 3 0) (q := 25) (by decide) 4 0) f3
    have g3 : XF n X Y M3 := XF_Fr g2 f3' fun q a b => not_in3 (by omega) (by omega) (by omega)
    have k3' : XK n X Y M3 := XK_Fr k2 f3' fun q a b => not_in3 (by omega) (by omega) (by omega)
    have fa : Fr [13, 14, 15, 16, 17, 18, 19, 20, 21, 22, 23, 24, 25, 26, 27] M M3 := Fr_trans (Fr_trans (Fr_mono (by decide) f1) (Fr_mono (by decide) f2)) (Fr_mono (by decide) f3')
    have key : ∀ d k M', k + d = 28 → Fr [33] (upI M3 31 0 0) M' → (∀ f, f < k → M'.1 33 f = 0) → at_X7_lay Q 1 (nI k) M' := by
      intro d
      induction d with
      | zero =>
        intro k M' hd hF hz
        refine at_X7_lay_fold (br_t ?_ ?_)
        · show nI 28 ≤ nI k
          rw [nI_leI (by omega) (by omega)]; omega
        · have e13 : (upI (upI M' 0 9 0) 0 8 1).1 13 4 = nI (fN n X Y) := by
            show M'.1 13 4 = _
            rw [hF.2 13 (by decide)]
            exact g3.2.1.1
          rw [e13]
          have fb : Fr [31, 33] M3 M' := Fr_trans (Fr_up (Fr_refl _ M3) (q := 31) (by decide) 0 0) (Fr_mono (by decide) hF)
          have fc : Fr [0, 31, 33] M3 (upI (upI M' 0 9 0) 0 8 1) := Fr_up (Fr_up (Fr_mono (by decide) fb) (by decide) _ _) (by decide) _ _
          refine q _ (Fr_trans (Fr_mono (by decide) fa) (Fr_mono (by decide) fc)) ⟨XF_Fr g3 fc fun q a b => not_in3 (by omega) (by omega) (by omega), XK_Fr k3' fc fun q a b => not_in3 (by omega) (by omega) (by omega), ?_⟩ (fun k h8 h9 => ?_) (upI_same ..) rfl (fun k hk => ?_) ?_ (fun f hf => hz f (by omega))
          · unfold XA
            rw [fc.2 25 (by decide), fc.2 26 (by decide), fc.2 27 (by decide)]
            exact a3
          · rw [upI_oth h8, upI_oth h9, fb.2 0 (by decide), fa.2 0 (by decide)]
          · show M'.1 31 k = _
            rw [hF.2 31 (by decide), upI_oth hk, fa.2 31 (by decide)]
          · show M'.1 31 0 = _
            rw [hF.2 31 (by decide), upI_same]
      | succ d ih =>
        intro k M' hd hF hz
        refine at_X7_lay_fold (br_f ?_ ⟨vp_in_nI (by omega) (by omega), ?_⟩)
        · show ¬ nI 28 ≤ nI k
          rw [nI_leI (by omega) (by omega)]; omega
        · rw [nI_1, nI_clamp (by omega)]
          refine ih (k + 1) _ (by omega) (Fr_up hF (by decide) _ _) (lt_s (fun f hf => ?_) (upI_same ..))
          rw [upI_oth (by omega)]
          exact hz f hf
    exact key 28 0 _ (by omega) (Fr_refl _ _) lt_0
end XASK
