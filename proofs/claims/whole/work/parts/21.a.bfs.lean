/-! ===== BFS: how far all are apart from one ===== -/
def oup (D : Nat → Option Nat) (j d : Nat) : Nat → Option Nat := fun i => if i = j then some d else D i
theorem oup_same (D : Nat → Option Nat) (j d : Nat) : oup D j d j = some d := if_pos rfl
theorem oup_ne {D : Nat → Option Nat} {i j d : Nat} (h : i ≠ j) : oup D j d i = D i := if_neg h
section BF
variable (n : Nat) (X Y : Nat → Int) (H B : Nat)
noncomputable def bst1 (cur f : Nat) (S : (Nat → Option Nat) × List Nat) : (Nat → Option Nat) × List Nat := match aft n X Y cur f with
  | some j => if ap n X Y H B j = true ∧ S.1 j = none then (oup S.1 j ((S.1 cur).getD 0 + 1), S.2 ++ [j]) else S
  | none => S
noncomputable def bin (cur : Nat) (S : (Nat → Option Nat) × List Nat) : Nat → (Nat → Option Nat) × List Nat
  | 0 => S
  | k + 1 => bst1 n X Y H B cur k (bin cur S k)
noncomputable def brun : Nat → Nat → (Nat → Option Nat) × List Nat → (Nat → Option Nat) × List Nat
  | 0, _, S => S
  | d + 1, i, S => if i < S.2.length then brun d (i + 1) (bin n X Y H B (S.2.getD i 0) S (fN n X Y)) else S
def bS0 (s : Nat) : (Nat → Option Nat) × List Nat := (oup (fun _ => none) s 0, [s])
noncomputable def bfs (s : Nat) : (Nat → Option Nat) × List Nat := brun n X Y H B 257 0 (bS0 s)
/-- what holds of a state of the search -/
def BI (S : (Nat → Option Nat) × List Nat) : Prop := S.2.Nodup ∧ (∀ k c, S.2[k]? = some c → c < cN n X Y ∧ ap n X Y H B c = true ∧ ∃ d, S.1 c = some d ∧ d ≤ k) ∧ ∀ j, S.1 j ≠ none → j ∈ S.2
end BF
section BF2
variable {n : Nat} {X Y : Nat → Int} {H B : Nat}
theorem nodup_le : ∀ (N : Nat) (l : List Nat), l.Nodup → (∀ c ∈ l, c < N) → l.length ≤ N
  | 0, l, _, h => by
    cases l with
    | nil => exact Nat.le_refl 0
    | cons a l => exact absurd (h a (List.mem_cons_self ..)) (Nat.not_lt_zero a)
  | N + 1, l, hn, h => by
    have h1 : (l.filter (fun c => c < N)).length ≤ N := nodup_le N _ (hn.filter _) (fun c hc => of_decide_eq_true (List.mem_filter.mp hc).2)
    have h2 : l.length = (l.filter (fun c => decide (c < N))).length + (l.filter (fun c => !decide (c < N))).length := by
      clear hn h h1
      induction l with
      | nil => rfl
      | cons a l ih =>
        by_cases g : a < N
        · simp [g]; omega
        · simp [g]; omega
    have h3 : (l.filter (fun c => !decide (c < N))).length ≤ 1 := by
      have hnd := hn.filter (fun c => !decide (c < N))
      have hall : ∀ c ∈ l.filter (fun c => !decide (c < N)), c = N := fun c hc => by
        have a := h c (List.mem_filter.mp hc).1
        have b := (List.mem_filter.mp hc).2
        simp at b
        omega
      generalize l.filter (fun c => !decide (c < N)) = m at hnd hall
      cases m with
      | nil => exact Nat.zero_le _
      | cons a m =>
        cases m with
        | nil => exact Nat.le_refl 1
        | cons b m =>
          have e1 := hall a (List.mem_cons_self ..)
          have e2 := hall b (List.mem_cons_of_mem _ (List.mem_cons_self ..))
          have hnd : (a :: b :: m).Nodup := hnd
          rw [List.nodup_cons] at hnd
          exact absurd (by rw [e1, ← e2]; exact List.mem_cons_self ..) hnd.1
    omega
theorem BI.len {S : (Nat → Option Nat) × List Nat} (h : BI n X Y H B S) : S.2.length ≤ cN n X Y := nodup_le _ _ h.1 fun c hc => by
  obtain ⟨k, hk, e⟩ := List.getElem_of_mem hc
  exact (h.2.1 k c (by rw [List.getElem?_eq_getElem hk, e])).1
theorem BI_0 {s : Nat} (hs : s < cN n X Y) (hp : ap n X Y H B s = true) : BI n X Y H B (bS0 s) := by
  refine ⟨by simp [bS0], fun k c hc => ?_, fun j hj => ?_⟩
  · cases k with
    | zero => injection hc with hc; rw [← hc]; exact ⟨hs, hp, 0, oup_same (fun _ => none) s 0, Nat.le_refl _⟩
    | succ k => cases hc
  · by_cases e : j = s
    · rw [e]; exact List.mem_singleton.mpr rfl
    · exact absurd (show (bS0 s).1 j = none from oup_ne (D := fun _ => none) (d := 0) e) hj
/-- adding one -/
theorem BI_add {S : (Nat → Option Nat) × List Nat} (h : BI n X Y H B S) {m cur j : Nat} (hm : S.2[m]? = some cur) (hj : j < cN n X Y) (hp : ap n X Y H B j = true) (hD : S.1 j = none) : BI n X Y H B (oup S.1 j ((S.1 cur).getD 0 + 1), S.2 ++ [j]) := by
  obtain ⟨h1, h2, h3⟩ := h
  have hnj : j ∉ S.2 := fun hc => by
    obtain ⟨k, hk, e⟩ := List.getElem_of_mem hc
    obtain ⟨-, -, d, hd, -⟩ := h2 k j (by rw [List.getElem?_eq_getElem hk, e])
    rw [hD] at hd; cases hd
  obtain ⟨-, -, d0, hd0, hle0⟩ := h2 m cur hm
  have hml := get_lt hm
  refine ⟨?_, fun k c hc => ?_, fun i hi => ?_⟩
  · show (S.2 ++ [j]).Nodup
    rw [List.nodup_append]
    refine ⟨h1, by simp, fun a ha b hb => ?_⟩
    rw [List.mem_singleton] at hb
    rw [hb]
    exact fun e => hnj (e ▸ ha)
  · have hc : (S.2 ++ [j])[k]? = some c := hc
    rcases get_snoc hc with g | ⟨g1, g2⟩
    · obtain ⟨a, b, d, e, f⟩ := h2 k c g
      refine ⟨a, b, d, ?_, f⟩
      show oup S.1 j _ c = _
      rw [oup_ne (fun z => by rw [z, hD] at e; cases e)]
      exact e
    · rw [g2, g1]
      refine ⟨hj, hp, (S.1 cur).getD 0 + 1, oup_same _ _ _, ?_⟩
      rw [hd0]
      show d0 + 1 ≤ _
      omega
  · show i ∈ S.2 ++ [j]
    by_cases e : i = j
    · rw [e]; simp
    · have : S.1 i ≠ none := fun z => hi (by show oup S.1 j _ i = none; rw [oup_ne e]; exact z)
      exact List.mem_append.mpr (Or.inl (h3 i this))
theorem bst1_BI (hP : Pts n X Y) {S : (Nat → Option Nat) × List Nat} (h : BI n X Y H B S) {m cur : Nat} (hm : S.2[m]? = some cur) (f : Nat) : BI n X Y H B (bst1 n X Y H B cur f S) ∧ (bst1 n X Y H B cur f S).2[m]? = some cur := by
  unfold bst1
  cases ha : aft n X Y cur f with
  | none => exact ⟨h, hm⟩
  | some j =>
    have hj := cx_lt hP (h.2.1 m cur hm).1 ha
    show BI n X Y H B (if _ then _ else _) ∧ (if _ then _ else _ : (Nat → Option Nat) × List Nat).2[m]? = some cur
    by_cases g : ap n X Y H B j = true ∧ S.1 j = none
    · rw [if_pos g]
      refine ⟨BI_add h hm hj g.1 g.2, ?_⟩
      show (S.2 ++ [j])[m]? = _
      rw [List.getElem?_append, if_pos (get_lt hm)]
      exact hm
    · rw [if_neg g]; exact ⟨h, hm⟩
theorem bin_BI (hP : Pts n X Y) {S : (Nat → Option Nat) × List Nat} (h : BI n X Y H B S) {m cur : Nat} (hm : S.2[m]? = some cur) : ∀ k, BI n X Y H B (bin n X Y H B cur S k) ∧ (bin n X Y H B cur S k).2[m]? = some cur
  | 0 => ⟨h, hm⟩
  | k + 1 => bst1_BI hP (bin_BI hP h hm k).1 (bin_BI hP h hm k).2 k
theorem brun_BI (hP : Pts n X Y) : ∀ (d i : Nat) {S : (Nat → Option Nat) × List Nat}, BI n X Y H B S → BI n X Y H B (brun n X Y H B d i S)
  | 0, _, _, h => h
  | d + 1, i, S, h => by
    show BI n X Y H B (if i < S.2.length then brun n X Y H B d (i + 1) (bin n X Y H B (S.2.getD i 0) S (fN n X Y)) else S)
    by_cases g : i < S.2.length
    · rw [if_pos g]
      refine brun_BI hP d (i + 1) (bin_BI hP h (m := i) ?_ _).1
      rw [List.getD_eq_getElem?_getD, List.getElem?_eq_getElem g]; rfl
    · rw [if_neg g]; exact h
theorem bin_28 (hP : Pts n X Y) {cur : Nat} (hc : cur < cN n X Y) (S : (Nat → Option Nat) × List Nat) {k : Nat} (hk : fN n X Y ≤ k) : bin n X Y H B cur S k = bin n X Y H B cur S (fN n X Y) := by
  induction k with
  | zero => rw [show fN n X Y = 0 by omega]
  | succ k ih =>
    rcases Nat.lt_or_ge k (fN n X Y) with g | g
    · rw [show fN n X Y = k + 1 by omega]
    · rw [← ih g]
      show bst1 n X Y H B cur k (bin n X Y H B cur S k) = _
      have : aft n X Y cur k = none := by
        cases ha : aft n X Y cur k with
        | none => rfl
        | some j =>
          obtain ⟨g', g1, -⟩ := aft_some hP hc ha
          have := (cg_G hc).1 k g1
          omega
      unfold bst1
      rw [this]
/-- the class's state of the search -/
def XBf (n : Nat) (X Y : Nat → Int) (S : (Nat → Option Nat) × List Nat) (M : Mem) : Prop := M.1 28 2 = nI S.2.length ∧ (∀ i, i < cN n X Y → M.1 29 i = oI (S.1 i)) ∧ ∀ k c, S.2[k]? = some c → M.1 30 k = nI c
theorem oI_some9 {o : Option Nat} {N : Nat} (h : ∀ d, o = some d → d ≤ N) (hN : N < 2 ^ 31) : oI o = -9 ↔ o = none := oI_9 fun k hk => by have := h k hk; omega
theorem BI.dle {S : (Nat → Option Nat) × List Nat} (h : BI n X Y H B S) {i d : Nat} (hd : S.1 i = some d) : d ≤ cN n X Y := by
  have hm := h.2.2 i (by rw [hd]; exact fun z => by cases z)
  obtain ⟨k, hk, e⟩ := List.getElem_of_mem hm
  obtain ⟨-, -, d', hd', hle⟩ := h.2.1 k i (by rw [List.getElem?_eq_getElem hk, e])
  rw [hd] at hd'
  injection hd' with hd'
  have := h.len
  omega
theorem xw_reach {M : Mem} {S : (Nat → Option Nat) × List Nat} (hX : XBf n X Y S M) (hl : S.2.length < 256) {j d : Nat} (hj : j < 256) {Q : Mem → Prop} (q : ∀ M', Fr [28, 29, 30] M M' → XBf n X Y (oup S.1 j d, S.2 ++ [j]) M' → Q M') : wp_X6_reach (nI j) (nI d) M Q := by
  obtain ⟨h1, h2, h3⟩ := hX
  unfold wp_X6_reach
  rw [nI_clamp (by omega), show (upI M 29 j (nI d)).1 28 2 = nI S.2.length from h1]
  refine ⟨vp_in_nI hj (by omega), br_f ?_ ⟨vp_in_nI hl (by omega), ?_⟩⟩
  · show ¬ nI 256 ≤ nI S.2.length
    rw [nI_leI (by omega) (by omega)]; omega
  · rw [nI_clamp (by omega), show (upI (upI M 29 j (nI d)) 30 S.2.length (nI j)).1 28 2 = nI S.2.length from h1, nI_1]
    refine q _ (Fr_up (Fr_up (Fr_up (Fr_refl _ _) (by decide) _ _) (by decide) _ _) (by decide) _ _) ⟨?_, fun i hi => ?_, fun k c hc => ?_⟩
    · show _ = nI (S.2 ++ [j]).length
      rw [upI_same, List.length_append]; rfl
    · show _ = oI (oup S.1 j d i)
      rw [upI_ne (by decide), upI_ne (by decide)]
      by_cases e : i = j
      · rw [e, upI_same, oup_same]; rfl
      · rw [upI_oth e, oup_ne e]; exact h2 i hi
    · have hc : (S.2 ++ [j])[k]? = some c := hc
      rw [upI_ne (by decide)]
      rcases get_snoc hc with g | ⟨g1, g2⟩
      · have := get_lt g
        rw [upI_oth (by omega)]
        exact h3 k c g
      · rw [g1, g2, upI_same]
theorem xw_measure (hP : Pts n X Y) (hc : cN n X Y ≤ 256) {M : Mem} (hK : XK n X Y M) (hA : XA n X Y H B M) {s : Nat} (hs : s < cN n X Y) (hp : ap n X Y H B s = true) {Q : Mem → Prop} (q : ∀ M', Fr [28, 29, 30] M M' → XBf n X Y (bfs n X Y H B s) M' → Q M') : wp_X6_measure (nI s) M Q := by
  have h28 := hP.f28
  have fr : ∀ {M'}, Fr [28, 29, 30] M M' → XK n X Y M' ∧ XA n X Y H B M' := fun f => by
    refine ⟨XK_Fr hK f (fun q a b => not_in3 (by omega) (by omega) (by omega)), ?_⟩
    unfold XA
    rw [f.2 25 (by decide), f.2 26 (by decide), f.2 27 (by decide)]
    exact hA
  -- one place of the queue
  have l3 : ∀ (m cur : Nat), cur < cN n X Y → ∀ S0, BI n X Y H B S0 → S0.2[m]? = some cur → (∀ M', Fr [28, 29, 30] M M' → XBf n X Y (bin n X Y H B cur S0 (fN n X Y)) M' → at_X6_measure (nI s) Q 2 (nI (m + 1)) 0 0 0 M') → ∀ d f M', f + d = 28 → Fr [28, 29, 30] M M' → XBf n X Y (bin n X Y H B cur S0 f) M' → at_X6_measure (nI s) Q 3 (nI m) (nI cur) (nI f) 0 M' := by
    intro m cur hcur S0 hB0 hm kk d
    induction d with
    | zero =>
      intro f M' hf f1 g1
      refine at_X6_measure_fold (br_t ?_ ?_)
      · show nI 28 ≤ nI f
        rw [nI_leI (by omega) (by omega)]; omega
      · rw [nI_1]
        rw [bin_28 hP hcur S0 (by omega)] at g1
        exact kk M' f1 g1
    | succ d ih =>
      intro f M' hf f1 g1
      obtain ⟨hB1, hm1⟩ := bin_BI hP hB0 hm f
      have hlen := hB1.len
      obtain ⟨hK', hA'⟩ := fr f1
      have nx : ∀ M1, Fr [28, 29, 30] M M1 → XBf n X Y (bin n X Y H B cur S0 (f + 1)) M1 → at_X6_measure (nI s) Q 4 (nI m) (nI cur) (nI f) 0 M1 := fun M1 f2 g2 => by
        refine at_X6_measure_fold ?_
        show at_X6_measure (nI s) Q 3 (nI m) (nI cur) (nI f + 1) 0 M1
        rw [nI_1]
        exact ih (f + 1) M1 (by omega) f2 g2
      have e : bin n X Y H B cur S0 (f + 1) = bst1 n X Y H B cur f (bin n X Y H B cur S0 f) := rfl
      rw [e] at nx
      generalize bin n X Y H B cur S0 f = S at hB1 hm1 hlen g1 nx
      refine at_X6_measure_fold (br_f ?_ ?_)
      · show ¬ nI 28 ≤ nI f
        rw [nI_leI (by omega) (by omega)]; omega
      · unfold wp_X1_afterTurn
        rw [ix28, nI_clamp (n := cur * 28 + f) (by omega), hK'.2.2 cur f hcur (by omega)]
        refine ⟨vp_in_nI (by omega) (by omega), ?_⟩
        unfold bst1 at nx
        cases ha : aft n X Y cur f with
        | none =>
          rw [ha] at nx
          exact br_t rfl (nx M' f1 g1)
        | some j =>
          rw [ha] at nx
          have hj := cx_lt hP hcur ha
          have vj : vp_in (nI j) 256 := vp_in_nI (by omega) (by omega)
          refine br_f (ne9 (by omega)) ⟨vj, ?_⟩
          show (M'.1 27 (nI j).toNatClampNeg = -9 → _) ∧ (¬ M'.1 27 (nI j).toNatClampNeg = -9 → vp_in (nI j) 256 ∧ ((¬ M'.1 29 (nI j).toNatClampNeg = -9 → _) ∧ (M'.1 29 (nI j).toNatClampNeg = -9 → vp_in (nI cur) 256 ∧ wp_X6_reach (nI j) (M'.1 29 (nI cur).toNatClampNeg + 1) M' _)))
          rw [nI_clamp (by omega), nI_clamp (by omega), g1.2.1 j hj, g1.2.1 cur hcur]
          cases hap : ap n X Y H B j with
          | false =>
            simp only [hap] at nx
            rw [hA'.2.2.2.2 j hj hap]
            exact br_t rfl (nx M' f1 g1)
          | true =>
            have hrk := ark_le (n := n) (X := X) (Y := Y) (H := H) (B := B) j
            simp only [hap, true_and] at nx
            rw [(hA'.2.2.2.1 j hj hap).2]
            refine br_f (ne9 (by omega)) ⟨vj, ?_⟩
            cases hD : S.1 j with
            | some d' =>
              have := hB1.dle hD
              rw [hD, if_neg (fun z => by cases z)] at nx
              exact bs_t (ne9 (by omega)) (nx M' f1 g1)
            | none =>
              rw [hD, if_pos rfl] at nx
              obtain ⟨-, -, d0, hd0, hle0⟩ := hB1.2.1 m cur hm1
              have hml := get_lt hm1
              have hB2 := BI_add hB1 hm1 hj hap hD
              have hl2 := hB2.len
              have hl2 : (S.2 ++ [j]).length ≤ cN n X Y := hl2
              rw [List.length_append] at hl2
              have hl2 : S.2.length + 1 ≤ cN n X Y := hl2
              refine bs_f rfl ⟨vp_in_nI (by omega) (by omega), ?_⟩
              rw [hd0]
              rw [hd0] at nx
              show wp_X6_reach (nI j) (nI d0 + 1) M' _
              rw [nI_1]
              exact xw_reach g1 (by omega) (by omega) fun M1 f2 g2 => nx M1 (Fr_trans f1 f2) g2
  -- the queue
  have l2 : ∀ (d i : Nat) (S : (Nat → Option Nat) × List Nat) (M' : Mem), d + i = 257 → i ≤ S.2.length → BI n X Y H B S → Fr [28, 29, 30] M M' → XBf n X Y S M' → (∀ M1, Fr [28, 29, 30] M M1 → XBf n X Y (brun n X Y H B d i S) M1 → Q M1) → at_X6_measure (nI s) Q 2 (nI i) 0 0 0 M' := by
    intro d
    induction d with
    | zero =>
      intro i S M' hd hi hB f1 g1 kk
      have := hB.len
      omega
    | succ d ih =>
      intro i S M' hd hi hB f1 g1 kk
      have hlen := hB.len
      have e : brun n X Y H B (d + 1) i S = if i < S.2.length then brun n X Y H B d (i + 1) (bin n X Y H B (S.2.getD i 0) S (fN n X Y)) else S := rfl
      rw [e] at kk
      refine at_X6_measure_fold ?_
      by_cases g : i < S.2.length
      · have hget : S.2[i]? = some (S.2.getD i 0) := by
          rw [List.getD_eq_getElem?_getD, List.getElem?_eq_getElem g]; rfl
        rw [if_pos g] at kk
        generalize S.2.getD i 0 = cur at hget kk
        have hcur := (hB.2.1 i cur hget).1
        refine br_f ?_ (br_f ?_ ⟨vp_in_nI (by omega) (by omega), ?_⟩)
        · show ¬ nI 256 ≤ nI i
          rw [nI_leI (by omega) (by omega)]; omega
        · rw [g1.1, nI_leI (by omega) (by omega)]; omega
        · rw [nI_clamp (by omega), g1.2.2 i cur hget]
          refine l3 i cur hcur S hB hget (fun M1 f2 g2 => ih (i + 1) _ M1 (by omega) ?_ (bin_BI hP hB hget _).1 f2 g2 kk) 28 0 M' (by omega) f1 g1
          have := get_lt (bin_BI hP hB hget (fN n X Y)).2
          omega
      · rw [if_neg g] at kk
        refine br_c (fun _ => kk M' f1 g1) (fun _ => br_t ?_ (kk M' f1 g1))
        rw [g1.1, nI_leI (by omega) (by omega)]; omega
  -- all unknown first
  have l1 : ∀ d k M', k + d = cN n X Y → Fr [28, 29, 30] M M' → (∀ i, i < k → M'.1 29 i = -9) → at_X6_measure (nI s) Q 1 (nI k) 0 0 0 M' := by
    intro d
    induction d with
    | zero =>
      intro k M' hk f1 h29
      refine at_X6_measure_fold (br_t ?_ ?_)
      · rw [(fr f1).1.1, nI_leI (by omega) (by omega)]; omega
      · have hX0 : XBf n X Y (fun _ => none, []) (upI M' 28 2 0) := ⟨upI_same .., fun i hi => h29 i (by omega), fun k c z => (by cases z)⟩
        refine xw_reach (j := s) (d := 0) hX0 (by decide) (by omega) fun M1 f2 g2 => ?_
        refine l2 257 0 (bS0 s) M1 (by omega) (Nat.zero_le _) (BI_0 hs hp) (Fr_trans (Fr_up f1 (by decide) _ _) f2) g2 fun M2 f3 g3 => q M2 f3 g3
    | succ d ih =>
      intro k M' hk f1 h29
      refine at_X6_measure_fold (br_f ?_ ⟨vp_in_nI (by omega) (by omega), ?_⟩)
      · rw [(fr f1).1.1, nI_leI (by omega) (by omega)]; omega
      · rw [nI_1, nI_clamp (by omega)]
        refine ih (k + 1) _ (by omega) (Fr_up f1 (by decide) _ _) (lt_s (fun i hi => ?_) (upI_same ..))
        rw [upI_oth (by omega)]
        exact h29 i hi
  exact at_X6_measure_fold (l1 (cN n X Y) 0 M (by omega) (Fr_refl _ _) lt_0)
/-- the reference's state -/
def RBf (n : Nat) (X Y : Nat → Int) (H B : Nat) (S : (Nat → Option Nat) × List Nat) (M : Mem) : Prop := (∀ i, i < cN n X Y → ap n X Y H B i = true → M.1 19 (ark n X Y H B i) = oI (S.1 i)) ∧ ∀ k c, S.2[k]? = some c → M.1 20 k = nI (ark n X Y H B c)
theorem RW_fr {M M' : Mem} (h : RW n X Y H B M) (f1 : Fq [19, 20] [] M M') : RW n X Y H B M' := by
  obtain ⟨a, b, c⟩ := h
  refine ⟨RF_fr a (f1.2.2 9 (by decide)) (f1.2.2 12 (by decide)) (f1.2.1 6 (by decide) (by decide)) (f1.2.1 7 (by decide) (by decide)) (f1.2.1 8 (by decide) (by decide)) (f1.2.1 9 (by decide) (by decide)) (f1.2.1 10 (by decide) (by decide)) (f1.2.1 11 (by decide) (by decide)), ?_, ?_⟩
  · unfold RK
    rw [f1.2.2 20 (by decide), f1.2.1 13 (by decide) (by decide)]
    exact b
  · unfold RA
    rw [f1.2.2 18 (by decide), f1.2.2 19 (by decide), f1.2.2 22 (by decide), f1.2.1 14 (by decide) (by decide)]
    exact c
theorem rw_measure (hP : Pts n X Y) (hc : cN n X Y ≤ 256) (hH : H < 2 ^ 28) (hBl : B < 2 ^ 28) {M : Mem} (hW : RW n X Y H B M) {s : Nat} (hs : s < cN n X Y) (hp : ap n X Y H B s = true) {Q : Mem → Prop} (q : ∀ M', Fq [19, 20] [] M M' → RBf n X Y H B (bfs n X Y H B s) M' → Q M') : wp_X8_measure (nI (ark n X Y H B s)) M Q := by
  have h28 := hP.f28
  have hN := aN_le (n := n) (X := X) (Y := Y) (H := H) (B := B)
  have hsa := ark_lt_aN hs hp
  have l3 : ∀ (m cur : Nat), cur < cN n X Y → ap n X Y H B cur = true → ∀ S0, BI n X Y H B S0 → S0.2[m]? = some cur → (∀ M', Fq [19, 20] [] M M' → RBf n X Y H B (bin n X Y H B cur S0 (fN n X Y)) M' → at_X8_measure (nI (ark n X Y H B s)) Q 2 (nI (bin n X Y H B cur S0 (fN n X Y)).2.length) (nI (m + 1)) 0 0 0 0 M') → ∀ d f M', f + d = fN n X Y → Fq [19, 20] [] M M' → RBf n X Y H B (bin n X Y H B cur S0 f) M' → at_X8_measure (nI (ark n X Y H B s)) Q 3 (nI (bin n X Y H B cur S0 f).2.length) (nI m) (nI (cg n X Y cur)) (nI f) 0 0 M' := by
    intro m cur hcur hcp S0 hB0 hm kk d
    induction d with
    | zero =>
      intro f M' hf f1 g1
      have hW' := RW_fr hW f1
      rw [show f = fN n X Y by omega] at g1 ⊢
      refine at_X8_measure_fold (br_t ?_ ?_)
      · rw [hW'.1.2.1.1]; exact (nI_leI (by omega) (by omega)).mpr (Nat.le_refl _)
      · rw [nI_1]
        exact kk M' f1 g1
    | succ d ih =>
      intro f M' hf f1 g1
      obtain ⟨hB1, hm1⟩ := bin_BI hP hB0 hm f
      have hlen := hB1.len
      have hW' := RW_fr hW f1
      have c28 := cg_28 hP hcur
      have nx : ∀ M1, Fq [19, 20] [] M M1 → RBf n X Y H B (bin n X Y H B cur S0 (f + 1)) M1 → at_X8_measure (nI (ark n X Y H B s)) Q 4 (nI (bin n X Y H B cur S0 (f + 1)).2.length) (nI m) (nI (cg n X Y cur)) (nI f) 0 0 M1 := fun M1 f2 g2 => by
        refine at_X8_measure_fold ?_
        show at_X8_measure _ Q 3 _ (nI m) (nI (cg n X Y cur)) (nI f + 1) 0 0 M1
        rw [nI_1]
        exact ih (f + 1) M1 (by omega) f2 g2
      have e : bin n X Y H B cur S0 (f + 1) = bst1 n X Y H B cur f (bin n X Y H B cur S0 f) := rfl
      rw [e] at nx
      generalize bin n X Y H B cur S0 f = S at hB1 hm1 hlen g1 nx ⊢
      refine at_X8_measure_fold (br_f ?_ (rw_comes hP hW'.1 hH hBl hW'.2.2.1 hW'.2.2.2.1 c28 (by omega) ?_))
      · rw [hW'.1.2.1.1, nI_leI (by omega) (by omega)]; omega
      · unfold bst1 at nx
        rcases cms_aft hP (H := H) (B := B) (f := f) hcur hcp with ⟨h1, h2 | ⟨j, h2, h3, h4⟩⟩ | ⟨g, j, h1, h2, h3, h4, h5, h6, h7, h8⟩
        · rw [h1]
          rw [h2] at nx
          exact br_t rfl (nx M' f1 g1)
        · rw [h1]
          rw [h2] at nx
          simp only [h4] at nx
          exact br_t rfl (nx M' f1 g1)
        · rw [h1]
          rw [h3] at nx
          simp only [h5, true_and] at nx
          have hrk := ark_le (n := n) (X := X) (Y := Y) (H := H) (B := B) j
          have hrc := ark_le (n := n) (X := X) (Y := Y) (H := H) (B := B) cur
          have vj : vp_in (nI (ark n X Y H B j)) 2000 := vp_in_nI (by omega) (by omega)
          refine br_f (ne9 (by omega)) ?_
          show wp_X8_rankOf ((nI (cg n X Y cur) &&& (((1 : Int32) <<< (nI f &&& 31)) ^^^ ((-1) : Int32))) ||| ((1 : Int32) <<< (nI g &&& 31))) M' _
          rw [nI_shl (by omega), nI_shl (by omega), nI_clr, nI_or]
          show wp_X8_rankOf (nI (trn (cg n X Y cur) f g)) M' _
          rw [← h6]
          refine rw_rankOf hP hc hW'.2.2 h4 h5 ⟨vj, ?_⟩
          rw [nI_clamp (by omega), g1.1 j h4 h5]
          cases hD : S.1 j with
          | some d' =>
            have := hB1.dle hD
            rw [hD, if_neg (fun z => by cases z)] at nx
            exact bs_t (ne9 (by omega)) (nx M' f1 g1)
          | none =>
            rw [hD, if_pos rfl] at nx
            obtain ⟨-, -, d0, hd0, hle0⟩ := hB1.2.1 m cur hm1
            have hml := get_lt hm1
            refine bs_f rfl ⟨vp_in_nI (by omega) (by omega), ?_⟩
            rw [nI_clamp (by omega), g1.2 m cur hm1]
            refine ⟨vp_in_nI (by omega) (by omega), vj, vp_in_nI (by omega) (by omega), ?_⟩
            rw [nI_clamp (by omega), g1.1 cur hcur hcp, hd0, nI_1, nI_clamp (by omega)]
            rw [hd0] at nx
            show at_X8_measure _ Q 4 _ (nI m) (nI (cg n X Y cur)) (nI f) 0 0 (upI (upI M' 19 (ark n X Y H B j) (nI d0 + 1)) 20 S.2.length (nI (ark n X Y H B j)))
            rw [nI_1]
            have := nx (upI (upI M' 19 (ark n X Y H B j) (nI (d0 + 1))) 20 S.2.length (nI (ark n X Y H B j))) (Fq_up (Fq_up f1 (by decide) (by decide) _ _) (by decide) (by decide) _ _) ⟨fun i hi hip => ?_, fun k c hck => ?_⟩
            · rw [List.length_append] at this
              exact this
            · show _ = oI (oup S.1 j (d0 + 1) i)
              rw [upI_ne (by decide)]
              by_cases ei : i = j
              · rw [ei, upI_same, oup_same]; rfl
              · rw [upI_oth (fun z => ei (ark_inj hip h5 z)), oup_ne ei]; exact g1.1 i hi hip
            · have hck : (S.2 ++ [j])[k]? = some c := hck
              rcases get_snoc hck with w | ⟨w1, w2⟩
              · have := get_lt w
                rw [upI_oth (by omega), upI_ne (by decide)]
                exact g1.2 k c w
              · rw [w1, w2, upI_same]
  have l2 : ∀ (d i : Nat) (S : (Nat → Option Nat) × List Nat) (M' : Mem), d + i = 257 → i ≤ S.2.length → BI n X Y H B S → Fq [19, 20] [] M M' → RBf n X Y H B S M' → (∀ M1, Fq [19, 20] [] M M1 → RBf n X Y H B (brun n X Y H B d i S) M1 → Q M1) → at_X8_measure (nI (ark n X Y H B s)) Q 2 (nI S.2.length) (nI i) 0 0 0 0 M' := by
    intro d
    induction d with
    | zero =>
      intro i S M' hd hi hB f1 g1 kk
      have := hB.len
      omega
    | succ d ih =>
      intro i S M' hd hi hB f1 g1 kk
      have hlen := hB.len
      have e : brun n X Y H B (d + 1) i S = if i < S.2.length then brun n X Y H B d (i + 1) (bin n X Y H B (S.2.getD i 0) S (fN n X Y)) else S := rfl
      rw [e] at kk
      refine at_X8_measure_fold ?_
      by_cases g : i < S.2.length
      · have hget : S.2[i]? = some (S.2.getD i 0) := by
          rw [List.getD_eq_getElem?_getD, List.getElem?_eq_getElem g]; rfl
        rw [if_pos g] at kk
        generalize S.2.getD i 0 = cur at hget kk
        obtain ⟨hcur, hcp, -⟩ := hB.2.1 i cur hget
        have hW' := RW_fr hW f1
        have hrc := ark_le (n := n) (X := X) (Y := Y) (H := H) (B := B) cur
        refine br_f ?_ ⟨vp_in_nI (by omega) (by omega), ?_⟩
        · rw [nI_leI (by omega) (by omega)]; omega
        · rw [nI_clamp (by omega), g1.2 i cur hget, nI_clamp (by omega), hW'.2.2.2.2.2 cur hcur hcp]
          refine ⟨vp_in_nI (by omega) (by omega), nm_e ?_⟩
          refine l3 i cur hcur hcp S hB hget (fun M1 f2 g2 => ih (i + 1) _ M1 (by omega) ?_ (bin_BI hP hB hget _).1 f2 g2 kk) (fN n X Y) 0 M' (by omega) f1 g1
          have := get_lt (bin_BI hP hB hget (fN n X Y)).2
          omega
      · rw [if_neg g] at kk
        refine br_t ?_ (kk M' f1 g1)
        rw [nI_leI (by omega) (by omega)]; omega
  have l1 : ∀ d k M', k + d = aN n X Y H B → Fq [19, 20] [] M M' → (∀ i, i < k → M'.1 19 i = -9) → at_X8_measure (nI (ark n X Y H B s)) Q 1 (nI k) 0 0 0 0 0 M' := by
    intro d
    induction d with
    | zero =>
      intro k M' hk f1 h19
      have hW' := RW_fr hW f1
      refine at_X8_measure_fold (br_t ?_ ⟨vp_in_nI (by omega) (by omega), vp_in_nI (n := 0) (by omega) (by omega), ?_⟩)
      · rw [hW'.2.2.2.2.1, nI_leI (by omega) (by omega)]; omega
      · rw [nI_clamp (by omega), show (0 : Int32).toNatClampNeg = 0 by decide]
        refine l2 257 0 (bS0 s) _ (by omega) (Nat.zero_le _) (BI_0 hs hp) (Fq_up (Fq_up f1 (by decide) (by decide) _ _) (by decide) (by decide) _ _) ⟨fun i hi hip => ?_, fun k c hck => ?_⟩ fun M2 f3 g3 => q M2 f3 g3
        · show _ = oI (oup (fun _ => none) s 0 i)
          have := ark_lt_aN hi hip
          rw [upI_ne (by decide)]
          by_cases ei : i = s
          · rw [ei, upI_same, oup_same]; rfl
          · rw [upI_oth (fun z => ei (ark_inj hip hp z)), oup_ne ei]; exact h19 _ (by omega)
        · cases k with
          | zero => injection hck with hck; rw [← hck, upI_same]
          | succ k => cases hck
    | succ d ih =>
      intro k M' hk f1 h19
      have hW' := RW_fr hW f1
      refine at_X8_measure_fold (br_f ?_ ⟨vp_in_nI (by omega) (by omega), ?_⟩)
      · rw [hW'.2.2.2.2.1, nI_leI (by omega) (by omega)]; omega
      · rw [nI_1, nI_clamp (by omega)]
        refine ih (k + 1) _ (by omega) (Fq_up f1 (by decide) (by decide) _ _) (lt_s (fun i hi => ?_) (upI_same ..))
        rw [upI_oth (by omega)]
        exact h19 i hi
  exact at_X8_measure_fold (l1 (aN n X Y H B) 0 M (by omega) (Fq_refl _ _ _) lt_0)
end BF2
