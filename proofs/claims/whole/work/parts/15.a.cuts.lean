/-! ===== CUTS: all greatest sets in order, and how they are found ===== -/
noncomputable def dl (r : Nat → Nat → Bool) (N f inn : Nat) : List Nat := ((List.range (2 ^ f)).map fun j => inn + j).filter fun T => pb (isG r N T)
noncomputable def cutl (r : Nat → Nat → Bool) (N : Nat) : List Nat := (List.range (2 ^ N)).filter fun T => pb (isG r N T)
section DL
variable {r : Nat → Nat → Bool} {N : Nat}
theorem mem_cutl {T : Nat} : T ∈ cutl r N ↔ isG r N T := by
  unfold cutl
  rw [List.mem_filter, List.mem_range, pb_iff]
  exact ⟨fun h => h.2, fun h => ⟨isG_lt h, h⟩⟩
theorem cutl_sorted : (cutl r N).Pairwise (· < ·) := List.Pairwise.filter _ List.pairwise_lt_range
theorem cutl_dl : cutl r N = dl r N N 0 := by
  unfold cutl dl
  congr 1
  rw [List.map_congr_left (g := id) (fun j _ => Nat.zero_add j), List.map_id]
theorem dl_succ (f inn : Nat) : dl r N (f + 1) inn = dl r N f inn ++ dl r N f (inn + 2 ^ f) := by
  unfold dl
  rw [show 2 ^ (f + 1) = 2 ^ f + 2 ^ f by rw [Nat.pow_succ]; omega, List.range_add, List.map_append, List.filter_append, List.map_map]
  congr 2
  apply List.map_congr_left
  intro j _
  show inn + (2 ^ f + j) = inn + 2 ^ f + j
  omega
theorem low_mod {f inn : Nat} (h : ∀ i, i < f → inn.testBit i = false) : ∃ q, inn = 2 ^ f * q := by
  have : inn % 2 ^ f = 0 := by
    apply Nat.eq_of_testBit_eq
    intro i
    rw [Nat.testBit_mod_two_pow, Nat.zero_testBit]
    by_cases g : i < f
    · rw [h i g, Bool.and_false]
    · rw [decide_eq_false g]; rfl
  exact ⟨inn / 2 ^ f, by have := Nat.div_add_mod inn (2 ^ f); omega⟩
theorem dl_tb {f inn j : Nat} (h : ∀ i, i < f → inn.testBit i = false) (hj : j < 2 ^ f) (i : Nat) (hi : f ≤ i) : (inn + j).testBit i = inn.testBit i := by
  obtain ⟨q, rfl⟩ := low_mod h
  rw [Nat.testBit_two_pow_mul_add q hj, if_neg (by omega), Nat.testBit_two_pow_mul, decide_eq_true (show i ≥ f from hi)]
  rfl
theorem or_add {f inn : Nat} (h : ∀ i, i < f + 1 → inn.testBit i = false) : inn ||| (1 <<< f) = inn + 2 ^ f := by
  obtain ⟨q, rfl⟩ := low_mod h
  apply Nat.eq_of_testBit_eq
  intro i
  have h2 : 2 ^ f < 2 ^ (f + 1) := Nat.pow_lt_pow_right (by omega) (by omega)
  rw [tb_set, Nat.testBit_two_pow_mul_add q h2, Nat.testBit_two_pow_mul, Nat.testBit_two_pow]
  by_cases g : i < f + 1
  · rw [if_pos g, decide_eq_false (show ¬ i ≥ f + 1 by omega)]; simp
  · rw [if_neg g, decide_eq_true (show i ≥ f + 1 by omega), decide_eq_false (show ¬ f = i by omega)]; simp
theorem dl_nil {f inn : Nat} (h : ∀ i, i < f → inn.testBit i = false) (hn : ∀ T, isG r N T → (∀ i, f ≤ i → T.testBit i = inn.testBit i) → False) : dl r N f inn = [] := by
  unfold dl
  rw [List.filter_eq_nil_iff]
  intro T hT hg
  obtain ⟨j, hj, rfl⟩ := List.mem_map.mp hT
  exact hn _ (pb_iff.mp hg) fun i hi => dl_tb h (List.mem_range.mp hj) i hi
theorem dl_one {inn : Nat} (h : isG r N inn) : dl r N 0 inn = [inn] := by
  unfold dl
  rw [show List.range (2 ^ 0) = [0] from rfl]
  show List.filter _ [inn] = [inn]
  rw [List.filter_cons, if_pos (pb_iff.mpr h)]
  rfl
/-- what is known where the fences from f on are decided: in, crossed, owed -/
def dInv (r : Nat → Nat → Bool) (N f inn cr ow : Nat) : Prop := f ≤ N ∧ (∀ i, inn.testBit i = true → f ≤ i ∧ i < N) ∧ (∀ i j, inn.testBit i = true → inn.testBit j = true → r i j = false) ∧ (∀ i, cr.testBit i = true ↔ i < N ∧ ∃ t, inn.testBit t = true ∧ r t i = true) ∧ ∀ i, ow.testBit i = true ↔ f ≤ i ∧ i < N ∧ inn.testBit i = false ∧ cr.testBit i = false
def dPaid (r : Nat → Nat → Bool) (f cr ow : Nat) : Prop := ∀ g, f ≤ g → ow.testBit g = true → ∃ i, i < f ∧ cr.testBit i = false ∧ r g i = true
theorem dInv_low {f inn cr ow : Nat} (h : dInv r N f inn cr ow) : ∀ i, i < f → inn.testBit i = false := fun i hi => by
  cases q : inn.testBit i with
  | false => rfl
  | true => have := (h.2.1 i q).1; omega
theorem dInv_0 : dInv r N N 0 0 0 := ⟨Nat.le_refl N, fun i h => by simp at h, fun i j h => by simp at h, fun i => ⟨fun h => by simp at h, fun ⟨_, t, h, _⟩ => by simp at h⟩, fun i => ⟨fun h => by simp at h, fun h => by omega⟩⟩
theorem dInv_end (hs : ∀ i j, r i j = r j i) {inn cr ow : Nat} (h : dInv r N 0 inn cr ow) (hp : dPaid r 0 cr ow) : isG r N inn := by
  obtain ⟨-, h1, h2, h3, h4⟩ := h
  refine ⟨fun i hi => (h1 i hi).2, h2, fun x hx hxT => ?_⟩
  cases q : cr.testBit x with
  | true => exact ((h3 x).mp q).2
  | false =>
    obtain ⟨i, hi, -⟩ := hp x (Nat.zero_le x) ((h4 x).mpr ⟨Nat.zero_le x, hx, hxT, q⟩)
    omega
theorem dInv_nil (hs : ∀ i j, r i j = r j i) {f inn cr ow : Nat} (h : dInv r N f inn cr ow) (hp : ¬ dPaid r f cr ow) : dl r N f inn = [] := by
  refine dl_nil (dInv_low h) fun T hT hb => hp ?_
  obtain ⟨h0, h1, h2, h3, h4⟩ := h
  intro g hg ho
  obtain ⟨-, g1, g2, g3⟩ := (h4 g).mp ho
  obtain ⟨t, t1, t2⟩ := hT.2.2 g g1 (by rw [hb g hg]; exact g2)
  rcases Nat.lt_or_ge t f with q | q
  · refine ⟨t, q, ?_, by rw [hs]; exact t2⟩
    cases z : cr.testBit t with
    | false => rfl
    | true =>
      obtain ⟨-, u, u1, u2⟩ := (h3 t).mp z
      have := hT.2.1 u t (by rw [hb u (h1 u u1).1]; exact u1) t1
      rw [u2] at this
      cases this
  · rw [hb t q] at t1
    have := (h3 g).mpr ⟨g1, t, t1, t2⟩
    rw [g3] at this
    cases this
theorem dInv_out1 {f inn cr ow : Nat} (h : dInv r N (f + 1) inn cr ow) (hc : cr.testBit f = true) : dInv r N f inn cr ow := by
  obtain ⟨h0, h1, h2, h3, h4⟩ := h
  refine ⟨by omega, fun i hi => by have := h1 i hi; omega, h2, h3, fun i => ?_⟩
  rw [h4 i]
  constructor
  · rintro ⟨a, b, c, d⟩; exact ⟨by omega, b, c, d⟩
  · rintro ⟨a, b, c, d⟩
    have : i ≠ f := fun e => by rw [e, hc] at d; cases d
    exact ⟨by omega, b, c, d⟩
theorem dInv_out2 {f inn cr ow : Nat} (h : dInv r N (f + 1) inn cr ow) (hc : cr.testBit f = false) : dInv r N f inn cr (ow ||| (1 <<< f)) := by
  have hl := dInv_low h
  obtain ⟨h0, h1, h2, h3, h4⟩ := h
  refine ⟨by omega, fun i hi => by have := h1 i hi; omega, h2, h3, fun i => ?_⟩
  rw [tb_set, Bool.or_eq_true, decide_eq_true_eq, h4 i]
  constructor
  · rintro (⟨a, b, c, d⟩ | e)
    · exact ⟨by omega, b, c, d⟩
    · subst e; exact ⟨Nat.le_refl _, by omega, hl _ (by omega), hc⟩
  · rintro ⟨a, b, c, d⟩
    rcases Nat.lt_or_ge f i with q | q
    · exact Or.inl ⟨by omega, b, c, d⟩
    · exact Or.inr (by omega)
theorem dInv_in (hs : ∀ i j, r i j = r j i) (hi : ∀ i, r i i = false) {f inn cr ow c1 : Nat} (h : dInv r N (f + 1) inn cr ow) (hc : cr.testBit f = false) (hc1 : ∀ i, c1.testBit i = true ↔ i < N ∧ r f i = true) : dInv r N f (inn ||| (1 <<< f)) (cr ||| c1) (aclr ow (cr ||| c1)) := by
  obtain ⟨h0, h1, h2, h3, h4⟩ := h
  have hno : ∀ t, inn.testBit t = true → r t f = false := fun t ht => by
    cases q : r t f with
    | false => rfl
    | true =>
      have := (h3 f).mpr ⟨by omega, t, ht, q⟩
      rw [hc] at this
      cases this
  have hb : ∀ i, (inn ||| (1 <<< f)).testBit i = true ↔ inn.testBit i = true ∨ i = f := fun i => by
    rw [tb_set, Bool.or_eq_true, decide_eq_true_eq]
    exact ⟨fun q => q.imp id Eq.symm, fun q => q.imp id Eq.symm⟩
  refine ⟨by omega, fun i h => ?_, fun i j h g => ?_, fun i => ?_, fun i => ?_⟩
  · rcases (hb i).mp h with q | q
    · have := h1 i q; omega
    · omega
  · rcases (hb i).mp h with q | q <;> rcases (hb j).mp g with p | p
    · exact h2 i j q p
    · rw [p]; exact hno i q
    · rw [q, hs]; exact hno j p
    · rw [q, p]; exact hi f
  · rw [Nat.testBit_or, Bool.or_eq_true, h3 i, hc1 i]
    constructor
    · rintro (⟨a, t, b, c⟩ | ⟨a, b⟩)
      · exact ⟨a, t, (hb t).mpr (Or.inl b), c⟩
      · exact ⟨a, f, (hb f).mpr (Or.inr rfl), b⟩
    · rintro ⟨a, t, b, c⟩
      rcases (hb t).mp b with q | q
      · exact Or.inl ⟨a, t, q, c⟩
      · rw [q] at c; exact Or.inr ⟨a, c⟩
  · rw [aclr_tb, Bool.and_eq_true, h4 i, Bool.not_eq_true']
    constructor
    · rintro ⟨⟨a, b, c, d⟩, e⟩
      refine ⟨by omega, b, ?_, e⟩
      rw [tb_set, c, decide_eq_false (by omega)]; rfl
    · rintro ⟨a, b, c, d⟩
      rw [tb_set, Bool.or_eq_false_iff, decide_eq_false_iff_not] at c
      rw [Nat.testBit_or, Bool.or_eq_false_iff] at d
      exact ⟨⟨by omega, b, c.1, d.1⟩, by rw [Nat.testBit_or, d.1, d.2]; rfl⟩
/-- where f is crossed, no cutting with f -/
theorem dl_in_nil {f inn : Nat} (hl : ∀ i, i < f + 1 → inn.testBit i = false) {t : Nat} (ht : inn.testBit t = true) (hr : r t f = true) : dl r N f (inn + 2 ^ f) = [] := by
  rw [← or_add hl]
  refine dl_nil (fun i hi => by rw [tb_set, hl i (by omega), decide_eq_false (by omega)]; rfl) fun T hT hb => ?_
  have htf : f + 1 ≤ t := by
    rcases Nat.lt_or_ge t (f + 1) with q | q
    · rw [hl t q] at ht; cases ht
    · exact q
  have a := hT.2.1 t f (by rw [hb t (by omega), tb_set, ht]; rfl) (by rw [hb f (Nat.le_refl f), tb_set]; simp)
  rw [hr] at a
  cases a
/-- where nothing can cross f, no cutting without it -/
theorem dl_out_nil (hs : ∀ i j, r i j = r j i) {f inn : Nat} (hfN : f < N) (hl : ∀ i, i < f + 1 → inn.testBit i = false) (hno : ∀ i, r f i = true → i < N → f < i ∧ inn.testBit i = false) : dl r N f inn = [] := by
  refine dl_nil (fun i hi => hl i (by omega)) fun T hT hb => ?_
  obtain ⟨t, t1, t2⟩ := hT.2.2 f hfN (by rw [hb f (Nat.le_refl f)]; exact hl f (by omega))
  obtain ⟨a, b⟩ := hno t (by rw [hs]; exact t2) (hT.1 t t1)
  rw [hb t (by omega), b] at t1
  cases t1
end DL
