/-! ===== GRAPH: greatest sets without crossings ===== -/
/-- T is a greatest set of the points below N no two of which r joins -/
def isG (r : Nat → Nat → Bool) (N T : Nat) : Prop := (∀ i, T.testBit i = true → i < N) ∧ (∀ i j, T.testBit i = true → T.testBit j = true → r i j = false) ∧ ∀ x, x < N → T.testBit x = false → ∃ t, T.testBit t = true ∧ r t x = true
theorem tb_set (T u i : Nat) : (T ||| (1 <<< u)).testBit i = (T.testBit i || decide (u = i)) := by rw [Nat.testBit_or, tb_one]
theorem g_ext {r : Nat → Nat → Bool} (hs : ∀ i j, r i j = r j i) (hi : ∀ i, r i i = false) {N T0 : Nat} (h1 : ∀ i, T0.testBit i = true → i < N) (h2 : ∀ i j, T0.testBit i = true → T0.testBit j = true → r i j = false) : ∃ T : Nat, (∀ i, T0.testBit i = true → T.testBit i = true) ∧ isG r N T := by
  have key : ∀ k, k ≤ N → ∃ T : Nat, (∀ i, T0.testBit i = true → T.testBit i = true) ∧ (∀ i, T.testBit i = true → i < N) ∧ (∀ i j, T.testBit i = true → T.testBit j = true → r i j = false) ∧ ∀ x, x < k → T.testBit x = false → ∃ t, T.testBit t = true ∧ r t x = true := by
    intro k
    induction k with
    | zero => intro _; exact ⟨T0, fun _ h => h, h1, h2, fun x hx => by omega⟩
    | succ k ih =>
      intro hk
      obtain ⟨T, p1, p2, p3, p4⟩ := ih (by omega)
      by_cases hc : ∃ t, T.testBit t = true ∧ r t k = true
      · refine ⟨T, p1, p2, p3, fun x hx hxT => ?_⟩
        rcases Nat.lt_or_ge x k with h | h
        · exact p4 x h hxT
        · rw [show x = k by omega]; exact hc
      · have hno : ∀ t, T.testBit t = true → r t k = false := fun t ht => by
          cases h : r t k
          · rfl
          · exact absurd ⟨t, ht, h⟩ hc
        have hb : ∀ i, (T ||| (1 <<< k)).testBit i = true → T.testBit i = true ∨ i = k := fun i h => by
          rw [tb_set] at h
          rcases Bool.or_eq_true_iff.mp h with h | h
          · exact Or.inl h
          · exact Or.inr (of_decide_eq_true h).symm
        refine ⟨T ||| (1 <<< k), fun i h => by rw [tb_set, p1 i h]; rfl, fun i h => ?_, fun i j h g => ?_, fun x hx hxT => ?_⟩
        · rcases hb i h with h | h
          · exact p2 i h
          · omega
        · rcases hb i h with h | h
          · rcases hb j g with g | g
            · exact p3 i j h g
            · rw [g]; exact hno i h
          · rcases hb j g with g | g
            · rw [h, hs]; exact hno j g
            · rw [h, g]; exact hi k
        · rw [tb_set] at hxT
          have hxT := Bool.or_eq_false_iff.mp hxT
          have hne : x ≠ k := fun e => by
            have := hxT.2
            rw [e] at this
            simp at this
          obtain ⟨t, ht, hr⟩ := p4 x (by omega) hxT.1
          exact ⟨t, by rw [tb_set, ht]; rfl, hr⟩
  obtain ⟨T, p1, p2, p3, p4⟩ := key N (Nat.le_refl N)
  exact ⟨T, p1, p2, p3, p4⟩
theorem g_img (φ : Nat → Nat) (T : Nat) : ∀ N, ∃ m : Nat, ∀ j : Nat, m.testBit j = true ↔ ∃ f, f < N ∧ T.testBit f = true ∧ φ f = j := by
  intro N
  induction N with
  | zero => exact ⟨0, fun j => ⟨fun h => absurd h (by rw [Nat.zero_testBit]; exact Bool.false_ne_true), fun ⟨f, h, _⟩ => absurd h (Nat.not_lt_zero f)⟩⟩
  | succ N ih =>
    obtain ⟨m, hm⟩ := ih
    by_cases hT : T.testBit N = true
    · refine ⟨m ||| (1 <<< φ N), fun j => ?_⟩
      rw [tb_set]
      constructor
      · intro h
        rcases Bool.or_eq_true_iff.mp h with h | h
        · obtain ⟨f, h1, h2, h3⟩ := (hm j).mp h
          exact ⟨f, by omega, h2, h3⟩
        · exact ⟨N, by omega, hT, of_decide_eq_true h⟩
      · rintro ⟨f, h1, h2, h3⟩
        rcases Nat.lt_or_ge f N with h | h
        · rw [(hm j).mpr ⟨f, h, h2, h3⟩]; rfl
        · have : f = N := by omega
          subst this
          rw [decide_eq_true h3, Bool.or_true]
    · refine ⟨m, fun j => ⟨fun h => ?_, ?_⟩⟩
      · obtain ⟨f, h1, h2, h3⟩ := (hm j).mp h
        exact ⟨f, by omega, h2, h3⟩
      · rintro ⟨f, h1, h2, h3⟩
        refine (hm j).mpr ⟨f, ?_, h2, h3⟩
        rcases Nat.lt_or_ge f N with h | h
        · exact h
        · rw [show f = N by omega] at h2; exact absurd h2 hT
/-- the greatest sets of a part of a graph are no more than those of the graph -/
theorem g_inject {r1 r2 : Nat → Nat → Bool} {N1 N2 : Nat} (φ : Nat → Nat) (hs : ∀ i j, r2 i j = r2 j i) (hi : ∀ i, r2 i i = false) (hφ : ∀ f, f < N1 → φ f < N2) (hr : ∀ f g, f < N1 → g < N1 → r1 f g = r2 (φ f) (φ g)) {L : List Nat} (hn : L.Nodup) (hL : ∀ T ∈ L, isG r1 N1 T) : ∃ L2 : List Nat, L2.Nodup ∧ (∀ T ∈ L2, isG r2 N2 T) ∧ L2.length = L.length := by
  have hex : ∀ T : Nat, isG r1 N1 T → ∃ T2 : Nat, isG r2 N2 T2 ∧ ∀ f, T.testBit f = true → T2.testBit (φ f) = true := by
    intro T hT
    obtain ⟨m, hm⟩ := g_img φ T N1
    obtain ⟨T2, h1, h2⟩ := g_ext (r := r2) hs hi (N := N2) (T0 := m) (fun j hj => by
      obtain ⟨f, a, b, c⟩ := (hm j).mp hj
      rw [← c]; exact hφ f a) (fun i j a b => by
      obtain ⟨f, f1, f2, f3⟩ := (hm i).mp a
      obtain ⟨g, g1, g2, g3⟩ := (hm j).mp b
      rw [← f3, ← g3, ← hr f g f1 g1]
      exact hT.2.1 f g f2 g2)
    exact ⟨T2, h2, fun f hf => h1 _ ((hm _).mpr ⟨f, hT.1 f hf, hf, rfl⟩)⟩
  have half : ∀ T T' T2 : Nat, isG r1 N1 T → isG r1 N1 T' → isG r2 N2 T2 → (∀ f, T.testBit f = true → T2.testBit (φ f) = true) → (∀ f, T'.testBit f = true → T2.testBit (φ f) = true) → ∀ f, T'.testBit f = true → T.testBit f = true := by
    intro T T' T2 a b c d e f hf
    cases h : T.testBit f with
    | true => rfl
    | false =>
      obtain ⟨t, ht, hr1⟩ := a.2.2 f (b.1 f hf) h
      rw [hr t f (a.1 t ht) (b.1 f hf), c.2.1 _ _ (d t ht) (e f hf)] at hr1
      cases hr1
  have hch : ∃ ex : Nat → Nat, ∀ T : Nat, isG r1 N1 T → isG r2 N2 (ex T) ∧ ∀ f, T.testBit f = true → (ex T).testBit (φ f) = true := by
    refine ⟨fun T => @dite _ (isG r1 N1 T) (Classical.propDecidable _) (fun h => Classical.choose (hex T h)) (fun _ => 0), fun T hT => ?_⟩
    have := Classical.choose_spec (hex T hT)
    simp only [dif_pos hT]
    exact this
  obtain ⟨ex, hx⟩ := hch
  refine ⟨L.map ex, ?_, fun T hT => ?_, List.length_map ..⟩
  · refine List.pairwise_map.mpr (hn.imp_of_mem (fun {a b} ha hb hab e => hab ?_))
    have xa := hx a (hL a ha)
    have xb := hx b (hL b hb)
    apply Nat.eq_of_testBit_eq
    intro i
    have h1 := half a b (ex a) (hL a ha) (hL b hb) xa.1 xa.2 (by rw [e]; exact xb.2) i
    have h2 := half b a (ex a) (hL b hb) (hL a ha) xa.1 (by rw [e]; exact xb.2) xa.2 i
    cases p : a.testBit i <;> cases q : b.testBit i <;> first | rfl | (rw [h1 q] at p; cases p) | (rw [h2 p] at q; cases q)
  · obtain ⟨T0, h0, rfl⟩ := List.mem_map.mp hT
    exact (hx T0 (hL T0 h0)).1
