/-! ===== ACROSS: what comes for a fence, who is asked ===== -/
section AC
variable (n : Nat) (X Y : Nat → Int)
noncomputable def lp (T f : Nat) : Nat → Option Nat × Option Nat
  | 0 => (none, none)
  | k + 1 => if thr n X Y T (flo n X Y f) (fhi n X Y f) k = true then ((lp T f k).2, some k) else lp T f k
noncomputable def lr (T f : Nat) : Nat → Option Nat × Option Nat
  | 0 => (none, none)
  | k + 1 => if thr n X Y T (flo n X Y f) (fhi n X Y f) k = true then (if sg X Y (flo n X Y f) (fhi n X Y f) k = .gt then (some k, (lr T f k).2) else ((lr T f k).1, some k)) else lr T f k
noncomputable def acr (T f : Nat) : Option Nat := match lp n X Y T f n with
  | (some c, some d) => if om (sg X Y (flo n X Y f) (fhi n X Y f) c) (sg X Y (flo n X Y f) (fhi n X Y f) d) = .lt ∧ om (sg X Y c d (flo n X Y f)) (sg X Y c d (fhi n X Y f)) = .lt then fbt n X Y c d else none
  | _ => none
noncomputable def acl (T f : Nat) : Option Nat := match lr n X Y T f n with
  | (some c, some d) => if om (sg X Y c d (flo n X Y f)) (sg X Y c d (fhi n X Y f)) = .lt then fbt n X Y c d else none
  | _ => none
end AC
/-- asked for: all of H, none of B -/
def asb (H B T : Nat) : Bool := decide (T &&& H = H ∧ T &&& B = 0)
noncomputable def cms (n : Nat) (X Y : Nat → Int) (H B T f : Nat) : Option Nat := if T.testBit f = true ∧ H.testBit f = false then (match acl n X Y T f with
  | some g => if B.testBit g then none else some g
  | none => none) else none
section AC2
variable {n : Nat} {X Y : Nat → Int}
theorem lplr {T f : Nat} (hu : ∀ c d, thr n X Y T (flo n X Y f) (fhi n X Y f) c = true → thr n X Y T (flo n X Y f) (fhi n X Y f) d = true → sg X Y (flo n X Y f) (fhi n X Y f) c = sg X Y (flo n X Y f) (fhi n X Y f) d → c = d) : ∀ k,
    (lp n X Y T f k = (none, none) ∧ lr n X Y T f k = (none, none)) ∨
    (∃ d, d < k ∧ thr n X Y T (flo n X Y f) (fhi n X Y f) d = true ∧ lp n X Y T f k = (none, some d) ∧ lr n X Y T f k = if sg X Y (flo n X Y f) (fhi n X Y f) d = .gt then (some d, none) else (none, some d)) ∨
    (∃ c d, c < d ∧ d < k ∧ thr n X Y T (flo n X Y f) (fhi n X Y f) c = true ∧ thr n X Y T (flo n X Y f) (fhi n X Y f) d = true ∧ sg X Y (flo n X Y f) (fhi n X Y f) c ≠ sg X Y (flo n X Y f) (fhi n X Y f) d ∧ lp n X Y T f k = (some c, some d) ∧ lr n X Y T f k = if sg X Y (flo n X Y f) (fhi n X Y f) c = .gt then (some c, some d) else (some d, some c)) := by
  intro k
  induction k with
  | zero => exact Or.inl ⟨rfl, rfl⟩
  | succ k ih =>
    have e1 : lp n X Y T f (k + 1) = if thr n X Y T (flo n X Y f) (fhi n X Y f) k = true then ((lp n X Y T f k).2, some k) else lp n X Y T f k := rfl
    have e2 : lr n X Y T f (k + 1) = if thr n X Y T (flo n X Y f) (fhi n X Y f) k = true then (if sg X Y (flo n X Y f) (fhi n X Y f) k = .gt then (some k, (lr n X Y T f k).2) else ((lr n X Y T f k).1, some k)) else lr n X Y T f k := rfl
    rw [e1, e2]
    by_cases h : thr n X Y T (flo n X Y f) (fhi n X Y f) k = true
    · rw [if_pos h, if_pos h]
      rcases ih with ⟨p, q⟩ | ⟨d, hd, t, p, q⟩ | ⟨c, d, hcd, hd, t1, t2, hne, p, q⟩
      · rw [p, q]
        exact Or.inr (Or.inl ⟨k, by omega, h, rfl, rfl⟩)
      · have hne : sg X Y (flo n X Y f) (fhi n X Y f) d ≠ sg X Y (flo n X Y f) (fhi n X Y f) k := fun e => by have := hu d k t h e; omega
        rw [p, q]
        refine Or.inr (Or.inr ⟨d, k, hd, by omega, t, h, hne, rfl, ?_⟩)
        have z1 := (thr_iff.mp t).1
        have z2 := (thr_iff.mp h).1
        revert hne z1 z2
        cases sg X Y (flo n X Y f) (fhi n X Y f) d <;> cases sg X Y (flo n X Y f) (fhi n X Y f) k <;> simp
      · exfalso
        have z1 := (thr_iff.mp t1).1
        have z2 := (thr_iff.mp t2).1
        have z3 := (thr_iff.mp h).1
        have w1 : sg X Y (flo n X Y f) (fhi n X Y f) c ≠ sg X Y (flo n X Y f) (fhi n X Y f) k := fun e => by have := hu c k t1 h e; omega
        have w2 : sg X Y (flo n X Y f) (fhi n X Y f) d ≠ sg X Y (flo n X Y f) (fhi n X Y f) k := fun e => by have := hu d k t2 h e; omega
        revert hne z1 z2 z3 w1 w2
        cases sg X Y (flo n X Y f) (fhi n X Y f) c <;> cases sg X Y (flo n X Y f) (fhi n X Y f) d <;> cases sg X Y (flo n X Y f) (fhi n X Y f) k <;> simp
    · rw [if_neg h, if_neg h]
      rcases ih with ih | ⟨d, hd, r⟩ | ⟨c, d, hcd, hd, r⟩
      · exact Or.inl ih
      · exact Or.inr (Or.inl ⟨d, by omega, r⟩)
      · exact Or.inr (Or.inr ⟨c, d, hcd, by omega, r⟩)
theorem acl_acr (dst : ∀ i j, i < n → j < n → X i = X j → Y i = Y j → i = j) {T : Nat} (hT : isG (crf n X Y) (fN n X Y) T) (f : Nat) : acl n X Y T f = acr n X Y T f := by
  unfold acl acr
  rcases lplr (T := T) (f := f) (fun c d h1 h2 h3 => thr_uniq dst hT h1 h2 h3) n with ⟨p, q⟩ | ⟨d, hd, t, p, q⟩ | ⟨c, d, hcd, hd, t1, t2, hne, p, q⟩
  · rw [p, q]
  · rw [p, q]
    by_cases g : sg X Y (flo n X Y f) (fhi n X Y f) d = .gt
    · rw [if_pos g]
    · rw [if_neg g]
  · have z1 := (thr_iff.mp t1).1
    have z2 := (thr_iff.mp t2).1
    have hom : om (sg X Y (flo n X Y f) (fhi n X Y f) c) (sg X Y (flo n X Y f) (fhi n X Y f) d) = .lt := by
      revert hne z1 z2
      cases sg X Y (flo n X Y f) (fhi n X Y f) c <;> cases sg X Y (flo n X Y f) (fhi n X Y f) d <;> simp [om]
    rw [p, q]
    by_cases g : sg X Y (flo n X Y f) (fhi n X Y f) c = .gt
    · rw [if_pos g]
      simp only [hom, true_and]
    · rw [if_neg g]
      simp only [hom, true_and]
      rw [sg_swap c d, sg_swap c d, om_on_on, fbt_comm]
theorem acr_G (dst : ∀ i j, i < n → j < n → X i = X j → Y i = Y j → i = j) {T f g : Nat} (hT : isG (crf n X Y) (fN n X Y) T) (hf : T.testBit f = true) (h : acl n X Y T f = some g) : g < fN n X Y ∧ T.testBit g = false ∧ isG (crf n X Y) (fN n X Y) (trn T f g) := by
  rw [acl_acr dst hT] at h
  unfold acr at h
  have lf := hT.1 f hf
  rcases lplr (T := T) (f := f) (fun c d h1 h2 h3 => thr_uniq dst hT h1 h2 h3) n with ⟨p, q⟩ | ⟨d, hd, t, p, q⟩ | ⟨c, d, hcd, hd, t1, t2, hne, p, q⟩
  · rw [p] at h; cases h
  · rw [p] at h; cases h
  · rw [p] at h
    simp only at h
    split at h
    · rename_i k
      obtain ⟨g', e1, e2, e3⟩ := trn_G dst hT (fbt_lh lf) t1 t2 k.1 k.2
      rw [h] at e1
      injection e1 with e1
      rw [← e1] at e2 e3
      exact ⟨(fbt_some h).1, e2, e3⟩
    · cases h
theorem asb_iff {H B T : Nat} : asb H B T = true ↔ (∀ i, H.testBit i = true → T.testBit i = true) ∧ ∀ i, B.testBit i = true → T.testBit i = false := by
  unfold asb
  rw [decide_eq_true_iff, sub_iff, dis_iff]
theorem asb_trn {H B T f g : Nat} (h : asb H B T = true) (hf : T.testBit f = true) (hg : T.testBit g = false) : asb H B (trn T f g) = true ↔ H.testBit f = false ∧ B.testBit g = false := by
  obtain ⟨h1, h2⟩ := asb_iff.mp h
  have hfg : f ≠ g := fun e => by rw [e, hg] at hf; cases hf
  rw [asb_iff]
  constructor
  · rintro ⟨a, b⟩
    constructor
    · cases q : H.testBit f with
      | false => rfl
      | true =>
        rcases trn_tb.mp (a f q) with z | z
        · exact absurd rfl z.2
        · exact absurd z hfg
    · cases q : B.testBit g with
      | false => rfl
      | true =>
        have := b g q
        rw [trn_tb.mpr (Or.inr rfl)] at this
        cases this
  · rintro ⟨a, b⟩
    refine ⟨fun i hi => trn_tb.mpr (Or.inl ⟨h1 i hi, fun e => by rw [e, a] at hi; cases hi⟩), fun i hi => ?_⟩
    cases q : (trn T f g).testBit i with
    | false => rfl
    | true =>
      rcases trn_tb.mp q with z | z
      · rw [h2 i hi] at z; exact absurd z.1 Bool.false_ne_true
      · rw [z, b] at hi; cases hi
theorem cms_some (dst : ∀ i j, i < n → j < n → X i = X j → Y i = Y j → i = j) {H B T f g : Nat} (hT : isG (crf n X Y) (fN n X Y) T) (ha : asb H B T = true) (h : cms n X Y H B T f = some g) : T.testBit f = true ∧ acl n X Y T f = some g ∧ g < fN n X Y ∧ isG (crf n X Y) (fN n X Y) (trn T f g) ∧ asb H B (trn T f g) = true := by
  unfold cms at h
  split at h
  · rename_i k
    cases q : acl n X Y T f with
    | none => rw [q] at h; cases h
    | some g' =>
      rw [q] at h
      simp only at h
      split at h
      · cases h
      · rename_i hb
        injection h with h
        subst h
        obtain ⟨a1, a2, a3⟩ := acr_G dst hT k.1 q
        exact ⟨k.1, rfl, a1, a3, (asb_trn ha k.1 a2).mpr ⟨k.2, by simpa using hb⟩⟩
  · cases h
theorem cms_none (dst : ∀ i j, i < n → j < n → X i = X j → Y i = Y j → i = j) {H B T f : Nat} (hT : isG (crf n X Y) (fN n X Y) T) (ha : asb H B T = true) (h : cms n X Y H B T f = none) : T.testBit f = false ∨ acl n X Y T f = none ∨ ∃ g, acl n X Y T f = some g ∧ asb H B (trn T f g) = false := by
  unfold cms at h
  cases hf : T.testBit f with
  | false => exact Or.inl rfl
  | true =>
    cases q : acl n X Y T f with
    | none => exact Or.inr (Or.inl rfl)
    | some g =>
      refine Or.inr (Or.inr ⟨g, rfl, ?_⟩)
      obtain ⟨a1, a2, a3⟩ := acr_G dst hT hf q
      cases z : asb H B (trn T f g) with
      | false => rfl
      | true =>
        obtain ⟨z1, z2⟩ := (asb_trn ha hf a2).mp z
        rw [if_pos ⟨hf, z1⟩, q] at h
        simp only [z2] at h
        cases h
end AC2
