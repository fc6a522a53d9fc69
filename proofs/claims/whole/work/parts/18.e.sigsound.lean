/-! ===== SIGSOUND: what the enumeration says ===== -/
def ps (a b c : Nat) : Nat := c * (c - 1) * (c - 2) / 6 + b * (b - 1) / 2 + a
def bas (b : Nat) : Nat := [0, 27, 25, 22, 18, 13, 7, 0].getD b 0
def ix (w b : Nat) : Nat := bas b + w
def stl : List (Nat × Nat × Nat) := [(1, 2, 3), (1, 2, 4), (1, 3, 4), (2, 3, 4), (1, 2, 5), (1, 3, 5), (2, 3, 5), (1, 4, 5), (2, 4, 5), (3, 4, 5), (1, 2, 6), (1, 3, 6), (2, 3, 6), (1, 4, 6), (2, 4, 6), (3, 4, 6), (1, 5, 6), (2, 5, 6), (3, 5, 6), (4, 5, 6), (1, 2, 7), (1, 3, 7), (2, 3, 7), (1, 4, 7), (2, 4, 7), (3, 4, 7), (1, 5, 7), (2, 5, 7), (3, 5, 7), (4, 5, 7), (1, 6, 7), (2, 6, 7), (3, 6, 7), (4, 6, 7), (5, 6, 7)]
def dpa (u : Nat) : Nat := [0, 1, 2, 3, 4, 5, 6, 0, 1, 2, 3, 4, 5, 0, 1, 2, 3, 4, 0, 1, 2, 3, 0, 1, 2, 0, 1, 0].getD u 0
def dpb (u : Nat) : Nat := [7, 7, 7, 7, 7, 7, 7, 6, 6, 6, 6, 6, 6, 5, 5, 5, 5, 5, 4, 4, 4, 4, 3, 3, 3, 2, 2, 1].getD u 0
theorem ps_add (a b c : Nat) : ps a b c = ps 0 b c + a := by unfold ps; omega
theorem ix_add (w b : Nat) : ix w b = ix 0 b + w := by unfold ix; omega
theorem ix_dec : ∀ c, c < 8 → ∀ a, a < c → ix a c < 28 ∧ dpa (ix a c) = a ∧ dpb (ix a c) = c := by decide +kernel
theorem dp_ok : ∀ u, u < 28 → dpa u < dpb u ∧ dpb u < 8 ∧ ix (dpa u) (dpb u) = u := by decide +kernel
def dps (p : Nat) : Nat × Nat × Nat := [(0, 1, 2), (0, 1, 3), (0, 2, 3), (1, 2, 3), (0, 1, 4), (0, 2, 4), (1, 2, 4), (0, 3, 4), (1, 3, 4), (2, 3, 4), (0, 1, 5), (0, 2, 5), (1, 2, 5), (0, 3, 5), (1, 3, 5), (2, 3, 5), (0, 4, 5), (1, 4, 5), (2, 4, 5), (3, 4, 5), (0, 1, 6), (0, 2, 6), (1, 2, 6), (0, 3, 6), (1, 3, 6), (2, 3, 6), (0, 4, 6), (1, 4, 6), (2, 4, 6), (3, 4, 6), (0, 5, 6), (1, 5, 6), (2, 5, 6), (3, 5, 6), (4, 5, 6), (0, 1, 7), (0, 2, 7), (1, 2, 7), (0, 3, 7), (1, 3, 7), (2, 3, 7), (0, 4, 7), (1, 4, 7), (2, 4, 7), (3, 4, 7), (0, 5, 7), (1, 5, 7), (2, 5, 7), (3, 5, 7), (4, 5, 7), (0, 6, 7), (1, 6, 7), (2, 6, 7), (3, 6, 7), (4, 6, 7), (5, 6, 7)].getD p (0, 0, 0)
theorem ps_dec : ∀ c, c < 8 → ∀ b, b < c → ∀ a, a < b → dps (ps a b c) = (a, b, c) := by decide +kernel
theorem ps_inj {a b c x y z : Nat} (h1 : a < b) (h2 : b < c) (h3 : c < 8) (g1 : x < y) (g2 : y < z) (g3 : z < 8) (h : ps a b c = ps x y z) : a = x ∧ b = y ∧ c = z := by
  have e1 := ps_dec c h3 b h2 a h1
  have e2 := ps_dec z g3 y g2 x g1
  rw [h, e2] at e1
  injection e1 with e1 e3
  injection e3 with e3 e4
  exact ⟨e1.symm, e3.symm, e4.symm⟩
theorem stl_ok : ∀ k, k < 35 → 1 ≤ (stl.getD k (0, 0, 0)).1 ∧ (stl.getD k (0, 0, 0)).1 < (stl.getD k (0, 0, 0)).2.1 ∧ (stl.getD k (0, 0, 0)).2.1 < (stl.getD k (0, 0, 0)).2.2 ∧ (stl.getD k (0, 0, 0)).2.2 < 8 ∧ ps ((stl.getD k (0, 0, 0)).1 - 1) ((stl.getD k (0, 0, 0)).2.1 - 1) ((stl.getD k (0, 0, 0)).2.2 - 1) = k := by decide +kernel
theorem stl_at0 : ∀ c, c < 8 → ∀ b, b < c → ∀ a, a < b → (a = 0 ∨ (ps (a - 1) (b - 1) (c - 1) < 35 ∧ stl.getD (ps (a - 1) (b - 1) (c - 1)) (0, 0, 0) = (a, b, c))) := by decide +kernel
theorem stl_at (c : Nat) (hc : c < 8) (b : Nat) (hb : b < c) (a : Nat) (ha : a < b) (h1 : 1 ≤ a) : ps (a - 1) (b - 1) (c - 1) < 35 ∧ stl.getD (ps (a - 1) (b - 1) (c - 1)) (0, 0, 0) = (a, b, c) := (stl_at0 c hc b hb a ha).resolve_left (by omega)
def psl (c b a w : Nat) : Bool := decide ((w = 0 ∨ ps (w - 1) (a - 1) (b - 1) < ps (a - 1) (b - 1) (c - 1)) ∧ (w = 0 ∨ ps (w - 1) (a - 1) (c - 1) < ps (a - 1) (b - 1) (c - 1)) ∧ (w = 0 ∨ ps (w - 1) (b - 1) (c - 1) < ps (a - 1) (b - 1) (c - 1)))
theorem ps_low0 : ∀ c, c < 8 → ∀ b, b < c → ∀ a, a < b → ∀ w, w < a → psl c b a w = true := by decide +kernel
theorem ps_low (c : Nat) (hc : c < 8) (b : Nat) (hb : b < c) (a : Nat) (ha : a < b) (h1 : 1 ≤ a) (w : Nat) (hw : w < a) : (w = 0 ∨ ps (w - 1) (a - 1) (b - 1) < ps (a - 1) (b - 1) (c - 1)) ∧ (w = 0 ∨ ps (w - 1) (a - 1) (c - 1) < ps (a - 1) (b - 1) (c - 1)) ∧ (w = 0 ∨ ps (w - 1) (b - 1) (c - 1) < ps (a - 1) (b - 1) (c - 1)) := of_decide_eq_true (ps_low0 c hc b hb a ha w hw)
theorem s0_low : ∀ z, z < 8 → ∀ y, y < z → ∀ x, x < y → (1163662411771063 : Nat).testBit (ps x y z) = decide (x = 0) := by decide +kernel
theorem bb_and {x y : Bool} (h : bb x y false = true) : x = true ∧ y = true := by
  cases x
  · exact absurd h Bool.false_ne_true
  · exact ⟨rfl, h⟩
theorem s0_desc {i p1 p2 p3 M k1 k1t k2 k2t : Nat} {ih : Nat → Nat → Bool} {S A : Nat} (h : s0 i p1 p2 p3 M k1 k1t k2 k2t ih S A = true) (v : Bool) (hok : stt (Nat.land (Nat.shiftRight S p1) M) (Nat.land (Nat.shiftRight S p2) M) (Nat.land (Nat.shiftRight S p3) M) (if v then M else 0) = 0) : ih (if v then Nat.lor S (Nat.shiftLeft 1 i) else S) (san k1 k1t k2 k2t A (Nat.xor M (Nat.xor (Nat.land (Nat.shiftRight S p1) M) (if v then M else 0))) (Nat.xor (Nat.land (Nat.shiftRight S p2) M) (Nat.land (Nat.shiftRight S p3) M))) = true := by
  unfold s0 s1 s2 s3 at h
  simp only [fc_eq] at h
  obtain ⟨h1, h2⟩ := bb_and h
  cases v
  · have hok : stt (Nat.land (Nat.shiftRight S p1) M) (Nat.land (Nat.shiftRight S p2) M) (Nat.land (Nat.shiftRight S p3) M) 0 = 0 := hok
    unfold sv at h1
    simp only [fc_eq, hok] at h1
    exact h1
  · have hok : stt (Nat.land (Nat.shiftRight S p1) M) (Nat.land (Nat.shiftRight S p2) M) (Nat.land (Nat.shiftRight S p3) M) M = 0 := hok
    unfold sv at h2
    simp only [fc_eq, hok] at h2
    exact h2
def chn (a b c d : Bool) : Bool := !(((a ^^ b) && (b ^^ c)) || (((a ^^ b) && (c ^^ d)) || ((b ^^ c) && (c ^^ d))))
/-- the signs so far, the crossings so far -/
def Sk (s : Nat → Nat → Nat → Bool) : Nat → Nat
  | 0 => 1163662411771063
  | k + 1 => if s (stl.getD k (0, 0, 0)).1 (stl.getD k (0, 0, 0)).2.1 (stl.getD k (0, 0, 0)).2.2 then Nat.lor (Sk s k) (Nat.shiftLeft 1 (ps (stl.getD k (0, 0, 0)).1 (stl.getD k (0, 0, 0)).2.1 (stl.getD k (0, 0, 0)).2.2)) else Sk s k
def stA (v : Bool) (a b c S A : Nat) : Nat := san (28 * ix a c + ix 0 b) (28 * ix 0 b + ix a c) (28 * ix a b + ix 0 c) (28 * ix 0 c + ix a b) A (Nat.xor (2 ^ a - 1) (Nat.xor (Nat.land (Nat.shiftRight S (ps 0 a b)) (2 ^ a - 1)) (if v then 2 ^ a - 1 else 0))) (Nat.xor (Nat.land (Nat.shiftRight S (ps 0 a c)) (2 ^ a - 1)) (Nat.land (Nat.shiftRight S (ps 0 b c)) (2 ^ a - 1)))
def Ak (s : Nat → Nat → Nat → Bool) : Nat → Nat
  | 0 => 0
  | k + 1 => stA (s (stl.getD k (0, 0, 0)).1 (stl.getD k (0, 0, 0)).2.1 (stl.getD k (0, 0, 0)).2.2) (stl.getD k (0, 0, 0)).1 (stl.getD k (0, 0, 0)).2.1 (stl.getD k (0, 0, 0)).2.2 (Sk s k) (Ak s k)

section SS
variable {s : Nat → Nat → Nat → Bool}
theorem Sk_inv (h0 : ∀ b c, 1 ≤ b → b < c → c < 8 → s 0 b c = true) : ∀ k, k ≤ 35 → ∀ x y z, x < y → y < z → z < 8 → (Sk s k).testBit (ps x y z) = (decide (x = 0 ∨ ps (x - 1) (y - 1) (z - 1) < k) && s x y z) := by
  intro k
  induction k with
  | zero =>
    intro _ x y z hx hy hz
    show (1163662411771063 : Nat).testBit (ps x y z) = _
    rw [s0_low z hz y hy x hx]
    by_cases e : x = 0
    · rw [e, h0 y z (by omega) hy hz]; rfl
    · rw [decide_eq_false e, decide_eq_false (by omega)]; rfl
  | succ k ih =>
    intro hk x y z hx hy hz
    obtain ⟨t1, t2, t3, t4, t5⟩ := stl_ok k (by omega)
    have ih := ih (by omega) x y z hx hy hz
    have e : Sk s (k + 1) = if s (stl.getD k (0, 0, 0)).1 (stl.getD k (0, 0, 0)).2.1 (stl.getD k (0, 0, 0)).2.2 then Nat.lor (Sk s k) (Nat.shiftLeft 1 (ps (stl.getD k (0, 0, 0)).1 (stl.getD k (0, 0, 0)).2.1 (stl.getD k (0, 0, 0)).2.2)) else Sk s k := rfl
    rw [e]
    generalize (stl.getD k (0, 0, 0)).1 = a at *
    generalize (stl.getD k (0, 0, 0)).2.1 = b at *
    generalize (stl.getD k (0, 0, 0)).2.2 = c at *
    have tb : (if s a b c then Nat.lor (Sk s k) (Nat.shiftLeft 1 (ps a b c)) else Sk s k).testBit (ps x y z) = ((Sk s k).testBit (ps x y z) || (decide (ps a b c = ps x y z) && s a b c)) := by
      cases s a b c
      · simp
      · show (Sk s k ||| 1 <<< ps a b c).testBit (ps x y z) = _
        rw [tb_set, Bool.and_true]
    rw [tb, ih]
    by_cases g : ps a b c = ps x y z
    · obtain ⟨e1, e2, e3⟩ := ps_inj t2 t3 t4 hx hy hz g
      rw [decide_eq_true g, ← e1, ← e2, ← e3, t5, decide_eq_true (show a = 0 ∨ k < k + 1 by omega), decide_eq_false (show ¬ (a = 0 ∨ k < k) by omega)]
      rfl
    · rw [decide_eq_false g, Bool.false_and, Bool.or_false]
      congr 1
      by_cases w : x = 0 ∨ ps (x - 1) (y - 1) (z - 1) < k
      · rw [decide_eq_true w, decide_eq_true (by omega)]
      · have hne : ps (x - 1) (y - 1) (z - 1) ≠ k := fun q => by
          rw [← t5] at q
          obtain ⟨e1, e2, e3⟩ := ps_inj (by omega) (by omega) (by omega) (by omega) (by omega) (by omega) q
          apply g
          rw [show a = x by omega, show b = y by omega, show c = z by omega]
        rw [decide_eq_false w, decide_eq_false (by omega)]
theorem row_mk {S p a : Nat} {f : Nat → Bool} (h : ∀ w, w < a → S.testBit (p + w) = f w) : Nat.land (Nat.shiftRight S p) (2 ^ a - 1) = mk f a := by
  apply Nat.eq_of_testBit_eq
  intro i
  show ((S >>> p) &&& (2 ^ a - 1)).testBit i = _
  rw [Nat.testBit_and, Nat.testBit_shiftRight, Nat.testBit_two_pow_sub_one, mk_tb]
  by_cases g : i < a
  · rw [h i g, decide_eq_true g, Bool.and_true, Bool.true_and]
  · rw [decide_eq_false g, Bool.and_false, Bool.false_and]
theorem all_mk (v : Bool) (a : Nat) : (if v then 2 ^ a - 1 else 0 : Nat) = mk (fun _ => v) a := by
  apply Nat.eq_of_testBit_eq
  intro i
  rw [mk_tb]
  cases v
  · simp
  · rw [if_pos rfl, Nat.testBit_two_pow_sub_one, Bool.and_true]
theorem xor_mk (f g : Nat → Bool) (a : Nat) : Nat.xor (mk f a) (mk g a) = mk (fun i => f i ^^ g i) a := by
  apply Nat.eq_of_testBit_eq
  intro i
  show (mk f a ^^^ mk g a).testBit i = _
  rw [Nat.testBit_xor, mk_tb, mk_tb, mk_tb]
  cases decide (i < a) <;> simp
theorem stt_mk {f1 f2 f3 f4 : Nat → Bool} {a : Nat} (h : ∀ w, w < a → chn (f1 w) (f2 w) (f3 w) (f4 w) = true) : stt (mk f1 a) (mk f2 a) (mk f3 a) (mk f4 a) = 0 := by
  apply Nat.eq_of_testBit_eq
  intro i
  show (((mk f1 a ^^^ mk f2 a) &&& (mk f2 a ^^^ mk f3 a)) ||| (((mk f1 a ^^^ mk f2 a) &&& (mk f3 a ^^^ mk f4 a)) ||| ((mk f2 a ^^^ mk f3 a) &&& (mk f3 a ^^^ mk f4 a)))).testBit i = _
  simp only [Nat.testBit_or, Nat.testBit_and, Nat.testBit_xor, mk_tb, Nat.zero_testBit]
  by_cases g : i < a
  · have := h i g
    unfold chn at this
    rw [decide_eq_true g]
    simp only [Bool.true_and]
    generalize f1 i = x1 at *
    generalize f2 i = x2 at *
    generalize f3 i = x3 at *
    generalize f4 i = x4 at *
    revert this
    cases x1 <;> cases x2 <;> cases x3 <;> cases x4 <;> decide
  · rw [decide_eq_false g]; rfl
theorem spr_dec : ∀ E, E < 32 → ∀ j, j < 113 → (spr E).testBit j = (decide (j % 28 = 0) && E.testBit (j / 28)) := by decide +kernel
theorem spr_lt : ∀ E, E < 32 → spr E < 2 ^ 113 := by decide +kernel
theorem spr_tb {E j : Nat} (h : E < 32) : (spr E).testBit j = true ↔ ∃ w, E.testBit w = true ∧ j = 28 * w := by
  rcases Nat.lt_or_ge j 113 with g | g
  · rw [spr_dec E h j g, Bool.and_eq_true, decide_eq_true_eq]
    constructor
    · rintro ⟨h1, h2⟩; exact ⟨j / 28, h2, by omega⟩
    · rintro ⟨w, h1, h2⟩
      subst h2
      exact ⟨by omega, by rw [Nat.mul_div_cancel_left w (by omega)]; exact h1⟩
  · constructor
    · intro z
      rw [tb_big (spr_lt E h) g] at z
      cases z
    · rintro ⟨w, h1, h2⟩
      rw [tb_big (n := 5) h (by omega)] at h1
      cases h1
/-- the crossings that one triple brings -/
def hit (s : Nat → Nat → Nat → Bool) (a b c j : Nat) : Prop := ∃ w, w < a ∧ ((s w a b = s a b c ∧ (j = 28 * ix a c + ix w b ∨ j = 28 * ix w b + ix a c)) ∨ (s w a c ≠ s w b c ∧ (j = 28 * ix a b + ix w c ∨ j = 28 * ix w c + ix a b)))
theorem stA_tb {a b c S A j : Nat} (h1 : a < b) (h2 : b < c) (h3 : c < 8) (b1 : ∀ w, w < a → S.testBit (ps w a b) = s w a b) (b2 : ∀ w, w < a → S.testBit (ps w a c) = s w a c) (b3 : ∀ w, w < a → S.testBit (ps w b c) = s w b c) : (stA (s a b c) a b c S A).testBit j = true ↔ A.testBit j = true ∨ hit s a b c j := by
  have e1 : Nat.land (Nat.shiftRight S (ps 0 a b)) (2 ^ a - 1) = mk (fun w => s w a b) a := row_mk fun w hw => by rw [← ps_add]; exact b1 w hw
  have e2 : Nat.land (Nat.shiftRight S (ps 0 a c)) (2 ^ a - 1) = mk (fun w => s w a c) a := row_mk fun w hw => by rw [← ps_add]; exact b2 w hw
  have e3 : Nat.land (Nat.shiftRight S (ps 0 b c)) (2 ^ a - 1) = mk (fun w => s w b c) a := row_mk fun w hw => by rw [← ps_add]; exact b3 w hw
  have e4 : (2 ^ a - 1 : Nat) = mk (fun _ => true) a := all_mk true a
  have f1 : Nat.xor (2 ^ a - 1) (Nat.xor (Nat.land (Nat.shiftRight S (ps 0 a b)) (2 ^ a - 1)) (if s a b c then 2 ^ a - 1 else 0)) = mk (fun w => true ^^ (s w a b ^^ s a b c)) a := by
    rw [e1, all_mk (s a b c) a, xor_mk, e4, xor_mk]
  have f2 : Nat.xor (Nat.land (Nat.shiftRight S (ps 0 a c)) (2 ^ a - 1)) (Nat.land (Nat.shiftRight S (ps 0 b c)) (2 ^ a - 1)) = mk (fun w => s w a c ^^ s w b c) a := by
    rw [e2, e3, xor_mk]
  unfold stA
  rw [f1, f2]
  have l1 : mk (fun w => true ^^ (s w a b ^^ s a b c)) a < 32 := Nat.lt_of_lt_of_le (mk_lt _ a) (Nat.pow_le_pow_right (n := 2) (by omega) (show a ≤ 5 by omega))
  have l2 : mk (fun w => s w a c ^^ s w b c) a < 32 := Nat.lt_of_lt_of_le (mk_lt _ a) (Nat.pow_le_pow_right (n := 2) (by omega) (show a ≤ 5 by omega))
  have m1 : ∀ w, (mk (fun w => true ^^ (s w a b ^^ s a b c)) a).testBit w = true ↔ w < a ∧ s w a b = s a b c := fun w => by
    rw [mk_tb, Bool.and_eq_true, decide_eq_true_eq]
    cases s w a b <;> cases s a b c <;> simp
  have m2 : ∀ w, (mk (fun w => s w a c ^^ s w b c) a).testBit w = true ↔ w < a ∧ s w a c ≠ s w b c := fun w => by
    rw [mk_tb, Bool.and_eq_true, decide_eq_true_eq]
    cases s w a c <;> cases s w b c <;> simp
  generalize mk (fun w => true ^^ (s w a b ^^ s a b c)) a = E1 at *
  generalize mk (fun w => s w a c ^^ s w b c) a = E2 at *
  have i1 := ix_add
  show ((A ||| (E1 <<< (28 * ix a c + ix 0 b) ||| spr E1 <<< (28 * ix 0 b + ix a c))) ||| (E2 <<< (28 * ix a b + ix 0 c) ||| spr E2 <<< (28 * ix 0 c + ix a b))).testBit j = true ↔ _
  simp only [Nat.testBit_or, Nat.testBit_shiftLeft, Bool.or_eq_true, Bool.and_eq_true, decide_eq_true_eq, spr_tb l1, spr_tb l2, m1, m2]
  unfold hit
  constructor
  · rintro ((h | ⟨g1, g2, g3⟩ | ⟨g1, w, ⟨g2, g3⟩, g4⟩) | ⟨g1, g2, g3⟩ | ⟨g1, w, ⟨g2, g3⟩, g4⟩)
    · exact Or.inl h
    · refine Or.inr ⟨_, g2, Or.inl ⟨g3, Or.inl ?_⟩⟩
      rw [ix_add _ b]; omega
    · refine Or.inr ⟨w, g2, Or.inl ⟨g3, Or.inr ?_⟩⟩
      rw [ix_add w b]; omega
    · refine Or.inr ⟨_, g2, Or.inr ⟨g3, Or.inl ?_⟩⟩
      rw [ix_add _ c]; omega
    · refine Or.inr ⟨w, g2, Or.inr ⟨g3, Or.inr ?_⟩⟩
      rw [ix_add w c]; omega
  · rintro (h | ⟨w, hw, ⟨g1, g2 | g2⟩ | ⟨g1, g2 | g2⟩⟩)
    · exact Or.inl (Or.inl h)
    · rw [ix_add w b] at g2
      have e : j - (28 * ix a c + ix 0 b) = w := by omega
      exact Or.inl (Or.inr (Or.inl ⟨by omega, by rw [e]; exact ⟨hw, g1⟩⟩))
    · rw [ix_add w b] at g2
      exact Or.inl (Or.inr (Or.inr ⟨by omega, w, ⟨hw, g1⟩, by omega⟩))
    · rw [ix_add w c] at g2
      have e : j - (28 * ix a b + ix 0 c) = w := by omega
      exact Or.inr (Or.inl ⟨by omega, by rw [e]; exact ⟨hw, g1⟩⟩)
    · rw [ix_add w c] at g2
      exact Or.inr (Or.inr ⟨by omega, w, ⟨hw, g1⟩, by omega⟩)
/-- the signs as one reads them -/
def SG (s : Nat → Nat → Nat → Bool) : Prop := (∀ b c, 1 ≤ b → b < c → c < 8 → s 0 b c = true) ∧ ∀ w a b c, w < a → a < b → b < c → c < 8 → chn (s w a b) (s w a c) (s w b c) (s a b c) = true
theorem Sk_bits (hs : SG s) {k a b c : Nat} (hk : k < 35) (ht : stl.getD k (0, 0, 0) = (a, b, c)) : 1 ≤ a ∧ a < b ∧ b < c ∧ c < 8 ∧ (∀ w, w < a → (Sk s k).testBit (ps w a b) = s w a b) ∧ (∀ w, w < a → (Sk s k).testBit (ps w a c) = s w a c) ∧ ∀ w, w < a → (Sk s k).testBit (ps w b c) = s w b c := by
  obtain ⟨t1, t2, t3, t4, t5⟩ := stl_ok k hk
  rw [ht] at t1 t2 t3 t4 t5
  simp only at t1 t2 t3 t4 t5
  refine ⟨t1, t2, t3, t4, fun w hw => ?_, fun w hw => ?_, fun w hw => ?_⟩
  · rw [Sk_inv hs.1 k (by omega) w a b hw t2 (by omega)]
    have := (ps_low c t4 b t3 a t2 t1 w hw).1
    rw [t5] at this
    rw [decide_eq_true this, Bool.true_and]
  · rw [Sk_inv hs.1 k (by omega) w a c hw (by omega) t4]
    have := (ps_low c t4 b t3 a t2 t1 w hw).2.1
    rw [t5] at this
    rw [decide_eq_true this, Bool.true_and]
  · rw [Sk_inv hs.1 k (by omega) w b c (by omega) t3 t4]
    have := (ps_low c t4 b t3 a t2 t1 w hw).2.2
    rw [t5] at this
    rw [decide_eq_true this, Bool.true_and]
theorem Ak_tb (hs : SG s) {j : Nat} : ∀ {k : Nat}, k ≤ 35 → ((Ak s k).testBit j = true ↔ ∃ i, i < k ∧ hit s (stl.getD i (0, 0, 0)).1 (stl.getD i (0, 0, 0)).2.1 (stl.getD i (0, 0, 0)).2.2 j)
  | 0, _ => ⟨fun z => by exact absurd z (by show ¬ (0 : Nat).testBit j = true; simp), fun ⟨i, z, _⟩ => absurd z (Nat.not_lt_zero i)⟩
  | k + 1, hk => by
    have ih := Ak_tb hs (j := j) (k := k) (by omega)
    obtain ⟨t1, t2, t3, t4, b1, b2, b3⟩ := Sk_bits hs (k := k) (a := (stl.getD k (0, 0, 0)).1) (b := (stl.getD k (0, 0, 0)).2.1) (c := (stl.getD k (0, 0, 0)).2.2) (by omega) rfl
    show (stA (s (stl.getD k (0, 0, 0)).1 (stl.getD k (0, 0, 0)).2.1 (stl.getD k (0, 0, 0)).2.2) (stl.getD k (0, 0, 0)).1 (stl.getD k (0, 0, 0)).2.1 (stl.getD k (0, 0, 0)).2.2 (Sk s k) (Ak s k)).testBit j = true ↔ _
    rw [stA_tb t2 t3 t4 b1 b2 b3, ih]
    constructor
    · rintro (⟨i, i1, i2⟩ | h)
      · exact ⟨i, by omega, i2⟩
      · exact ⟨k, by omega, h⟩
    · rintro ⟨i, i1, i2⟩
      rcases Nat.lt_or_ge i k with g | g
      · exact Or.inl ⟨i, g, i2⟩
      · rw [show i = k by omega] at i2; exact Or.inr i2
/-- one step down -/
theorem dsc (hs : SG s) {k a b c : Nat} (hk : k < 35) (ht : stl.getD k (0, 0, 0) = (a, b, c)) {q : Nat → Nat → Bool} (h : s0 (ps a b c) (ps 0 a b) (ps 0 a c) (ps 0 b c) (2 ^ a - 1) (28 * ix a c + ix 0 b) (28 * ix 0 b + ix a c) (28 * ix a b + ix 0 c) (28 * ix 0 c + ix a b) q (Sk s k) (Ak s k) = true) : q (Sk s (k + 1)) (Ak s (k + 1)) = true := by
  obtain ⟨t1, t2, t3, t4, b1, b2, b3⟩ := Sk_bits hs hk ht
  have e1 : Nat.land (Nat.shiftRight (Sk s k) (ps 0 a b)) (2 ^ a - 1) = mk (fun w => s w a b) a := row_mk fun w hw => by rw [← ps_add]; exact b1 w hw
  have e2 : Nat.land (Nat.shiftRight (Sk s k) (ps 0 a c)) (2 ^ a - 1) = mk (fun w => s w a c) a := row_mk fun w hw => by rw [← ps_add]; exact b2 w hw
  have e3 : Nat.land (Nat.shiftRight (Sk s k) (ps 0 b c)) (2 ^ a - 1) = mk (fun w => s w b c) a := row_mk fun w hw => by rw [← ps_add]; exact b3 w hw
  have := s0_desc h (s a b c) (by
    rw [e1, e2, e3, all_mk (s a b c) a]
    exact stt_mk fun w hw => hs.2 w a b c hw t2 t3 t4)
  have eS : Sk s (k + 1) = if s a b c then Nat.lor (Sk s k) (Nat.shiftLeft 1 (ps a b c)) else Sk s k := by
    show (if s (stl.getD k (0, 0, 0)).1 (stl.getD k (0, 0, 0)).2.1 (stl.getD k (0, 0, 0)).2.2 then Nat.lor (Sk s k) (Nat.shiftLeft 1 (ps (stl.getD k (0, 0, 0)).1 (stl.getD k (0, 0, 0)).2.1 (stl.getD k (0, 0, 0)).2.2)) else Sk s k) = _
    rw [ht]
  have eA : Ak s (k + 1) = stA (s a b c) a b c (Sk s k) (Ak s k) := by
    show stA (s (stl.getD k (0, 0, 0)).1 (stl.getD k (0, 0, 0)).2.1 (stl.getD k (0, 0, 0)).2.2) (stl.getD k (0, 0, 0)).1 (stl.getD k (0, 0, 0)).2.1 (stl.getD k (0, 0, 0)).2.2 (Sk s k) (Ak s k) = _
    rw [ht]
  rw [eS, eA]
  exact this

theorem sq_0 (q : Nat → Nat → Bool) : sp_0 q = s0 (ps 1 2 3) (ps 0 1 2) (ps 0 1 3) (ps 0 2 3) (2 ^ 1 - 1) (28 * ix 1 3 + ix 0 2) (28 * ix 0 2 + ix 1 3) (28 * ix 1 2 + ix 0 3) (28 * ix 0 3 + ix 1 2) (sp_1 q) := rfl
theorem dn_0 (hs : SG s) {q : Nat → Nat → Bool} (h : sp_0 q (Sk s 0) (Ak s 0) = true) : (sp_1 q) (Sk s 1) (Ak s 1) = true := by
  rw [sq_0] at h
  exact dsc hs (by omega) rfl h
theorem sq_1 (q : Nat → Nat → Bool) : sp_1 q = s0 (ps 1 2 4) (ps 0 1 2) (ps 0 1 4) (ps 0 2 4) (2 ^ 1 - 1) (28 * ix 1 4 + ix 0 2) (28 * ix 0 2 + ix 1 4) (28 * ix 1 2 + ix 0 4) (28 * ix 0 4 + ix 1 2) (sp_2 q) := rfl
theorem dn_1 (hs : SG s) {q : Nat → Nat → Bool} (h : sp_1 q (Sk s 1) (Ak s 1) = true) : (sp_2 q) (Sk s 2) (Ak s 2) = true := by
  rw [sq_1] at h
  exact dsc hs (by omega) rfl h
theorem sq_2 (q : Nat → Nat → Bool) : sp_2 q = s0 (ps 1 3 4) (ps 0 1 3) (ps 0 1 4) (ps 0 3 4) (2 ^ 1 - 1) (28 * ix 1 4 + ix 0 3) (28 * ix 0 3 + ix 1 4) (28 * ix 1 3 + ix 0 4) (28 * ix 0 4 + ix 1 3) (sp_3 q) := rfl
theorem dn_2 (hs : SG s) {q : Nat → Nat → Bool} (h : sp_2 q (Sk s 2) (Ak s 2) = true) : (sp_3 q) (Sk s 3) (Ak s 3) = true := by
  rw [sq_2] at h
  exact dsc hs (by omega) rfl h
theorem sq_3 (q : Nat → Nat → Bool) : sp_3 q = s0 (ps 2 3 4) (ps 0 2 3) (ps 0 2 4) (ps 0 3 4) (2 ^ 2 - 1) (28 * ix 2 4 + ix 0 3) (28 * ix 0 3 + ix 2 4) (28 * ix 2 3 + ix 0 4) (28 * ix 0 4 + ix 2 3) (sp_4 q) := rfl
theorem dn_3 (hs : SG s) {q : Nat → Nat → Bool} (h : sp_3 q (Sk s 3) (Ak s 3) = true) : (sp_4 q) (Sk s 4) (Ak s 4) = true := by
  rw [sq_3] at h
  exact dsc hs (by omega) rfl h
theorem sq_4 (q : Nat → Nat → Bool) : sp_4 q = s0 (ps 1 2 5) (ps 0 1 2) (ps 0 1 5) (ps 0 2 5) (2 ^ 1 - 1) (28 * ix 1 5 + ix 0 2) (28 * ix 0 2 + ix 1 5) (28 * ix 1 2 + ix 0 5) (28 * ix 0 5 + ix 1 2) (sp_5 q) := rfl
theorem dn_4 (hs : SG s) {q : Nat → Nat → Bool} (h : sp_4 q (Sk s 4) (Ak s 4) = true) : (sp_5 q) (Sk s 5) (Ak s 5) = true := by
  rw [sq_4] at h
  exact dsc hs (by omega) rfl h
theorem sq_5 (q : Nat → Nat → Bool) : sp_5 q = s0 (ps 1 3 5) (ps 0 1 3) (ps 0 1 5) (ps 0 3 5) (2 ^ 1 - 1) (28 * ix 1 5 + ix 0 3) (28 * ix 0 3 + ix 1 5) (28 * ix 1 3 + ix 0 5) (28 * ix 0 5 + ix 1 3) (sp_6 q) := rfl
theorem dn_5 (hs : SG s) {q : Nat → Nat → Bool} (h : sp_5 q (Sk s 5) (Ak s 5) = true) : (sp_6 q) (Sk s 6) (Ak s 6) = true := by
  rw [sq_5] at h
  exact dsc hs (by omega) rfl h
theorem sq_6 (q : Nat → Nat → Bool) : sp_6 q = s0 (ps 2 3 5) (ps 0 2 3) (ps 0 2 5) (ps 0 3 5) (2 ^ 2 - 1) (28 * ix 2 5 + ix 0 3) (28 * ix 0 3 + ix 2 5) (28 * ix 2 3 + ix 0 5) (28 * ix 0 5 + ix 2 3) (sp_7 q) := rfl
theorem dn_6 (hs : SG s) {q : Nat → Nat → Bool} (h : sp_6 q (Sk s 6) (Ak s 6) = true) : (sp_7 q) (Sk s 7) (Ak s 7) = true := by
  rw [sq_6] at h
  exact dsc hs (by omega) rfl h
theorem sq_7 (q : Nat → Nat → Bool) : sp_7 q = s0 (ps 1 4 5) (ps 0 1 4) (ps 0 1 5) (ps 0 4 5) (2 ^ 1 - 1) (28 * ix 1 5 + ix 0 4) (28 * ix 0 4 + ix 1 5) (28 * ix 1 4 + ix 0 5) (28 * ix 0 5 + ix 1 4) (sp_8 q) := rfl
theorem dn_7 (hs : SG s) {q : Nat → Nat → Bool} (h : sp_7 q (Sk s 7) (Ak s 7) = true) : (sp_8 q) (Sk s 8) (Ak s 8) = true := by
  rw [sq_7] at h
  exact dsc hs (by omega) rfl h
theorem sq_8 (q : Nat → Nat → Bool) : sp_8 q = s0 (ps 2 4 5) (ps 0 2 4) (ps 0 2 5) (ps 0 4 5) (2 ^ 2 - 1) (28 * ix 2 5 + ix 0 4) (28 * ix 0 4 + ix 2 5) (28 * ix 2 4 + ix 0 5) (28 * ix 0 5 + ix 2 4) (sp_9 q) := rfl
theorem dn_8 (hs : SG s) {q : Nat → Nat → Bool} (h : sp_8 q (Sk s 8) (Ak s 8) = true) : (sp_9 q) (Sk s 9) (Ak s 9) = true := by
  rw [sq_8] at h
  exact dsc hs (by omega) rfl h
theorem sq_9 (q : Nat → Nat → Bool) : sp_9 q = s0 (ps 3 4 5) (ps 0 3 4) (ps 0 3 5) (ps 0 4 5) (2 ^ 3 - 1) (28 * ix 3 5 + ix 0 4) (28 * ix 0 4 + ix 3 5) (28 * ix 3 4 + ix 0 5) (28 * ix 0 5 + ix 3 4) q := rfl
theorem dn_9 (hs : SG s) {q : Nat → Nat → Bool} (h : sp_9 q (Sk s 9) (Ak s 9) = true) : q (Sk s 10) (Ak s 10) = true := by
  rw [sq_9] at h
  exact dsc hs (by omega) rfl h
theorem sq_10 : sd_10 = s0 (ps 1 2 6) (ps 0 1 2) (ps 0 1 6) (ps 0 2 6) (2 ^ 1 - 1) (28 * ix 1 6 + ix 0 2) (28 * ix 0 2 + ix 1 6) (28 * ix 1 2 + ix 0 6) (28 * ix 0 6 + ix 1 2) sd_11 := rfl
theorem dn_10 (hs : SG s) (h : sd_10 (Sk s 10) (Ak s 10) = true) : sd_11 (Sk s 11) (Ak s 11) = true := by
  rw [sq_10] at h
  exact dsc hs (by omega) rfl h
theorem sq_11 : sd_11 = s0 (ps 1 3 6) (ps 0 1 3) (ps 0 1 6) (ps 0 3 6) (2 ^ 1 - 1) (28 * ix 1 6 + ix 0 3) (28 * ix 0 3 + ix 1 6) (28 * ix 1 3 + ix 0 6) (28 * ix 0 6 + ix 1 3) sd_12 := rfl
theorem dn_11 (hs : SG s) (h : sd_11 (Sk s 11) (Ak s 11) = true) : sd_12 (Sk s 12) (Ak s 12) = true := by
  rw [sq_11] at h
  exact dsc hs (by omega) rfl h
theorem sq_12 : sd_12 = s0 (ps 2 3 6) (ps 0 2 3) (ps 0 2 6) (ps 0 3 6) (2 ^ 2 - 1) (28 * ix 2 6 + ix 0 3) (28 * ix 0 3 + ix 2 6) (28 * ix 2 3 + ix 0 6) (28 * ix 0 6 + ix 2 3) sd_13 := rfl
theorem dn_12 (hs : SG s) (h : sd_12 (Sk s 12) (Ak s 12) = true) : sd_13 (Sk s 13) (Ak s 13) = true := by
  rw [sq_12] at h
  exact dsc hs (by omega) rfl h
theorem sq_13 : sd_13 = s0 (ps 1 4 6) (ps 0 1 4) (ps 0 1 6) (ps 0 4 6) (2 ^ 1 - 1) (28 * ix 1 6 + ix 0 4) (28 * ix 0 4 + ix 1 6) (28 * ix 1 4 + ix 0 6) (28 * ix 0 6 + ix 1 4) sd_14 := rfl
theorem dn_13 (hs : SG s) (h : sd_13 (Sk s 13) (Ak s 13) = true) : sd_14 (Sk s 14) (Ak s 14) = true := by
  rw [sq_13] at h
  exact dsc hs (by omega) rfl h
theorem sq_14 : sd_14 = s0 (ps 2 4 6) (ps 0 2 4) (ps 0 2 6) (ps 0 4 6) (2 ^ 2 - 1) (28 * ix 2 6 + ix 0 4) (28 * ix 0 4 + ix 2 6) (28 * ix 2 4 + ix 0 6) (28 * ix 0 6 + ix 2 4) sd_15 := rfl
theorem dn_14 (hs : SG s) (h : sd_14 (Sk s 14) (Ak s 14) = true) : sd_15 (Sk s 15) (Ak s 15) = true := by
  rw [sq_14] at h
  exact dsc hs (by omega) rfl h
theorem sq_15 : sd_15 = s0 (ps 3 4 6) (ps 0 3 4) (ps 0 3 6) (ps 0 4 6) (2 ^ 3 - 1) (28 * ix 3 6 + ix 0 4) (28 * ix 0 4 + ix 3 6) (28 * ix 3 4 + ix 0 6) (28 * ix 0 6 + ix 3 4) sd_16 := rfl
theorem dn_15 (hs : SG s) (h : sd_15 (Sk s 15) (Ak s 15) = true) : sd_16 (Sk s 16) (Ak s 16) = true := by
  rw [sq_15] at h
  exact dsc hs (by omega) rfl h
theorem sq_16 : sd_16 = s0 (ps 1 5 6) (ps 0 1 5) (ps 0 1 6) (ps 0 5 6) (2 ^ 1 - 1) (28 * ix 1 6 + ix 0 5) (28 * ix 0 5 + ix 1 6) (28 * ix 1 5 + ix 0 6) (28 * ix 0 6 + ix 1 5) sd_17 := rfl
theorem dn_16 (hs : SG s) (h : sd_16 (Sk s 16) (Ak s 16) = true) : sd_17 (Sk s 17) (Ak s 17) = true := by
  rw [sq_16] at h
  exact dsc hs (by omega) rfl h
theorem sq_17 : sd_17 = s0 (ps 2 5 6) (ps 0 2 5) (ps 0 2 6) (ps 0 5 6) (2 ^ 2 - 1) (28 * ix 2 6 + ix 0 5) (28 * ix 0 5 + ix 2 6) (28 * ix 2 5 + ix 0 6) (28 * ix 0 6 + ix 2 5) sd_18 := rfl
theorem dn_17 (hs : SG s) (h : sd_17 (Sk s 17) (Ak s 17) = true) : sd_18 (Sk s 18) (Ak s 18) = true := by
  rw [sq_17] at h
  exact dsc hs (by omega) rfl h
theorem sq_18 : sd_18 = s0 (ps 3 5 6) (ps 0 3 5) (ps 0 3 6) (ps 0 5 6) (2 ^ 3 - 1) (28 * ix 3 6 + ix 0 5) (28 * ix 0 5 + ix 3 6) (28 * ix 3 5 + ix 0 6) (28 * ix 0 6 + ix 3 5) sd_19 := rfl
theorem dn_18 (hs : SG s) (h : sd_18 (Sk s 18) (Ak s 18) = true) : sd_19 (Sk s 19) (Ak s 19) = true := by
  rw [sq_18] at h
  exact dsc hs (by omega) rfl h
theorem sq_19 : sd_19 = s0 (ps 4 5 6) (ps 0 4 5) (ps 0 4 6) (ps 0 5 6) (2 ^ 4 - 1) (28 * ix 4 6 + ix 0 5) (28 * ix 0 5 + ix 4 6) (28 * ix 4 5 + ix 0 6) (28 * ix 0 6 + ix 4 5) sd_20 := rfl
theorem dn_19 (hs : SG s) (h : sd_19 (Sk s 19) (Ak s 19) = true) : sd_20 (Sk s 20) (Ak s 20) = true := by
  rw [sq_19] at h
  exact dsc hs (by omega) rfl h
theorem sq_20 : sd_20 = s0 (ps 1 2 7) (ps 0 1 2) (ps 0 1 7) (ps 0 2 7) (2 ^ 1 - 1) (28 * ix 1 7 + ix 0 2) (28 * ix 0 2 + ix 1 7) (28 * ix 1 2 + ix 0 7) (28 * ix 0 7 + ix 1 2) sd_21 := rfl
theorem dn_20 (hs : SG s) (h : sd_20 (Sk s 20) (Ak s 20) = true) : sd_21 (Sk s 21) (Ak s 21) = true := by
  rw [sq_20] at h
  exact dsc hs (by omega) rfl h
theorem sq_21 : sd_21 = s0 (ps 1 3 7) (ps 0 1 3) (ps 0 1 7) (ps 0 3 7) (2 ^ 1 - 1) (28 * ix 1 7 + ix 0 3) (28 * ix 0 3 + ix 1 7) (28 * ix 1 3 + ix 0 7) (28 * ix 0 7 + ix 1 3) sd_22 := rfl
theorem dn_21 (hs : SG s) (h : sd_21 (Sk s 21) (Ak s 21) = true) : sd_22 (Sk s 22) (Ak s 22) = true := by
  rw [sq_21] at h
  exact dsc hs (by omega) rfl h
theorem sq_22 : sd_22 = s0 (ps 2 3 7) (ps 0 2 3) (ps 0 2 7) (ps 0 3 7) (2 ^ 2 - 1) (28 * ix 2 7 + ix 0 3) (28 * ix 0 3 + ix 2 7) (28 * ix 2 3 + ix 0 7) (28 * ix 0 7 + ix 2 3) sd_23 := rfl
theorem dn_22 (hs : SG s) (h : sd_22 (Sk s 22) (Ak s 22) = true) : sd_23 (Sk s 23) (Ak s 23) = true := by
  rw [sq_22] at h
  exact dsc hs (by omega) rfl h
theorem sq_23 : sd_23 = s0 (ps 1 4 7) (ps 0 1 4) (ps 0 1 7) (ps 0 4 7) (2 ^ 1 - 1) (28 * ix 1 7 + ix 0 4) (28 * ix 0 4 + ix 1 7) (28 * ix 1 4 + ix 0 7) (28 * ix 0 7 + ix 1 4) sd_24 := rfl
theorem dn_23 (hs : SG s) (h : sd_23 (Sk s 23) (Ak s 23) = true) : sd_24 (Sk s 24) (Ak s 24) = true := by
  rw [sq_23] at h
  exact dsc hs (by omega) rfl h
theorem sq_24 : sd_24 = s0 (ps 2 4 7) (ps 0 2 4) (ps 0 2 7) (ps 0 4 7) (2 ^ 2 - 1) (28 * ix 2 7 + ix 0 4) (28 * ix 0 4 + ix 2 7) (28 * ix 2 4 + ix 0 7) (28 * ix 0 7 + ix 2 4) sd_25 := rfl
theorem dn_24 (hs : SG s) (h : sd_24 (Sk s 24) (Ak s 24) = true) : sd_25 (Sk s 25) (Ak s 25) = true := by
  rw [sq_24] at h
  exact dsc hs (by omega) rfl h
theorem sq_25 : sd_25 = s0 (ps 3 4 7) (ps 0 3 4) (ps 0 3 7) (ps 0 4 7) (2 ^ 3 - 1) (28 * ix 3 7 + ix 0 4) (28 * ix 0 4 + ix 3 7) (28 * ix 3 4 + ix 0 7) (28 * ix 0 7 + ix 3 4) sd_26 := rfl
theorem dn_25 (hs : SG s) (h : sd_25 (Sk s 25) (Ak s 25) = true) : sd_26 (Sk s 26) (Ak s 26) = true := by
  rw [sq_25] at h
  exact dsc hs (by omega) rfl h
theorem sq_26 : sd_26 = s0 (ps 1 5 7) (ps 0 1 5) (ps 0 1 7) (ps 0 5 7) (2 ^ 1 - 1) (28 * ix 1 7 + ix 0 5) (28 * ix 0 5 + ix 1 7) (28 * ix 1 5 + ix 0 7) (28 * ix 0 7 + ix 1 5) sd_27 := rfl
theorem dn_26 (hs : SG s) (h : sd_26 (Sk s 26) (Ak s 26) = true) : sd_27 (Sk s 27) (Ak s 27) = true := by
  rw [sq_26] at h
  exact dsc hs (by omega) rfl h
theorem sq_27 : sd_27 = s0 (ps 2 5 7) (ps 0 2 5) (ps 0 2 7) (ps 0 5 7) (2 ^ 2 - 1) (28 * ix 2 7 + ix 0 5) (28 * ix 0 5 + ix 2 7) (28 * ix 2 5 + ix 0 7) (28 * ix 0 7 + ix 2 5) sd_28 := rfl
theorem dn_27 (hs : SG s) (h : sd_27 (Sk s 27) (Ak s 27) = true) : sd_28 (Sk s 28) (Ak s 28) = true := by
  rw [sq_27] at h
  exact dsc hs (by omega) rfl h
theorem sq_28 : sd_28 = s0 (ps 3 5 7) (ps 0 3 5) (ps 0 3 7) (ps 0 5 7) (2 ^ 3 - 1) (28 * ix 3 7 + ix 0 5) (28 * ix 0 5 + ix 3 7) (28 * ix 3 5 + ix 0 7) (28 * ix 0 7 + ix 3 5) sd_29 := rfl
theorem dn_28 (hs : SG s) (h : sd_28 (Sk s 28) (Ak s 28) = true) : sd_29 (Sk s 29) (Ak s 29) = true := by
  rw [sq_28] at h
  exact dsc hs (by omega) rfl h
theorem sq_29 : sd_29 = s0 (ps 4 5 7) (ps 0 4 5) (ps 0 4 7) (ps 0 5 7) (2 ^ 4 - 1) (28 * ix 4 7 + ix 0 5) (28 * ix 0 5 + ix 4 7) (28 * ix 4 5 + ix 0 7) (28 * ix 0 7 + ix 4 5) sd_30 := rfl
theorem dn_29 (hs : SG s) (h : sd_29 (Sk s 29) (Ak s 29) = true) : sd_30 (Sk s 30) (Ak s 30) = true := by
  rw [sq_29] at h
  exact dsc hs (by omega) rfl h
theorem sq_30 : sd_30 = s0 (ps 1 6 7) (ps 0 1 6) (ps 0 1 7) (ps 0 6 7) (2 ^ 1 - 1) (28 * ix 1 7 + ix 0 6) (28 * ix 0 6 + ix 1 7) (28 * ix 1 6 + ix 0 7) (28 * ix 0 7 + ix 1 6) sd_31 := rfl
theorem dn_30 (hs : SG s) (h : sd_30 (Sk s 30) (Ak s 30) = true) : sd_31 (Sk s 31) (Ak s 31) = true := by
  rw [sq_30] at h
  exact dsc hs (by omega) rfl h
theorem sq_31 : sd_31 = s0 (ps 2 6 7) (ps 0 2 6) (ps 0 2 7) (ps 0 6 7) (2 ^ 2 - 1) (28 * ix 2 7 + ix 0 6) (28 * ix 0 6 + ix 2 7) (28 * ix 2 6 + ix 0 7) (28 * ix 0 7 + ix 2 6) sd_32 := rfl
theorem dn_31 (hs : SG s) (h : sd_31 (Sk s 31) (Ak s 31) = true) : sd_32 (Sk s 32) (Ak s 32) = true := by
  rw [sq_31] at h
  exact dsc hs (by omega) rfl h
theorem sq_32 : sd_32 = s0 (ps 3 6 7) (ps 0 3 6) (ps 0 3 7) (ps 0 6 7) (2 ^ 3 - 1) (28 * ix 3 7 + ix 0 6) (28 * ix 0 6 + ix 3 7) (28 * ix 3 6 + ix 0 7) (28 * ix 0 7 + ix 3 6) sd_33 := rfl
theorem dn_32 (hs : SG s) (h : sd_32 (Sk s 32) (Ak s 32) = true) : sd_33 (Sk s 33) (Ak s 33) = true := by
  rw [sq_32] at h
  exact dsc hs (by omega) rfl h
theorem sq_33 : sd_33 = s0 (ps 4 6 7) (ps 0 4 6) (ps 0 4 7) (ps 0 6 7) (2 ^ 4 - 1) (28 * ix 4 7 + ix 0 6) (28 * ix 0 6 + ix 4 7) (28 * ix 4 6 + ix 0 7) (28 * ix 0 7 + ix 4 6) sd_34 := rfl
theorem dn_33 (hs : SG s) (h : sd_33 (Sk s 33) (Ak s 33) = true) : sd_34 (Sk s 34) (Ak s 34) = true := by
  rw [sq_33] at h
  exact dsc hs (by omega) rfl h
theorem sq_34 : sd_34 = s0 (ps 5 6 7) (ps 0 5 6) (ps 0 5 7) (ps 0 6 7) (2 ^ 5 - 1) (28 * ix 5 7 + ix 0 6) (28 * ix 0 6 + ix 5 7) (28 * ix 5 6 + ix 0 7) (28 * ix 0 7 + ix 5 6) sd_35 := rfl
theorem dn_34 (hs : SG s) (h : sd_34 (Sk s 34) (Ak s 34) = true) : sd_35 (Sk s 35) (Ak s 35) = true := by
  rw [sq_34] at h
  exact dsc hs (by omega) rfl h
theorem sig_leaf (hs : SG s) : sleaf (Sk s 35) (Ak s 35) = true := by
  have h0 : sp_0 spi (Sk s 0) (Ak s 0) = true := sig_top
  have h1 := dn_0 hs h0
  have h2 := dn_1 hs h1
  have h3 := dn_2 hs h2
  have h4 := dn_3 hs h3
  have h5 := dn_4 hs h4
  have h6 := dn_5 hs h5
  have h7 := dn_6 hs h6
  have h8 := dn_7 hs h7
  have h9 := dn_8 hs h8
  have h10 := dn_9 hs h9
  have hin : (Sk s 10, Ak s 10) ∈ spl := by
    obtain ⟨x, hx, hq⟩ := List.any_eq_true.mp h10
    rw [Bool.and_eq_true] at hq
    rw [← Nat.eq_of_beq_eq_true hq.1, ← Nat.eq_of_beq_eq_true hq.2]
    exact hx
  have g10 := sig_all _ hin
  have g11 := dn_10 hs g10
  have g12 := dn_11 hs g11
  have g13 := dn_12 hs g12
  have g14 := dn_13 hs g13
  have g15 := dn_14 hs g14
  have g16 := dn_15 hs g15
  have g17 := dn_16 hs g16
  have g18 := dn_17 hs g17
  have g19 := dn_18 hs g18
  have g20 := dn_19 hs g19
  have g21 := dn_20 hs g20
  have g22 := dn_21 hs g21
  have g23 := dn_22 hs g22
  have g24 := dn_23 hs g23
  have g25 := dn_24 hs g24
  have g26 := dn_25 hs g25
  have g27 := dn_26 hs g26
  have g28 := dn_27 hs g27
  have g29 := dn_28 hs g28
  have g30 := dn_29 hs g29
  have g31 := dn_30 hs g30
  have g32 := dn_31 hs g31
  have g33 := dn_32 hs g32
  have g34 := dn_33 hs g33
  have g35 := dn_34 hs g34
  exact g35
/-! the leaf: the count, and the mirror -/
def wt1 : List (Nat × Nat × Nat) := [(1, 2, 7), (1, 3, 7), (2, 3, 7), (1, 4, 7), (2, 4, 7), (3, 4, 7), (1, 5, 7), (2, 5, 7), (3, 5, 7), (4, 5, 7), (1, 6, 7), (2, 6, 7), (3, 6, 7), (4, 6, 7), (5, 6, 7)]
def wt2 : List (Nat × Nat × Nat) := [(1, 6, 7), (1, 5, 7), (1, 5, 6), (1, 4, 7), (1, 4, 6), (1, 4, 5), (1, 3, 7), (1, 3, 6), (1, 3, 5), (1, 3, 4), (1, 2, 7), (1, 2, 6), (1, 2, 5), (1, 2, 4), (1, 2, 3)]
def wf (t : List (Nat × Nat × Nat)) (s : Nat → Nat → Nat → Bool) : Nat := mk (fun j => s (t.getD j (0, 0, 0)).1 (t.getD j (0, 0, 0)).2.1 (t.getD j (0, 0, 0)).2.2) 15
theorem sb_or (S p j e : Nat) : Nat.lor e (sb S p j) = if S.testBit p then e ||| 1 <<< j else e := by
  apply Nat.eq_of_testBit_eq
  intro i
  show (e ||| ((S >>> p) &&& 1) <<< j).testBit i = _
  rw [Nat.testBit_or, Nat.testBit_shiftLeft, Nat.testBit_and, Nat.testBit_shiftRight]
  cases h : S.testBit p with
  | false =>
    rw [if_neg Bool.false_ne_true]
    by_cases g : j ≤ i
    · by_cases w : i - j = 0
      · rw [w, Nat.add_zero, h]; simp
      · have : (1 : Nat).testBit (i - j) = false := Nat.testBit_lt_two_pow (Nat.one_lt_two_pow w)
        rw [this]; simp
    · rw [decide_eq_false g]; simp
  | true =>
    rw [if_pos rfl, tb_set]
    congr 1
    by_cases g : j ≤ i
    · by_cases w : i - j = 0
      · rw [w, Nat.add_zero, h, decide_eq_true (show j = i by omega), decide_eq_true (show i ≥ j from g)]; rfl
      · have : (1 : Nat).testBit (i - j) = false := Nat.testBit_lt_two_pow (Nat.one_lt_two_pow w)
        rw [this, decide_eq_false (show ¬ j = i by omega)]; simp
    · rw [decide_eq_false (show ¬ i ≥ j from g), decide_eq_false (show ¬ j = i by omega)]; rfl
theorem sb_0 (S p : Nat) : sb S p 0 = if S.testBit p then 0 ||| 1 <<< 0 else 0 := by
  have := sb_or S p 0 0
  rw [← this]
  exact (Nat.zero_or _).symm

theorem sw1_wf (hs : SG s) : sw1 (Sk s 35) = wf wt1 s := by
  have hb : ∀ x y z, x < y → y < z → z < 8 → 1 ≤ x → (Sk s 35).testBit (ps x y z) = s x y z := fun x y z h1 h2 h3 h4 => by
    rw [Sk_inv hs.1 35 (Nat.le_refl _) x y z h1 h2 h3, decide_eq_true (Or.inr (stl_at z h3 y h2 x h1 h4).1), Bool.true_and]
  have b0 : (Sk s 35).testBit 37 = s 1 2 7 := hb 1 2 7 (by omega) (by omega) (by omega) (by omega)
  have b1 : (Sk s 35).testBit 39 = s 1 3 7 := hb 1 3 7 (by omega) (by omega) (by omega) (by omega)
  have b2 : (Sk s 35).testBit 40 = s 2 3 7 := hb 2 3 7 (by omega) (by omega) (by omega) (by omega)
  have b3 : (Sk s 35).testBit 42 = s 1 4 7 := hb 1 4 7 (by omega) (by omega) (by omega) (by omega)
  have b4 : (Sk s 35).testBit 43 = s 2 4 7 := hb 2 4 7 (by omega) (by omega) (by omega) (by omega)
  have b5 : (Sk s 35).testBit 44 = s 3 4 7 := hb 3 4 7 (by omega) (by omega) (by omega) (by omega)
  have b6 : (Sk s 35).testBit 46 = s 1 5 7 := hb 1 5 7 (by omega) (by omega) (by omega) (by omega)
  have b7 : (Sk s 35).testBit 47 = s 2 5 7 := hb 2 5 7 (by omega) (by omega) (by omega) (by omega)
  have b8 : (Sk s 35).testBit 48 = s 3 5 7 := hb 3 5 7 (by omega) (by omega) (by omega) (by omega)
  have b9 : (Sk s 35).testBit 49 = s 4 5 7 := hb 4 5 7 (by omega) (by omega) (by omega) (by omega)
  have b10 : (Sk s 35).testBit 51 = s 1 6 7 := hb 1 6 7 (by omega) (by omega) (by omega) (by omega)
  have b11 : (Sk s 35).testBit 52 = s 2 6 7 := hb 2 6 7 (by omega) (by omega) (by omega) (by omega)
  have b12 : (Sk s 35).testBit 53 = s 3 6 7 := hb 3 6 7 (by omega) (by omega) (by omega) (by omega)
  have b13 : (Sk s 35).testBit 54 = s 4 6 7 := hb 4 6 7 (by omega) (by omega) (by omega) (by omega)
  have b14 : (Sk s 35).testBit 55 = s 5 6 7 := hb 5 6 7 (by omega) (by omega) (by omega) (by omega)
  unfold sw1
  simp only [sb_or, sb_0, b0, b1, b2, b3, b4, b5, b6, b7, b8, b9, b10, b11, b12, b13, b14]
  rfl
theorem sw2_wf (hs : SG s) : sw2 (Sk s 35) = wf wt2 s := by
  have hb : ∀ x y z, x < y → y < z → z < 8 → 1 ≤ x → (Sk s 35).testBit (ps x y z) = s x y z := fun x y z h1 h2 h3 h4 => by
    rw [Sk_inv hs.1 35 (Nat.le_refl _) x y z h1 h2 h3, decide_eq_true (Or.inr (stl_at z h3 y h2 x h1 h4).1), Bool.true_and]
  have b0 : (Sk s 35).testBit 51 = s 1 6 7 := hb 1 6 7 (by omega) (by omega) (by omega) (by omega)
  have b1 : (Sk s 35).testBit 46 = s 1 5 7 := hb 1 5 7 (by omega) (by omega) (by omega) (by omega)
  have b2 : (Sk s 35).testBit 31 = s 1 5 6 := hb 1 5 6 (by omega) (by omega) (by omega) (by omega)
  have b3 : (Sk s 35).testBit 42 = s 1 4 7 := hb 1 4 7 (by omega) (by omega) (by omega) (by omega)
  have b4 : (Sk s 35).testBit 27 = s 1 4 6 := hb 1 4 6 (by omega) (by omega) (by omega) (by omega)
  have b5 : (Sk s 35).testBit 17 = s 1 4 5 := hb 1 4 5 (by omega) (by omega) (by omega) (by omega)
  have b6 : (Sk s 35).testBit 39 = s 1 3 7 := hb 1 3 7 (by omega) (by omega) (by omega) (by omega)
  have b7 : (Sk s 35).testBit 24 = s 1 3 6 := hb 1 3 6 (by omega) (by omega) (by omega) (by omega)
  have b8 : (Sk s 35).testBit 14 = s 1 3 5 := hb 1 3 5 (by omega) (by omega) (by omega) (by omega)
  have b9 : (Sk s 35).testBit 8 = s 1 3 4 := hb 1 3 4 (by omega) (by omega) (by omega) (by omega)
  have b10 : (Sk s 35).testBit 37 = s 1 2 7 := hb 1 2 7 (by omega) (by omega) (by omega) (by omega)
  have b11 : (Sk s 35).testBit 22 = s 1 2 6 := hb 1 2 6 (by omega) (by omega) (by omega) (by omega)
  have b12 : (Sk s 35).testBit 12 = s 1 2 5 := hb 1 2 5 (by omega) (by omega) (by omega) (by omega)
  have b13 : (Sk s 35).testBit 6 = s 1 2 4 := hb 1 2 4 (by omega) (by omega) (by omega) (by omega)
  have b14 : (Sk s 35).testBit 3 = s 1 2 3 := hb 1 2 3 (by omega) (by omega) (by omega) (by omega)
  unfold sw2
  simp only [sb_or, sb_0, b0, b1, b2, b3, b4, b5, b6, b7, b8, b9, b10, b11, b12, b13, b14]
  rfl
theorem srow_tb (A i : Nat) : ∀ (n U : Nat), (srow A n U).testBit i = true ↔ U.testBit i = true ∨ ∃ k, k < n ∧ (arow A k).testBit i = true
  | 0, U => ⟨Or.inl, fun h => h.elim id fun ⟨k, z, _⟩ => absurd z (Nat.not_lt_zero k)⟩
  | n + 1, U => by
    have e : srow A (n + 1) U = srow A n (Nat.lor U (arow A n)) := by
      show fc (Nat.lor U (arow A n)) (srow A n) = _
      exact fc_eq _ _
    rw [e, srow_tb A i n]
    show (U ||| arow A n).testBit i = true ∨ _ ↔ _
    rw [Nat.testBit_or, Bool.or_eq_true]
    constructor
    · rintro ((h | h) | ⟨k, k1, k2⟩)
      · exact Or.inl h
      · exact Or.inr ⟨n, by omega, h⟩
      · exact Or.inr ⟨k, by omega, k2⟩
    · rintro (h | ⟨k, k1, k2⟩)
      · exact Or.inl (Or.inl h)
      · rcases Nat.lt_or_ge k n with g | g
        · exact Or.inr ⟨k, g, k2⟩
        · rw [show k = n by omega] at k2; exact Or.inl (Or.inr k2)
theorem arow_tb (A u j : Nat) : (arow A u).testBit j = (decide (j < 28) && A.testBit (28 * u + j)) := by
  show ((A >>> (28 * u)) &&& (2 ^ 28 - 1)).testBit j = _
  rw [Nat.testBit_and, Nat.testBit_shiftRight, Nat.testBit_two_pow_sub_one, Bool.and_comm]
/-- crossing of two pairs, by the signs -/
def crq (s : Nat → Nat → Nat → Bool) (p q r t : Nat) : Bool :=
  if p < r ∧ r < q ∧ q < t then s p r q == s r q t
  else if r < p ∧ p < t ∧ t < q then s r p t == s p t q
  else if p < r ∧ r < t ∧ t < q then s p r q != s p t q
  else if r < p ∧ p < q ∧ q < t then s r p t != s r q t
  else false
def rs (s : Nat → Nat → Nat → Bool) (u v : Nat) : Bool := decide (u < 28) && (decide (v < 28) && crq s (dpa u) (dpb u) (dpa v) (dpb v))
theorem rs_hit {u v : Nat} (hu : u < 28) (hv : v < 28) : rs s u v = true ↔ ∃ i, i < 35 ∧ hit s (stl.getD i (0, 0, 0)).1 (stl.getD i (0, 0, 0)).2.1 (stl.getD i (0, 0, 0)).2.2 (28 * u + v) := by
  have e : rs s u v = crq s (dpa u) (dpb u) (dpa v) (dpb v) := by
    unfold rs
    rw [decide_eq_true hu, decide_eq_true hv, Bool.true_and, Bool.true_and]
  rw [e]
  obtain ⟨u1, u2, u3⟩ := dp_ok u hu
  obtain ⟨v1, v2, v3⟩ := dp_ok v hv
  constructor
  · intro h
    unfold crq at h
    generalize dpa u = p at *
    generalize dpb u = q at *
    generalize dpa v = r at *
    generalize dpb v = t at *
    by_cases c1 : p < r ∧ r < q ∧ q < t
    · rw [if_pos c1, beq_iff_eq] at h
      obtain ⟨g1, g2⟩ := stl_at t v2 q c1.2.2 r c1.2.1 (by omega)
      refine ⟨_, g1, ?_⟩
      rw [g2]
      exact ⟨p, c1.1, Or.inl ⟨h, Or.inr (by rw [u3, v3])⟩⟩
    · rw [if_neg c1] at h
      by_cases c2 : r < p ∧ p < t ∧ t < q
      · rw [if_pos c2, beq_iff_eq] at h
        obtain ⟨g1, g2⟩ := stl_at q u2 t c2.2.2 p c2.2.1 (by omega)
        refine ⟨_, g1, ?_⟩
        rw [g2]
        exact ⟨r, c2.1, Or.inl ⟨h, Or.inl (by rw [u3, v3])⟩⟩
      · rw [if_neg c2] at h
        by_cases c3 : p < r ∧ r < t ∧ t < q
        · rw [if_pos c3, bne_iff_ne] at h
          obtain ⟨g1, g2⟩ := stl_at q u2 t c3.2.2 r c3.2.1 (by omega)
          refine ⟨_, g1, ?_⟩
          rw [g2]
          exact ⟨p, c3.1, Or.inr ⟨h, Or.inr (by rw [u3, v3])⟩⟩
        · rw [if_neg c3] at h
          by_cases c4 : r < p ∧ p < q ∧ q < t
          · rw [if_pos c4, bne_iff_ne] at h
            obtain ⟨g1, g2⟩ := stl_at t v2 q c4.2.2 p c4.2.1 (by omega)
            refine ⟨_, g1, ?_⟩
            rw [g2]
            exact ⟨r, c4.1, Or.inr ⟨h, Or.inl (by rw [u3, v3])⟩⟩
          · rw [if_neg c4] at h; cases h
  · rintro ⟨i, hi, w, hw, hh⟩
    obtain ⟨t1, t2, t3, t4, -⟩ := stl_ok i hi
    generalize (stl.getD i (0, 0, 0)).1 = a at *
    generalize (stl.getD i (0, 0, 0)).2.1 = b at *
    generalize (stl.getD i (0, 0, 0)).2.2 = c at *
    obtain ⟨x1, x2, x3⟩ := ix_dec c t4 a (by omega)
    obtain ⟨y1, y2, y3⟩ := ix_dec b (by omega) w (by omega)
    obtain ⟨z1, z2, z3⟩ := ix_dec b (by omega) a t2
    obtain ⟨w1, w2, w3⟩ := ix_dec c t4 w (by omega)
    rcases hh with ⟨g, hj | hj⟩ | ⟨g, hj | hj⟩
    · have eu : u = ix a c := by omega
      have ev : v = ix w b := by omega
      rw [eu, ev, x2, x3, y2, y3]
      unfold crq
      rw [if_neg (by omega), if_pos (by omega), beq_iff_eq]
      exact g
    · have eu : u = ix w b := by omega
      have ev : v = ix a c := by omega
      rw [eu, ev, x2, x3, y2, y3]
      unfold crq
      rw [if_pos (by omega), beq_iff_eq]
      exact g
    · have eu : u = ix a b := by omega
      have ev : v = ix w c := by omega
      rw [eu, ev, z2, z3, w2, w3]
      unfold crq
      rw [if_neg (by omega), if_neg (by omega), if_neg (by omega), if_pos (by omega), bne_iff_ne]
      exact g
    · have eu : u = ix w c := by omega
      have ev : v = ix a b := by omega
      rw [eu, ev, z2, z3, w2, w3]
      unfold crq
      rw [if_neg (by omega), if_neg (by omega), if_pos (by omega), bne_iff_ne]
      exact g
theorem crq_comm (p q r t : Nat) : crq s r t p q = crq s p q r t := by
  unfold crq
  by_cases c1 : p < r ∧ r < q ∧ q < t
  · rw [if_neg (by omega), if_pos c1, if_pos c1]
  · by_cases c2 : r < p ∧ p < t ∧ t < q
    · rw [if_pos c2, if_neg c1, if_pos c2]
    · rw [if_neg c2, if_neg c1, if_neg c1, if_neg c2]
      by_cases c3 : p < r ∧ r < t ∧ t < q
      · rw [if_neg (by omega), if_pos c3, if_pos c3]
      · by_cases c4 : r < p ∧ p < q ∧ q < t
        · rw [if_pos c4, if_neg c3, if_pos c4]
        · rw [if_neg c4, if_neg c3, if_neg c3, if_neg c4]
theorem crq_self (p q : Nat) : crq s p q p q = false := by
  unfold crq
  rw [if_neg (by omega), if_neg (by omega), if_neg (by omega), if_neg (by omega)]
theorem rs_comm (u v : Nat) : rs s u v = rs s v u := by
  unfold rs
  rw [crq_comm]
  cases decide (u < 28) <;> cases decide (v < 28) <;> rfl
theorem rs_self (u : Nat) : rs s u u = false := by
  unfold rs
  rw [crq_self, Bool.and_false, Bool.and_false]
theorem Ak_row (hs : SG s) (u v : Nat) : (arow (Ak s 35) u).testBit v = rs s u v := by
  rw [arow_tb]
  by_cases hv : v < 28
  · by_cases hu : u < 28
    · rw [decide_eq_true hv, Bool.true_and]
      have h1 := Ak_tb hs (j := 28 * u + v) (k := 35) (Nat.le_refl _)
      have h2 := rs_hit (s := s) hu hv
      cases z : rs s u v with
      | true => exact h1.mpr (h2.mp z)
      | false =>
        cases w : (Ak s 35).testBit (28 * u + v) with
        | false => rfl
        | true => rw [h2.mpr (h1.mp w)] at z; cases z
    · have : rs s u v = false := by unfold rs; rw [decide_eq_false hu]; rfl
      rw [this, decide_eq_true hv, Bool.true_and]
      cases w : (Ak s 35).testBit (28 * u + v) with
      | false => rfl
      | true =>
        obtain ⟨i, hi, x, hx, hh⟩ := (Ak_tb hs (k := 35) (Nat.le_refl _)).mp w
        obtain ⟨t1, t2, t3, t4, -⟩ := stl_ok i hi
        generalize (stl.getD i (0, 0, 0)).1 = a at *
        generalize (stl.getD i (0, 0, 0)).2.1 = b at *
        generalize (stl.getD i (0, 0, 0)).2.2 = c at *
        have x1 := (ix_dec c t4 a (by omega)).1
        have y1 := (ix_dec b (by omega) x (by omega)).1
        have z1 := (ix_dec b (by omega) a t2).1
        have w1 := (ix_dec c t4 x (by omega)).1
        omega
  · have : rs s u v = false := by unfold rs; rw [decide_eq_false hv]; simp
    rw [this, decide_eq_false hv]; rfl
/-- the count, for signs in one half -/
theorem sig_half (hs : SG s) (hw : wf wt1 s ≤ wf wt2 s) {L : List Nat} (hn : L.Nodup) (hL : ∀ T ∈ L, isG (rs s) 28 T) : L.length ≤ 256 := by
  have hl := sig_leaf hs
  unfold sleaf at hl
  rw [sw1_wf hs, sw2_wf hs, Nat.ble_eq_true_of_le hw] at hl
  have hl : Nat.ble (fc (srow (Ak s 35) 28 0) fun U => cnt (Ak s 35) 60 U 0) 256 = true := hl
  rw [fc_eq] at hl
  have hle := Nat.le_of_ble_eq_true hl
  have hsym : aSym (Ak s 35) := fun i j => by rw [Ak_row hs, Ak_row hs, rs_comm]
  have hU : ∀ i, (srow (Ak s 35) 28 0).testBit i = true ↔ ∃ k, k < 28 ∧ rs s k i = true := fun i => by
    rw [srow_tb, Nat.zero_testBit]
    constructor
    · rintro (h | ⟨k, k1, k2⟩)
      · cases h
      · exact ⟨k, k1, by rw [← Ak_row hs]; exact k2⟩
    · rintro ⟨k, k1, k2⟩
      exact Or.inr ⟨k, k1, by rw [Ak_row hs]; exact k2⟩
  generalize srow (Ak s 35) 28 0 = U at hle hU
  have hin : ∀ {T x : Nat}, isG (rs s) 28 T → x < 28 → U.testBit x = false → T.testBit x = true := fun {T x} hT hx hu => by
    cases z : T.testBit x with
    | true => rfl
    | false =>
      obtain ⟨t, t1, t2⟩ := hT.2.2 x hx z
      rw [(hU x).mpr ⟨t, hT.1 t t1, t2⟩] at hu
      cases hu
  have hlen : (L.map fun T => T &&& U).length = L.length := List.length_map ..
  rw [← hlen]
  refine Nat.le_trans (cnt_sound hsym 60 U 0 _ ?_ ?_ (by omega)) hle
  · refine List.pairwise_map.mpr (hn.imp_of_mem (fun {a b} ha hb hab e => hab ?_))
    apply Nat.eq_of_testBit_eq
    intro i
    have ei : (a &&& U).testBit i = (b &&& U).testBit i := by
      have e : a &&& U = b &&& U := e
      rw [e]
    rw [Nat.testBit_and, Nat.testBit_and] at ei
    cases hu : U.testBit i with
    | true => rw [hu, Bool.and_true, Bool.and_true] at ei; exact ei
    | false =>
      rcases Nat.lt_or_ge i 28 with g | g
      · rw [hin (hL a ha) g hu, hin (hL b hb) g hu]
      · have ta := isG_lt (hL a ha)
        have tb := isG_lt (hL b hb)
        rw [tb_big ta g, tb_big tb g]
  · intro T' hT'
    obtain ⟨T, hT, rfl⟩ := List.mem_map.mp hT'
    have hG := hL T hT
    refine ⟨fun i hi => ?_, fun i j hi hj => ?_, fun x hx hxT => ?_, fun w hw => by simp at hw⟩
    · rw [Nat.testBit_and, Bool.and_eq_true] at hi; exact hi.2
    · rw [Nat.testBit_and, Bool.and_eq_true] at hi hj
      rw [Ak_row hs]
      exact hG.2.1 i j hi.1 hj.1
    · rw [Nat.testBit_and, hx, Bool.and_true] at hxT
      have hx28 : x < 28 := by
        obtain ⟨k, k1, k2⟩ := (hU x).mp hx
        unfold rs at k2
        rw [Bool.and_eq_true, Bool.and_eq_true, decide_eq_true_eq, decide_eq_true_eq] at k2
        exact k2.2.1
      obtain ⟨t, t1, t2⟩ := hG.2.2 x hx28 hxT
      refine ⟨t, ?_, by rw [Ak_row hs]; exact t2⟩
      rw [Nat.testBit_and, t1, Bool.true_and]
      exact (hU t).mpr ⟨x, hx28, by rw [rs_comm]; exact t2⟩
/-- the mirror -/
def mir (s : Nat → Nat → Nat → Bool) (a b c : Nat) : Bool := if a = 0 then s 0 (8 - c) (8 - b) else s (8 - c) (8 - b) (8 - a)
theorem mir_w1 : wf wt1 (mir s) = wf wt2 s := rfl
theorem mir_w2 : wf wt2 (mir s) = wf wt1 s := rfl
end SS
