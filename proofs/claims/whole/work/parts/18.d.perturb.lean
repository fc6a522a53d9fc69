/-! ===== PERTURB: posts in general position, sorted around one ===== -/
section LIN
variable {X Y : Nat → Int}
/-- on a line: between, if the sum 100 x + y is between -/
theorem lin_btw {a b c : Nat} (h : sg X Y a b c = .eq) (hp : ((100 * X c + Y c) - (100 * X a + Y a)) * ((100 * X c + Y c) - (100 * X b + Y b)) < 0) : btw X Y a b c := by
  refine ⟨h, ?_⟩
  have e : dt X Y a b c = 0 := gs_eq.mp h
  have i : dot X Y a b c * (((100 * X b + Y b) - (100 * X a + Y a)) * ((100 * X b + Y b) - (100 * X a + Y a))) = ((100 * X c + Y c) - (100 * X a + Y a)) * ((100 * X c + Y c) - (100 * X b + Y b)) * ((X b - X a) * (X b - X a) + (Y b - Y a) * (Y b - Y a)) + dt X Y a b c * ((100 * (Y a - Y c) - (X a - X c)) * (100 * (X a - X c) + (Y a - Y c)) - (100 * (Y b - Y c) - (X b - X c)) * (100 * (X b - X c) + (Y b - Y c))) := by unfold dot dt; grind
  rw [e, Int.zero_mul, Int.add_zero] at i
  have q1 := isq_nonneg (X b - X a)
  have q2 := isq_nonneg (Y b - Y a)
  have q3 := isq_nonneg ((100 * X b + Y b) - (100 * X a + Y a))
  have hN : 0 < (X b - X a) * (X b - X a) + (Y b - Y a) * (Y b - Y a) := by
    rcases Int.lt_or_le 0 ((X b - X a) * (X b - X a) + (Y b - Y a) * (Y b - Y a)) with g | g
    · exact g
    · have w1 := isq_zero (a := X b - X a) (by omega)
      have w2 := isq_zero (a := Y b - Y a) (by omega)
      have w3 : (100 * X c + Y c) - (100 * X a + Y a) = (100 * X c + Y c) - (100 * X b + Y b) := by omega
      rw [w3] at hp
      have := isq_nonneg ((100 * X c + Y c) - (100 * X b + Y b))
      omega
  have hneg : ((100 * X c + Y c) - (100 * X a + Y a)) * ((100 * X c + Y c) - (100 * X b + Y b)) * ((X b - X a) * (X b - X a) + (Y b - Y a) * (Y b - Y a)) < 0 := Int.mul_neg_of_neg_of_pos hp hN
  rcases Int.lt_or_le (dot X Y a b c) 0 with g | g
  · exact g
  · have := Int.mul_nonneg g q3
    omega
end LIN
section PT
variable (n : Nat) (X Y : Nat → Int)
def x8 (i : Nat) : Int := if i < n then X i else 61 + i
def y8 (i : Nat) : Int := if i < n then Y i else 0
def uu (i : Nat) : Int := 100 * x8 n X i + y8 n Y i
def vv (i : Nat) : Int := 10000000000 * y8 n Y i + uu n X Y i * uu n X Y i
end PT
section PT2
variable {n : Nat} {X Y : Nat → Int}
theorem x8_bd (hP : Pts n X Y) {i : Nat} (hi : i < 8) : 0 ≤ x8 n X i ∧ x8 n X i ≤ 68 ∧ 0 ≤ y8 n Y i ∧ y8 n Y i ≤ 60 := by
  unfold x8 y8
  by_cases h : i < n
  · rw [if_pos h, if_pos h]
    have := hP.2.1 i h
    omega
  · rw [if_neg h, if_neg h]
    omega
theorem uu_bd (hP : Pts n X Y) {i : Nat} (hi : i < 8) : 0 ≤ uu n X Y i ∧ uu n X Y i ≤ 6900 := by
  have := x8_bd hP hi
  unfold uu
  omega
theorem uu_ne (hP : Pts n X Y) {i j : Nat} (hi : i < 8) (hj : j < 8) (hne : i ≠ j) : uu n X Y i ≠ uu n X Y j := by
  intro h
  have b1 := x8_bd hP hi
  have b2 := x8_bd hP hj
  unfold uu at h
  have e1 : x8 n X i = x8 n X j := by omega
  have e2 : y8 n Y i = y8 n Y j := by omega
  unfold x8 at e1
  unfold y8 at e2
  by_cases h1 : i < n <;> by_cases h2 : j < n
  · rw [if_pos h1, if_pos h2] at e1 e2
    exact hne (hP.2.2 i j h1 h2 e1 e2)
  · rw [if_pos h1, if_neg h2] at e1
    have := hP.2.1 i h1
    omega
  · rw [if_neg h1, if_pos h2] at e1
    have := hP.2.1 j h2
    omega
  · rw [if_neg h1, if_neg h2] at e1
    omega
theorem dt_uv (a b c : Nat) : dt (uu n X Y) (vv n X Y) a b c = 1000000000000 * dt (x8 n X) (y8 n Y) a b c + (uu n X Y b - uu n X Y a) * (uu n X Y c - uu n X Y a) * (uu n X Y c - uu n X Y b) := by
  unfold dt vv
  have e : ∀ i, uu n X Y i = 100 * x8 n X i + y8 n Y i := fun _ => rfl
  rw [e a, e b, e c]
  grind
theorem vdm_bd {u v w : Int} (h1 : -6900 ≤ u) (h2 : u ≤ 6900) (h3 : -6900 ≤ v) (h4 : v ≤ 6900) (h5 : -6900 ≤ w) (h6 : w ≤ 6900) : -328509000000 ≤ u * v * w ∧ u * v * w ≤ 328509000000 := by
  have h : (u * v * w).natAbs ≤ 6900 * 6900 * 6900 := by
    rw [Int.natAbs_mul, Int.natAbs_mul]
    exact Nat.mul_le_mul (Nat.mul_le_mul (by omega) (by omega)) (by omega)
  omega
theorem vdm_ne {u v w : Int} (h1 : u ≠ 0) (h2 : v ≠ 0) (h3 : w ≠ 0) : u * v * w ≠ 0 := fun h => by
  rcases Int.mul_eq_zero.mp h with h | h
  · rcases Int.mul_eq_zero.mp h with h | h
    · exact h1 h
    · exact h2 h
  · exact h3 h
theorem sg_uv (hP : Pts n X Y) {a b c : Nat} (ha : a < 8) (hb : b < 8) (hc : c < 8) (hab : a ≠ b) (hac : a ≠ c) (hbc : b ≠ c) : sg (uu n X Y) (vv n X Y) a b c ≠ .eq ∧ (sg (x8 n X) (y8 n Y) a b c ≠ .eq → sg (uu n X Y) (vv n X Y) a b c = sg (x8 n X) (y8 n Y) a b c) ∧ (sg (x8 n X) (y8 n Y) a b c = .eq → sg (uu n X Y) (vv n X Y) a b c = gs ((uu n X Y b - uu n X Y a) * (uu n X Y c - uu n X Y a) * (uu n X Y c - uu n X Y b))) := by
  have b1 := uu_bd hP ha
  have b2 := uu_bd hP hb
  have b3 := uu_bd hP hc
  have n1 := uu_ne hP ha hb hab
  have n2 := uu_ne hP ha hc hac
  have n3 := uu_ne hP hb hc hbc
  have hv := vdm_bd (u := uu n X Y b - uu n X Y a) (v := uu n X Y c - uu n X Y a) (w := uu n X Y c - uu n X Y b) (by omega) (by omega) (by omega) (by omega) (by omega) (by omega)
  have hn := vdm_ne (u := uu n X Y b - uu n X Y a) (v := uu n X Y c - uu n X Y a) (w := uu n X Y c - uu n X Y b) (by omega) (by omega) (by omega)
  have e := dt_uv (n := n) (X := X) (Y := Y) a b c
  unfold sg
  rw [e]
  generalize (uu n X Y b - uu n X Y a) * (uu n X Y c - uu n X Y a) * (uu n X Y c - uu n X Y b) = vd at *
  generalize dt (x8 n X) (y8 n Y) a b c = d at *
  refine ⟨fun h => ?_, fun h => ?_, fun h => ?_⟩
  · have := gs_eq.mp h
    omega
  · have hd : d ≠ 0 := fun z => h (gs_eq.mpr z)
    rcases Int.lt_or_le d 0 with g | g
    · rw [gs_lt.mpr g, gs_lt.mpr (by omega)]
    · rw [gs_gt.mpr (show 0 < d by omega), gs_gt.mpr (by omega)]
  · rw [gs_eq.mp h, Int.mul_zero, Int.zero_add]
theorem sg_8 {a b c : Nat} (ha : a < n) (hb : b < n) (hc : c < n) : sg (x8 n X) (y8 n Y) a b c = sg X Y a b c := by
  unfold sg dt x8 y8
  rw [if_pos ha, if_pos hb, if_pos hc, if_pos ha, if_pos hb, if_pos hc]
theorem uu_n {a : Nat} (ha : a < n) : uu n X Y a = 100 * X a + Y a := by
  unfold uu x8 y8
  rw [if_pos ha, if_pos ha]
theorem six_id (A B C D E : Int) : A * B * C * (A * D * E) = A * A * (B * C * (D * E)) := by grind
theorem om_self {x : Ordering} : om x x ≠ .lt := by cases x <;> decide
/-- what crosses after the push has no three in a line -/
theorem deg (hP : Pts n X Y) {a b c d : Nat} (ha : a < n) (hb : b < n) (hc : c < n) (hd : d < n) (ho : ∀ p, p < n → ¬ btw X Y a b p) (hx : crs (uu n X Y) (vv n X Y) a b c d) (h0 : sg X Y a b c = .eq) : False := by
  have hn := hP.1
  obtain ⟨c1, c2⟩ := hx
  obtain ⟨d1, n1⟩ := om_lt_on c1
  obtain ⟨d2, n2⟩ := om_lt_on c2
  have hab : a ≠ b := fun e => by rw [e, sg_a] at n1; exact n1 rfl
  have hac : a ≠ c := fun e => by rw [e, sg_aa] at n1; exact n1 rfl
  have hbc : b ≠ c := fun e => by rw [e, sg_ab] at n1; exact n1 rfl
  have n1' : sg (uu n X Y) (vv n X Y) a b d ≠ .eq := fun e => by rw [e] at d1; exact n1 (on_eq_eq.mp d1.symm)
  have had : a ≠ d := fun e => by rw [e, sg_aa] at n1'; exact n1' rfl
  have hbd : b ≠ d := fun e => by rw [e, sg_ab] at n1'; exact n1' rfl
  have hcd : c ≠ d := fun e => by rw [e, sg_a] at n2; exact n2 rfl
  have ub := uu_n (n := n) (X := X) (Y := Y) hb
  have ua := uu_n (n := n) (X := X) (Y := Y) ha
  have uc := uu_n (n := n) (X := X) (Y := Y) hc
  have ud := uu_n (n := n) (X := X) (Y := Y) hd
  have m1 := uu_ne hP (by omega) (by omega) hab
  have m2 := uu_ne hP (by omega) (by omega) hac
  have m3 := uu_ne hP (by omega) (by omega) hbc
  by_cases h1 : sg X Y a b d = .eq
  · -- all in one line
    have e1 := (sg_uv hP (a := a) (b := b) (c := c) (by omega) (by omega) (by omega) hab hac hbc).2.2 (by rw [sg_8 ha hb hc]; exact h0)
    have e2 := (sg_uv hP (a := a) (b := b) (c := d) (by omega) (by omega) (by omega) hab had hbd).2.2 (by rw [sg_8 ha hb hd]; exact h1)
    rw [e1, e2, ← gs_mul] at c1
    have hneg := gs_lt.mp c1
    rw [ua, ub, uc, ud] at hneg
    rcases Int.lt_or_le (((100 * X c + Y c) - (100 * X a + Y a)) * ((100 * X c + Y c) - (100 * X b + Y b))) 0 with g | g
    · exact ho c hc (lin_btw h0 g)
    · rcases Int.lt_or_le (((100 * X d + Y d) - (100 * X a + Y a)) * ((100 * X d + Y d) - (100 * X b + Y b))) 0 with g' | g'
      · exact ho d hd (lin_btw h1 g')
      · have q := Int.mul_nonneg (isq_nonneg ((100 * X b + Y b) - (100 * X a + Y a))) (Int.mul_nonneg g g')
        have i : ((100 * X b + Y b) - (100 * X a + Y a)) * ((100 * X c + Y c) - (100 * X a + Y a)) * ((100 * X c + Y c) - (100 * X b + Y b)) * (((100 * X b + Y b) - (100 * X a + Y a)) * ((100 * X d + Y d) - (100 * X a + Y a)) * ((100 * X d + Y d) - (100 * X b + Y b))) = ((100 * X b + Y b) - (100 * X a + Y a)) * ((100 * X b + Y b) - (100 * X a + Y a)) * (((100 * X c + Y c) - (100 * X a + Y a)) * ((100 * X c + Y c) - (100 * X b + Y b)) * (((100 * X d + Y d) - (100 * X a + Y a)) * ((100 * X d + Y d) - (100 * X b + Y b)))) := six_id _ _ _ _ _
        rw [i] at hneg
        omega
  · -- the other one off the line
    have k0 : sg X Y d a b ≠ .eq := by
      rw [← sg_rot d a b]; exact h1
    have fin : sg X Y c d a ≠ .eq → sg X Y c d a = sg X Y c d b → False := fun z1 z2 => by
      have f1 := (sg_uv hP (a := c) (b := d) (c := a) (by omega) (by omega) (by omega) hcd (Ne.symm hac) (Ne.symm had)).2.1 (by rw [sg_8 hc hd ha]; exact z1)
      have f2 := (sg_uv hP (a := c) (b := d) (c := b) (by omega) (by omega) (by omega) hcd (Ne.symm hbc) (Ne.symm hbd)).2.1 (by rw [sg_8 hc hd hb, ← z2]; exact z1)
      rw [f1, f2, sg_8 hc hd ha, sg_8 hc hd hb, z2] at c2
      exact om_self c2
    have s1 : ∀ x y z : Nat, sg X Y y x z = on (sg X Y x y z) := fun x y z => sg_swap x y z
    have r1 : ∀ x y z : Nat, sg X Y y z x = sg X Y x y z := fun x y z => sg_rot x y z
    have h0b : sg X Y a c b = .eq := by rw [sg_swap' a b c, h0]; rfl
    have h0a : sg X Y b c a = .eq := by rw [r1 a b c]; exact h0
    rw [ua, ub] at m1
    rw [ua, uc] at m2
    rw [ub, uc] at m3
    have tri : btw X Y a c b ∨ btw X Y b c a := by
      rcases Int.lt_or_le (((100 * X b + Y b) - (100 * X a + Y a)) * ((100 * X b + Y b) - (100 * X c + Y c))) 0 with g | g
      · exact Or.inl (lin_btw h0b g)
      · rcases Int.lt_or_le (((100 * X a + Y a) - (100 * X b + Y b)) * ((100 * X a + Y a) - (100 * X c + Y c))) 0 with g' | g'
        · exact Or.inr (lin_btw h0a g')
        · exfalso
          refine ho c hc (lin_btw h0 ?_)
          generalize 100 * X a + Y a = p at *
          generalize 100 * X b + Y b = q at *
          generalize 100 * X c + Y c = r at *
          rcases Int.lt_or_le p q with k | k
          · have z1 : 0 ≤ q - r := by
              rcases Int.lt_or_le (q - r) 0 with w | w
              · have := Int.mul_neg_of_pos_of_neg (show 0 < q - p by omega) w
                omega
              · exact w
            have z2 : p - r ≤ 0 := by
              rcases Int.lt_or_le 0 (p - r) with w | w
              · have := Int.mul_neg_of_neg_of_pos (show p - q < 0 by omega) w
                omega
              · exact w
            exact Int.mul_neg_of_pos_of_neg (by omega) (by omega)
          · have z1 : q - r ≤ 0 := by
              rcases Int.lt_or_le 0 (q - r) with w | w
              · have := Int.mul_neg_of_neg_of_pos (show q - p < 0 by omega) w
                omega
              · exact w
            have z2 : 0 ≤ p - r := by
              rcases Int.lt_or_le (p - r) 0 with w | w
              · have := Int.mul_neg_of_pos_of_neg (show 0 < p - q by omega) w
                omega
              · exact w
            exact Int.mul_neg_of_neg_of_pos (by omega) (by omega)
    rcases tri with t | t
    · have e1 := btw_ray t d
      have e2 := btw_ray (btw_comm.mpr t) d
      -- sg d a b = sg d a c ; sg d c b = sg d c a
      refine fin ?_ ?_
      · rw [← r1 c d a, ← e1]; exact k0
      · rw [s1 d c a, s1 d c b, e2]
    · have e1 := btw_ray t d
      have e2 := btw_ray (btw_comm.mpr t) d
      -- sg d b a = sg d b c ; sg d c a = sg d c b
      have e3 : sg X Y c d a = sg X Y c d b := by rw [s1 d c a, s1 d c b, e2]
      refine fin ?_ e3
      rw [e3, ← r1 c d b, ← e1]
      rw [sg_swap' d a b]
      exact fun z => k0 (on_eq_eq.mp z)
/-- fences cross after the push just if they did before -/
theorem crs_uv (hP : Pts n X Y) {a b c d : Nat} (ha : a < n) (hb : b < n) (hc : c < n) (hd : d < n) (ho : ∀ p, p < n → ¬ btw X Y a b p) (ho' : ∀ p, p < n → ¬ btw X Y c d p) : crs X Y a b c d ↔ crs (uu n X Y) (vv n X Y) a b c d := by
  have hn := hP.1
  have dist : ∀ {X' Y' : Nat → Int}, crs X' Y' a b c d → a ≠ b ∧ a ≠ c ∧ b ≠ c ∧ a ≠ d ∧ b ≠ d ∧ c ≠ d := fun {X' Y'} h => by
    obtain ⟨d1, n1⟩ := om_lt_on h.1
    obtain ⟨d2, n2⟩ := om_lt_on h.2
    have n1' : sg X' Y' a b d ≠ .eq := fun e => by rw [e] at d1; exact n1 (on_eq_eq.mp d1.symm)
    exact ⟨fun e => by rw [e, sg_a] at n1; exact n1 rfl, fun e => by rw [e, sg_aa] at n1; exact n1 rfl, fun e => by rw [e, sg_ab] at n1; exact n1 rfl, fun e => by rw [e, sg_aa] at n1'; exact n1' rfl, fun e => by rw [e, sg_ab] at n1'; exact n1' rfl, fun e => by rw [e, sg_a] at n2; exact n2 rfl⟩
  have same : a ≠ b ∧ a ≠ c ∧ b ≠ c ∧ a ≠ d ∧ b ≠ d ∧ c ≠ d → sg X Y a b c ≠ .eq → sg X Y a b d ≠ .eq → sg X Y c d a ≠ .eq → sg X Y c d b ≠ .eq → (crs X Y a b c d ↔ crs (uu n X Y) (vv n X Y) a b c d) := fun ⟨h1, h2, h3, h4, h5, h6⟩ z1 z2 z3 z4 => by
    unfold crs
    rw [(sg_uv hP (a := a) (b := b) (c := c) (by omega) (by omega) (by omega) h1 h2 h3).2.1 (by rw [sg_8 ha hb hc]; exact z1),
      (sg_uv hP (a := a) (b := b) (c := d) (by omega) (by omega) (by omega) h1 h4 h5).2.1 (by rw [sg_8 ha hb hd]; exact z2),
      (sg_uv hP (a := c) (b := d) (c := a) (by omega) (by omega) (by omega) h6 (Ne.symm h2) (Ne.symm h4)).2.1 (by rw [sg_8 hc hd ha]; exact z3),
      (sg_uv hP (a := c) (b := d) (c := b) (by omega) (by omega) (by omega) h6 (Ne.symm h3) (Ne.symm h5)).2.1 (by rw [sg_8 hc hd hb]; exact z4),
      sg_8 ha hb hc, sg_8 ha hb hd, sg_8 hc hd ha, sg_8 hc hd hb]
  constructor
  · intro h
    obtain ⟨d1, n1⟩ := om_lt_on h.1
    obtain ⟨d2, n2⟩ := om_lt_on h.2
    exact (same (dist h) n1 (fun e => by rw [e] at d1; exact n1 (on_eq_eq.mp d1.symm)) n2 (fun e => by rw [e] at d2; exact n2 (on_eq_eq.mp d2.symm))).mp h
  · intro h
    refine (same (dist h) (fun z => deg hP ha hb hc hd ho h z) (fun z => deg hP ha hb hd hc ho (crs_sw2.mpr h) z) (fun z => deg hP hc hd ha hb ho' (crs_comm.mpr h) z) (fun z => deg hP hc hd hb ha ho' (crs_sw2.mpr (crs_comm.mpr h)) z)).mpr h
end PT2
/-! sorting -/
theorem ins_ex {R : Nat → Nat → Prop} {P : Nat → Prop} (tot : ∀ a b, P a → P b → a ≠ b → R a b ∨ R b a) (tr : ∀ a b c, P a → P b → P c → R a b → R b c → R a c) {x : Nat} (hx : P x) : ∀ l : List Nat, (∀ a ∈ l, P a) → x ∉ l → l.Pairwise R → ∃ l' : List Nat, l'.Perm (x :: l) ∧ l'.Pairwise R
  | [], _, _, _ => ⟨[x], List.Perm.refl _, List.pairwise_singleton ..⟩
  | y :: t, hP, hn, hs => by
    have hy := hP y (List.mem_cons_self ..)
    rw [List.pairwise_cons] at hs
    rcases tot x y hx hy (fun e => hn (by rw [e]; exact List.mem_cons_self ..)) with h | h
    · refine ⟨x :: y :: t, List.Perm.refl _, List.pairwise_cons.mpr ⟨fun z hz => ?_, List.pairwise_cons.mpr hs⟩⟩
      rcases List.mem_cons.mp hz with e | e
      · rw [e]; exact h
      · exact tr x y z hx hy (hP z (List.mem_cons_of_mem _ e)) h (hs.1 z e)
    · obtain ⟨t', p1, p2⟩ := ins_ex tot tr hx t (fun a ha => hP a (List.mem_cons_of_mem _ ha)) (fun z => hn (List.mem_cons_of_mem _ z)) hs.2
      refine ⟨y :: t', (p1.cons y).trans (List.Perm.swap ..), List.pairwise_cons.mpr ⟨fun z hz => ?_, p2⟩⟩
      rcases List.mem_cons.mp (p1.mem_iff.mp hz) with e | e
      · rw [e]; exact h
      · exact hs.1 z e
theorem sort_ex {R : Nat → Nat → Prop} {P : Nat → Prop} (tot : ∀ a b, P a → P b → a ≠ b → R a b ∨ R b a) (tr : ∀ a b c, P a → P b → P c → R a b → R b c → R a c) : ∀ l : List Nat, l.Nodup → (∀ a ∈ l, P a) → ∃ l' : List Nat, l'.Perm l ∧ l'.Pairwise R
  | [], _, _ => ⟨[], List.Perm.refl _, List.Pairwise.nil⟩
  | x :: l, hn, hP => by
    have hn' : x ∉ l ∧ l.Nodup := List.nodup_cons.mp hn
    obtain ⟨l1, p1, p2⟩ := sort_ex tot tr l hn'.2 (fun a ha => hP a (List.mem_cons_of_mem _ ha))
    obtain ⟨l2, q1, q2⟩ := ins_ex tot tr (hP x (List.mem_cons_self ..)) l1 (fun a ha => hP a (List.mem_cons_of_mem _ (p1.mem_iff.mp ha))) (fun z => hn'.1 (p1.mem_iff.mp z)) p2
    exact ⟨l2, q1.trans (p1.cons x), q2⟩
theorem least_ex (g : Nat → Int) : ∀ n, 0 < n → ∃ b, b < n ∧ ∀ c, c < n → g b ≤ g c
  | 0, h => absurd h (Nat.lt_irrefl 0)
  | n + 1, _ => by
    rcases Nat.eq_zero_or_pos n with z | z
    · subst z
      exact ⟨0, by omega, fun c hc => by rw [show c = 0 by omega]; exact Int.le_refl _⟩
    · obtain ⟨b, b1, b2⟩ := least_ex g n z
      rcases Int.lt_or_le (g n) (g b) with w | w
      · refine ⟨n, by omega, fun c hc => ?_⟩
        rcases Nat.lt_or_ge c n with y | y
        · have := b2 c y; omega
        · rw [show c = n by omega]; exact Int.le_refl _
      · refine ⟨b, by omega, fun c hc => ?_⟩
        rcases Nat.lt_or_ge c n with y | y
        · exact b2 c y
        · rw [show c = n by omega]; exact w
section LB
variable {U V : Nat → Int}
/-- labels: the first extreme, the others sorted around it -/
theorem label_ex (hU : ∀ i j, i < 8 → j < 8 → i ≠ j → U i ≠ U j) (hg : ∀ a b c, a < 8 → b < 8 → c < 8 → a ≠ b → a ≠ c → b ≠ c → sg U V a b c ≠ .eq) : ∃ π : Nat → Nat, (∀ i, i < 8 → π i < 8) ∧ (∀ i j, i < 8 → j < 8 → π i = π j → i = j) ∧ (∀ p, p < 8 → ∃ k, k < 8 ∧ π k = p) ∧ ∀ b c, 1 ≤ b → b < c → c < 8 → sg U V (π 0) (π b) (π c) = .gt := by
  obtain ⟨p0, p1, p2⟩ := least_ex U 8 (by omega)
  have hlt : ∀ i, i < 8 → i ≠ p0 → U p0 < U i := fun i hi hne => by
    have := p2 i hi
    have := hU i p0 hi p1 hne
    omega
  obtain ⟨l, l1, l2⟩ := sort_ex (R := fun a b => sg U V p0 a b = .gt) (P := fun a => a < 8 ∧ a ≠ p0) (fun a b ha hb hab => by
      have h := hg p0 a b p1 ha.1 hb.1 (Ne.symm ha.2) (Ne.symm hb.2) hab
      rw [sg_swap' p0 a b]
      cases z : sg U V p0 a b with
      | eq => exact absurd z h
      | gt => exact Or.inl rfl
      | lt => exact Or.inr rfl) (fun a b c ha hb hc h1 h2 => by
      have a1 := gs_gt.mp h1
      have a2 := gs_gt.mp h2
      have ua := hlt a ha.1 ha.2
      have ub := hlt b hb.1 hb.2
      have uc := hlt c hc.1 hc.2
      have i : (U b - U p0) * dt U V p0 a c = (U a - U p0) * dt U V p0 b c + (U c - U p0) * dt U V p0 a b := by unfold dt; grind
      have m1 := Int.mul_pos (show 0 < U a - U p0 by omega) a2
      have m2 := Int.mul_pos (show 0 < U c - U p0 by omega) a1
      refine gs_gt.mpr ?_
      rcases Int.lt_or_le 0 (dt U V p0 a c) with g | g
      · exact g
      · have := Int.mul_nonneg (show 0 ≤ U b - U p0 by omega) (show 0 ≤ - dt U V p0 a c by omega)
        rw [Int.mul_neg] at this
        omega) ((List.range 8).filter fun a => a ≠ p0) (List.nodup_range.filter _) (fun a ha => by
      rw [List.mem_filter, List.mem_range] at ha
      exact ⟨ha.1, of_decide_eq_true ha.2⟩)
  have hmem : ∀ a, a ∈ l ↔ a < 8 ∧ a ≠ p0 := fun a => by
    rw [l1.mem_iff, List.mem_filter, List.mem_range]
    simp
  have hnd : l.Nodup := l1.nodup_iff.mpr (List.nodup_range.filter _)
  have hlen : l.length = 7 := by
    rw [l1.length_eq]
    have : ∀ p, p < 8 → ((List.range 8).filter fun a => decide (a ≠ p)).length = 7 := by decide
    exact this p0 p1
  have hget : ∀ k, k < 7 → l[k]? = some (l.getD k 0) := fun k hk => by
    rw [List.getD_eq_getElem?_getD, List.getElem?_eq_getElem (by omega)]; rfl
  have hin : ∀ k, k < 7 → l.getD k 0 < 8 ∧ l.getD k 0 ≠ p0 := fun k hk => (hmem _).mp (List.mem_of_getElem? (hget k hk))
  have hlt2 : ∀ i j, i < j → j < 7 → sg U V p0 (l.getD i 0) (l.getD j 0) = .gt := fun i j hij hj => by
    have h := List.pairwise_iff_getElem.mp l2 i j (by omega) (by omega) hij
    have e1 := hget i (by omega)
    have e2 := hget j hj
    rw [List.getElem?_eq_getElem (by omega)] at e1 e2
    injection e1 with e1
    injection e2 with e2
    rw [← e1, ← e2]
    exact h
  refine ⟨fun k => if k = 0 then p0 else l.getD (k - 1) 0, fun i hi => ?_, fun i j hi hj e => ?_, fun p hp => ?_, fun b c hb hbc hc => ?_⟩
  · by_cases z : i = 0
    · simp only [if_pos z]; exact p1
    · simp only [if_neg z]; exact (hin (i - 1) (by omega)).1
  · by_cases z : i = 0 <;> by_cases w : j = 0
    · omega
    · simp only [if_pos z, if_neg w] at e
      exact absurd e.symm (hin (j - 1) (by omega)).2
    · simp only [if_neg z, if_pos w] at e
      exact absurd e (hin (i - 1) (by omega)).2
    · simp only [if_neg z, if_neg w] at e
      rcases Nat.lt_trichotomy (i - 1) (j - 1) with g | g | g
      · have := hlt2 _ _ g (by omega)
        rw [e, sg_ab] at this
        cases this
      · omega
      · have := hlt2 _ _ g (by omega)
        rw [e, sg_ab] at this
        cases this
  · by_cases z : p = p0
    · exact ⟨0, by omega, by show (if (0 : Nat) = 0 then p0 else l.getD (0 - 1) 0) = p; rw [if_pos rfl]; exact z.symm⟩
    · obtain ⟨k, hk, e⟩ := List.getElem_of_mem ((hmem p).mpr ⟨hp, z⟩)
      refine ⟨k + 1, by omega, ?_⟩
      show (if k + 1 = 0 then p0 else l.getD (k + 1 - 1) 0) = p
      rw [if_neg (by omega), Nat.add_sub_cancel]
      have := hget k (by omega)
      rw [List.getElem?_eq_getElem hk, e] at this
      injection this with this
      exact this.symm
  · simp only [if_pos, if_neg (show ¬ b = 0 by omega), if_neg (show ¬ c = 0 by omega)]
    exact hlt2 (b - 1) (c - 1) (by omega) (by omega)
end LB
