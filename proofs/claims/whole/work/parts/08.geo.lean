/-! ===== GEO: signs of three points ===== -/
def gs (z : Int) : Ordering := if z < 0 then .lt else if z = 0 then .eq else .gt
theorem gs_c (z : Int) : (z < 0 ∧ gs z = .lt) ∨ (z = 0 ∧ gs z = .eq) ∨ (0 < z ∧ gs z = .gt) := by
  unfold gs
  rcases Int.lt_trichotomy z 0 with h | h | h
  · exact Or.inl ⟨h, if_pos h⟩
  · exact Or.inr (Or.inl ⟨h, by rw [if_neg (by omega), if_pos h]⟩)
  · exact Or.inr (Or.inr ⟨h, by rw [if_neg (by omega), if_neg (by omega)]⟩)
theorem gs_lt {z : Int} : gs z = .lt ↔ z < 0 := by
  rcases gs_c z with ⟨h, e⟩ | ⟨h, e⟩ | ⟨h, e⟩ <;> rw [e] <;> constructor <;> intro q <;> first | rfl | omega | cases q | exact h
theorem gs_eq {z : Int} : gs z = .eq ↔ z = 0 := by
  rcases gs_c z with ⟨h, e⟩ | ⟨h, e⟩ | ⟨h, e⟩ <;> rw [e] <;> constructor <;> intro q <;> first | rfl | omega | cases q | exact h
theorem gs_gt {z : Int} : gs z = .gt ↔ 0 < z := by
  rcases gs_c z with ⟨h, e⟩ | ⟨h, e⟩ | ⟨h, e⟩ <;> rw [e] <;> constructor <;> intro q <;> first | rfl | omega | cases q | exact h
def om : Ordering → Ordering → Ordering
  | .eq, _ => .eq
  | .lt, .lt => .gt
  | .lt, .eq => .eq
  | .lt, .gt => .lt
  | .gt, .lt => .lt
  | .gt, .eq => .eq
  | .gt, .gt => .gt
def on : Ordering → Ordering
  | .lt => .gt
  | .eq => .eq
  | .gt => .lt
theorem gs_neg (x : Int) : gs (-x) = on (gs x) := by
  rcases gs_c x with ⟨h, e⟩ | ⟨h, e⟩ | ⟨h, e⟩ <;> rw [e]
  · exact gs_gt.mpr (by omega)
  · exact gs_eq.mpr (by omega)
  · exact gs_lt.mpr (by omega)
theorem gs_mul (x y : Int) : gs (x * y) = om (gs x) (gs y) := by
  rcases gs_c x with ⟨h, e⟩ | ⟨h, e⟩ | ⟨h, e⟩ <;> rcases gs_c y with ⟨g, f⟩ | ⟨g, f⟩ | ⟨g, f⟩ <;> rw [e, f]
  · exact gs_gt.mpr (Int.mul_pos_of_neg_of_neg h g)
  · exact gs_eq.mpr (by rw [g, Int.mul_zero])
  · exact gs_lt.mpr (Int.mul_neg_of_neg_of_pos h g)
  · exact gs_eq.mpr (by rw [h, Int.zero_mul])
  · exact gs_eq.mpr (by rw [h, Int.zero_mul])
  · exact gs_eq.mpr (by rw [h, Int.zero_mul])
  · exact gs_lt.mpr (Int.mul_neg_of_pos_of_neg h g)
  · exact gs_eq.mpr (by rw [g, Int.mul_zero])
  · exact gs_gt.mpr (Int.mul_pos h g)
theorem isq_nonneg (a : Int) : 0 ≤ a * a := by
  rcases Int.le_total 0 a with h | h
  · exact Int.mul_nonneg h h
  · exact Int.mul_nonneg_of_nonpos_of_nonpos h h
theorem isq_zero {a : Int} (h : a * a = 0) : a = 0 := by
  rcases Int.mul_eq_zero.mp h with g | g <;> exact g
def ob (a b : Ordering) : Bool := match a, b with
  | .lt, .lt => true
  | .eq, .eq => true
  | .gt, .gt => true
  | _, _ => false
theorem ob_iff {a b : Ordering} : ob a b = true ↔ a = b := by cases a <;> cases b <;> simp [ob]
def ok3 (a b c : Ordering) : Bool := (ob a .eq && (ob b .eq && ob c .eq)) || ((ob a .lt || (ob b .lt || ob c .lt)) && (ob a .gt || (ob b .gt || ob c .gt)))
def ok4 (a b c d : Ordering) : Bool := (ob a .eq && (ob b .eq && (ob c .eq && ob d .eq))) || ((ob a .lt || (ob b .lt || (ob c .lt || ob d .lt))) && (ob a .gt || (ob b .gt || (ob c .gt || ob d .gt))))
theorem ok3_of {x y z : Int} (h : x + y + z = 0) : ok3 (gs x) (gs y) (gs z) = true := by
  rcases gs_c x with ⟨hx, ex⟩ | ⟨hx, ex⟩ | ⟨hx, ex⟩ <;> rcases gs_c y with ⟨hy, ey⟩ | ⟨hy, ey⟩ | ⟨hy, ey⟩ <;> rcases gs_c z with ⟨hz, ez⟩ | ⟨hz, ez⟩ | ⟨hz, ez⟩ <;> rw [ex, ey, ez] <;> first | rfl | (exfalso; omega)
theorem ok4_of {x y z t : Int} (h : x + y + z + t = 0) : ok4 (gs x) (gs y) (gs z) (gs t) = true := by
  rcases gs_c x with ⟨hx, ex⟩ | ⟨hx, ex⟩ | ⟨hx, ex⟩ <;> rcases gs_c y with ⟨hy, ey⟩ | ⟨hy, ey⟩ | ⟨hy, ey⟩ <;> rcases gs_c z with ⟨hz, ez⟩ | ⟨hz, ez⟩ | ⟨hz, ez⟩ <;> rcases gs_c t with ⟨ht, et⟩ | ⟨ht, et⟩ | ⟨ht, et⟩ <;> rw [ex, ey, ez, et] <;> first | rfl | (exfalso; omega)
def allO (f : Ordering → Bool) : Bool := f .lt && (f .eq && f .gt)
theorem allO_spec {f : Ordering → Bool} (h : allO f = true) (x : Ordering) : f x = true := by
  have h1 := Bool.and_eq_true_iff.mp h
  have h2 := Bool.and_eq_true_iff.mp h1.2
  cases x
  · exact h1.1
  · exact h2.1
  · exact h2.2
def imp (a b : Bool) : Bool := !a || b
theorem imp_mp {a b : Bool} (h : imp a b = true) (ha : a = true) : b = true := by
  subst ha
  simpa [imp] using h
/-- twice the area, with its sign -/
def dt (X Y : Nat → Int) (a b c : Nat) : Int := (X b - X a) * (Y c - Y a) - (Y b - Y a) * (X c - X a)
def dot (X Y : Nat → Int) (a b c : Nat) : Int := (X a - X c) * (X b - X c) + (Y a - Y c) * (Y b - Y c)
def sg (X Y : Nat → Int) (a b c : Nat) : Ordering := gs (dt X Y a b c)
section GEO
variable {X Y : Nat → Int}
theorem dt_rot (a b c : Nat) : dt X Y b c a = dt X Y a b c := by unfold dt; grind
theorem dt_swap (a b c : Nat) : dt X Y b a c = - dt X Y a b c := by unfold dt; grind
theorem dt_swap' (a b c : Nat) : dt X Y a c b = - dt X Y a b c := by unfold dt; grind
theorem dt_4 (a b c d : Nat) : dt X Y a b c + - dt X Y a b d + dt X Y a c d + - dt X Y b c d = 0 := by unfold dt; grind
theorem dt_5 (x a b c d : Nat) : dt X Y x a b * dt X Y x c d + -(dt X Y x a c * dt X Y x b d) + dt X Y x a d * dt X Y x b c = 0 := by unfold dt; grind
theorem sg_rot (a b c : Nat) : sg X Y b c a = sg X Y a b c := by unfold sg; rw [dt_rot]
theorem sg_swap (a b c : Nat) : sg X Y b a c = on (sg X Y a b c) := by unfold sg; rw [dt_swap, gs_neg]
theorem sg_swap' (a b c : Nat) : sg X Y a c b = on (sg X Y a b c) := by unfold sg; rw [dt_swap', gs_neg]
theorem sg_4 (a b c d : Nat) : ok4 (sg X Y a b c) (on (sg X Y a b d)) (sg X Y a c d) (on (sg X Y b c d)) = true := by
  unfold sg
  rw [← gs_neg, ← gs_neg]
  exact ok4_of (dt_4 a b c d)
theorem sg_5 (x a b c d : Nat) : ok3 (om (sg X Y x a b) (sg X Y x c d)) (on (om (sg X Y x a c) (sg X Y x b d))) (om (sg X Y x a d) (sg X Y x b c)) = true := by
  unfold sg
  rw [← gs_mul, ← gs_mul, ← gs_mul, ← gs_neg]
  exact ok3_of (dt_5 x a b c d)
/-- on the line of u and w, with an angle from v: between -/
theorem bt_of (u w p v : Nat) (h0 : sg X Y u w p = .eq) (h1 : sg X Y v u p = sg X Y v u w) (h2 : sg X Y v p w = sg X Y v u w) (hn : sg X Y v u w ≠ .eq) : dot X Y u w p < 0 := by
  have e0 : dt X Y u w p = 0 := gs_eq.mp h0
  have hT : dt X Y v u w ≠ 0 := fun h => hn (gs_eq.mpr h)
  have hAC : 0 < dt X Y v u p * dt X Y v p w := by
    have : gs (dt X Y v u p * dt X Y v p w) = .gt := by
      rw [gs_mul]
      show om (sg X Y v u p) (sg X Y v p w) = .gt
      rw [h1, h2]
      revert hn
      cases sg X Y v u w <;> intro hn <;> first | rfl | exact absurd rfl hn
    exact gs_gt.mp this
  have i1 : dt X Y v u w * (X p - X u) = dt X Y v u p * (X w - X u) + (X v - X u) * dt X Y u w p := by unfold dt; grind
  have i2 : dt X Y v u w * (Y p - Y u) = dt X Y v u p * (Y w - Y u) + (Y v - Y u) * dt X Y u w p := by unfold dt; grind
  have i3 : dt X Y v u w * (X w - X p) = dt X Y v p w * (X w - X u) - (X v - X w) * dt X Y u w p := by unfold dt; grind
  have i4 : dt X Y v u w * (Y w - Y p) = dt X Y v p w * (Y w - Y u) - (Y v - Y w) * dt X Y u w p := by unfold dt; grind
  rw [e0, Int.mul_zero] at i1 i2 i3 i4
  rw [Int.add_zero] at i1 i2
  rw [Int.sub_zero] at i3 i4
  have hL : 0 < (X w - X u) * (X w - X u) + (Y w - Y u) * (Y w - Y u) := by
    have q1 : 0 ≤ (X w - X u) * (X w - X u) := isq_nonneg _
    have q2 : 0 ≤ (Y w - Y u) * (Y w - Y u) := isq_nonneg _
    rcases Int.lt_or_eq_of_le (Int.add_nonneg q1 q2) with h | h
    · exact h
    · exfalso
      have z1 : X w - X u = 0 := isq_zero (by omega)
      have z2 : Y w - Y u = 0 := isq_zero (by omega)
      apply hT
      have : dt X Y v u w = (X u - X v) * (Y w - Y u) - (Y u - Y v) * (X w - X u) := by unfold dt; grind
      rw [this, z1, z2, Int.mul_zero, Int.mul_zero, Int.sub_self]
  have key : dt X Y v u w * dt X Y v u w * dot X Y u w p = -((dt X Y v u p * dt X Y v p w) * ((X w - X u) * (X w - X u) + (Y w - Y u) * (Y w - Y u))) := by
    have k1 : dt X Y v u w * dt X Y v u w * dot X Y u w p = -((dt X Y v u w * (X p - X u)) * (dt X Y v u w * (X w - X p)) + (dt X Y v u w * (Y p - Y u)) * (dt X Y v u w * (Y w - Y p))) := by
      unfold dot
      generalize dt X Y v u w = T
      grind
    rw [k1, i1, i2, i3, i4]
    generalize dt X Y v u p = A
    generalize dt X Y v p w = C
    grind
  have hpos := Int.mul_pos hAC hL
  have hTT : 0 < dt X Y v u w * dt X Y v u w := by
    rcases Int.lt_trichotomy (dt X Y v u w) 0 with h | h | h
    · exact Int.mul_pos_of_neg_of_neg h h
    · exact absurd h hT
    · exact Int.mul_pos h h
  rcases Int.lt_trichotomy (dot X Y u w p) 0 with h | h | h
  · exact h
  · rw [h, Int.mul_zero] at key; omega
  · have := Int.mul_pos hTT h; omega
/-- on two lines that meet at w: it is w -/
theorem eq_of_lines (u v w p : Nat) (h1 : sg X Y u w p = .eq) (h2 : sg X Y v w p = .eq) (hn : sg X Y u v w ≠ .eq) : X p = X w ∧ Y p = Y w := by
  have e1 : dt X Y u w p = 0 := gs_eq.mp h1
  have e2 : dt X Y v w p = 0 := gs_eq.mp h2
  have hT : dt X Y u v w ≠ 0 := fun h => hn (gs_eq.mpr h)
  have i1 : dt X Y u v w * (X p - X w) = (X u - X w) * dt X Y v w p - (X v - X w) * dt X Y u w p := by unfold dt; grind
  have i2 : dt X Y u v w * (Y p - Y w) = (Y u - Y w) * dt X Y v w p - (Y v - Y w) * dt X Y u w p := by unfold dt; grind
  rw [e1, e2, Int.mul_zero, Int.mul_zero, Int.sub_zero] at i1 i2
  rcases Int.mul_eq_zero.mp i1 with h | h
  · exact absurd h hT
  · rcases Int.mul_eq_zero.mp i2 with g | g
    · exact absurd g hT
    · omega
end GEO
/-- the segment pq crosses uv, p on w's side: what can be -/
def exit_ok : Bool := allO fun s1 => allO fun s2 => allO fun s3 => imp (!ob s1 .eq && (ob s2 s1 && ob (om s2 s3) .lt)) <|
  allO fun s4 => allO fun s7 => imp (ok4 s1 (on s2) s4 (on s7)) <| imp (!((ob s4 .eq && ob s7 .eq) || ((ob s2 s7 && ob s2 (on s4)) || ((ob s4 .eq && (ob s2 s1 && ob s7 s1)) || (ob s7 .eq && (ob s2 s1 && ob (on s4) s1)))))) <|
  allO fun s5 => allO fun s8 => imp (ok4 s1 (on s3) s5 (on s8)) <|
  allO fun s6 => imp (ok3 (om s1 s6) (on (om s2 s5)) (om s3 s4)) <| allO fun s9 => imp (ob (om s6 s9) .lt && (ok4 s2 (on s3) s6 (on s9) && ok3 (om s1 s9) (on (om s2 s8)) (om s3 s7))) <|
  allO fun s10 => imp (ok3 (om s1 s10) (on (om s4 s8)) (om s5 s7) && (ok3 (om s2 s10) (on (om s4 s9)) (om s6 s7) && (ok3 (om s3 s10) (on (om s5 s9)) (om s6 s8) && (ok4 s4 (on s5) s6 (on s10) && ok4 s7 (on s8) s9 (on s10))))) <|
  ((ob (om s4 s5) .lt && ob (om s6 s10) .lt) || ((ob (om s7 s8) .lt && ob (om s9 s10) .lt) || (ob s10 .eq && (ob (on s4) s6 && ob s5 s6))))
theorem exit_true : exit_ok = true := by decide +kernel
def inner_ok : Bool := allO fun abc => allO fun abd => imp (ob (om abc abd) .lt) <| allO fun acd => allO fun bcd => imp (ob (om acd bcd) .lt && ok4 abc (on abd) acd (on bcd)) <|
  allO fun cdp => allO fun adp => imp (!ob cdp .eq && ob cdp (on adp)) <| allO fun acp => imp (ob cdp acp && ok4 acd (on acp) adp (on cdp)) <|
  allO fun abp => imp (ok3 (om abc adp) (on (om abd acp)) (om abp acd)) <| allO fun bcp => imp (ok3 (om abc cdp) (on (om acd bcp)) (om acp bcd) && ok4 abc (on abp) acp (on bcp)) <|
  allO fun bdp => imp (ok3 (om abc bdp) (on (om abd bcp)) (om abp bcd) && (ok3 (om abd cdp) (on (om acd bdp)) (om adp bcd) && (ok3 (om abp cdp) (on (om acp bdp)) (om adp bcp) && (ok4 abd (on abp) adp (on bdp) && ok4 bcd (on bcp) bdp (on cdp))))) <|
  ((!ob abp .eq && (ob abp bcp && ob abp (on acp))) || ((!ob abp .eq && (ob abp bdp && ob abp (on adp))) || (ob abp .eq && (ob (on acp) abc && ob bcp abc))))
theorem inner_true : inner_ok = true := by decide +kernel
def uniq_ok : Bool := allO fun t1 => allO fun t3 => allO fun t4 => imp (!ob t1 .eq && ok4 t1 (on t1) t3 (on t4)) <|
  ((ob t3 .eq && ob t4 .eq) || ((ob t1 t4 && ob t1 (on t3)) || ((ob t1 (on t4) && ob t1 t3) || ((ob (om t1 t3) .lt && ob (om t1 t4) .lt) || ((ob (om t1 (on t4)) .lt && ob (om (on t1) t3) .lt) || ((ob t3 .eq && ob t4 t1) || ((ob t3 .eq && ob t4 (on t1)) || ((ob t4 .eq && ob (on t3) t1) || (ob t4 .eq && ob t3 t1)))))))))
theorem uniq_true : uniq_ok = true := by decide +kernel
/-- ab and cd cross -/
def crs (X Y : Nat → Int) (a b c d : Nat) : Prop := om (sg X Y a b c) (sg X Y a b d) = .lt ∧ om (sg X Y c d a) (sg X Y c d b) = .lt
/-- p is within a, b, c -/
def wth (X Y : Nat → Int) (p a b c : Nat) : Prop := sg X Y a b p ≠ .eq ∧ sg X Y a b p = sg X Y b c p ∧ sg X Y a b p = sg X Y c a p
/-- p is between a and b -/
def btw (X Y : Nat → Int) (a b p : Nat) : Prop := sg X Y a b p = .eq ∧ dot X Y a b p < 0
theorem on_on (a : Ordering) : on (on a) = a := by cases a <;> rfl
theorem on_eq_eq {a : Ordering} : on a = .eq ↔ a = .eq := by cases a <;> simp [on]
theorem om_comm (a b : Ordering) : om a b = om b a := by cases a <;> cases b <;> rfl
theorem om_on_l (a b : Ordering) : om (on a) b = on (om a b) := by cases a <;> cases b <;> rfl
theorem om_on_r (a b : Ordering) : om a (on b) = on (om a b) := by cases a <;> cases b <;> rfl
theorem om_lt_on {a b : Ordering} (h : om a b = .lt) : b = on a ∧ a ≠ .eq := by cases a <;> cases b <;> simp [om, on] at h ⊢
theorem bor {a b : Bool} (h : (a || b) = true) : a = true ∨ b = true := Bool.or_eq_true_iff.mp h
theorem band {a b : Bool} (h : (a && b) = true) : a = true ∧ b = true := Bool.and_eq_true_iff.mp h
theorem bmk {a b : Bool} (h : a = true) (g : b = true) : (a && b) = true := Bool.and_eq_true_iff.mpr ⟨h, g⟩
theorem obn {a b : Ordering} (h : a ≠ b) : (!ob a b) = true := by
  cases hh : ob a b
  · rfl
  · exact absurd (ob_iff.mp hh) h
theorem obn' {a b : Ordering} (h : (!ob a b) = true) : a ≠ b := by
  intro e
  rw [ob_iff.mpr e] at h
  cases h
theorem k3 {x1 x2 y1 y2 z1 z2 : Int} (h : x1 * x2 + -(y1 * y2) + z1 * z2 = 0) : ok3 (om (gs x1) (gs x2)) (on (om (gs y1) (gs y2))) (om (gs z1) (gs z2)) = true := by
  rw [← gs_mul, ← gs_mul, ← gs_mul, ← gs_neg]
  exact ok3_of h
theorem bnot {a : Bool} (h : ¬ a = true) : (!a) = true := by cases a <;> simp at h ⊢
section GEO2
variable {X Y : Nat → Int}
theorem exit_pt (u v w p q : Nat) (h1 : sg X Y u v w ≠ .eq) (h2 : sg X Y u v p = sg X Y u v w) (hc : crs X Y u v p q) :
    (sg X Y u w p = .eq ∧ sg X Y v w p = .eq) ∨ wth X Y p u v w ∨ btw X Y u w p ∨ btw X Y v w p ∨ crs X Y u w p q ∨ crs X Y v w p q ∨ btw X Y p q w := by
  obtain ⟨c1, c2⟩ := hc
  have r1 : sg X Y p q u = sg X Y u p q := sg_rot u p q
  have r2 : sg X Y p q v = sg X Y v p q := sg_rot v p q
  have r3 : sg X Y p q w = sg X Y w p q := sg_rot w p q
  rw [r1, r2] at c2
  have g1 : ok3 (om (sg X Y u v w) (sg X Y u p q)) (on (om (sg X Y u v p) (sg X Y u w q))) (om (sg X Y u v q) (sg X Y u w p)) = true := k3 (by unfold dt; grind)
  have g2 : ok3 (om (sg X Y u v w) (sg X Y v p q)) (on (om (sg X Y u v p) (sg X Y v w q))) (om (sg X Y u v q) (sg X Y v w p)) = true := k3 (by unfold dt; grind)
  have g3 : ok3 (om (sg X Y u v w) (sg X Y w p q)) (on (om (sg X Y u w p) (sg X Y v w q))) (om (sg X Y u w q) (sg X Y v w p)) = true := k3 (by unfold dt; grind)
  have g4 : ok3 (om (sg X Y u v p) (sg X Y w p q)) (on (om (sg X Y u w p) (sg X Y v p q))) (om (sg X Y u p q) (sg X Y v w p)) = true := k3 (by unfold dt; grind)
  have g5 : ok3 (om (sg X Y u v q) (sg X Y w p q)) (on (om (sg X Y u w q) (sg X Y v p q))) (om (sg X Y u p q) (sg X Y v w q)) = true := k3 (by unfold dt; grind)
  have f1 := sg_4 (X := X) (Y := Y) u v w p
  have f2 := sg_4 (X := X) (Y := Y) u v w q
  have f3 := sg_4 (X := X) (Y := Y) u v p q
  have f4 := sg_4 (X := X) (Y := Y) u w p q
  have f5 := sg_4 (X := X) (Y := Y) v w p q
  have e : exit_ok = true := exit_true
  unfold exit_ok at e
  have e := allO_spec (allO_spec (allO_spec e (sg X Y u v w)) (sg X Y u v p)) (sg X Y u v q)
  have e := imp_mp e (bmk (obn h1) (bmk (ob_iff.mpr h2) (ob_iff.mpr c1)))
  have e := imp_mp (allO_spec (allO_spec e (sg X Y u w p)) (sg X Y v w p)) f1
  have nvu : sg X Y v u w = on (sg X Y u v w) := sg_swap u v w
  have hb : ∀ x : Ordering, x ≠ .eq → on x ≠ .eq := fun x hx h => hx (on_eq_eq.mp h)
  by_cases hA : ((ob (sg X Y u w p) .eq && ob (sg X Y v w p) .eq) || ((ob (sg X Y u v p) (sg X Y v w p) && ob (sg X Y u v p) (on (sg X Y u w p))) || ((ob (sg X Y u w p) .eq && (ob (sg X Y u v p) (sg X Y u v w) && ob (sg X Y v w p) (sg X Y u v w))) || (ob (sg X Y v w p) .eq && (ob (sg X Y u v p) (sg X Y u v w) && ob (on (sg X Y u w p)) (sg X Y u v w)))))) = true
  · rcases bor hA with h | h
    · exact Or.inl ⟨ob_iff.mp (band h).1, ob_iff.mp (band h).2⟩
    · rcases bor h with h | h
      · refine Or.inr (Or.inl ⟨by rw [h2]; exact h1, ob_iff.mp (band h).1, ?_⟩)
        rw [sg_swap u w p]
        exact ob_iff.mp (band h).2
      · rcases bor h with h | h
        · refine Or.inr (Or.inr (Or.inl ⟨ob_iff.mp (band h).1, bt_of u w p v (ob_iff.mp (band h).1) ?_ ?_ ?_⟩))
          · rw [sg_swap u v p, nvu, h2]
          · rw [sg_swap' v w p, nvu, ob_iff.mp (band (band h).2).2]
          · rw [nvu]; exact hb _ h1
        · refine Or.inr (Or.inr (Or.inr (Or.inl ⟨ob_iff.mp (band h).1, bt_of v w p u (ob_iff.mp (band h).1) h2 ?_ h1⟩)))
          rw [sg_swap' u w p]
          exact ob_iff.mp (band (band h).2).2
  · have e := imp_mp e (bnot hA)
    have e := imp_mp (allO_spec (allO_spec e (sg X Y u w q)) (sg X Y v w q)) f2
    have e := imp_mp (allO_spec e (sg X Y u p q)) g1
    have e := imp_mp (allO_spec e (sg X Y v p q)) (bmk (ob_iff.mpr c2) (bmk f3 g2))
    have e := imp_mp (allO_spec e (sg X Y w p q)) (bmk g3 (bmk g4 (bmk g5 (bmk f4 f5))))
    rcases bor e with h | h
    · refine Or.inr (Or.inr (Or.inr (Or.inr (Or.inl ⟨ob_iff.mp (band h).1, ?_⟩))))
      rw [r1, r3]; exact ob_iff.mp (band h).2
    · rcases bor h with h | h
      · refine Or.inr (Or.inr (Or.inr (Or.inr (Or.inr (Or.inl ⟨ob_iff.mp (band h).1, ?_⟩)))))
        rw [r2, r3]; exact ob_iff.mp (band h).2
      · have hz := ob_iff.mp (band h).1
        have z1 := ob_iff.mp (band (band h).2).1
        have z2 := ob_iff.mp (band (band h).2).2
        have hu : sg X Y u p q ≠ .eq := (om_lt_on c2).2
        refine Or.inr (Or.inr (Or.inr (Or.inr (Or.inr (Or.inr ⟨by rw [r3]; exact hz, bt_of p q w u (by rw [r3]; exact hz) ?_ ?_ hu⟩)))))
        · rw [sg_swap' u w p]; exact z1
        · exact z2
theorem inner_pt (a b c d p : Nat) (h1 : om (sg X Y a b c) (sg X Y a b d) = .lt) (h2 : om (sg X Y c d a) (sg X Y c d b) = .lt) (h : wth X Y p c d a) : wth X Y p a b c ∨ wth X Y p a b d ∨ btw X Y a b p := by
  obtain ⟨w0, w1, w2⟩ := h
  have r1 : sg X Y c d a = sg X Y a c d := sg_rot a c d
  have r2 : sg X Y c d b = sg X Y b c d := sg_rot b c d
  have r3 : sg X Y d a p = on (sg X Y a d p) := sg_swap a d p
  rw [r1, r2] at h2
  rw [r3] at w1
  have g1 : ok3 (om (sg X Y a b c) (sg X Y a d p)) (on (om (sg X Y a b d) (sg X Y a c p))) (om (sg X Y a b p) (sg X Y a c d)) = true := k3 (by unfold dt; grind)
  have g2 : ok3 (om (sg X Y a b c) (sg X Y b d p)) (on (om (sg X Y a b d) (sg X Y b c p))) (om (sg X Y a b p) (sg X Y b c d)) = true := k3 (by unfold dt; grind)
  have g3 : ok3 (om (sg X Y a b c) (sg X Y c d p)) (on (om (sg X Y a c d) (sg X Y b c p))) (om (sg X Y a c p) (sg X Y b c d)) = true := k3 (by unfold dt; grind)
  have g4 : ok3 (om (sg X Y a b d) (sg X Y c d p)) (on (om (sg X Y a c d) (sg X Y b d p))) (om (sg X Y a d p) (sg X Y b c d)) = true := k3 (by unfold dt; grind)
  have g5 : ok3 (om (sg X Y a b p) (sg X Y c d p)) (on (om (sg X Y a c p) (sg X Y b d p))) (om (sg X Y a d p) (sg X Y b c p)) = true := k3 (by unfold dt; grind)
  have f1 := sg_4 (X := X) (Y := Y) a b c d
  have f2 := sg_4 (X := X) (Y := Y) a b c p
  have f3 := sg_4 (X := X) (Y := Y) a b d p
  have f4 := sg_4 (X := X) (Y := Y) a c d p
  have f5 := sg_4 (X := X) (Y := Y) b c d p
  have e : inner_ok = true := inner_true
  unfold inner_ok at e
  have e := imp_mp (allO_spec (allO_spec e (sg X Y a b c)) (sg X Y a b d)) (ob_iff.mpr h1)
  have e := imp_mp (allO_spec (allO_spec e (sg X Y a c d)) (sg X Y b c d)) (bmk (ob_iff.mpr h2) f1)
  have e := imp_mp (allO_spec (allO_spec e (sg X Y c d p)) (sg X Y a d p)) (bmk (obn w0) (ob_iff.mpr w1))
  have e := imp_mp (allO_spec e (sg X Y a c p)) (bmk (ob_iff.mpr w2) f4)
  have e := imp_mp (allO_spec e (sg X Y a b p)) g1
  have e := imp_mp (allO_spec e (sg X Y b c p)) (bmk g3 f2)
  have e := imp_mp (allO_spec e (sg X Y b d p)) (bmk g2 (bmk g4 (bmk g5 (bmk f3 f5))))
  rcases bor e with h | h
  · refine Or.inl ⟨obn' (band h).1, ob_iff.mp (band (band h).2).1, ?_⟩
    rw [sg_swap a c p]; exact ob_iff.mp (band (band h).2).2
  · rcases bor h with h | h
    · refine Or.inr (Or.inl ⟨obn' (band h).1, ob_iff.mp (band (band h).2).1, ?_⟩)
      rw [sg_swap a d p]; exact ob_iff.mp (band (band h).2).2
    · have hz := ob_iff.mp (band h).1
      have z1 := ob_iff.mp (band (band h).2).1
      have z2 := ob_iff.mp (band (band h).2).2
      have hn : sg X Y a b c ≠ .eq := (om_lt_on h1).2
      refine Or.inr (Or.inr ⟨hz, bt_of a b p c hz ?_ ?_ ?_⟩)
      · rw [← sg_rot c a b, sg_swap a c p]; exact z1
      · rw [sg_rot b c p, ← sg_rot c a b]; exact z2
      · rw [← sg_rot c a b]; exact hn
/-- two thirds on one side of a fence -/
theorem uniq_pt (a b c d : Nat) (h1 : sg X Y a b c ≠ .eq) (h2 : sg X Y a b c = sg X Y a b d) :
    (X d = X c ∧ Y d = Y c) ∨ wth X Y d a b c ∨ wth X Y c a b d ∨ crs X Y a d b c ∨ crs X Y b d a c ∨ btw X Y a c d ∨ btw X Y a d c ∨ btw X Y b c d ∨ btw X Y b d c := by
  have e : uniq_ok = true := uniq_true
  unfold uniq_ok at e
  have f1 := sg_4 (X := X) (Y := Y) a b c d
  rw [← h2] at f1
  have e := imp_mp (allO_spec (allO_spec (allO_spec e (sg X Y a b c)) (sg X Y a c d)) (sg X Y b c d)) (bmk (obn h1) f1)
  have hb : ∀ x : Ordering, x ≠ .eq → on x ≠ .eq := fun x hx h => hx (on_eq_eq.mp h)
  have s1 : sg X Y b a c = on (sg X Y a b c) := sg_swap a b c
  have s2 : sg X Y b a d = on (sg X Y a b d) := sg_swap a b d
  have s3 : sg X Y a d c = on (sg X Y a c d) := sg_swap' a c d
  have s4 : sg X Y b d c = on (sg X Y b c d) := sg_swap' b c d
  rcases bor e with h | h
  · refine Or.inl (eq_of_lines a b c d (ob_iff.mp (band h).1) (ob_iff.mp (band h).2) h1)
  rcases bor h with h | h
  · refine Or.inr (Or.inl ⟨by rw [← h2]; exact h1, by rw [← h2]; exact ob_iff.mp (band h).1, ?_⟩)
    rw [← h2, sg_swap a c d]; exact ob_iff.mp (band h).2
  rcases bor h with h | h
  · refine Or.inr (Or.inr (Or.inl ⟨h1, ?_, ?_⟩))
    · rw [s4]; exact ob_iff.mp (band h).1
    · rw [← sg_rot d a c]; exact ob_iff.mp (band h).2
  rcases bor h with h | h
  · refine Or.inr (Or.inr (Or.inr (Or.inl ⟨?_, ?_⟩)))
    · rw [sg_swap' a b d, s3, ← h2, om_on_l, om_on_r, on_on]; exact ob_iff.mp (band h).1
    · rw [sg_rot a b c]; exact ob_iff.mp (band h).2
  rcases bor h with h | h
  · refine Or.inr (Or.inr (Or.inr (Or.inr (Or.inl ⟨?_, ?_⟩))))
    · rw [sg_rot a b d, ← h2, s4]; exact ob_iff.mp (band h).1
    · rw [sg_swap' a b c]; exact ob_iff.mp (band h).2
  rcases bor h with h | h
  · have z3 := ob_iff.mp (band h).1
    have z4 := ob_iff.mp (band h).2
    refine Or.inr (Or.inr (Or.inr (Or.inr (Or.inr (Or.inl ⟨z3, bt_of a c d b z3 ?_ ?_ ?_⟩)))))
    · rw [s2, s1, h2]
    · rw [s4, s1, z4]
    · rw [s1]; exact hb _ h1
  rcases bor h with h | h
  · have z3 := ob_iff.mp (band h).1
    have z4 := ob_iff.mp (band h).2
    have z5 : sg X Y a d c = .eq := by rw [s3, z3]; rfl
    refine Or.inr (Or.inr (Or.inr (Or.inr (Or.inr (Or.inr (Or.inl ⟨z5, bt_of a d c b z5 ?_ ?_ ?_⟩))))))
    · rw [s1, s2, h2]
    · rw [s2, z4, h2]
    · rw [s2, ← h2]; exact hb _ h1
  rcases bor h with h | h
  · have z3 := ob_iff.mp (band h).1
    have z4 := ob_iff.mp (band h).2
    refine Or.inr (Or.inr (Or.inr (Or.inr (Or.inr (Or.inr (Or.inr (Or.inl ⟨z3, bt_of b c d a z3 ?_ ?_ h1⟩)))))))
    · exact h2.symm
    · rw [s3]; exact z4
  · have z3 := ob_iff.mp (band h).1
    have z4 := ob_iff.mp (band h).2
    have z5 : sg X Y b d c = .eq := by rw [s4, z3]; rfl
    refine Or.inr (Or.inr (Or.inr (Or.inr (Or.inr (Or.inr (Or.inr (Or.inr ⟨z5, bt_of b d c a z5 ?_ ?_ ?_⟩)))))))
    · exact h2
    · rw [z4, h2]
    · rw [← h2]; exact h1
end GEO2
