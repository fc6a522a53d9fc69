/-! ===== TURNS: two thirds at a fence, what comes in its place ===== -/
section RAY
variable {X Y : Nat → Int}
theorem btw_ray {c d p : Nat} (h : btw X Y c d p) (b : Nat) : sg X Y b c p = sg X Y b c d := by
  obtain ⟨h0, hd⟩ := h
  have e0 : dt X Y c d p = 0 := gs_eq.mp h0
  have i : ((X d - X c) * (X d - X c) + (Y d - Y c) * (Y d - Y c)) * dt X Y b c p = ((X p - X c) * (X d - X c) + (Y p - Y c) * (Y d - Y c)) * dt X Y b c d + ((X c - X b) * (X d - X c) + (Y c - Y b) * (Y d - Y c)) * dt X Y c d p := by unfold dt; grind
  rw [e0, Int.mul_zero, Int.add_zero] at i
  have k : (X p - X c) * (X d - X c) + (Y p - Y c) * (Y d - Y c) = - dot X Y c d p + ((X p - X c) * (X p - X c) + (Y p - Y c) * (Y p - Y c)) := by unfold dot; grind
  have q1 := isq_nonneg (X p - X c)
  have q2 := isq_nonneg (Y p - Y c)
  have q3 := isq_nonneg (X d - X c)
  have q4 := isq_nonneg (Y d - Y c)
  have hK : 0 < (X p - X c) * (X d - X c) + (Y p - Y c) * (Y d - Y c) := by omega
  have hN : 0 < (X d - X c) * (X d - X c) + (Y d - Y c) * (Y d - Y c) := by
    rcases Int.lt_or_le 0 ((X d - X c) * (X d - X c) + (Y d - Y c) * (Y d - Y c)) with h | h
    · exact h
    · have w1 := isq_zero (a := X d - X c) (by omega)
      have w2 := isq_zero (a := Y d - Y c) (by omega)
      rw [w1, w2] at hK
      simp at hK
  have g := congrArg gs i
  rw [gs_mul, gs_mul, gs_gt.mpr hK, gs_gt.mpr hN] at g
  have om1 : ∀ o : Ordering, om .gt o = o := by intro o; cases o <;> rfl
  rw [om1, om1] at g
  exact g
theorem quad_open {a b c d p : Nat} (c1 : om (sg X Y a b c) (sg X Y a b d) = .lt) (c2 : om (sg X Y c d a) (sg X Y c d b) = .lt) (hp : btw X Y c d p) : btw X Y a b p ∨ wth X Y p a b c ∨ wth X Y p a b d := by
  obtain ⟨d1, n1⟩ := om_lt_on c1
  obtain ⟨d2, n2⟩ := om_lt_on c2
  have f := sg_4 (X := X) (Y := Y) a b c d
  have r1 : sg X Y c d a = sg X Y a c d := sg_rot a c d
  have r2 : sg X Y c d b = sg X Y b c d := sg_rot b c d
  rw [r1, r2] at d2
  rw [r1] at n2
  have hp' : btw X Y d c p := btw_comm.mpr hp
  have e1 := btw_ray hp b
  have e2 := btw_ray hp a
  have e3 := btw_ray hp' b
  have e4 := btw_ray hp' a
  have s3 : sg X Y b d c = on (sg X Y b c d) := sg_swap' b c d
  have s4 : sg X Y a d c = on (sg X Y a c d) := sg_swap' a c d
  have s5 : sg X Y c a p = on (sg X Y a c p) := sg_swap a c p
  have s6 : sg X Y d a p = on (sg X Y a d p) := sg_swap a d p
  have s7 : sg X Y c a b = sg X Y a b c := (sg_rot b c a).trans (sg_rot a b c)
  have s8 : sg X Y c p b = sg X Y b c p := sg_rot b c p
  rw [d1, d2] at f
  have tk : sg X Y a c d = on (sg X Y a b c) := by
    revert f n1 n2
    cases sg X Y a b c <;> cases sg X Y a c d <;> decide
  rw [tk] at d2 e2 s4
  rw [on_on] at d2
  have u1 : sg X Y c a p = sg X Y a b c := by rw [s5, e2, on_on]
  have u2 : sg X Y b c p = sg X Y a b c := by rw [e1, d2]
  have u3 : sg X Y b d p = on (sg X Y a b c) := by rw [e3, s3, d2]
  have u4 : sg X Y d a p = on (sg X Y a b c) := by rw [s6, e4, s4, on_on]
  by_cases z : sg X Y a b p = .eq
  · exact Or.inl ⟨z, bt_of a b p c z (by rw [u1, s7]) (by rw [s8, u2, s7]) (by rw [s7]; exact n1)⟩
  · by_cases y : sg X Y a b p = sg X Y a b c
    · exact Or.inr (Or.inl ⟨z, by rw [u2, y], by rw [u1, y]⟩)
    · have y2 : sg X Y a b p = on (sg X Y a b c) := by
        revert z y n1
        cases sg X Y a b p <;> cases sg X Y a b c <;> decide
      exact Or.inr (Or.inr ⟨z, by rw [u3, y2], by rw [u4, y2]⟩)
end RAY
section TURN
variable {n : Nat} {X Y : Nat → Int}
theorem crf_fbt {a b c d f g : Nat} (h1 : fbt n X Y a b = some f) (h2 : fbt n X Y c d = some g) : crf n X Y f g = pb (crs X Y a b c d) := by
  unfold crf
  rcases (fbt_some h1).2.2.2.2.2 with ⟨p, q⟩ | ⟨p, q⟩ <;> rcases (fbt_some h2).2.2.2.2.2 with ⟨r, s⟩ | ⟨r, s⟩ <;> rw [p, q, r, s]
  · exact pb_cong crs_sw2
  · exact pb_cong crs_sw1
  · exact pb_cong (crs_sw1.trans crs_sw2)
theorem hs_nc {T a b c d : Nat} (hT : isG (crf n X Y) (fN n X Y) T) (h1 : hsf n X Y T a b = true) (h2 : hsf n X Y T c d = true) : ¬ crs X Y a b c d := by
  obtain ⟨f, f1, f2⟩ := hsf_iff.mp h1
  obtain ⟨g, g1, g2⟩ := hsf_iff.mp h2
  have := hT.2.1 f g f2 g2
  rw [crf_fbt f1 g1] at this
  exact pb_f.mp this
theorem hs_open {T a b p : Nat} (h : hsf n X Y T a b = true) (hp : p < n) : ¬ btw X Y a b p := by
  obtain ⟨f, f1, -⟩ := hsf_iff.mp h
  exact (fbt_some f1).2.2.2.2.1 p hp
theorem thr_emp {T a b c p : Nat} (h : thr n X Y T a b c = true) (hp : p < n) : ¬ wth X Y p a b c := emp_iff.mp (thr_iff.mp h).2.2.2.2 p hp
theorem thr_uniq (dst : ∀ i j, i < n → j < n → X i = X j → Y i = Y j → i = j) {T a b c d : Nat} (hT : isG (crf n X Y) (fN n X Y) T) (h1 : thr n X Y T a b c = true) (h2 : thr n X Y T a b d = true) (hs : sg X Y a b c = sg X Y a b d) : c = d := by
  obtain ⟨la, lb, lc, -⟩ := thr_lt h1
  obtain ⟨-, -, ld, -⟩ := thr_lt h2
  obtain ⟨g1, g2, g3, g4, g5⟩ := thr_iff.mp h1
  obtain ⟨k1, k2, k3, k4, k5⟩ := thr_iff.mp h2
  rcases uniq_pt a b c d g1 hs with ⟨e1, e2⟩ | h | h | h | h | h | h | h | h
  · exact dst c d lc ld e1.symm e2.symm
  · exact absurd h (thr_emp h1 ld)
  · exact absurd h (thr_emp h2 lc)
  · exact absurd h (hs_nc hT k3 g4)
  · exact absurd h (hs_nc hT k4 g3)
  · exact absurd h (hs_open g3 ld)
  · exact absurd h (hs_open k3 lc)
  · exact absurd h (hs_open g4 ld)
  · exact absurd h (hs_open k4 lc)
/-- a fence that crosses ab leaves the third abc at c, or over a fence of the cutting -/
theorem exitA (dst : ∀ i j, i < n → j < n → X i = X j → Y i = Y j → i = j) {T a b c p q f x : Nat} (hf : fbt n X Y a b = some f) (h1 : thr n X Y T a b c = true) (hx : fbt n X Y p q = some x) (hc : crs X Y a b p q) (hs : sg X Y a b p = sg X Y a b c) : p = c ∨ ∃ t, T.testBit t = true ∧ t ≠ f ∧ crf n X Y t x = true := by
  obtain ⟨la, lb, lc, n1, n2, n3⟩ := thr_lt h1
  obtain ⟨g1, g2, g3, g4, g5⟩ := thr_iff.mp h1
  obtain ⟨-, lp, lq, -, ho, -⟩ := fbt_some hx
  rcases exit_pt a b c p q g1 hs hc with ⟨e1, e2⟩ | h | h | h | h | h | h
  · obtain ⟨e3, e4⟩ := eq_of_lines a b c p e1 e2 g1
    exact Or.inl (dst p c lp lc e3 e4)
  · exact absurd h (thr_emp h1 lp)
  · exact absurd h (hs_open g3 lp)
  · exact absurd h (hs_open g4 lp)
  · obtain ⟨t, t1, t2⟩ := hsf_iff.mp g3
    refine Or.inr ⟨t, t2, fun e => ?_, by rw [crf_fbt t1 hx]; exact pb_iff.mpr h⟩
    subst e
    have z1 := (fbt_some t1).2.2.2.2.2
    have z2 := (fbt_some hf).2.2.2.2.2
    omega
  · obtain ⟨t, t1, t2⟩ := hsf_iff.mp g4
    refine Or.inr ⟨t, t2, fun e => ?_, by rw [crf_fbt t1 hx]; exact pb_iff.mpr h⟩
    subst e
    have z1 := (fbt_some t1).2.2.2.2.2
    have z2 := (fbt_some hf).2.2.2.2.2
    omega
  · exact absurd h (ho c lc)
theorem exitB (dst : ∀ i j, i < n → j < n → X i = X j → Y i = Y j → i = j) {T a b c d p q : Nat} (hT : isG (crf n X Y) (fN n X Y) T) (h1 : thr n X Y T a b c = true) (h2 : thr n X Y T a b d = true) (c1 : om (sg X Y a b c) (sg X Y a b d) = .lt) (c2 : om (sg X Y c d a) (sg X Y c d b) = .lt) (hx : hsf n X Y T p q = true) (hc : crs X Y c d p q) (hs : sg X Y c d p = sg X Y c d a) : p = a := by
  obtain ⟨la, lb, lc, n1, n2, n3⟩ := thr_lt h1
  obtain ⟨-, -, ld, -⟩ := thr_lt h2
  obtain ⟨g1, g2, g3, g4, g5⟩ := thr_iff.mp h1
  obtain ⟨k1, k2, k3, k4, k5⟩ := thr_iff.mp h2
  obtain ⟨x, hx1, -⟩ := hsf_iff.mp hx
  obtain ⟨-, lp, lq, -, ho, -⟩ := fbt_some hx1
  have hn := (om_lt_on c2).2
  rcases exit_pt c d a p q hn hs hc with ⟨e1, e2⟩ | h | h | h | h | h | h
  · obtain ⟨e3, e4⟩ := eq_of_lines c d a p e1 e2 hn
    exact dst p a lp la e3 e4
  · rcases inner_pt a b c d p c1 c2 h with h | h | h
    · exact absurd h (thr_emp h1 lp)
    · exact absurd h (thr_emp h2 lp)
    · exact absurd h (hs_open g2 lp)
  · exact absurd h (fun z => hs_open g3 lp (btw_comm.mp z))
  · exact absurd h (fun z => hs_open k3 lp (btw_comm.mp z))
  · exact absurd h (hs_nc hT (by rw [hsf_comm]; exact g3) hx)
  · exact absurd h (hs_nc hT (by rw [hsf_comm]; exact k3) hx)
  · exact absurd h (ho a la)
/-- a free turn leads to a cutting -/
theorem trn_G (dst : ∀ i j, i < n → j < n → X i = X j → Y i = Y j → i = j) {T a b c d f : Nat} (hT : isG (crf n X Y) (fN n X Y) T) (hf : fbt n X Y a b = some f) (h1 : thr n X Y T a b c = true) (h2 : thr n X Y T a b d = true) (c1 : om (sg X Y a b c) (sg X Y a b d) = .lt) (c2 : om (sg X Y c d a) (sg X Y c d b) = .lt) : ∃ g, fbt n X Y c d = some g ∧ T.testBit g = false ∧ isG (crf n X Y) (fN n X Y) (trn T f g) := by
  obtain ⟨la, lb, lc, n1, n2, n3⟩ := thr_lt h1
  obtain ⟨-, -, ld, -⟩ := thr_lt h2
  obtain ⟨g1, g2, g3, g4, g5⟩ := thr_iff.mp h1
  obtain ⟨d1, m1⟩ := om_lt_on c1
  obtain ⟨d2, m2⟩ := om_lt_on c2
  have hcd : c ≠ d := fun e => by
    rw [e, sg_a] at m2
    exact m2 rfl
  obtain ⟨g, hg⟩ := fbt_open lc ld hcd (fun p hp hb => by
    rcases quad_open c1 c2 hb with h | h | h
    · exact hs_open g2 hp h
    · exact thr_emp h1 hp h
    · exact thr_emp h2 hp h)
  have hfg : crf n X Y f g = true := by rw [crf_fbt hf hg]; exact pb_iff.mpr ⟨c1, c2⟩
  have tf : T.testBit f = true := by
    obtain ⟨f', e1, e2⟩ := hsf_iff.mp g2
    rw [hf] at e1
    injection e1 with e1
    rw [e1]; exact e2
  have tg : T.testBit g = false := by
    cases h : T.testBit g with
    | false => rfl
    | true =>
      have := hT.2.1 f g tf h
      rw [hfg] at this
      cases this
  refine ⟨g, hg, tg, ?_, ?_, ?_⟩
  · intro i hi
    rcases trn_tb.mp hi with h | h
    · exact hT.1 i h.1
    · rw [h]; exact (fbt_some hg).1
  · have key : ∀ j, T.testBit j = true → j ≠ f → crf n X Y g j = false := by
      intro j hj hjf
      have lj := hT.1 j hj
      have hb := fbt_lh (n := n) (X := X) (Y := Y) lj
      have hs : hsf n X Y T (flo n X Y j) (fhi n X Y j) = true := hsf_iff.mpr ⟨j, hb, hj⟩
      have hs' : hsf n X Y T (fhi n X Y j) (flo n X Y j) = true := by rw [hsf_comm]; exact hs
      rw [crf_fbt hg hb]
      refine pb_f.mpr fun hc => ?_
      generalize flo n X Y j = p at *
      generalize fhi n X Y j = q at *
      have c1' : om (sg X Y b a d) (sg X Y b a c) = .lt := by rw [sg_swap, sg_swap a b c, om_on_on, om_comm]; exact c1
      have h1' : thr n X Y T b a c = true := by rw [thr_swap]; exact h1
      have h2' : thr n X Y T b a d = true := by rw [thr_swap]; exact h2
      have c1'' : om (sg X Y b a c) (sg X Y b a d) = .lt := by rw [om_comm]; exact c1'
      have c2' : om (sg X Y c d b) (sg X Y c d a) = .lt := by rw [om_comm]; exact c2
      obtain ⟨x2, x1⟩ := om_lt_on hc.1
      have hcs : crs X Y c d q p := crs_sw2.mpr hc
      have hab : (p = a ∧ q = b) ∨ (p = b ∧ q = a) := by
        by_cases z : sg X Y c d p = sg X Y c d a
        · left
          exact ⟨exitB dst hT h1 h2 c1 c2 hs hc z, exitB dst hT h1' h2' c1'' c2' hs' hcs (by rw [x2, z, d2])⟩
        · have z2 : sg X Y c d p = sg X Y c d b := by
            rw [d2]
            revert z x1 m2
            cases sg X Y c d p <;> cases sg X Y c d a <;> decide
          right
          refine ⟨exitB dst hT h1' h2' c1'' c2' hs hc z2, exitB dst hT h1 h2 c1 c2 hs' hcs ?_⟩
          rw [x2, z2, d2, on_on]
      apply hjf
      rcases hab with ⟨e1, e2⟩ | ⟨e1, e2⟩
      · rw [e1, e2, hf] at hb
        injection hb with hb
        exact hb.symm
      · rw [e1, e2, fbt_comm, hf] at hb
        injection hb with hb
        exact hb.symm
    intro i j hi hj
    rcases trn_tb.mp hi with h | h <;> rcases trn_tb.mp hj with k | k
    · exact hT.2.1 i j h.1 k.1
    · rw [k, crf_comm]; exact key i h.1 h.2
    · rw [h]; exact key j k.1 k.2
    · rw [h, k]; exact crf_self g
  · intro x hx hxT
    have hx0 : ¬ ((T.testBit x = true ∧ x ≠ f) ∨ x = g) := fun q => by rw [trn_tb.mpr q] at hxT; cases hxT
    by_cases hxf : x = f
    · exact ⟨g, trn_tb.mpr (Or.inr rfl), by rw [hxf, crf_comm]; exact hfg⟩
    · have hxT' : T.testBit x = false := by
        cases h : T.testBit x with
        | false => rfl
        | true => exact absurd (Or.inl ⟨h, hxf⟩) hx0
      obtain ⟨t, t1, t2⟩ := hT.2.2 x hx hxT'
      by_cases htf : t = f
      · have hb := fbt_lh (n := n) (X := X) (Y := Y) hx
        have hb' : fbt n X Y (fhi n X Y x) (flo n X Y x) = some x := by rw [fbt_comm]; exact hb
        rw [htf, crf_fbt hf hb] at t2
        have hc := pb_iff.mp t2
        generalize flo n X Y x = p at *
        generalize fhi n X Y x = q at *
        have hcs : crs X Y a b q p := crs_sw2.mpr hc
        obtain ⟨x2, x1⟩ := om_lt_on hc.1
        have fin : ∀ {p q : Nat}, fbt n X Y p q = some x → (p = c ∨ ∃ t, T.testBit t = true ∧ t ≠ f ∧ crf n X Y t x = true) → (q = d ∨ ∃ t, T.testBit t = true ∧ t ≠ f ∧ crf n X Y t x = true) → ∃ t, (trn T f g).testBit t = true ∧ crf n X Y t x = true := by
          intro p q hb i1 i2
          rcases i1 with e1 | ⟨t, a1, a2, a3⟩
          · rcases i2 with e2 | ⟨t, a1, a2, a3⟩
            · rw [e1, e2, hg] at hb
              injection hb with hb
              exact absurd (Or.inr hb.symm) hx0
            · exact ⟨t, trn_tb.mpr (Or.inl ⟨a1, a2⟩), a3⟩
          · exact ⟨t, trn_tb.mpr (Or.inl ⟨a1, a2⟩), a3⟩
        by_cases z : sg X Y a b p = sg X Y a b c
        · exact fin hb (exitA dst hf h1 hb hc z) (exitA dst hf h2 hb' hcs (by rw [x2, z, d1]))
        · have z2 : sg X Y a b p = sg X Y a b d := by
            rw [d1]
            revert z x1 m1
            cases sg X Y a b p <;> cases sg X Y a b c <;> decide
          refine fin hb' (exitA dst hf h1 hb' hcs ?_) (exitA dst hf h2 hb hc z2)
          rw [x2, z2, d1, on_on]
      · exact ⟨t, trn_tb.mpr (Or.inl ⟨t1, htf⟩), t2⟩
end TURN
