/-! ===== BOUND: 256 cuttings at most ===== -/
def vo (o : Ordering) (b : Bool) : Ordering := if b then o else on o
theorem chn_rev (a b c d : Bool) : chn d c b a = chn a b c d := by cases a <;> cases b <;> cases c <;> cases d <;> rfl
theorem sg_mir {s : Nat → Nat → Nat → Bool} (h : SG s) : SG (mir s) := by
  refine ⟨fun b c hb hbc hc => ?_, fun w a b c h1 h2 h3 h4 => ?_⟩
  · unfold mir
    rw [if_pos rfl]
    exact h.1 _ _ (by omega) (by omega) (by omega)
  · unfold mir
    by_cases hw : w = 0
    · rw [if_pos hw, if_pos hw, if_pos hw, h.1 (8 - b) (8 - a) (by omega) (by omega) (by omega), h.1 (8 - c) (8 - a) (by omega) (by omega) (by omega), h.1 (8 - c) (8 - b) (by omega) (by omega) (by omega)]
      cases (if a = 0 then s 0 (8 - c) (8 - b) else s (8 - c) (8 - b) (8 - a)) <;> rfl
    · rw [if_neg hw, if_neg hw, if_neg hw, if_neg (show ¬ a = 0 by omega), chn_rev]
      exact h.2 _ _ _ _ (by omega) (by omega) (by omega) (by omega)
theorem mid {p q r x y z : Int} (hp : 0 < p) (hq : 0 < q) (hr : 0 < r) (e : p * x = q * y + r * z) (hy : gs y ≠ .eq) (hz : gs z ≠ .eq) (hx : gs x ≠ .eq) (h : ob (gs y) .gt = ob (gs z) .gt) : ob (gs x) .gt = ob (gs y) .gt := by
  rcases gs_c y with ⟨y1, y2⟩ | ⟨y1, y2⟩ | ⟨y1, y2⟩
  · rcases gs_c z with ⟨z1, z2⟩ | ⟨z1, z2⟩ | ⟨z1, z2⟩
    · rcases gs_c x with ⟨x1, x2⟩ | ⟨x1, x2⟩ | ⟨x1, x2⟩
      · rw [x2, y2]
      · exact absurd x2 hx
      · have := Int.mul_pos hp x1
        have := Int.mul_neg_of_pos_of_neg hq y1
        have := Int.mul_neg_of_pos_of_neg hr z1
        omega
    · exact absurd z2 hz
    · rw [y2, z2] at h; cases h
  · exact absurd y2 hy
  · rcases gs_c z with ⟨z1, z2⟩ | ⟨z1, z2⟩ | ⟨z1, z2⟩
    · rw [y2, z2] at h; cases h
    · exact absurd z2 hz
    · rcases gs_c x with ⟨x1, x2⟩ | ⟨x1, x2⟩ | ⟨x1, x2⟩
      · have := Int.mul_neg_of_pos_of_neg hp x1
        have := Int.mul_pos hq y1
        have := Int.mul_pos hr z1
        omega
      · exact absurd x2 hx
      · rw [x2, y2]
theorem chn_mid {a b c d : Bool} (h1 : a = c → b = a) (h2 : a = d → b = a) (h3 : a = d → c = a) (h4 : b = d → c = b) : chn a b c d = true := by
  revert h1 h2 h3 h4
  cases a <;> cases b <;> cases c <;> cases d <;> decide
section SGE
variable {U V : Nat → Int}
/-- signs around the first label are those of a signotope -/
theorem sg_of {π : Nat → Nat} (hpos : ∀ b c, 1 ≤ b → b < c → c < 8 → sg U V (π 0) (π b) (π c) = .gt) (hne : ∀ a b c, a < b → b < c → c < 8 → sg U V (π a) (π b) (π c) ≠ .eq) : SG fun a b c => ob (sg U V (π a) (π b) (π c)) .gt := by
  refine ⟨fun b c hb hbc hc => by show ob (sg U V (π 0) (π b) (π c)) .gt = true; rw [hpos b c hb hbc hc]; rfl, fun w a b c h1 h2 h3 h4 => ?_⟩
  by_cases hw : w = 0
  · subst hw
    show chn (ob (sg U V (π 0) (π a) (π b)) .gt) (ob (sg U V (π 0) (π a) (π c)) .gt) (ob (sg U V (π 0) (π b) (π c)) .gt) _ = true
    rw [hpos a b (by omega) h2 (by omega), hpos a c (by omega) (by omega) h4, hpos b c (by omega) h3 h4]
    cases ob (sg U V (π a) (π b) (π c)) .gt <;> rfl
  · have pwa := gs_gt.mp (hpos w a (by omega) (by omega) (by omega))
    have pwb := gs_gt.mp (hpos w b (by omega) (by omega) (by omega))
    have pwc := gs_gt.mp (hpos w c (by omega) (by omega) (by omega))
    have pab := gs_gt.mp (hpos a b (by omega) (by omega) (by omega))
    have pac := gs_gt.mp (hpos a c (by omega) (by omega) (by omega))
    have pbc := gs_gt.mp (hpos b c (by omega) (by omega) (by omega))
    have n1 := hne w a b (by omega) (by omega) (by omega)
    have n2 := hne w a c (by omega) (by omega) (by omega)
    have n3 := hne w b c (by omega) (by omega) (by omega)
    have n4 := hne a b c (by omega) (by omega) (by omega)
    show chn (ob (sg U V (π w) (π a) (π b)) .gt) (ob (sg U V (π w) (π a) (π c)) .gt) (ob (sg U V (π w) (π b) (π c)) .gt) (ob (sg U V (π a) (π b) (π c)) .gt) = true
    generalize π 0 = o at *
    generalize π w = w at *
    generalize π a = a at *
    generalize π b = b at *
    generalize π c = c at *
    unfold sg at n1 n2 n3 n4 ⊢
    refine chn_mid (fun h => ?_) (fun h => ?_) (fun h => ?_) (fun h => ?_)
    · exact mid (p := dt U V o w b) (q := dt U V o w c) (r := dt U V o w a) pwb pwc pwa (by unfold dt; grind) n1 n3 n2 h
    · exact mid (p := dt U V o a b) (q := dt U V o a c) (r := dt U V o w a) pab pac pwa (by unfold dt; grind) n1 n4 n2 h
    · exact mid (p := dt U V o a b) (q := dt U V o b c) (r := dt U V o w b) pab pbc pwb (by unfold dt; grind) n1 n4 n3 h
    · exact mid (p := dt U V o a c) (q := dt U V o b c) (r := dt U V o w c) pac pbc pwc (by unfold dt; grind) n2 n4 n3 h
end SGE
theorem k_cross (o : Ordering) (b1 b2 b3 b4 : Bool) (ho : o ≠ .eq) (h : chn b1 b2 b3 b4 = true) : (om (on (vo o b1)) (vo o b3) = .lt ∧ om (vo o b2) (on (vo o b4)) = .lt) ↔ (b1 == b4) = true := by
  revert h ho
  cases o <;> cases b1 <;> cases b2 <;> cases b3 <;> cases b4 <;> decide
theorem k_nest (o : Ordering) (b1 b2 b3 b4 : Bool) (ho : o ≠ .eq) (h : chn b1 b2 b3 b4 = true) : (om (on (vo o b2)) (on (vo o b3)) = .lt ∧ om (vo o b1) (vo o b4) = .lt) ↔ (b2 != b3) = true := by
  revert h ho
  cases o <;> cases b1 <;> cases b2 <;> cases b3 <;> cases b4 <;> decide
theorem k_apart (o : Ordering) (b1 b2 b3 b4 : Bool) (ho : o ≠ .eq) (h : chn b1 b2 b3 b4 = true) : ¬ (om (vo o b1) (vo o b2) = .lt ∧ om (vo o b3) (vo o b4) = .lt) := by
  revert h ho
  cases o <;> cases b1 <;> cases b2 <;> cases b3 <;> cases b4 <;> decide
theorem om_eq_l (x : Ordering) : om .eq x ≠ .lt := by cases x <;> decide
theorem om_eq_r (x : Ordering) : om x .eq ≠ .lt := by cases x <;> decide
section CRL
variable {U V : Nat → Int} {o : Ordering} {π : Nat → Nat} {s : Nat → Nat → Nat → Bool}
theorem crs_lt (ho : o ≠ .eq) (hs : SG s) (hx : ∀ a b c, a < b → b < c → c < 8 → sg U V (π a) (π b) (π c) = vo o (s a b c)) {p q r t : Nat} (hpq : p < q) (hq : q < 8) (hrt : r < t) (ht : t < 8) (hpr : p < r) : crs U V (π p) (π q) (π r) (π t) ↔ crq s p q r t = true := by
  rcases Nat.lt_trichotomy q r with h | h | h
  · -- apart
    have e : crq s p q r t = false := by
      unfold crq
      rw [if_neg (by omega), if_neg (by omega), if_neg (by omega), if_neg (by omega)]
    rw [e]
    refine ⟨fun z => absurd ?_ (k_apart o (s p q r) (s p q t) (s p r t) (s q r t) ho (hs.2 p q r t hpq h hrt ht)), fun z => absurd z Bool.false_ne_true⟩
    unfold crs at z
    rw [sg_rot (π p) (π r) (π t), sg_rot (π q) (π r) (π t), hx p q r hpq h (by omega), hx p q t hpq (by omega) ht, hx p r t hpr hrt ht, hx q r t h hrt ht] at z
    exact z
  · subst h
    have e : crq s p q q t = false := by
      unfold crq
      rw [if_neg (by omega), if_neg (by omega), if_neg (by omega), if_neg (by omega)]
    rw [e]
    refine ⟨fun z => ?_, fun z => absurd z Bool.false_ne_true⟩
    have z := z.1
    rw [sg_ab] at z
    exact absurd z (om_eq_l _)
  · rcases Nat.lt_trichotomy q t with g | g | g
    · have e : crq s p q r t = (s p r q == s r q t) := by
        unfold crq
        rw [if_pos ⟨hpr, h, g⟩]
      rw [e, ← k_cross o (s p r q) (s p r t) (s p q t) (s r q t) ho (hs.2 p r q t hpr h g ht)]
      unfold crs
      rw [sg_swap' (π p) (π r) (π q), sg_rot (π p) (π r) (π t), sg_swap' (π r) (π q) (π t), hx p r q hpr h hq, hx p q t hpq g ht, hx p r t hpr hrt ht, hx r q t h g ht]
    · subst g
      have e : crq s p q r q = false := by
        unfold crq
        rw [if_neg (by omega), if_neg (by omega), if_neg (by omega), if_neg (by omega)]
      rw [e]
      refine ⟨fun z => ?_, fun z => absurd z Bool.false_ne_true⟩
      have z := z.1
      rw [sg_ab (π p) (π q)] at z
      exact absurd z (om_eq_r _)
    · have e : crq s p q r t = (s p r q != s p t q) := by
        unfold crq
        rw [if_neg (by omega), if_neg (by omega), if_pos ⟨hpr, hrt, g⟩]
      rw [e, ← k_nest o (s p r t) (s p r q) (s p t q) (s r t q) ho (hs.2 p r t q hpr hrt g hq)]
      unfold crs
      rw [sg_swap' (π p) (π r) (π q), sg_swap' (π p) (π t) (π q), sg_rot (π p) (π r) (π t), hx p r q hpr h hq, hx p t q (by omega) g hq, hx p r t hpr hrt ht, hx r t q hrt g hq]
theorem crs_crq (ho : o ≠ .eq) (hs : SG s) (hx : ∀ a b c, a < b → b < c → c < 8 → sg U V (π a) (π b) (π c) = vo o (s a b c)) {p q r t : Nat} (hpq : p < q) (hq : q < 8) (hrt : r < t) (ht : t < 8) : crs U V (π p) (π q) (π r) (π t) ↔ crq s p q r t = true := by
  rcases Nat.lt_trichotomy p r with h | h | h
  · exact crs_lt ho hs hx hpq hq hrt ht h
  · subst h
    have e : crq s p q p t = false := by
      unfold crq
      rw [if_neg (by omega), if_neg (by omega), if_neg (by omega), if_neg (by omega)]
    rw [e]
    refine ⟨fun z => ?_, fun z => absurd z Bool.false_ne_true⟩
    have z := z.1
    rw [sg_aa (π p) (π q)] at z
    exact absurd z (om_eq_l _)
  · rw [← crq_comm, ← crs_comm]
    exact crs_lt ho hs hx hrt ht hpq hq h
end CRL
section BD
variable {n : Nat} {X Y : Nat → Int}
theorem rs_ix {s : Nat → Nat → Nat → Bool} {p q r t : Nat} (hpq : p < q) (hq : q < 8) (hrt : r < t) (ht : t < 8) : rs s (ix p q) (ix r t) = crq s p q r t := by
  obtain ⟨a1, a2, a3⟩ := ix_dec q hq p hpq
  obtain ⟨b1, b2, b3⟩ := ix_dec t ht r hrt
  unfold rs
  rw [decide_eq_true a1, decide_eq_true b1, Bool.true_and, Bool.true_and, a2, a3, b2, b3]
theorem bound_lab (hP : Pts n X Y) {o : Ordering} {π : Nat → Nat} {s : Nat → Nat → Nat → Bool} (ho : o ≠ .eq) (hπ : ∀ p, p < 8 → ∃ k, k < 8 ∧ π k = p) (hs : SG s) (hx : ∀ a b c, a < b → b < c → c < 8 → sg (uu n X Y) (vv n X Y) (π a) (π b) (π c) = vo o (s a b c)) (hw : wf wt1 s ≤ wf wt2 s) : (cutl (crf n X Y) (fN n X Y)).length ≤ 256 := by
  have hn := hP.1
  have hex : ∃ lam : Nat → Nat, ∀ p, p < 8 → lam p < 8 ∧ π (lam p) = p := ⟨fun p => if h : p < 8 then (hπ p h).choose else 0, fun p h => by
    dsimp only
    rw [dif_pos h]
    exact (hπ p h).choose_spec⟩
  obtain ⟨lam, hl⟩ := hex
  have hpr : ∀ f, f < fN n X Y → flo n X Y f < n ∧ fhi n X Y f < n ∧ (∀ p, p < n → ¬ btw X Y (flo n X Y f) (fhi n X Y f) p) ∧ lam (flo n X Y f) ≠ lam (fhi n X Y f) ∧ lam (flo n X Y f) < 8 ∧ lam (fhi n X Y f) < 8 := fun f hf => by
    obtain ⟨h1, h2, h3, _⟩ := f_pair hf
    obtain ⟨a1, a2⟩ := hl (flo n X Y f) (by omega)
    obtain ⟨b1, b2⟩ := hl (fhi n X Y f) (by omega)
    refine ⟨by omega, h2, (opn_iff.mp h3).2.2, fun e => ?_, a1, b1⟩
    rw [e, b2] at a2
    omega
  have hmm : ∀ f, f < fN n X Y → min (lam (flo n X Y f)) (lam (fhi n X Y f)) < max (lam (flo n X Y f)) (lam (fhi n X Y f)) ∧ max (lam (flo n X Y f)) (lam (fhi n X Y f)) < 8 := fun f hf => by
    obtain ⟨_, _, _, h4, h5, h6⟩ := hpr f hf
    omega
  have hmin : ∀ f, f < fN n X Y → ∀ c d, crs (uu n X Y) (vv n X Y) (flo n X Y f) (fhi n X Y f) c d ↔ crs (uu n X Y) (vv n X Y) (π (min (lam (flo n X Y f)) (lam (fhi n X Y f)))) (π (max (lam (flo n X Y f)) (lam (fhi n X Y f)))) c d := fun f hf c d => by
    obtain ⟨h1, h2, _⟩ := hpr f hf
    have e1 := (hl (flo n X Y f) (by omega)).2
    have e2 := (hl (fhi n X Y f) (by omega)).2
    rcases Nat.le_total (lam (flo n X Y f)) (lam (fhi n X Y f)) with h | h
    · rw [Nat.min_eq_left h, Nat.max_eq_right h, e1, e2]
    · rw [Nat.min_eq_right h, Nat.max_eq_left h, e1, e2]
      exact crs_sw1.symm
  obtain ⟨L2, m1, m2, m3⟩ := g_inject (r1 := crf n X Y) (r2 := rs s) (N1 := fN n X Y) (N2 := 28) (fun f => ix (min (lam (flo n X Y f)) (lam (fhi n X Y f))) (max (lam (flo n X Y f)) (lam (fhi n X Y f)))) rs_comm rs_self (fun f hf => (ix_dec _ (hmm f hf).2 _ (hmm f hf).1).1) (fun f g hf hg => by
    rw [rs_ix (hmm f hf).1 (hmm f hf).2 (hmm g hg).1 (hmm g hg).2]
    have h : crf n X Y f g = true ↔ crq s (min (lam (flo n X Y f)) (lam (fhi n X Y f))) (max (lam (flo n X Y f)) (lam (fhi n X Y f))) (min (lam (flo n X Y g)) (lam (fhi n X Y g))) (max (lam (flo n X Y g)) (lam (fhi n X Y g))) = true := by
      unfold crf
      rw [pb_iff, crs_uv hP (hpr f hf).1 (hpr f hf).2.1 (hpr g hg).1 (hpr g hg).2.1 (hpr f hf).2.2.1 (hpr g hg).2.2.1, hmin f hf, ← crs_comm, hmin g hg, crs_comm]
      exact crs_crq ho hs hx (hmm f hf).1 (hmm f hf).2 (hmm g hg).1 (hmm g hg).2
    exact Bool.eq_iff_iff.mpr h) (L := cutl (crf n X Y) (fN n X Y)) (cutl_sorted.imp fun h => Nat.ne_of_lt h) (fun T hT => by
    unfold cutl at hT
    rw [List.mem_filter] at hT
    exact pb_iff.mp hT.2)
  rw [← m3]
  exact sig_half hs hw m1 m2
theorem cutl_256 (hP : Pts n X Y) : (cutl (crf n X Y) (fN n X Y)).length ≤ 256 := by
  obtain ⟨π, p1, p2, p3, p4⟩ := label_ex (U := uu n X Y) (V := vv n X Y) (fun i j hi hj h => uu_ne hP hi hj h) (fun a b c ha hb hc h1 h2 h3 => (sg_uv hP ha hb hc h1 h2 h3).1)
  have hne : ∀ a b c, a < 8 → b < 8 → c < 8 → a ≠ b → a ≠ c → b ≠ c → sg (uu n X Y) (vv n X Y) (π a) (π b) (π c) ≠ .eq := fun a b c ha hb hc h1 h2 h3 =>
    (sg_uv hP (p1 a ha) (p1 b hb) (p1 c hc) (fun e => h1 (p2 a b ha hb e)) (fun e => h2 (p2 a c ha hc e)) (fun e => h3 (p2 b c hb hc e))).1
  have hs := sg_of (U := uu n X Y) (V := vv n X Y) (π := π) p4 (fun a b c h1 h2 h3 => hne a b c (by omega) (by omega) (by omega) (by omega) (by omega) (by omega))
  generalize hse : (fun a b c => ob (sg (uu n X Y) (vv n X Y) (π a) (π b) (π c)) .gt) = s at hs
  have hx : ∀ a b c, a < b → b < c → c < 8 → sg (uu n X Y) (vv n X Y) (π a) (π b) (π c) = vo .gt (s a b c) := fun a b c h1 h2 h3 => by
    have h := hne a b c (by omega) (by omega) (by omega) (by omega) (by omega) (by omega)
    rw [← hse]
    show sg (uu n X Y) (vv n X Y) (π a) (π b) (π c) = vo .gt (ob (sg (uu n X Y) (vv n X Y) (π a) (π b) (π c)) .gt)
    cases z : sg (uu n X Y) (vv n X Y) (π a) (π b) (π c) with
    | lt => rfl
    | gt => rfl
    | eq => exact absurd z h
  rcases Nat.le_total (wf wt1 s) (wf wt2 s) with hw | hw
  · exact bound_lab hP (by decide) p3 hs hx hw
  · refine bound_lab hP (o := .lt) (π := fun k => if k = 0 then π 0 else π (8 - k)) (s := mir s) (by decide) (fun p hp => ?_) (sg_mir hs) (fun a b c h1 h2 h3 => ?_) (by rw [mir_w1, mir_w2]; exact hw)
    · obtain ⟨k, k1, k2⟩ := p3 p hp
      by_cases hk : k = 0
      · exact ⟨0, by omega, by subst hk; exact k2⟩
      · refine ⟨8 - k, by omega, ?_⟩
        show (if 8 - k = 0 then π 0 else π (8 - (8 - k))) = p
        rw [if_neg (by omega), show 8 - (8 - k) = k by omega]
        exact k2
    · show sg (uu n X Y) (vv n X Y) (if a = 0 then π 0 else π (8 - a)) (if b = 0 then π 0 else π (8 - b)) (if c = 0 then π 0 else π (8 - c)) = vo .lt (mir s a b c)
      rw [if_neg (show ¬ b = 0 by omega), if_neg (show ¬ c = 0 by omega)]
      unfold mir
      by_cases ha : a = 0
      · rw [if_pos ha, if_pos ha, sg_swap' (π 0) (π (8 - c)) (π (8 - b)), hx 0 (8 - c) (8 - b) (by omega) (by omega) (by omega)]
        cases s 0 (8 - c) (8 - b) <;> rfl
      · rw [if_neg ha, if_neg ha, ← sg_rot (π (8 - a)) (π (8 - b)) (π (8 - c)), ← sg_rot (π (8 - b)) (π (8 - c)) (π (8 - a)), sg_swap' (π (8 - c)) (π (8 - b)) (π (8 - a)), hx (8 - c) (8 - b) (8 - a) (by omega) (by omega) (by omega)]
        cases s (8 - c) (8 - b) (8 - a) <;> rfl
end BD
