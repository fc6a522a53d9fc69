/-! ===== KIND, WEIGHTAS ===== -/
section KD
variable (n : Nat) (X Y : Nat → Int)
noncomputable def hs1 (a b : Nat) : Nat := match fbt n X Y a b with
  | some f => if hem n X Y f then 1 else 0
  | none => 0
def brX (T f : Nat) : Prop := ∃ c, c < n ∧ thr n X Y T (flo n X Y f) (fhi n X Y f) c = true ∧ 2 ≤ hs1 n X Y (flo n X Y f) (fhi n X Y f) + hs1 n X Y (flo n X Y f) c + hs1 n X Y (fhi n X Y f) c
def cnd (f : Nat) (c : Nat × Nat × Nat) : Prop := (fbt n X Y c.1 c.2.1 = some f ∨ fbt n X Y c.1 c.2.2 = some f ∨ fbt n X Y c.2.1 c.2.2 = some f) ∧ 2 ≤ hs1 n X Y c.1 c.2.1 + hs1 n X Y c.1 c.2.2 + hs1 n X Y c.2.1 c.2.2
def brR (T f : Nat) : Prop := ∃ j, j < (tll n X Y T).length ∧ ∃ c, (tll n X Y T)[j]? = some c ∧ cnd n X Y f c
end KD
section KD2
variable {n : Nat} {X Y : Nat → Int} {T : Nat}
theorem hs1_comm (a b : Nat) : hs1 n X Y b a = hs1 n X Y a b := by unfold hs1; rw [fbt_comm]
theorem tl3_mem {a b : Nat} {t : Nat × Nat × Nat} : ∀ {c : Nat}, t ∈ tl3 n X Y T a b c ↔ t.1 = a ∧ t.2.1 = b ∧ b < t.2.2 ∧ t.2.2 < c ∧ thr n X Y T a b t.2.2 = true
  | 0 => ⟨fun h => (by cases h), fun h => absurd h.2.2.2.1 (Nat.not_lt_zero _)⟩
  | c + 1 => by
    show t ∈ tl3 n X Y T a b c ++ (if b < c ∧ thr n X Y T a b c = true then [(a, b, c)] else []) ↔ _
    rw [List.mem_append, tl3_mem (c := c)]
    constructor
    · rintro (⟨h1, h2, h3, h4, h5⟩ | h)
      · exact ⟨h1, h2, h3, by omega, h5⟩
      · by_cases g : b < c ∧ thr n X Y T a b c = true
        · rw [if_pos g] at h
          rw [List.mem_singleton] at h
          rw [h]
          exact ⟨rfl, rfl, g.1, Nat.lt_succ_self c, g.2⟩
        · rw [if_neg g] at h; cases h
    · rintro ⟨h1, h2, h3, h4, h5⟩
      rcases Nat.lt_or_ge t.2.2 c with g | g
      · exact Or.inl ⟨h1, h2, h3, g, h5⟩
      · right
        have e : t.2.2 = c := by omega
        rw [e] at h3 h5
        rw [if_pos ⟨h3, h5⟩, List.mem_singleton]
        obtain ⟨t1, t2, t3⟩ := t
        simp only at h1 h2 e
        rw [h1, h2, e]
theorem tl2_mem {a : Nat} {t : Nat × Nat × Nat} : ∀ {b : Nat}, t ∈ tl2 n X Y T a b ↔ t.1 = a ∧ a < t.2.1 ∧ t.2.1 < b ∧ t.2.1 < t.2.2 ∧ t.2.2 < n ∧ thr n X Y T a t.2.1 t.2.2 = true
  | 0 => ⟨fun h => (by cases h), fun h => absurd h.2.2.1 (Nat.not_lt_zero _)⟩
  | b + 1 => by
    show t ∈ tl2 n X Y T a b ++ (if a < b then tl3 n X Y T a b n else []) ↔ _
    rw [List.mem_append, tl2_mem (b := b)]
    constructor
    · rintro (⟨h1, h2, h3, h4, h5, h6⟩ | h)
      · exact ⟨h1, h2, by omega, h4, h5, h6⟩
      · by_cases g : a < b
        · rw [if_pos g] at h
          obtain ⟨g1, g2, g3, g4, g5⟩ := tl3_mem.mp h
          exact ⟨g1, by omega, by omega, by omega, g4, by rw [g2]; exact g5⟩
        · rw [if_neg g] at h; cases h
    · rintro ⟨h1, h2, h3, h4, h5, h6⟩
      rcases Nat.lt_or_ge t.2.1 b with g | g
      · exact Or.inl ⟨h1, h2, g, h4, h5, h6⟩
      · right
        have e : t.2.1 = b := by omega
        rw [if_pos (by omega)]
        exact tl3_mem.mpr ⟨h1, e, by omega, h5, by rw [← e]; exact h6⟩
theorem tl1_mem {t : Nat × Nat × Nat} : ∀ {a : Nat}, t ∈ tl1 n X Y T a ↔ t.1 < a ∧ t.1 < t.2.1 ∧ t.2.1 < n ∧ t.2.1 < t.2.2 ∧ t.2.2 < n ∧ thr n X Y T t.1 t.2.1 t.2.2 = true
  | 0 => ⟨fun h => (by cases h), fun h => absurd h.1 (Nat.not_lt_zero _)⟩
  | a + 1 => by
    show t ∈ tl1 n X Y T a ++ tl2 n X Y T a n ↔ _
    rw [List.mem_append, tl1_mem (a := a), tl2_mem]
    constructor
    · rintro (⟨h1, h⟩ | ⟨h1, h2, h3, h4, h5, h6⟩)
      · exact ⟨by omega, h⟩
      · exact ⟨by omega, by omega, h3, h4, h5, by rw [h1]; exact h6⟩
    · rintro ⟨h1, h2, h3, h4, h5, h6⟩
      rcases Nat.lt_or_ge t.1 a with g | g
      · exact Or.inl ⟨g, h2, h3, h4, h5, h6⟩
      · have e : t.1 = a := by omega
        exact Or.inr ⟨e, by omega, h3, h4, h5, by rw [← e]; exact h6⟩
theorem tll_ex {a b c : Nat} (hab : a < b) (hbc : b < c) (ht : thr n X Y T a b c = true) {f : Nat} (hc : cnd n X Y f (a, b, c)) : brR n X Y T f := by
  obtain ⟨la, lb, lc, -⟩ := thr_lt ht
  have hm : (a, b, c) ∈ tll n X Y T := tl1_mem.mpr ⟨la, hab, lb, hbc, lc, ht⟩
  obtain ⟨j, hj, e⟩ := List.getElem_of_mem hm
  exact ⟨j, hj, (a, b, c), by rw [List.getElem?_eq_getElem hj, e], hc⟩
theorem br_iff {f : Nat} (hf : f < fN n X Y) : brX n X Y T f ↔ brR n X Y T f := by
  obtain ⟨h1, h2, -, -⟩ := f_pair hf
  have hb := fbt_lh hf
  constructor
  · rintro ⟨c, hc, ht, hs⟩
    obtain ⟨-, -, -, n1, n2, n3⟩ := thr_lt ht
    generalize flo n X Y f = a at *
    generalize fhi n X Y f = b at *
    rcases Nat.lt_trichotomy c a with g | g | g
    · refine tll_ex (a := c) (b := a) (c := b) g h1 (by rw [← thr_rot]; exact ht) ⟨Or.inr (Or.inr hb), ?_⟩
      show 2 ≤ hs1 n X Y c a + hs1 n X Y c b + hs1 n X Y a b
      rw [hs1_comm a c, hs1_comm b c]; omega
    · exact absurd g.symm n2
    · rcases Nat.lt_trichotomy c b with k | k | k
      · refine tll_ex (a := a) (b := c) (c := b) g k (by rw [thr_swap, ← thr_rot]; exact ht) ⟨Or.inr (Or.inl hb), ?_⟩
        show 2 ≤ hs1 n X Y a c + hs1 n X Y a b + hs1 n X Y c b
        rw [hs1_comm b c]; omega
      · exact absurd k.symm n3
      · exact tll_ex (a := a) (b := b) (c := c) h1 k ht ⟨Or.inl hb, hs⟩
  · rintro ⟨j, hj, ⟨p, q, r⟩, hg, ho, hs⟩
    obtain ⟨-, m1, m2, m3, m4, m5⟩ := tl1_mem.mp (List.mem_of_getElem? hg)
    simp only at m1 m2 m3 m4 m5 ho hs
    have key : ∀ {a b : Nat}, a < b → fbt n X Y a b = some f → flo n X Y f = a ∧ fhi n X Y f = b := fun hab h => by
      rcases (fbt_some h).2.2.2.2.2 with z | z
      · exact z
      · omega
    rcases ho with h | h | h
    · obtain ⟨e1, e2⟩ := key m1 h
      refine ⟨r, m4, ?_, ?_⟩
      · rw [e1, e2]; exact m5
      · rw [e1, e2]; exact hs
    · obtain ⟨e1, e2⟩ := key (by omega) h
      refine ⟨q, m2, ?_, ?_⟩
      · rw [e1, e2, thr_swap, ← thr_rot, thr_rot, ← thr_rot]
        rw [← m5, thr_swap, ← thr_rot]
      · rw [e1, e2, hs1_comm q r]; omega
    · obtain ⟨e1, e2⟩ := key m3 h
      refine ⟨p, by omega, ?_, ?_⟩
      · rw [e1, e2, thr_rot]; exact m5
      · rw [e1, e2, hs1_comm p q, hs1_comm p r]; omega
theorem hs1_some {a b f : Nat} (h : fbt n X Y a b = some f) : hs1 n X Y a b = if hem n X Y f then 1 else 0 := by unfold hs1; rw [h]
/-- the hems among the sides of a third -/
theorem sid_ct (hn : n ≤ 8) {f c : Nat} (hf : f < fN n X Y) (ht : thr n X Y T (flo n X Y f) (fhi n X Y f) c = true) : ct (sid n X Y f c &&& hmk n X Y).testBit 28 = hs1 n X Y (flo n X Y f) (fhi n X Y f) + hs1 n X Y (flo n X Y f) c + hs1 n X Y (fhi n X Y f) c := by
  obtain ⟨g1, g2, g3, g4, g5⟩ := thr_iff.mp ht
  obtain ⟨-, -, -, n1, n2, n3⟩ := thr_lt ht
  obtain ⟨g, hg, -⟩ := hsf_iff.mp g3
  obtain ⟨k, hk, -⟩ := hsf_iff.mp g4
  have hb := fbt_lh hf
  have hlt := (f_pair hf).1
  have lf : f < 28 := fbt_lt28 hn hb
  have lg : g < 28 := fbt_lt28 hn hg
  have lk : k < 28 := fbt_lt28 hn hk
  have ef : f ≠ g ∧ f ≠ k ∧ g ≠ k := by
    have a := (fbt_some hg).2.2.2.2.2
    have b := (fbt_some hk).2.2.2.2.2
    refine ⟨fun e => ?_, fun e => ?_, fun e => ?_⟩
    · rw [← e] at a; omega
    · rw [← e] at b; omega
    · rw [e] at a; omega
  have es : sid n X Y f c = (1 <<< f ||| 1 <<< g) ||| 1 <<< k := by
    unfold sid
    rw [hg, hk]
    show (if _ then _ else _ : Nat) = _
    rw [if_pos ⟨g1, g5⟩]
  have hh : ∀ i, i < fN n X Y → (if (hmk n X Y).testBit i then 1 else 0) = (if hem n X Y i then 1 else 0) := fun i hi => by
    rw [hmk_tb, decide_eq_true hi, Bool.true_and]
  rw [es, ct_or1 (by rw [tb_set, tb_one, decide_eq_false ef.2.1, decide_eq_false ef.2.2]; rfl), ct_or1 (by rw [tb_one, decide_eq_false ef.1]), if_pos lk, if_pos lg, hs1_some hb, hs1_some hg, hs1_some hk, hh g (fbt_some hg).1, hh k (fbt_some hk).1]
  congr 2
  have e0 : (1 <<< f : Nat) = 0 ||| 1 <<< f := (Nat.zero_or _).symm
  rw [e0, ct_or1 (by simp), if_pos lf, hh f hf, ct_none (fun k _ => by simp), Nat.zero_add]
end KD2
section KW
variable {n : Nat} {X Y : Nat → Int} {M : Mem} {T : Nat}
theorem xw_isBare (hP : Pts n X Y) (hF : XF n X Y M) {f : Nat} (hf : f < fN n X Y) {Q : Int32 → Mem → Prop} (q : Q (bI (pb (brX n X Y T f))) M) : wp_X2_isBare (nI f) (nI T) M Q := by
  have hn := hP.1
  have h28 := hP.f28
  obtain ⟨hG, hL, hB, -, hH, hS⟩ := hF
  have key : ∀ d k, k + d = n → (∀ c, c < k → ¬ (thr n X Y T (flo n X Y f) (fhi n X Y f) c = true ∧ 2 ≤ hs1 n X Y (flo n X Y f) (fhi n X Y f) + hs1 n X Y (flo n X Y f) c + hs1 n X Y (fhi n X Y f) c)) → at_X2_isBare (nI f) (nI T) Q 1 (nI k) M := by
    intro d
    induction d with
    | zero =>
      intro k hk h
      refine at_X2_isBare_fold (br_t ?_ ?_)
      · rw [hG.1]; exact (nI_leI (by omega) (by omega)).mpr (by omega)
      · rw [pb_f.mpr (fun ⟨c, c1, c2, c3⟩ => h c (by omega) ⟨c2, c3⟩)] at q
        exact q
    | succ d ih =>
      intro k hk h
      have nx : ¬ (thr n X Y T (flo n X Y f) (fhi n X Y f) k = true ∧ 2 ≤ hs1 n X Y (flo n X Y f) (fhi n X Y f) + hs1 n X Y (flo n X Y f) k + hs1 n X Y (fhi n X Y f) k) → at_X2_isBare (nI f) (nI T) Q 2 (nI k) M := fun hno => by
        refine at_X2_isBare_fold ?_
        show at_X2_isBare _ _ Q 1 (nI k + 1) M
        rw [nI_1]
        exact ih (k + 1) (by omega) (lt_s h hno)
      refine at_X2_isBare_fold (br_f ?_ (xw_isThird hP hS hf (by omega) ?_))
      · rw [hG.1, nI_leI (by omega) (by omega)]; omega
      · cases ht : thr n X Y T (flo n X Y f) (fhi n X Y f) k with
        | false => exact br_t rfl (nx (fun z => by rw [ht] at z; exact absurd z.1 Bool.false_ne_true))
        | true =>
          refine br_f (by decide) ?_
          rw [ix8]
          refine ⟨vp_in_nI (by omega) (by omega), ?_⟩
          rw [nI_clamp (by omega), hS f k hf (by omega), hH, nI_and]
          refine x_pop (and_lt (sid_lt hn hf)) ?_
          rw [sid_ct hn hf ht, show (2 : Int32) = nI 2 from rfl]
          have b1 : hs1 n X Y (flo n X Y f) (fhi n X Y f) ≤ 1 ∧ hs1 n X Y (flo n X Y f) k ≤ 1 ∧ hs1 n X Y (fhi n X Y f) k ≤ 1 := by
            have : ∀ a b, hs1 n X Y a b ≤ 1 := fun a b => by
              unfold hs1
              cases fbt n X Y a b with
              | none => exact Nat.zero_le _
              | some g => cases hg : hem n X Y g <;> simp [hg]
            exact ⟨this _ _, this _ _, this _ _⟩
          rw [nI_ltI (by omega) (by omega)]
          by_cases z : hs1 n X Y (flo n X Y f) (fhi n X Y f) + hs1 n X Y (flo n X Y f) k + hs1 n X Y (fhi n X Y f) k < 2
          · exact br_t z (nx fun w => by omega)
          · rw [pb_iff.mpr ⟨k, by omega, ht, by omega⟩] at q
            exact br_f z q
  exact at_X2_isBare_fold (key n 0 (by omega) lt_0)
theorem rw_isBare (hP : Pts n X Y) (hF : RF n X Y M) (hc : M.1 0 24 = nI T) (hT : T < 2 ^ 28) {f : Nat} (hf : f < fN n X Y) {Q : Int32 → Mem → Prop} (q : ∀ M', Fq [16, 17, 18] [27] M M' → Q (bI (hem n X Y f && (T.testBit f && pb (brR n X Y T f)))) M') : wp_X8_isBare (nI f) M Q := by
  have hn := hP.1
  have h28 := hP.f28
  have h56 := tll_len (n := n) (X := X) (Y := Y) (T := T) hn
  refine at_X8_isBare_fold ?_
  dsimp only [blk_X8_isBare, blk_X8_isBare_0]
  refine rw_isHem hP hF.1 hF.2.1 hf ?_
  cases hh : hem n X Y f with
  | false =>
    have := q M (Fq_refl _ _ _)
    rw [hh] at this
    exact br_t rfl this
  | true =>
    refine br_f (by decide) ?_
    rw [hc, tbI (by omega) (by omega), bI_0]
    cases hb : T.testBit f with
    | false =>
      have := q M (Fq_refl _ _ _)
      rw [hh, hb] at this
      exact bs_f rfl this
    | true =>
      refine bs_t Bool.false_ne_true.symm (rw_findThirds hP hF hT fun M' f1 g1 => ?_)
      have q' := q M' f1
      rw [hh, hb, Bool.true_and, Bool.true_and] at q'
      have hF' : RF n X Y M' := RF_fr hF (f1.2.2 9 (by decide)) (f1.2.2 12 (by decide)) (f1.2.1 6 (by decide) (by decide)) (f1.2.1 7 (by decide) (by decide)) (f1.2.1 8 (by decide) (by decide)) (f1.2.1 9 (by decide) (by decide)) (f1.2.1 10 (by decide) (by decide)) (f1.2.1 11 (by decide) (by decide))
      obtain ⟨t0, t1⟩ := g1
      have key : ∀ d k, k + d = (tll n X Y T).length → at_X8_isBare (nI f) Q 1 (bI (pb (∃ j, j < k ∧ ∃ c, (tll n X Y T)[j]? = some c ∧ cnd n X Y f c))) (nI k) 0 0 0 0 M' := by
        intro d
        induction d with
        | zero =>
          intro k hk
          rw [show k = (tll n X Y T).length by omega]
          refine at_X8_isBare_fold (br_t ?_ ⟨?_, q'⟩)
          · rw [t0]; exact (nI_leI (by omega) (by omega)).mpr (Nat.le_refl _)
          · cases pb (∃ j, j < (tll n X Y T).length ∧ ∃ c, (tll n X Y T)[j]? = some c ∧ cnd n X Y f c)
            · exact Or.inl rfl
            · exact Or.inr rfl
        | succ d ih =>
          intro k hk
          have nx := ih (k + 1) (by omega)
          rw [pb_ex_succ, ← nI_1] at nx
          have hkl : k < (tll n X Y T).length := by omega
          have hget : (tll n X Y T)[k]? = some (tll n X Y T)[k] := List.getElem?_eq_getElem hkl
          generalize (tll n X Y T)[k] = c at hget
          obtain ⟨p, r, s⟩ := c
          have hPk : (∃ c, (tll n X Y T)[k]? = some c ∧ cnd n X Y f c) ↔ cnd n X Y f (p, r, s) := ⟨fun ⟨c, c1, c2⟩ => by rw [hget] at c1; injection c1 with c1; rw [c1]; exact c2, fun z => ⟨_, hget, z⟩⟩
          rw [pb_cong hPk] at nx
          obtain ⟨-, m1, m2, m3, m4, m5⟩ := tl1_mem.mp (List.mem_of_getElem? hget)
          simp only at m1 m2 m3 m4 m5
          obtain ⟨u1, u2, u3, u4, u5⟩ := thr_iff.mp m5
          obtain ⟨fa, ha, -⟩ := hsf_iff.mp u2
          obtain ⟨fb, hbb, -⟩ := hsf_iff.mp u3
          obtain ⟨fc, hcc, -⟩ := hsf_iff.mp u4
          have la := (fbt_some ha).1
          have lb := (fbt_some hbb).1
          have lc := (fbt_some hcc).1
          obtain ⟨e16, e17, e18⟩ := t1 k _ hget
          simp only at e16 e17 e18
          have vk : vp_in (nI k) 60 := vp_in_nI (by omega) (by omega)
          have hcnd : cnd n X Y f (p, r, s) ↔ (fa = f ∨ fb = f ∨ fc = f) ∧ 2 ≤ (if hem n X Y fa then 1 else 0) + (if hem n X Y fb then 1 else 0) + (if hem n X Y fc then 1 else 0) := by
            unfold cnd
            simp only
            rw [ha, hbb, hcc, hs1_some ha, hs1_some hbb, hs1_some hcc]
            simp only [Option.some.injEq]
          generalize pb (∃ j, j < k ∧ ∃ c, (tll n X Y T)[j]? = some c ∧ cnd n X Y f c) = b0 at nx ⊢
          rw [pb_cong hcnd] at nx
          -- the last part of a turn
          have l2 : ∀ sm : Nat, sm ≤ 3 → at_X8_isBare (nI f) Q 1 (bI (b0 || pb ((fa = f ∨ fb = f ∨ fc = f) ∧ 2 ≤ sm))) (nI k + 1) 0 0 0 0 M' → at_X8_isBare (nI f) Q 2 (bI b0) (nI k) (nI fa) (nI fb) (nI fc) (nI sm) M' := by
            intro sm hsm hk1
            refine at_X8_isBare_fold ?_
            cases b0 with
            | true => exact bs_t (by decide) (at_X8_isBare_fold (at_X8_isBare_fold hk1))
            | false =>
              rw [Bool.false_or] at hk1
              have l4 : (fa = f ∨ fb = f ∨ fc = f) → at_X8_isBare (nI f) Q 4 0 (nI k) 0 0 0 (nI sm) M' := fun hor => by
                refine at_X8_isBare_fold ?_
                show (nI sm ≤ nI 1 → _) ∧ (¬ nI sm ≤ nI 1 → _)
                rw [nI_leI (by omega) (by omega)]
                by_cases z : sm ≤ 1
                · rw [pb_f.mpr (fun w => by omega)] at hk1
                  exact br_t z (at_X8_isBare_fold (at_X8_isBare_fold hk1))
                · rw [pb_iff.mpr ⟨hor, by omega⟩] at hk1
                  exact br_f z (at_X8_isBare_fold (at_X8_isBare_fold hk1))
              refine bs_f rfl ?_
              show _ ∧ _
              rw [nI_eq (by omega) (by omega), nI_eq (by omega) (by omega), nI_eq (by omega) (by omega)]
              by_cases za : fa = f
              · exact br_t za (l4 (Or.inl za))
              · refine br_f za ?_
                by_cases zb : fb = f
                · exact br_t zb (l4 (Or.inr (Or.inl zb)))
                · refine br_f zb ?_
                  by_cases zc : fc = f
                  · exact bs_f zc (l4 (Or.inr (Or.inr zc)))
                  · rw [pb_f.mpr (fun w => w.1.elim za (fun w => w.elim zb zc))] at hk1
                    exact bs_t zc (at_X8_isBare_fold (at_X8_isBare_fold hk1))
          refine at_X8_isBare_fold (br_f ?_ ?_)
          · rw [t0, nI_leI (by omega) (by omega)]; omega
          · rw [nI_clamp (by omega), e16, e17, e18, ix8', ix8', ix8', nI_clamp (by omega), nI_clamp (by omega), nI_clamp (by omega), hF'.2.2.1 p r (by omega) m2, hF'.2.2.1 p s (by omega) m4, hF'.2.2.1 r s m2 m4, ha, hbb, hcc]
            refine ⟨vk, vk, vp_in_nI (by omega) (by omega), nm_e ⟨vk, vk, vp_in_nI (by omega) (by omega), nm_e ⟨vk, vk, vp_in_nI (by omega) (by omega), nm_e ?_⟩⟩⟩
            refine rw_isHem hP hF'.1 hF'.2.1 la ?_
            cases xa : hem n X Y fa with
            | false =>
              rw [xa] at nx
              refine br_t rfl (rw_isHem hP hF'.1 hF'.2.1 lb ?_)
              cases xb : hem n X Y fb with
              | false =>
                rw [xb] at nx
                refine br_t rfl (rw_isHem hP hF'.1 hF'.2.1 lc ?_)
                cases xc : hem n X Y fc with
                | false => rw [xc] at nx; exact br_t rfl (l2 0 (by omega) nx)
                | true => rw [xc] at nx; exact br_f (by decide) (l2 1 (by omega) nx)
              | true =>
                rw [xb] at nx
                refine br_f (by decide) (rw_isHem hP hF'.1 hF'.2.1 lc ?_)
                cases xc : hem n X Y fc with
                | false => rw [xc] at nx; exact br_t rfl (l2 1 (by omega) nx)
                | true => rw [xc] at nx; exact br_f (by decide) (l2 2 (by omega) nx)
            | true =>
              rw [xa] at nx
              refine br_f (by decide) (rw_isHem hP hF'.1 hF'.2.1 lb ?_)
              cases xb : hem n X Y fb with
              | false =>
                rw [xb] at nx
                refine br_t rfl (rw_isHem hP hF'.1 hF'.2.1 lc ?_)
                cases xc : hem n X Y fc with
                | false => rw [xc] at nx; exact br_t rfl (l2 1 (by omega) nx)
                | true => rw [xc] at nx; exact br_f (by decide) (l2 2 (by omega) nx)
              | true =>
                rw [xb] at nx
                refine br_f (by decide) (rw_isHem hP hF'.1 hF'.2.1 lc ?_)
                cases xc : hem n X Y fc with
                | false => rw [xc] at nx; exact br_t rfl (l2 2 (by omega) nx)
                | true => rw [xc] at nx; exact br_f (by decide) (l2 3 (by omega) nx)
      have k0 := key (tll n X Y T).length 0 (by omega)
      rw [pb_ex_0] at k0
      exact k0
/-- a fence's kind -/
noncomputable def kdv (n : Nat) (X Y : Nat → Int) (H B T f : Nat) : Nat := if H.testBit f then 4 else if B.testBit f then 3 else if hem n X Y f && pb (brX n X Y T f) then 2 else if hem n X Y f then 1 else 0
end KW
section ST
variable {n : Nat} {X Y : Nat → Int} {H B i nx : Nat} {L : List Nat} {MX MR : Mem}
theorem brX_in {T f : Nat} (h : brX n X Y T f) (hf : f < fN n X Y) : T.testBit f = true := by
  obtain ⟨c, -, ht, -⟩ := h
  obtain ⟨g, hg, tg⟩ := hsf_iff.mp (thr_iff.mp ht).2.1
  rw [fbt_lh hf] at hg
  injection hg with hg
  rw [hg]; exact tg
theorem xw_kindOf (hw : GrW n X Y H B i nx L MX MR) {f : Nat} (hf : f < fN n X Y) {Q : Int32 → Mem → Prop} (q : Q (nI (kdv n X Y H B (cg n X Y i) f)) MX) : wp_X7_kindOf (nI f) MX Q := by
  have h28 := hw.f28
  have hH := hw.h28
  have hBl := hw.b28
  have hm := hmk_lt (n := n) (X := X) (Y := Y) hw.P
  unfold kdv at q
  unfold wp_X7_kindOf
  rw [hw.xa.1]
  refine xw_isIn (by omega) (by omega) ?_
  cases b1 : H.testBit f with
  | true => rw [b1] at q; exact br_f (by decide) q
  | false =>
    refine br_t rfl ?_
    rw [b1] at q
    show wp_X7_isIn (nI f) (MX.1 25 4) MX _
    rw [hw.xa.2.1]
    refine xw_isIn (by omega) (by omega) ?_
    cases b2 : B.testBit f with
    | true => rw [b2] at q; exact br_f (by decide) q
    | false =>
      rw [b2] at q
      refine br_t rfl ?_
      show wp_X7_isIn (nI f) (MX.1 13 5) MX _
      rw [hw.xf.2.2.2.2.1]
      refine xw_isIn (by omega) (by omega) ?_
      rw [hmk_tb, decide_eq_true hf, Bool.true_and]
      cases b3 : hem n X Y f with
      | false => rw [b3] at q; exact bs_f rfl q
      | true =>
        rw [b3] at q
        refine bs_t (by decide) (xw_now hw (xw_isBare hw.P hw.xf hf ?_))
        cases b4 : pb (brX n X Y (cg n X Y i) f) with
        | false => rw [b4] at q; exact br_t rfl q
        | true => rw [b4] at q; exact br_f (by decide) q
theorem rw_kindOf (hw : GrW n X Y H B i nx L MX MR) {f : Nat} (hf : f < fN n X Y) {Q : Int32 → Mem → Prop} (q : ∀ M', Fq [16, 17, 18] [27] MR M' → Q (nI (kdv n X Y H B (cg n X Y i) f)) M') : wp_X8_kindOf (nI f) MR Q := by
  have h28 := hw.f28
  have hH := hw.h28
  have hBl := hw.b28
  unfold kdv at q
  unfold wp_X8_kindOf
  rw [hw.ra.1, hw.ra.2.1, tbI (by omega) (by omega), tbI (by omega) (by omega), bI_1, bI_1]
  cases b1 : H.testBit f with
  | true => rw [b1] at q; exact bs_f rfl (q MR (Fq_refl _ _ _))
  | false =>
    rw [b1] at q
    refine bs_t Bool.false_ne_true ?_
    cases b2 : B.testBit f with
    | true => rw [b2] at q; exact bs_f rfl (q MR (Fq_refl _ _ _))
    | false =>
      rw [b2] at q
      refine bs_t Bool.false_ne_true (rw_isBare hw.P hw.rf hw.cut hw.i28 hf fun M' f1 => ?_)
      have q' := q M' f1
      have hF' : RF n X Y M' := RF_fr hw.rf (f1.2.2 9 (by decide)) (f1.2.2 12 (by decide)) (f1.2.1 6 (by decide) (by decide)) (f1.2.1 7 (by decide) (by decide)) (f1.2.1 8 (by decide) (by decide)) (f1.2.1 9 (by decide) (by decide)) (f1.2.1 10 (by decide) (by decide)) (f1.2.1 11 (by decide) (by decide))
      have e : (hem n X Y f && ((cg n X Y i).testBit f && pb (brR n X Y (cg n X Y i) f))) = (hem n X Y f && pb (brX n X Y (cg n X Y i) f)) := by
        rw [pb_cong (br_iff hf).symm]
        congr 1
        cases z : pb (brX n X Y (cg n X Y i) f) with
        | false => exact Bool.and_false _
        | true => rw [brX_in (pb_iff.mp z) hf]; rfl
      rw [e]
      cases b3 : (hem n X Y f && pb (brX n X Y (cg n X Y i) f)) with
      | true => rw [b3] at q'; exact br_f (by decide) q'
      | false =>
        rw [b3] at q'
        refine br_t rfl (rw_isHem hw.P hF'.1 hF'.2.1 hf ?_)
        cases b4 : hem n X Y f with
        | false => rw [b4] at q'; exact br_t rfl q'
        | true => rw [b4] at q'; exact br_f (by decide) q'
theorem st_kind (h : Rel MX MR) (a0 : Int32) : wp_X7_kind a0 MX (fun r M1 => wp_X8_kind a0 MR (fun r2 M2 => r = r2 ∧ Rel M1 M2)) := by
  have h' := Rel_thr h
  rcases Rel_gr h with ⟨x0, r0⟩ | ⟨x0, r0, nx, n, X, Y, H, B, i, L, hnx, h31, hw, hw'⟩
  · exact xw_ref0 x0 (br_f (by decide) (bs_f r0 ⟨rfl, h'⟩))
  · have h28 := hw.f28
    refine xw_ref (F := fN n X Y) (by omega) x0 hw.xf.2.1.1 (fun hv => ?_) (fun hv => ?_)
    · obtain ⟨f, hf, rfl⟩ := inr_nI hv
      refine br_t rfl (xw_kindOf hw hf ?_)
      exact bs_t r0 (rw_noFence (F := fN n X Y) (by omega) hw'.rf.2.1.1 (fun _ => br_t rfl (rw_kindOf hw' hf fun M' f1 => ⟨rfl, Rel_scr h' (Fr_refl _ _) (Fq_mono (by decide) (by decide) f1)⟩)) (fun z => absurd hv z))
    · exact br_f (by decide) (bs_t r0 (rw_noFence (F := fN n X Y) (by omega) hw'.rf.2.1.1 (fun z => absurd z hv) (fun _ => br_f (by decide) ⟨rfl, h'⟩)))
theorem st_weightAs (h : Rel MX MR) (a0 a1 : Int32) : wp_X7_weightAs a0 a1 MX (fun r M1 => wp_X8_weightAs a0 a1 MR (fun r2 M2 => r = r2 ∧ Rel M1 M2)) := by
  have h' := Rel_thr h
  have z0 : (0 : Int64).toInt = 0 := by decide
  have z4 : (4 : Int64).toInt = 4 := by decide
  show _ ∧ _
  rw [in_lt, in_le, show (0 : Int32).toInt = 0 by decide, show (4 : Int32).toInt = 4 by decide]
  have bad : ¬ (0 ≤ a1.toInt ∧ a1.toInt ≤ 4) → wp_X8_weightAs a0 a1 MR (fun r2 M2 => -2 = r2 ∧ Rel MX M2) := fun hb => by
    refine at_X8_weightAs_fold ?_
    dsimp only [blk_X8_weightAs, blk_X8_weightAs_0]
    exact rw_inl z0 z4 (fun z => absurd z hb) (fun _ => bs_f rfl ⟨rfl, h'⟩)
  by_cases b1 : a1.toInt < 0
  · exact br_t b1 (bad (by omega))
  refine br_f b1 ?_
  by_cases b2 : a1.toInt ≤ 4
  · refine br_t b2 ?_
    have hb : 0 ≤ a1.toInt ∧ a1.toInt ≤ 4 := ⟨by omega, b2⟩
    rcases Rel_gr h with ⟨x0, r0⟩ | ⟨x0, r0, nx, n, X, Y, H, B, i, L, hnx, h31, hw, hw'⟩
    · refine xw_ref0 x0 (br_f (by decide) (at_X8_weightAs_fold ?_))
      dsimp only [blk_X8_weightAs, blk_X8_weightAs_0]
      exact rw_inl z0 z4 (fun _ => bs_t (by decide) (bs_f r0 ⟨rfl, h'⟩)) (fun z => absurd hb z)
    · have h28 := hw.f28
      refine xw_ref (F := fN n X Y) (by omega) x0 hw.xf.2.1.1 (fun hv => ?_) (fun hv => ?_)
      · obtain ⟨f, hf, rfl⟩ := inr_nI hv
        have vf : vp_in (nI f) 28 := vp_in_nI (by omega) (by omega)
        refine br_t rfl (xw_kindOf hw hf ?_)
        generalize hk : nI (kdv n X Y H B (cg n X Y i) f) = kd
        have rr : ∀ (r : Int32) (M1 : Mem), (∀ M', Fq [16, 17, 18] [27] (upI MR 0 0 0) M' → ((a1 = 0 → at_X8_weightAs (nI f) a1 (fun r2 M2 => r = r2 ∧ Rel M1 M2) 1 0 M') ∧ (¬ a1 = 0 → ((a1 = kd → at_X8_weightAs (nI f) a1 (fun r2 M2 => r = r2 ∧ Rel M1 M2) 1 0 M') ∧ (¬ a1 = kd → ((¬ a1 = 1 → at_X8_weightAs (nI f) a1 (fun r2 M2 => r = r2 ∧ Rel M1 M2) 2 0 M') ∧ (a1 = 1 → ((¬ kd = 2 → at_X8_weightAs (nI f) a1 (fun r2 M2 => r = r2 ∧ Rel M1 M2) 2 0 M') ∧ (kd = 2 → at_X8_weightAs (nI f) a1 (fun r2 M2 => r = r2 ∧ Rel M1 M2) 1 0 M'))))))))) → wp_X8_weightAs (nI f) a1 MR (fun r2 M2 => r = r2 ∧ Rel M1 M2) := fun r M1 hh => by
          refine at_X8_weightAs_fold ?_
          dsimp only [blk_X8_weightAs, blk_X8_weightAs_0]
          refine rw_inl z0 z4 (fun _ => bs_t (by decide) (bs_t r0 (rw_noFence (F := fN n X Y) (by omega) hw'.rf.2.1.1 (fun _ => br_t rfl (rw_kindOf hw' hf fun M' f1 => ?_)) (fun z => absurd hv z)))) (fun z => absurd hb z)
          rw [hk]
          exact hh M' f1
        have y1 : ∀ M', Fq [16, 17, 18] [27] (upI MR 0 0 0) M' → at_X8_weightAs (nI f) a1 (fun r2 M2 => MX.1 33 f = r2 ∧ Rel MX M2) 1 0 M' := fun M' f1 => by
          refine at_X8_weightAs_fold ⟨vf, ?_, Rel_scr h' (Fr_refl _ _) (Fq_mono (by decide) (by decide) f1)⟩
          rw [nI_clamp (by omega), f1.2.1 12 (by decide) (by decide)]
          exact hw.we f hf
        have y2 : ∀ M', Fq [16, 17, 18] [27] (upI MR 0 0 0) M' → at_X8_weightAs (nI f) a1 (fun r2 M2 => (-13) = r2 ∧ Rel (upI MX 0 10 (MX.1 0 10 + 1)) M2) 2 0 M' := fun M' f1 =>
          at_X8_weightAs_fold (fnd (Rel_scr h' (Fr_refl _ _) (Fq_mono (by decide) (by decide) f1)) (-13))
        have one : ∀ (R : Int32 → Mem → Prop), ((a1 = 0 ∨ a1 = kd ∨ (a1 = 1 ∧ kd = 2)) → R 1 MX) → (¬ (a1 = 0 ∨ a1 = kd ∨ (a1 = 1 ∧ kd = 2)) → R 0 MX) → wp_X7_isOneOf kd a1 MX R := fun R p1 p0 => by
          refine at_X7_isOneOf_fold ?_
          by_cases e0 : a1 = 0
          · exact br_t e0 (at_X7_isOneOf_fold (p1 (Or.inl e0)))
          · refine br_f e0 ?_
            by_cases e1 : a1 = kd
            · exact br_t e1.symm (at_X7_isOneOf_fold (p1 (Or.inr (Or.inl e1))))
            · refine br_f (fun z => e1 z.symm) ?_
              by_cases e2 : a1 = 1
              · refine bs_f e2 ?_
                by_cases e3 : kd = 2
                · exact bs_f e3 (at_X7_isOneOf_fold (p1 (Or.inr (Or.inr ⟨e2, e3⟩))))
                · refine bs_t e3 (p0 fun z => ?_)
                  rcases z with z | z | z
                  · exact e0 z
                  · exact e1 z
                  · exact e3 z.2
              · refine bs_t e2 (p0 fun z => ?_)
                rcases z with z | z | z
                · exact e0 z
                · exact e1 z
                · exact e2 z.1
        refine one _ (fun hy => br_f (by decide) ⟨vf, ?_⟩) (fun hy => br_t rfl ?_)
        · rw [nI_clamp (by omega)]
          refine rr _ _ fun M' f1 => ?_
          by_cases e0 : a1 = 0
          · exact br_t e0 (y1 M' f1)
          · refine br_f e0 ?_
            by_cases e1 : a1 = kd
            · exact br_t e1 (y1 M' f1)
            · refine br_f e1 ?_
              rcases hy with z | z | z
              · exact absurd z e0
              · exact absurd z e1
              · exact bs_f z.1 (bs_f z.2 (y1 M' f1))
        · have : wp_X8_weightAs (nI f) a1 MR (fun r2 M2 => (-13) = r2 ∧ Rel (upI MX 0 10 (MX.1 0 10 + 1)) M2) := by
            refine rr _ _ fun M' f1 => ?_
            refine br_f (fun z => hy (Or.inl z)) (br_f (fun z => hy (Or.inr (Or.inl z))) ?_)
            by_cases e2 : a1 = 1
            · exact bs_f e2 (bs_t (fun z => hy (Or.inr (Or.inr ⟨e2, z⟩))) (y2 M' f1))
            · exact bs_t e2 (y2 M' f1)
          exact this
      · refine br_f (by decide) (at_X8_weightAs_fold ?_)
        dsimp only [blk_X8_weightAs, blk_X8_weightAs_0]
        exact rw_inl z0 z4 (fun _ => bs_t (by decide) (bs_t r0 (rw_noFence (F := fN n X Y) (by omega) hw'.rf.2.1.1 (fun z => absurd z hv) (fun _ => br_f (by decide) ⟨rfl, h'⟩)))) (fun z => absurd hb z)
  · exact br_f b2 (bad (by omega))
end ST
