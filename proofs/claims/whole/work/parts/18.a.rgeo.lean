/-! ===== RGEO: the reference's ground ===== -/
/-- what a walk of the reference leaves alone: cells, and fields of its object -/
def Fq (l ks : List Nat) (M M' : Mem) : Prop := M'.2 = M.2 ∧ (∀ q, q ≠ 0 → q ∉ l → M'.1 q = M.1 q) ∧ ∀ k, k ∉ ks → M'.1 0 k = M.1 0 k
theorem Fq_refl (l ks : List Nat) (M : Mem) : Fq l ks M M := ⟨rfl, fun _ _ _ => rfl, fun _ _ => rfl⟩
theorem Fq_up {l ks : List Nat} {M M' : Mem} (h : Fq l ks M M') {q : Nat} (hq : q ∈ l) (h0 : q ≠ 0) (k : Nat) (v : Int32) : Fq l ks M (upI M' q k v) :=
  ⟨h.1, fun q' a b => (upI_ne (M := M') (k := k) (v := v) (show q' ≠ q from fun e => b (by rw [e]; exact hq))).trans (h.2.1 q' a b), fun k' a => by rw [upI_ne (fun e => h0 e.symm)]; exact h.2.2 k' a⟩
theorem Fq_up0 {l ks : List Nat} {M M' : Mem} (h : Fq l ks M M') {k : Nat} (hk : k ∈ ks) (v : Int32) : Fq l ks M (upI M' 0 k v) :=
  ⟨h.1, fun q a b => (upI_ne a).trans (h.2.1 q a b), fun k' a => by rw [upI_oth (fun e => a (by rw [e]; exact hk))]; exact h.2.2 k' a⟩
theorem Fq_trans {l ks : List Nat} {M M1 M2 : Mem} (h : Fq l ks M M1) (g : Fq l ks M1 M2) : Fq l ks M M2 := ⟨g.1.trans h.1, fun q a b => (g.2.1 q a b).trans (h.2.1 q a b), fun k a => (g.2.2 k a).trans (h.2.2 k a)⟩
theorem Fq_mono {l ks l' ks' : List Nat} {M M' : Mem} (hl : ∀ q, q ∈ l → q ∈ l') (hk : ∀ q, q ∈ ks → q ∈ ks') (h : Fq l ks M M') : Fq l' ks' M M' := ⟨h.1, fun q a b => h.2.1 q a fun z => b (hl q z), fun k a => h.2.2 k fun z => a (hk k z)⟩
def RG (n : Nat) (X Y : Nat → Int) (M : Mem) : Prop := M.1 0 9 = nI n ∧ (∀ i, i < n → M.1 6 i = iI (X i)) ∧ ∀ i, i < n → M.1 7 i = iI (Y i)
def RN (n : Nat) (X Y : Nat → Int) (L : List (Nat × Nat)) (M : Mem) : Prop := M.1 0 12 = nI L.length ∧ (∀ i c, L[i]? = some c → M.1 8 i = nI c.1 ∧ M.1 9 i = nI c.2) ∧ ∀ i, i < L.length → M.1 12 i = 0
def RBp (n : Nat) (X Y : Nat → Int) (P : Nat → Nat → Prop) (M : Mem) : Prop := ∀ c d, c < n → d < n → P c d → M.1 10 (8 * c + d) = oI (fbt n X Y c d)
def RLw (n : Nat) (X Y : Nat → Int) (M : Mem) : Prop := M.1 0 12 = nI (fN n X Y) ∧ ∀ f, f < fN n X Y → M.1 8 f = nI (flo n X Y f) ∧ M.1 9 f = nI (fhi n X Y f)
def RB (n : Nat) (X Y : Nat → Int) (M : Mem) : Prop := ∀ c d, c < n → d < n → M.1 10 (8 * c + d) = oI (fbt n X Y c d)
def RC (n : Nat) (X Y : Nat → Int) (M : Mem) : Prop := ∀ f, f < fN n X Y → M.1 11 f = nI (cmk n X Y f)
def RF (n : Nat) (X Y : Nat → Int) (M : Mem) : Prop := RG n X Y M ∧ RLw n X Y M ∧ RB n X Y M ∧ RC n X Y M
section RGEO
variable {n : Nat} {X Y : Nat → Int} {M : Mem}
theorem RG_fr {M' : Mem} (h : RG n X Y M) (h0 : M'.1 0 9 = M.1 0 9) (h1 : M'.1 6 = M.1 6) (h2 : M'.1 7 = M.1 7) : RG n X Y M' := by
  unfold RG
  rw [h0, h1, h2]
  exact h
theorem rw_side (hP : Pts n X Y) (hG : RG n X Y M) {a b c : Nat} (ha : a < n) (hb : b < n) (hc : c < n) {Q : Int32 → Mem → Prop} (q : Q (sI (sg X Y a b c)) M) : wp_X8_side (nI a) (nI b) (nI c) M Q := by
  have hn := hP.1
  have va : vp_in (nI a) 8 := vp_in_nI (by omega) (by omega)
  have vb : vp_in (nI b) 8 := vp_in_nI (by omega) (by omega)
  have vc : vp_in (nI c) 8 := vp_in_nI (by omega) (by omega)
  have hd := dt_bd hP ha hb hc
  refine ⟨vb, va, vc, va, vb, va, vc, va, nm_r (e' := iI (dt X Y a b c)) ?_ (side_br (by omega) (by omega) q)⟩
  rw [nI_clamp (hP.l31 (by omega)), nI_clamp (hP.l31 (by omega)), nI_clamp (hP.l31 (by omega)), hG.2.1 a ha, hG.2.1 b hb, hG.2.1 c hc, hG.2.2 a ha, hG.2.2 b hb, hG.2.2 c hc, iI_sub, iI_sub, iI_sub, iI_sub, iI_mul, iI_mul, iI_sub]
  rfl
theorem rw_isBetween (hP : Pts n X Y) (hG : RG n X Y M) {a b p : Nat} (ha : a < n) (hb : b < n) (hp : p < n) {Q : Int32 → Mem → Prop} (q : Q (bI (pb (btw X Y a b p))) M) : wp_X8_isBetween (nI a) (nI b) (nI p) M Q := by
  have hn := hP.1
  have va : vp_in (nI a) 8 := vp_in_nI (by omega) (by omega)
  have vb : vp_in (nI b) 8 := vp_in_nI (by omega) (by omega)
  have vp : vp_in (nI p) 8 := vp_in_nI (by omega) (by omega)
  have hd := dot_bd hP ha hb hp
  refine ⟨va, vp, vb, vp, va, vp, vb, vp, nm_r (e' := iI (dot X Y a b p)) ?_ (rw_side hP hG ha hb hp ?_)⟩
  · rw [nI_clamp (hP.l31 (by omega)), nI_clamp (hP.l31 (by omega)), nI_clamp (hP.l31 (by omega)), hG.2.1 a ha, hG.2.1 b hb, hG.2.1 p hp, hG.2.2 a ha, hG.2.2 b hb, hG.2.2 p hp, iI_sub, iI_sub, iI_sub, iI_sub, iI_mul, iI_mul, iI_add]
    rfl
  · by_cases h : sg X Y a b p = .eq
    · by_cases g : dot X Y a b p < 0
      · rw [pb_iff.mpr ⟨h, g⟩] at q
        exact bs_f (sI_0.mpr h) (br_f (fun z => by have := (iI_ge0 (by omega) (by omega)).mp z; omega) q)
      · rw [pb_f.mpr (fun z => g z.2)] at q
        exact bs_f (sI_0.mpr h) (br_t ((iI_ge0 (by omega) (by omega)).mpr (by omega)) q)
    · rw [pb_f.mpr (fun z => h z.1)] at q
      exact bs_t (fun z => h (sI_0.mp z)) q
theorem rw_isCross (hP : Pts n X Y) (hG : RG n X Y M) (hL : RLw n X Y M) {f g : Nat} (hf : f < fN n X Y) (hg : g < fN n X Y) {Q : Int32 → Mem → Prop} (q : Q (bI (crf n X Y f g)) M) : wp_X8_isCross (nI f) (nI g) M Q := by
  have h28 := hP.f28
  have vf : vp_in (nI f) 28 := vp_in_nI (by omega) (by omega)
  have vg : vp_in (nI g) 28 := vp_in_nI (by omega) (by omega)
  unfold wp_X8_isCross
  rw [nI_clamp (hP.f31 (Nat.le_of_lt hf)), nI_clamp (hP.f31 (Nat.le_of_lt hg)), (hL.2 f hf).1, (hL.2 f hf).2, (hL.2 g hg).1, (hL.2 g hg).2]
  refine ⟨vf, vf, vg, vg, rw_side hP hG (hP.lo hf) (hP.hi hf) (hP.lo hg) (rw_side hP hG (hP.lo hf) (hP.hi hf) (hP.hi hg) ?_)⟩
  by_cases h1 : om (sg X Y (flo n X Y f) (fhi n X Y f) (flo n X Y g)) (sg X Y (flo n X Y f) (fhi n X Y f) (fhi n X Y g)) = .lt
  · refine br_f (fun z => sI_mul.mp z h1) (rw_side hP hG (hP.lo hg) (hP.hi hg) (hP.lo hf) (rw_side hP hG (hP.lo hg) (hP.hi hg) (hP.hi hf) ?_))
    by_cases h2 : om (sg X Y (flo n X Y g) (fhi n X Y g) (flo n X Y f)) (sg X Y (flo n X Y g) (fhi n X Y g) (fhi n X Y f)) = .lt
    · have : crf n X Y f g = true := pb_iff.mpr ⟨h1, h2⟩
      rw [this] at q
      exact br_f (fun z => sI_mul.mp z h2) q
    · have : crf n X Y f g = false := pb_f.mpr fun z => h2 z.2
      rw [this] at q
      exact br_t (sI_mul.mpr h2) q
  · have : crf n X Y f g = false := pb_f.mpr fun z => h1 z.1
    rw [this] at q
    exact br_t (sI_mul.mpr h1) q
theorem btw_end1 (a b : Nat) : ¬ btw X Y a b a := fun h => by
  have := h.2
  unfold dot at this
  simp at this
theorem btw_end2 (a b : Nat) : ¬ btw X Y a b b := fun h => btw_end1 b a (btw_comm.mpr h)
abbrev rfL : List Nat := [8, 9, 10, 11, 12]
theorem rw_layFences (hP : Pts n X Y) (hG : RG n X Y M) {Q : Mem → Prop} (q : ∀ M', Fq rfL [12] M M' → RF n X Y M' → (∀ f, f < fN n X Y → M'.1 12 f = 0) → Q M') : wp_X8_layFences M Q := by
  have hn := hP.1
  have h28 := hP.f28
  have gf : ∀ {M'}, Fq rfL [12] M M' → RG n X Y M' := fun hF => RG_fr hG (hF.2.2 9 (by decide)) (hF.2.1 6 (by decide) (by decide)) (hF.2.1 7 (by decide) (by decide))
  have hlen : ∀ a b, a < b → opn n X Y a b = true → (fpre n X Y a b).length < 28 := by
    intro a b h1 h2
    obtain ⟨t, ht⟩ := fl_split h1 h2
    unfold fN at h28
    rw [ht, List.length_append] at h28
    simp at h28
    omega
  -- the crossings
  have crossI : ∀ f, f < fN n X Y → (∀ M', Fq rfL [12] M M' → RLw n X Y M' → RB n X Y M' → (∀ i, i < fN n X Y → M'.1 12 i = 0) → (∀ i, i < f + 1 → M'.1 11 i = nI (cmk n X Y i)) → at_X8_layFences Q 2 (nI (f + 1)) 0 0 0 M') → ∀ d g M', g + d = fN n X Y → Fq rfL [12] M M' → RLw n X Y M' → RB n X Y M' → (∀ i, i < fN n X Y → M'.1 12 i = 0) → (∀ i, i < f → M'.1 11 i = nI (cmk n X Y i)) → M'.1 11 f = nI (mk (crf n X Y f) g) → at_X8_layFences Q 4 (nI f) (nI g) 0 0 M' := by
    intro f hf kk d
    induction d with
    | zero =>
      intro g M' hg hF hL hB hW h1 h2
      refine at_X8_layFences_fold (br_t ?_ ?_)
      · rw [hL.1]; exact (nI_leI (hP.f31 (by omega)) (hP.f31 (by omega))).mpr (by omega)
      · rw [nI_1]
        refine kk M' hF hL hB hW (lt_s h1 ?_)
        rw [h2, show g = fN n X Y by omega]
        rfl
    | succ d ih =>
      intro g M' hg hF hL hB hW h1 h2
      have vf : vp_in (nI f) 28 := vp_in_nI (by omega) (by omega)
      have e : mk (crf n X Y f) (g + 1) = if crf n X Y f g then mk (crf n X Y f) g ||| (1 <<< g) else mk (crf n X Y f) g := rfl
      have nx : ∀ v, v = nI (mk (crf n X Y f) (g + 1)) → at_X8_layFences Q 6 (nI f) (nI g) 0 0 (upI M' 11 f v) := fun v hv => by
        refine at_X8_layFences_fold ?_
        show at_X8_layFences Q 4 (nI f) (nI g + 1) 0 0 _
        rw [nI_1, hv]
        exact ih (g + 1) _ (by omega) (Fq_up hF (by decide) (by decide) _ _) hL hB hW (fun i hi => by rw [upI_oth (by omega)]; exact h1 i hi) (upI_same ..)
      have no : crf n X Y f g = false → at_X8_layFences Q 6 (nI f) (nI g) 0 0 (upI M' 11 (nI f).toNatClampNeg ((M'.1 11 (nI f).toNatClampNeg) ||| (0 : Int32))) := fun hc => by
        rw [nI_clamp (by omega)]
        refine nx _ ?_
        rw [h2, e, hc, show (0 : Int32) = nI 0 from rfl, nI_or, Nat.or_zero]
        rfl
      refine at_X8_layFences_fold (br_f ?_ ⟨vf, ?_⟩)
      · rw [hL.1, nI_leI (hP.f31 (by omega)) (hP.f31 (by omega))]; omega
      · by_cases hgf : g = f
        · exact br_t (by rw [hgf]) ⟨vf, no (by rw [hgf]; exact crf_self f)⟩
        · refine br_f (fun z => hgf ((nI_eq (by omega) (by omega)).mp z)) (rw_isCross hP (gf hF) hL hf (by omega) ?_)
          cases hc : crf n X Y f g with
          | false => exact br_t rfl ⟨vf, no hc⟩
          | true =>
            refine br_f (by decide) ⟨vf, ?_⟩
            rw [nI_clamp (by omega)]
            refine nx _ ?_
            rw [h2, e, hc, if_pos rfl, nI_shl (by omega), nI_or]
  have crossO : ∀ d f M', f + d = fN n X Y → Fq rfL [12] M M' → RLw n X Y M' → RB n X Y M' → (∀ i, i < fN n X Y → M'.1 12 i = 0) → (∀ i, i < f → M'.1 11 i = nI (cmk n X Y i)) → at_X8_layFences Q 2 (nI f) 0 0 0 M' := by
    intro d
    induction d with
    | zero =>
      intro f M' hd hF hL hB hW h1
      refine at_X8_layFences_fold (br_t ?_ ?_)
      · rw [hL.1]; exact (nI_leI (hP.f31 (by omega)) (hP.f31 (by omega))).mpr (by omega)
      · exact q M' hF ⟨gf hF, hL, hB, fun f' hf' => h1 f' (by omega)⟩ hW
    | succ d ih =>
      intro f M' hd hF hL hB hW h1
      refine at_X8_layFences_fold (br_f ?_ ⟨vp_in_nI (by omega) (by omega), ?_⟩)
      · rw [hL.1, nI_leI (hP.f31 (by omega)) (hP.f31 (by omega))]; omega
      · rw [nI_clamp (by omega)]
        exact crossI f (by omega) (fun M1 a1 a2 a3 a4 a5 => ih (f + 1) M1 (by omega) a1 a2 a3 a4 a5) (fN n X Y) 0 _ (by omega) (Fq_up hF (by decide) (by decide) _ _) hL hB hW (fun i hi => by rw [upI_oth (by omega)]; exact h1 i hi) (upI_same ..)
  -- the pairs
  have pair : ∀ a b M', a ≤ b → b < n → Fq rfL [12] M M' → RN n X Y (fpre n X Y a b) M' → RBp n X Y (fun c d => c < a ∨ d < a ∨ (c = a ∧ d < b) ∨ (d = a ∧ c < b)) M' → (∀ M1, Fq rfL [12] M M1 → RN n X Y (fpre n X Y a (b + 1)) M1 → RBp n X Y (fun c d => c < a ∨ d < a ∨ (c = a ∧ d < b + 1) ∨ (d = a ∧ c < b + 1)) M1 → at_X8_layFences Q 3 (nI a) (nI (b + 1)) 0 0 M1) → at_X8_layFences Q 8 (nI a) (nI b) (bI (decide (a < b) && opn n X Y a b)) 0 M' := by
    intro a b M' hab hb hF hN hB kk
    have va : vp_in (nI (8 * a + b)) 64 := vp_in_nI (by omega) (by omega)
    have vb : vp_in (nI (8 * b + a)) 64 := vp_in_nI (by omega) (by omega)
    have hfp : fpre n X Y a (b + 1) = fpre n X Y a b ++ (if a < b ∧ opn n X Y a b = true then [(a, b)] else []) := by
      unfold fpre
      rw [frow_succ, List.append_assoc]
    have hf0 : fbt n X Y a b = fb0 n X Y a b := by
      unfold fbt
      by_cases z : a < b
      · rw [if_pos z]
      · rw [if_neg z, show a = b by omega]
    have bs : ∀ v, v = oI (fbt n X Y a b) → RBp n X Y (fun c d => c < a ∨ d < a ∨ (c = a ∧ d < b + 1) ∨ (d = a ∧ c < b + 1)) (upI (upI M' 10 (8 * a + b) v) 10 (8 * b + a) v) := by
      intro v hv c d hc hd h
      by_cases e1 : 8 * c + d = 8 * b + a
      · have : c = b ∧ d = a := by omega
        rw [this.1, this.2, upI_same, fbt_comm]
        exact hv
      · rw [upI_oth e1]
        by_cases e2 : 8 * c + d = 8 * a + b
        · have : c = a ∧ d = b := by omega
          rw [this.1, this.2, upI_same]
          exact hv
        · rw [upI_oth e2]
          refine hB c d hc hd ?_
          rcases h with h | h | ⟨h1, h2⟩ | ⟨h1, h2⟩
          · exact Or.inl h
          · exact Or.inr (Or.inl h)
          · have : d ≠ b := fun e => e2 (by rw [h1, e])
            omega
          · have : c ≠ b := fun e => e1 (by rw [h1, e])
            omega
    by_cases ho : a < b ∧ opn n X Y a b = true
    · have e : fb0 n X Y a b = some (fpre n X Y a b).length := if_pos ho
      rw [if_pos ho] at hfp
      have hl := hlen a b ho.1 ho.2
      have vl : vp_in (nI (fpre n X Y a b).length) 28 := vp_in_nI hl (by omega)
      rw [decide_eq_true ho.1, ho.2]
      refine at_X8_layFences_fold (br_f (by decide) ?_)
      rw [ix8', nI_clamp (by omega), hN.1]
      refine ⟨va, at_X8_layFences_fold (br_f (by decide) ?_)⟩
      have e0 : (upI M' 10 (8 * a + b) (nI (fpre n X Y a b).length)).1 0 12 = nI (fpre n X Y a b).length := hN.1
      rw [ix8', nI_clamp (by omega), e0]
      have bs' := bs _ (show nI (fpre n X Y a b).length = oI (fbt n X Y a b) by rw [hf0, e]; rfl)
      have hF2 := Fq_up (Fq_up hF (q := 10) (by decide) (by decide) (8 * a + b) (nI (fpre n X Y a b).length)) (q := 10) (by decide) (by decide) (8 * b + a) (nI (fpre n X Y a b).length)
      have hN2 : RN n X Y (fpre n X Y a b) (upI (upI M' 10 (8 * a + b) (nI (fpre n X Y a b).length)) 10 (8 * b + a) (nI (fpre n X Y a b).length)) := hN
      refine ⟨vb, ?_⟩
      generalize upI (upI M' 10 (8 * a + b) (nI (fpre n X Y a b).length)) 10 (8 * b + a) (nI (fpre n X Y a b).length) = M2 at bs' hF2 hN2 ⊢
      refine at_X8_layFences_fold (br_f (by decide) ?_)
      rw [hN2.1]
      refine ⟨vl, ?_⟩
      have i1 : (upI M2 8 (nI (fpre n X Y a b).length).toNatClampNeg (nI a)).1 0 12 = nI (fpre n X Y a b).length := hN2.1
      rw [i1]
      refine ⟨vl, ?_⟩
      have i2 : (upI (upI M2 8 (nI (fpre n X Y a b).length).toNatClampNeg (nI a)) 9 (nI (fpre n X Y a b).length).toNatClampNeg (nI b)).1 0 12 = nI (fpre n X Y a b).length := hN2.1
      rw [i2]
      refine ⟨vl, ?_⟩
      have i3 : (upI (upI (upI M2 8 (nI (fpre n X Y a b).length).toNatClampNeg (nI a)) 9 (nI (fpre n X Y a b).length).toNatClampNeg (nI b)) 12 (nI (fpre n X Y a b).length).toNatClampNeg 0).1 0 12 = nI (fpre n X Y a b).length := hN2.1
      rw [i3, nI_1, nI_clamp (by omega)]
      refine at_X8_layFences_fold ?_
      show at_X8_layFences Q 3 (nI a) (nI b + 1) 0 0 _
      rw [nI_1]
      refine kk _ (Fq_up0 (Fq_up (Fq_up (Fq_up hF2 (by decide) (by decide) _ _) (by decide) (by decide) _ _) (by decide) (by decide) _ _) (by decide) _) ?_ bs'
      rw [hfp]
      refine ⟨by rw [List.length_append]; exact upI_same .., fun i c hc => ?_, fun i hi => ?_⟩
      · rcases get_snoc hc with h | ⟨h1, h2⟩
        · have hi := get_lt h
          obtain ⟨p1, p2⟩ := hN2.2.1 i c h
          constructor
          · rw [upI_ne (by decide), upI_ne (by decide), upI_ne (by decide), upI_oth (by omega)]; exact p1
          · rw [upI_ne (by decide), upI_ne (by decide), upI_oth (by omega), upI_ne (by decide)]; exact p2
        · rw [h1, h2]
          constructor
          · rw [upI_ne (by decide), upI_ne (by decide), upI_ne (by decide), upI_same]
          · rw [upI_ne (by decide), upI_ne (by decide), upI_same]
      · rw [List.length_append] at hi
        have hi : i < (fpre n X Y a b).length + 1 := hi
        rcases Nat.lt_or_ge i (fpre n X Y a b).length with z | z
        · rw [upI_ne (by decide), upI_oth (by omega), upI_ne (by decide), upI_ne (by decide)]
          exact hN2.2.2 i z
        · rw [show i = (fpre n X Y a b).length by omega, upI_ne (by decide), upI_same]
    · have e : fb0 n X Y a b = none := if_neg ho
      rw [if_neg ho, List.append_nil] at hfp
      have hd : (decide (a < b) && opn n X Y a b) = false := by
        cases z : (decide (a < b) && opn n X Y a b) with
        | false => rfl
        | true =>
          rw [Bool.and_eq_true, decide_eq_true_eq] at z
          exact absurd z ho
      rw [hd]
      refine at_X8_layFences_fold (br_t rfl ?_)
      rw [ix8', nI_clamp (by omega)]
      refine ⟨va, at_X8_layFences_fold (br_t rfl ?_)⟩
      rw [ix8', nI_clamp (by omega)]
      refine ⟨vb, at_X8_layFences_fold (br_t rfl (at_X8_layFences_fold ?_))⟩
      show at_X8_layFences Q 3 (nI a) (nI b + 1) 0 0 _
      rw [nI_1]
      exact kk _ (Fq_up (Fq_up hF (by decide) (by decide) _ _) (by decide) (by decide) _ _) (by rw [hfp]; exact hN) (bs _ (by rw [hf0, e]; rfl))
  have open7 : ∀ a b M', a < b → b < n → RG n X Y M' → at_X8_layFences Q 8 (nI a) (nI b) (bI (decide (a < b) && opn n X Y a b)) 0 M' → ∀ d c, c + d = n → (∀ p, p < c → ¬ btw X Y a b p) → at_X8_layFences Q 7 (nI a) (nI b) 1 (nI c) M' := by
    intro a b M' hab hb hG' k8 d
    rw [decide_eq_true hab, Bool.true_and] at k8
    induction d with
    | zero =>
      intro c hc h
      refine at_X8_layFences_fold (br_t ?_ ?_)
      · rw [hG'.1]; exact (nI_leI (hP.l31 (by omega)) (hP.l31 (by omega))).mpr (by omega)
      · rw [opn_iff.mpr ⟨by omega, hb, fun p hp => h p (by omega)⟩] at k8
        exact k8
    | succ d ih =>
      intro c hc h
      have nx : ¬ btw X Y a b c → at_X8_layFences Q 9 (nI a) (nI b) 0 (nI c) M' := fun hno => by
        refine at_X8_layFences_fold (at_X8_layFences_fold ?_)
        show at_X8_layFences Q 7 (nI a) (nI b) 1 (nI c + 1) M'
        rw [nI_1]
        exact ih (c + 1) (by omega) (lt_s h hno)
      refine at_X8_layFences_fold (br_f ?_ (br_f (by decide) ?_))
      · rw [hG'.1, nI_leI (hP.l31 (by omega)) (hP.l31 (by omega))]; omega
      · by_cases e1 : c = a
        · exact br_t (by rw [e1]) (nx (by rw [e1]; exact btw_end1 a b))
        · refine br_f (fun z => e1 ((nI_eq (by omega) (by omega)).mp z)) ?_
          by_cases e2 : c = b
          · exact br_t (by rw [e2]) (nx (by rw [e2]; exact btw_end2 a b))
          · refine br_f (fun z => e2 ((nI_eq (by omega) (by omega)).mp z)) (rw_isBetween hP hG' (by omega) hb (by omega) ?_)
            cases hz : pb (btw X Y a b c) with
            | false => exact bs_f rfl (nx (pb_f.mp hz))
            | true =>
              have : opn n X Y a b = false := pb_f.mpr fun z => z.2.2 c (by omega) (pb_iff.mp hz)
              rw [this] at k8
              refine bs_t (by decide) (at_X8_layFences_fold (at_X8_layFences_fold ?_))
              rcases Nat.lt_or_ge (c + 1) n with w | w
              · refine br_f ?_ (br_t rfl k8)
                show ¬ M'.1 0 9 ≤ nI c + 1
                rw [nI_1, hG'.1, nI_leI (hP.l31 (by omega)) (hP.l31 (by omega))]; omega
              · refine br_t ?_ k8
                show M'.1 0 9 ≤ nI c + 1
                rw [nI_1, hG'.1, nI_leI (hP.l31 (by omega)) (hP.l31 (by omega))]; omega
  have rows : ∀ a, a < n → (∀ M', Fq rfL [12] M M' → RN n X Y (frows n X Y (a + 1)) M' → RBp n X Y (fun c d => c < a + 1 ∨ d < a + 1) M' → at_X8_layFences Q 1 (nI (a + 1)) 0 0 0 M') → ∀ d b M', b + d = n → a ≤ b → Fq rfL [12] M M' → RN n X Y (fpre n X Y a b) M' → RBp n X Y (fun c d => c < a ∨ d < a ∨ (c = a ∧ d < b) ∨ (d = a ∧ c < b)) M' → at_X8_layFences Q 3 (nI a) (nI b) 0 0 M' := by
    intro a ha kk d
    induction d with
    | zero =>
      intro b M' hb hab hF hN hB
      have hG' := gf hF
      refine at_X8_layFences_fold (br_t ?_ ?_)
      · rw [hG'.1]; exact (nI_leI (hP.l31 (by omega)) (hP.l31 (by omega))).mpr (by omega)
      · rw [nI_1]
        rw [show b = n by omega] at hN hB
        exact kk M' hF hN fun c d hc hd h => hB c d hc hd (by omega)
    | succ d ih =>
      intro b M' hb hab hF hN hB
      have hG' := gf hF
      have p8 := pair a b M' hab (by omega) hF hN hB (fun M1 a1 a2 a3 => ih (b + 1) M1 (by omega) (by omega) a1 a2 a3)
      refine at_X8_layFences_fold (br_f ?_ ?_)
      · rw [hG'.1, nI_leI (hP.l31 (by omega)) (hP.l31 (by omega))]; omega
      · by_cases e : a = b
        · refine br_t (by rw [e]) (at_X8_layFences_fold (at_X8_layFences_fold (br_f ?_ (br_t rfl ?_))))
          · show ¬ M'.1 0 9 ≤ nI 0
            rw [hG'.1, nI_leI (hP.l31 (by omega)) (by omega)]; omega
          · rw [decide_eq_false (show ¬ a < b by omega)] at p8
            exact p8
        · refine br_f (fun z => e ((nI_eq (by omega) (by omega)).mp z)) (at_X8_layFences_fold ?_)
          exact open7 a b M' (by omega) (by omega) hG' p8 n 0 (by omega) lt_0
  have outer : ∀ d a M', a + d = n → Fq rfL [12] M M' → RN n X Y (frows n X Y a) M' → RBp n X Y (fun c d => c < a ∨ d < a) M' → at_X8_layFences Q 1 (nI a) 0 0 0 M' := by
    intro d
    induction d with
    | zero =>
      intro a M' hd hF hN hB
      have hG' := gf hF
      refine at_X8_layFences_fold (br_t ?_ ?_)
      · rw [hG'.1]; exact (nI_leI (hP.l31 (by omega)) (hP.l31 (by omega))).mpr (by omega)
      · rw [show a = n by omega] at hN hB
        refine crossO (fN n X Y) 0 M' (by omega) hF ⟨hN.1, fun f hf => hN.2.1 f ((frows n X Y n).getD f (0, 0)) (by rw [List.getD_eq_getElem?_getD, List.getElem?_eq_getElem hf]; rfl)⟩ (fun c d hc hd => hB c d hc hd (Or.inl hc)) hN.2.2 lt_0
    | succ d ih =>
      intro a M' hd hF hN hB
      have hG' := gf hF
      refine at_X8_layFences_fold (br_f ?_ ?_)
      · rw [hG'.1, nI_leI (hP.l31 (by omega)) (hP.l31 (by omega))]; omega
      · refine rows a (by omega) (fun M1 a1 a2 a3 => ih (a + 1) M1 (by omega) a1 a2 a3) (n - a) a M' (by omega) (Nat.le_refl a) hF ?_ (fun c d hc hd h => hB c d hc hd (by omega))
        unfold fpre
        rw [frow_nil (by omega), List.append_nil]
        exact hN
  refine at_X8_layFences_fold ?_
  exact outer n 0 _ (by omega) (Fq_up0 (Fq_refl _ _ _) (by decide) _) ⟨upI_same .., fun i c h => (by cases h), fun i h => absurd h (Nat.not_lt_zero i)⟩ (fun c d _ _ h => by omega)
end RGEO
