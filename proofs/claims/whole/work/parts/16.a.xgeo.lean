/-! ===== XGEO: the class's ground: sides, fences ===== -/
def Fr (l : List Nat) (M M' : Mem) : Prop := M'.2 = M.2 ∧ ∀ q, q ∉ l → M'.1 q = M.1 q
theorem Fr_refl (l : List Nat) (M : Mem) : Fr l M M := ⟨rfl, fun _ _ => rfl⟩
theorem upI_ne {M : Mem} {q k q' : Nat} {v : Int32} (h : q' ≠ q) : (upI M q k v).1 q' = M.1 q' := if_neg h
theorem upI_same (M : Mem) (q k : Nat) (v : Int32) : (upI M q k v).1 q k = v := by
  show (if q = q then upd (M.1 q) k v else M.1 q) k = v
  rw [if_pos rfl]
  exact if_pos rfl
theorem upI_oth {M : Mem} {q k k' : Nat} {v : Int32} (h : k' ≠ k) : (upI M q k v).1 q k' = M.1 q k' := by
  show (if q = q then upd (M.1 q) k v else M.1 q) k' = _
  rw [if_pos rfl]
  exact if_neg h
theorem Fr_up {l : List Nat} {M M' : Mem} (h : Fr l M M') {q : Nat} (hq : q ∈ l) (k : Nat) (v : Int32) : Fr l M (upI M' q k v) := ⟨h.1, fun q' hq' => (upI_ne (M := M') (k := k) (v := v) (show q' ≠ q from fun e => hq' (by rw [e]; exact hq))).trans (h.2 q' hq')⟩
theorem Fr_trans {l : List Nat} {M M1 M2 : Mem} (h : Fr l M M1) (g : Fr l M1 M2) : Fr l M M2 := ⟨g.1.trans h.1, fun q hq => (g.2 q hq).trans (h.2 q hq)⟩
theorem Fr_mono {l l' : List Nat} {M M' : Mem} (hl : ∀ q, q ∈ l → q ∈ l') (h : Fr l M M') : Fr l' M M' := ⟨h.1, fun q hq => h.2 q fun z => hq (hl q z)⟩
/-- posts: eight at most, at places of 0 .. 60, no two at one -/
def Pts (n : Nat) (X Y : Nat → Int) : Prop := n ≤ 8 ∧ (∀ i, i < n → 0 ≤ X i ∧ X i ≤ 60 ∧ 0 ≤ Y i ∧ Y i ≤ 60) ∧ ∀ i j, i < n → j < n → X i = X j → Y i = Y j → i = j
theorem side_br {z : Int} (h1 : -2147483648 ≤ z) (h2 : z < 2147483648) {M : Mem} {Q : Int32 → Mem → Prop} (q : Q (sI (gs z)) M) : (iI z ≤ 0 → ((0 ≤ iI z → Q 0 M) ∧ (¬ 0 ≤ iI z → Q (-1) M))) ∧ (¬ iI z ≤ 0 → Q 1 M) := by
  rcases gs_c z with ⟨h, e⟩ | ⟨h, e⟩ | ⟨h, e⟩ <;> rw [e] at q
  · exact br_t ((iI_le0 h1 h2).mpr (by omega)) (br_f (fun g => by have := (iI_ge0 h1 h2).mp g; omega) q)
  · exact br_t ((iI_le0 h1 h2).mpr (by omega)) (br_t ((iI_ge0 h1 h2).mpr (by omega)) q)
  · exact br_f (fun g => by have := (iI_le0 h1 h2).mp g; omega) q
theorem dt_bd {n : Nat} {X Y : Nat → Int} (hP : Pts n X Y) {a b c : Nat} (ha : a < n) (hb : b < n) (hc : c < n) : -7200 ≤ dt X Y a b c ∧ dt X Y a b c ≤ 7200 := by
  have h1 := hP.2.1 a ha
  have h2 := hP.2.1 b hb
  have h3 := hP.2.1 c hc
  have m1 := mul60 (u := X b - X a) (v := Y c - Y a) (by omega) (by omega) (by omega) (by omega)
  have m2 := mul60 (u := Y b - Y a) (v := X c - X a) (by omega) (by omega) (by omega) (by omega)
  unfold dt
  omega
theorem dot_bd {n : Nat} {X Y : Nat → Int} (hP : Pts n X Y) {a b c : Nat} (ha : a < n) (hb : b < n) (hc : c < n) : -7200 ≤ dot X Y a b c ∧ dot X Y a b c ≤ 7200 := by
  have h1 := hP.2.1 a ha
  have h2 := hP.2.1 b hb
  have h3 := hP.2.1 c hc
  have m1 := mul60 (u := X a - X c) (v := X b - X c) (by omega) (by omega) (by omega) (by omega)
  have m2 := mul60 (u := Y a - Y c) (v := Y b - Y c) (by omega) (by omega) (by omega) (by omega)
  unfold dot
  omega
def XG (n : Nat) (X Y : Nat → Int) (M : Mem) : Prop := M.1 14 2 = nI n ∧ (∀ i, i < n → M.1 15 i = iI (X i)) ∧ ∀ i, i < n → M.1 16 i = iI (Y i)
theorem XG_fr {n : Nat} {X Y : Nat → Int} {M M' : Mem} (h : XG n X Y M) (h4 : M'.1 14 = M.1 14) (h5 : M'.1 15 = M.1 15) (h6 : M'.1 16 = M.1 16) : XG n X Y M' := by
  unfold XG
  rw [h4, h5, h6]
  exact h
section XGEO
variable {n : Nat} {X Y : Nat → Int} {M : Mem}
theorem Pts.l31 (hP : Pts n X Y) {i : Nat} (h : i ≤ n) : i < 2 ^ 31 := by have := hP.1; omega
theorem xw_side (hP : Pts n X Y) (hG : XG n X Y M) {a b c : Nat} (ha : a < n) (hb : b < n) (hc : c < n) {Q : Int32 → Mem → Prop} (q : Q (sI (sg X Y a b c)) M) : wp_X4_side (nI a) (nI b) (nI c) M Q := by
  have hn := hP.1
  have va : vp_in (nI a) 8 := vp_in_nI (by omega) (by omega)
  have vb : vp_in (nI b) 8 := vp_in_nI (by omega) (by omega)
  have vc : vp_in (nI c) 8 := vp_in_nI (by omega) (by omega)
  have hd := dt_bd hP ha hb hc
  refine ⟨vb, va, vc, va, vb, va, vc, va, nm_r (e' := iI (dt X Y a b c)) ?_ (side_br (by omega) (by omega) q)⟩
  rw [nI_clamp (hP.l31 (by omega)), nI_clamp (hP.l31 (by omega)), nI_clamp (hP.l31 (by omega)), hG.2.1 a ha, hG.2.1 b hb, hG.2.1 c hc, hG.2.2 a ha, hG.2.2 b hb, hG.2.2 c hc, iI_sub, iI_sub, iI_sub, iI_sub, iI_mul, iI_mul, iI_sub]
  rfl
theorem xw_isBetween (hP : Pts n X Y) (hG : XG n X Y M) {p a b : Nat} (hp : p < n) (ha : a < n) (hb : b < n) {Q : Int32 → Mem → Prop} (q : Q (bI (pb (btw X Y a b p))) M) : wp_X4_isBetween (nI p) (nI a) (nI b) M Q := by
  have hn := hP.1
  have va : vp_in (nI a) 8 := vp_in_nI (by omega) (by omega)
  have vb : vp_in (nI b) 8 := vp_in_nI (by omega) (by omega)
  have vp : vp_in (nI p) 8 := vp_in_nI (by omega) (by omega)
  have hd := dot_bd hP ha hb hp
  refine ⟨va, vp, vb, vp, va, vp, vb, vp, nm_r (e' := iI (dot X Y a b p)) ?_ (xw_side hP hG ha hb hp ?_)⟩
  · rw [nI_clamp (hP.l31 (by omega)), nI_clamp (hP.l31 (by omega)), nI_clamp (hP.l31 (by omega)), hG.2.1 a ha, hG.2.1 b hb, hG.2.1 p hp, hG.2.2 a ha, hG.2.2 b hb, hG.2.2 p hp, iI_sub, iI_sub, iI_sub, iI_sub, iI_mul, iI_mul, iI_add]
    rfl
  · by_cases h : sg X Y a b p = .eq
    · by_cases g : dot X Y a b p < 0
      · rw [pb_iff.mpr ⟨h, g⟩] at q
        exact bs_f (sI_0.mpr h) (br_f (fun z => by have := (iI_ge0 (by omega) (by omega)).mp z; omega) q)
      · rw [pb_f.mpr (fun z => g z.2)] at q
        exact bs_f (sI_0.mpr h) (br_t ((iI_ge0 (by omega) (by omega)).mpr (by omega)) q)
    · rw [pb_f.mpr (fun z => h z.1)] at q
      exact bs_t (fun z => h (sI_0.mp z)) q
theorem xw_isOpen (hP : Pts n X Y) (hG : XG n X Y M) {a b : Nat} (ha : a < n) (hb : b < n) {Q : Int32 → Mem → Prop} (q : Q (bI (opn n X Y a b)) M) : wp_X2_isOpen (nI a) (nI b) M Q := by
  have key : ∀ d k, k + d = n → (∀ p, p < k → ¬ btw X Y a b p) → at_X2_isOpen (nI a) (nI b) Q 1 (nI k) M := by
    intro d
    induction d with
    | zero =>
      intro k hk h
      refine at_X2_isOpen_fold (br_t ?_ ?_)
      · rw [hG.1]; exact (nI_leI (hP.l31 (by omega)) (hP.l31 (by omega))).mpr (by omega)
      · rw [opn_iff.mpr ⟨ha, hb, fun p hp => h p (by omega)⟩] at q
        exact q
    | succ d ih =>
      intro k hk h
      refine at_X2_isOpen_fold (br_f ?_ (xw_isBetween hP hG (by omega) ha hb ?_))
      · rw [hG.1, nI_leI (hP.l31 (by omega)) (hP.l31 (by omega))]; omega
      · cases hb' : pb (btw X Y a b k) with
        | true =>
          have : opn n X Y a b = false := pb_f.mpr fun z => z.2.2 k (by omega) (pb_iff.mp hb')
          rw [this] at q
          exact br_f (by decide) q
        | false =>
          refine br_t rfl ?_
          rw [nI_1]
          exact ih (k + 1) (by omega) (lt_s h (pb_f.mp hb'))
  exact at_X2_isOpen_fold (key n 0 (by omega) lt_0)
theorem xw_addFence {a b : Int32} {k : Nat} (hk : k < 28) (h : M.1 13 4 = nI k) {Q : Int32 → Mem → Prop} (q : Q (nI k) (upI (upI (upI M 17 k a) 18 k b) 13 4 (nI (k + 1)))) : wp_X2_addFence a b M Q := by
  have v : vp_in (nI k) 28 := vp_in_nI hk (by omega)
  have e1 : (upI M 17 (nI k).toNatClampNeg a).1 13 4 = nI k := h
  unfold wp_X2_addFence
  rw [h, e1]
  refine ⟨v, v, ?_⟩
  have e2 : (upI (upI M 17 (nI k).toNatClampNeg a) 18 (nI k).toNatClampNeg b).1 13 4 = nI k := h
  rw [e2, nI_1, upI_same, nI_pred, nI_clamp (by omega)]
  exact q
/-- the fences of the rows below, and what is between -/
def XN (n : Nat) (X Y : Nat → Int) (L : List (Nat × Nat)) (M : Mem) : Prop := M.1 13 4 = nI L.length ∧ ∀ i c, L[i]? = some c → M.1 17 i = nI c.1 ∧ M.1 18 i = nI c.2
def XB (n : Nat) (X Y : Nat → Int) (P : Nat → Nat → Prop) (M : Mem) : Prop := ∀ c d, c < n → d < n → P c d → M.1 20 (c * 8 + d) = oI (fbt n X Y c d)
theorem get_snoc {α : Type} {L : List α} {x c : α} {i : Nat} (h : (L ++ [x])[i]? = some c) : L[i]? = some c ∨ (i = L.length ∧ c = x) := by
  rw [List.getElem?_append] at h
  split at h
  · exact Or.inl h
  · rename_i hi
    rcases Nat.eq_zero_or_pos (i - L.length) with z | z
    · rw [z] at h
      injection h with h
      exact Or.inr ⟨by omega, h.symm⟩
    · rw [List.getElem?_eq_none (by show 1 ≤ _; omega)] at h; cases h
theorem get_lt {α : Type} {L : List α} {c : α} {i : Nat} (h : L[i]? = some c) : i < L.length := by
  rcases Nat.lt_or_ge i L.length with g | g
  · exact g
  · rw [List.getElem?_eq_none g] at h; cases h
abbrev nfL : List Nat := [13, 17, 18, 20]
theorem xw_numberFences (hP : Pts n X Y) (hG : XG n X Y M) {Q : Mem → Prop} (q : ∀ M', Fr nfL M M' → XN n X Y (frows n X Y n) M' → XB n X Y (fun _ _ => True) M' → Q M') : wp_X2_numberFences M Q := by
  have hn := hP.1
  have hlen : ∀ a b, a < b → opn n X Y a b = true → (fpre n X Y a b).length < 28 := by
    intro a b h1 h2
    obtain ⟨t, ht⟩ := fl_split h1 h2
    have := fN_le (n := n) (X := X) (Y := Y) hn
    unfold fN at this
    rw [ht, List.length_append] at this
    simp at this
    omega
  have inner : ∀ a, a < n → (∀ M', Fr nfL M M' → XN n X Y (frows n X Y (a + 1)) M' → XB n X Y (fun c d => c < a + 1 ∨ d < a + 1) M' → at_X2_numberFences Q 1 (nI (a + 1)) 0 0 M') → ∀ d b M', b + d = n → a < b → Fr nfL M M' → XN n X Y (fpre n X Y a b) M' → XB n X Y (fun c d => c < a ∨ d < a ∨ (c = a ∧ d < b) ∨ (d = a ∧ c < b)) M' → at_X2_numberFences Q 2 (nI a) (nI b) 0 M' := by
    intro a ha kk d
    induction d with
    | zero =>
      intro b M' hb hab hF hN hB
      have hG' := XG_fr hG (hF.2 14 (by decide)) (hF.2 15 (by decide)) (hF.2 16 (by decide))
      refine at_X2_numberFences_fold (br_t ?_ ?_)
      · rw [hG'.1]; exact (nI_leI (hP.l31 (by omega)) (hP.l31 (by omega))).mpr (by omega)
      · rw [nI_1]
        rw [show b = n by omega] at hN hB
        exact kk M' hF hN fun c d hc hd h => hB c d hc hd (by omega)
    | succ d ih =>
      intro b M' hb hab hF hN hB
      have hG' := XG_fr hG (hF.2 14 (by decide)) (hF.2 15 (by decide)) (hF.2 16 (by decide))
      have va : vp_in (nI (a * 8 + b)) 64 := vp_in_nI (by omega) (by omega)
      have vb : vp_in (nI (b * 8 + a)) 64 := vp_in_nI (by omega) (by omega)
      have step : ∀ M1, Fr nfL M M1 → XN n X Y (fpre n X Y a (b + 1)) M1 → M1.1 20 = M'.1 20 → at_X2_numberFences Q 3 (nI a) (nI b) (oI (fbt n X Y a b)) M1 := by
        intro M1 hF1 hN1 h20
        refine at_X2_numberFences_fold ⟨?_, ?_, ?_⟩
        · rw [ix8]; exact va
        · rw [ix8]; exact vb
        · rw [ix8, ix8, nI_1, nI_clamp (by omega), nI_clamp (by omega)]
          refine ih (b + 1) _ (by omega) (by omega) (Fr_up (Fr_up hF1 (by decide) _ _) (by decide) _ _) hN1 ?_
          intro c d hc hd h
          by_cases e1 : c * 8 + d = b * 8 + a
          · have : c = b ∧ d = a := by omega
            rw [this.1, this.2, upI_same, fbt_comm]
          · rw [upI_oth e1]
            by_cases e2 : c * 8 + d = a * 8 + b
            · have : c = a ∧ d = b := by omega
              rw [this.1, this.2, upI_same]
            · rw [upI_oth e2, h20]
              refine hB c d hc hd ?_
              rcases h with h | h | ⟨h1, h2⟩ | ⟨h1, h2⟩
              · exact Or.inl h
              · exact Or.inr (Or.inl h)
              · have : d ≠ b := fun e => e2 (by rw [h1, e])
                omega
              · have : c ≠ b := fun e => e1 (by rw [h1, e])
                omega
      refine at_X2_numberFences_fold (br_f ?_ (xw_isOpen hP hG' ha (by omega) ?_))
      · rw [hG'.1, nI_leI (hP.l31 (by omega)) (hP.l31 (by omega))]; omega
      · have hf0 : fbt n X Y a b = fb0 n X Y a b := if_pos hab
        have hfp : fpre n X Y a (b + 1) = fpre n X Y a b ++ (if a < b ∧ opn n X Y a b = true then [(a, b)] else []) := by
          unfold fpre
          rw [frow_succ, List.append_assoc]
        cases ho : opn n X Y a b with
        | false =>
          refine br_t rfl ?_
          have e : fb0 n X Y a b = none := if_neg (fun z => by rw [ho] at z; exact absurd z.2 Bool.false_ne_true)
          rw [if_neg (fun z => by rw [ho] at z; exact absurd z.2 Bool.false_ne_true), List.append_nil] at hfp
          have := step M' hF (by rw [hfp]; exact hN) rfl
          rw [hf0, e] at this
          exact this
        | true =>
          have e : fb0 n X Y a b = some (fpre n X Y a b).length := if_pos ⟨hab, ho⟩
          rw [if_pos ⟨hab, ho⟩] at hfp
          have hl := hlen a b hab ho
          refine br_f (by decide) (xw_addFence hl hN.1 ?_)
          have := step _ (Fr_up (Fr_up (Fr_up hF (q := 17) (by decide) (fpre n X Y a b).length (nI a)) (q := 18) (by decide) (fpre n X Y a b).length (nI b)) (q := 13) (by decide) 4 (nI ((fpre n X Y a b).length + 1))) ?_ rfl
          · rw [hf0, e] at this
            exact this
          · rw [hfp]
            refine ⟨by rw [List.length_append]; exact upI_same .., fun i c hc => ?_⟩
            rcases get_snoc hc with h | ⟨h1, h2⟩
            · have hi := get_lt h
              obtain ⟨p1, p2⟩ := hN.2 i c h
              constructor
              · rw [upI_ne (by decide), upI_ne (by decide), upI_oth (by omega)]; exact p1
              · rw [upI_ne (by decide), upI_oth (by omega), upI_ne (by decide)]; exact p2
            · rw [h1, h2]
              constructor
              · rw [upI_ne (by decide), upI_ne (by decide), upI_same]
              · rw [upI_ne (by decide), upI_same]
  have outer : ∀ d a M', a + d = n → Fr nfL M M' → XN n X Y (frows n X Y a) M' → XB n X Y (fun c d => c < a ∨ d < a) M' → at_X2_numberFences Q 1 (nI a) 0 0 M' := by
    intro d
    induction d with
    | zero =>
      intro a M' hd hF hN hB
      have hG' := XG_fr hG (hF.2 14 (by decide)) (hF.2 15 (by decide)) (hF.2 16 (by decide))
      refine at_X2_numberFences_fold (br_t ?_ ?_)
      · rw [hG'.1]; exact (nI_leI (hP.l31 (by omega)) (hP.l31 (by omega))).mpr (by omega)
      · rw [show a = n by omega] at hN hB
        exact q M' hF hN fun c d hc hd _ => hB c d hc hd (Or.inl hc)
    | succ d ih =>
      intro a M' hd hF hN hB
      have hG' := XG_fr hG (hF.2 14 (by decide)) (hF.2 15 (by decide)) (hF.2 16 (by decide))
      refine at_X2_numberFences_fold (br_f ?_ ⟨?_, ?_⟩)
      · rw [hG'.1, nI_leI (hP.l31 (by omega)) (hP.l31 (by omega))]; omega
      · rw [ix8]; exact vp_in_nI (by omega) (by omega)
      · rw [ix8, nI_1, nI_clamp (by omega)]
        refine inner a (by omega) (fun M1 a1 a2 a3 => ih (a + 1) M1 (by omega) a1 a2 a3) (n - (a + 1)) (a + 1) _ (by omega) (by omega) (Fr_up hF (by decide) _ _) ?_ ?_
        · unfold fpre
          rw [frow_nil (Nat.le_refl _), List.append_nil]
          exact hN
        · intro c d hc hd h
          by_cases e1 : c * 8 + d = a * 8 + a
          · have : c = a ∧ d = a := by omega
            rw [this.1, this.2, upI_same, fbt_self]
            rfl
          · rw [upI_oth e1]
            refine hB c d hc hd ?_
            have : ¬ (c = a ∧ d = a) := fun z => e1 (by rw [z.1, z.2])
            omega
  refine at_X2_numberFences_fold ?_
  exact outer n 0 _ (by omega) (Fr_up (Fr_refl _ _) (by decide) _ _) ⟨upI_same .., fun i c h => by cases h⟩ (fun c d _ _ h => by omega)
end XGEO
