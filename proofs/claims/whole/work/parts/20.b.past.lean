/-! ===== PAST: go, back ===== -/
def FX (M M' : Mem) : Prop := M'.2 = M.2 ∧ M'.1 2 = M.1 2 ∧ M'.1 3 = M.1 3 ∧ M'.1 4 = M.1 4 ∧ M'.1 5 = M.1 5 ∧ M'.1 10 = M.1 10 ∧ M'.1 11 = M.1 11 ∧ M'.1 12 = M.1 12 ∧ M'.1 0 10 = M.1 0 10
def FR (M M' : Mem) : Prop := M'.2 = M.2 ∧ M'.1 1 = M.1 1 ∧ M'.1 2 = M.1 2 ∧ M'.1 4 = M.1 4 ∧ M'.1 5 = M.1 5 ∧ M'.1 0 4 = M.1 0 4 ∧ M'.1 0 5 = M.1 0 5
theorem Rel_mk {MX MR MX' MR' : Mem} (h : Rel MX MR) (hx : FX MX MX') (hr : FR MR MR') {n : Nat} {X Y : Nat → Int} {H B i nx : Nat} {L : List Nat} (hnx : nx < 10) (h31 : MX'.1 31 2 = nI nx) (x1 : MX'.1 0 8 = 1) (r1 : MR'.1 0 8 = 1) (hw : GrW n X Y H B i nx L MX' MR') : Rel MX' MR' := by
  obtain ⟨hs, hf, ⟨m, X', Y', hP, hX, hR⟩, -⟩ := h
  obtain ⟨a0, a2, a3, a4, a5, a10, a11, a12, af⟩ := hx
  obtain ⟨b0, b1, b2, b4, b5, bf, bp⟩ := hr
  exact ⟨ShR_fr hs a0 a2 a3 a4 a5 b0 b1 b2, by rw [af, bf]; exact hf, ⟨m, X', Y', hP, XP_fr hX a10 a11 a12, RP_fr hR bp b4 b5⟩, nx, hnx, h31, Or.inr ⟨x1, r1, n, X, Y, H, B, i, L, hw⟩⟩
theorem Rel_one {MX MR : Mem} (h : Rel MX MR) (x0 : ¬ MX.1 0 8 = 0) : MX.1 0 8 = 1 ∧ MR.1 0 8 = 1 := by
  obtain ⟨-, -, -, nx, -, -, hg⟩ := h
  rcases hg with ⟨a, -⟩ | ⟨a, b, -⟩
  · exact absurd a x0
  · exact ⟨a, b⟩
theorem m10 : ∀ k, k < 10 → nI k + 1 - (nI k + 1) / 10 * 10 = nI ((k + 1) % 10) := by decide +kernel
theorem m10' : ∀ k, k < 10 → nI k + 10 - 1 - (nI k + 10 - 1) / 10 * 10 = nI ((k + 9) % 10) := by decide +kernel
theorem mn10 : ∀ k, k < 11 → (if 10 < nI k + 1 then 10 else nI k + 1) = nI (min (k + 1) 10) := by decide +kernel
theorem xw_keep2 {M : Mem} {nx k : Nat} {v : Int32} (h : M.1 31 2 = nI nx) (hnx : nx < 10) (h0 : M.1 31 0 = nI k) (hk : k ≤ 10) {Q : Mem → Prop} (q : Q (upI (upI (upI M 32 nx v) 31 2 (nI ((nx + 1) % 10))) 31 0 (nI (min (k + 1) 10)))) : wp_X3_keep v M Q := by
  unfold wp_X3_keep
  rw [h, nI_clamp (by omega), show (upI M 32 nx v).1 31 2 = nI nx from h, m10 nx hnx, show (upI (upI M 32 nx v) 31 2 (nI ((nx + 1) % 10))).1 31 0 = nI k from h0, mn10 k (by omega)]
  exact ⟨vp_in_nI hnx (by omega), q⟩
theorem rw_remember {M : Mem} {k : Nat} (h : M.1 0 25 = nI k) (hk : k ≤ 10) {Q : Mem → Prop} (q : ∀ M' s, s = (if k = 10 then 1 else 0) → Fq [15] [25] M M' → M'.1 0 25 = nI (min (k + 1) 10) → (∀ j, j < k - s → M'.1 15 j = M.1 15 (j + s)) → M'.1 15 (k - s) = M.1 0 24 → Q M') : wp_X8_remember M Q := by
  refine at_X8_remember_fold ?_
  show _ ∧ _
  rw [h]
  by_cases e : k = 10
  · refine bs_f (by rw [e]; rfl) ?_
    have key : ∀ d v M', v + d = 10 → 1 ≤ v → Fq [15] [25] M M' → M'.1 0 25 = nI 10 → (∀ j, j < v - 1 → M'.1 15 j = M.1 15 (j + 1)) → (∀ j, v - 1 < j → M'.1 15 j = M.1 15 j) → at_X8_remember Q 2 (nI v) M' := by
      intro d
      induction d with
      | zero =>
        intro v M' hv hv1 hF hb h1 h2
        refine at_X8_remember_fold (br_t ?_ (at_X8_remember_fold ?_))
        · show nI 10 ≤ nI v
          rw [nI_leI (by omega) (by omega)]; omega
        · have e25 : (upI M' 0 25 (M'.1 0 25 - 1)).1 0 25 = nI 9 := by rw [upI_same, hb]; rfl
          have e24 : (upI M' 0 25 (M'.1 0 25 - 1)).1 0 24 = M.1 0 24 := (upI_oth (by decide)).trans (hF.2.2 24 (by decide))
          have h15 : (upI M' 0 25 (M'.1 0 25 - 1)).1 15 = M'.1 15 := rfl
          have hF2 : Fq [15] [25] M (upI M' 0 25 (M'.1 0 25 - 1)) := Fq_up0 hF (by decide) _
          show vp_in ((upI M' 0 25 (M'.1 0 25 - 1)).1 0 25) 10 ∧ _
          generalize upI M' 0 25 (M'.1 0 25 - 1) = M2 at e25 e24 h15 hF2 ⊢
          show vp_in (M2.1 0 25) 10 ∧ Q (upI (upI M2 15 (M2.1 0 25).toNatClampNeg (M2.1 0 24)) 0 25 (((upI M2 15 (M2.1 0 25).toNatClampNeg (M2.1 0 24)).1 0 25) + 1))
          rw [e25, e24, nI_clamp (by omega), show (upI M2 15 9 (M.1 0 24)).1 0 25 = nI 9 from e25, nI_1]
          refine ⟨vp_in_nI (by omega) (by omega), q _ 1 (by rw [if_pos e]) (Fq_up0 (Fq_up hF2 (by decide) (by decide) _ _) (by decide) _) (by rw [upI_same, e]; rfl) (fun j hj => ?_) ?_⟩
          · rw [upI_ne (by decide), upI_oth (by omega), h15]; exact h1 j (by omega)
          · rw [e, upI_ne (by decide)]; exact upI_same ..
      | succ d ih =>
        intro v M' hv hv1 hF hb h1 h2
        refine at_X8_remember_fold (br_f ?_ ?_)
        · show ¬ nI 10 ≤ nI v
          rw [nI_leI (by omega) (by omega)]; omega
        · rw [show (1 : Int32) = nI 1 from rfl, nI_sub hv1, nI_add, nI_clamp (by omega), nI_clamp (by omega)]
          refine ⟨vp_in_nI (by omega) (by omega), vp_in_nI (by omega) (by omega), ih (v + 1) _ (by omega) (by omega) (Fq_up hF (by decide) (by decide) _ _) hb (fun j hj => ?_) (fun j hj => ?_)⟩
          · by_cases ej : j = v - 1
            · rw [ej, upI_same, h2 v (by omega), show v - 1 + 1 = v by omega]
            · rw [upI_oth ej]; exact h1 j (by omega)
          · rw [upI_oth (by omega)]; exact h2 j (by omega)
    exact key 9 1 M (by omega) (by omega) (Fq_refl _ _ _) (by rw [h, e]) (fun j hj => by omega) (fun _ _ => rfl)
  · refine bs_t (fun z => e ((nI_eq (by omega) (by omega)).mp (show nI k = nI 10 from z))) (at_X8_remember_fold ?_)
    show vp_in (M.1 0 25) 10 ∧ Q (upI (upI M 15 (M.1 0 25).toNatClampNeg (M.1 0 24)) 0 25 (((upI M 15 (M.1 0 25).toNatClampNeg (M.1 0 24)).1 0 25) + 1))
    rw [h, nI_clamp (by omega), show (upI M 15 k (M.1 0 24)).1 0 25 = nI k from h, nI_1]
    refine ⟨vp_in_nI (by omega) (by omega), q _ 0 (by rw [if_neg e]) (Fq_up0 (Fq_up (Fq_refl _ _ _) (by decide) (by decide) _ _) (by decide) _) (by rw [upI_same, show min (k + 1) 10 = k + 1 by omega]) (fun j hj => ?_) ?_⟩
    · rw [upI_ne (by decide), upI_oth (by omega)]; rfl
    · rw [upI_ne (by decide)]; exact upI_same ..
section MV
variable {n : Nat} {X Y : Nat → Int} {H B i nx : Nat} {L : List Nat} {MX MR : Mem}
theorem PaR_push (hp : PaR n X Y H B nx L MX MR) (hi : i < cN n X Y) (hip : ap n X Y H B i = true) (hnx : nx < 10) {MX' MR' : Mem} (x0 : MX'.1 31 0 = nI (min (L.length + 1) 10)) (x32 : MX'.1 32 = (upI MX 32 nx (nI i)).1 32) (r0 : MR'.1 0 25 = nI (min (L.length + 1) 10)) {s : Nat} (hs : s = if L.length = 10 then 1 else 0) (r1 : ∀ j, j < L.length - s → MR'.1 15 j = MR.1 15 (j + s)) (r2 : MR'.1 15 (L.length - s) = nI (cg n X Y i)) : PaR n X Y H B ((nx + 1) % 10) (i :: L.take 9) MX' MR' := by
  obtain ⟨p1, p2, p3, p4⟩ := hp
  have hlen : (i :: L.take 9).length = min (L.length + 1) 10 := by
    rw [List.length_cons, List.length_take]; omega
  have hlen2 : (i :: L.take 9).length = L.length + 1 - s := by
    rw [hlen, hs]
    by_cases e : L.length = 10
    · rw [if_pos e]; omega
    · rw [if_neg e]; omega
  have hs1 : s ≤ 1 ∧ (s = 1 → L.length = 10) := by
    rw [hs]
    by_cases e : L.length = 10
    · rw [if_pos e]; omega
    · rw [if_neg e]; omega
  refine ⟨by rw [x0, hlen], by rw [r0, hlen], by rw [hlen]; omega, fun k c hc => ?_⟩
  rw [x32, hlen2]
  cases k with
  | zero =>
    injection hc with hc
    subst hc
    refine ⟨hi, hip, ?_, ?_⟩
    · rw [show ((nx + 1) % 10 + 9 - 0) % 10 = nx by omega, upI_same]
    · rw [show L.length + 1 - s - 1 - 0 = L.length - s by omega]; exact r2
  | succ k =>
    have hc : (L.take 9)[k]? = some c := hc
    have hk9 : k < (L.take 9).length := get_lt hc
    rw [List.length_take] at hk9
    rw [List.getElem?_take, if_pos (by omega)] at hc
    obtain ⟨c1, c2, c3, c4⟩ := p4 k c hc
    refine ⟨c1, c2, ?_, ?_⟩
    · rw [show ((nx + 1) % 10 + 9 - (k + 1)) % 10 = (nx + 9 - k) % 10 by omega, upI_oth (by omega)]
      exact c3
    · rw [show L.length + 1 - s - 1 - (k + 1) = L.length - s - 1 - k by omega, r1 _ (by omega), show L.length - s - 1 - k + s = L.length - 1 - k by omega]
      exact c4
/-- another cutting at hand -/
theorem GrW_move (hw : GrW n X Y H B i nx L MX MR) {j nx' : Nat} {L' : List Nat} (hj : j < cN n X Y) (hjp : ap n X Y H B j = true) {MX' MR' : Mem} (hx : ∀ q, 13 ≤ q → q ≤ 27 → MX'.1 q = MX.1 q) (hx33 : MX'.1 33 = MX.1 33) (hr : ∀ q, q ≠ 0 → q ≠ 15 → MR'.1 q = MR.1 q) (hr0 : ∀ k, k ≠ 24 → k ≠ 25 → MR'.1 0 k = MR.1 0 k) (h9 : MX'.1 0 9 = nI j) (h24 : MR'.1 0 24 = nI (cg n X Y j)) (hp : PaR n X Y H B nx' L' MX' MR') : GrW n X Y H B j nx' L' MX' MR' := by
  obtain ⟨c1, c2, c3, c4, c5, ⟨d1, d2, d3⟩, ⟨e1, e2, e3⟩, c8, c9, c10, c11, c12, c13⟩ := hw
  refine ⟨c1, c2, c3, c4, c5, ⟨?_, ?_, ?_⟩, ⟨?_, ?_, ?_⟩, h9, h24, hj, hjp, hp, ?_⟩
  · exact XF_fr d1 (hx 13 (by omega) (by omega)) (hx 14 (by omega) (by omega)) (hx 15 (by omega) (by omega)) (hx 16 (by omega) (by omega)) (hx 17 (by omega) (by omega)) (hx 18 (by omega) (by omega)) (hx 19 (by omega) (by omega)) (hx 20 (by omega) (by omega)) (hx 21 (by omega) (by omega))
  · exact XK_fr d2 (hx 22 (by omega) (by omega)) (hx 23 (by omega) (by omega)) (hx 24 (by omega) (by omega))
  · unfold XA
    rw [hx 25 (by omega) (by omega), hx 26 (by omega) (by omega), hx 27 (by omega) (by omega)]
    exact d3
  · exact RF_fr e1 (hr0 9 (by omega) (by omega)) (hr0 12 (by omega) (by omega)) (hr 6 (by omega) (by omega)) (hr 7 (by omega) (by omega)) (hr 8 (by omega) (by omega)) (hr 9 (by omega) (by omega)) (hr 10 (by omega) (by omega)) (hr 11 (by omega) (by omega))
  · unfold RK
    rw [hr0 20 (by omega) (by omega), hr 13 (by omega) (by omega)]
    exact e2
  · unfold RA
    rw [hr0 18 (by omega) (by omega), hr0 19 (by omega) (by omega), hr0 22 (by omega) (by omega), hr 14 (by omega) (by omega)]
    exact e3
  · rw [hx33, hr 12 (by omega) (by omega)]
    exact c13
/-- both move to j: the class's moveTo, the reference's remember and its new cut -/
theorem both_move (h : Rel MX MR) (x0 : ¬ MX.1 0 8 = 0) (hnx : nx < 10) (h31 : MX.1 31 2 = nI nx) (hw : GrW n X Y H B i nx L MX MR) {j : Nat} (hj : j < cN n X Y) (hjp : ap n X Y H B j = true) {Q : Mem → Prop} (q : ∀ M1, (∀ R : Mem → Prop, (∀ M2, Fq [15] [25] (upI MR 0 0 0) M2 → Rel M1 (upI M2 0 24 (nI (cg n X Y j))) → R M2) → wp_X8_remember (upI MR 0 0 0) R) → Q M1) : wp_X7_moveTo (nI j) MX Q := by
  obtain ⟨x1, r1⟩ := Rel_one h x0
  have hp := hw.pa
  obtain ⟨p1, p2, p3, p4⟩ := id hp
  unfold wp_X7_moveTo
  rw [hw.now]
  refine xw_keep2 h31 hnx p1 p3 (q _ fun R hR => ?_)
  have p2' : (upI MR 0 0 0).1 0 25 = nI L.length := p2
  refine rw_remember p2' p3 fun M2 s hs f2 b1 b2 b3 => hR M2 f2 ?_
  have b3' : M2.1 15 (L.length - s) = nI (cg n X Y i) := b3.trans hw.cut
  refine Rel_mk h ⟨rfl, rfl, rfl, rfl, rfl, rfl, rfl, rfl, rfl⟩ ⟨f2.1, f2.2.1 1 (by decide) (by decide), f2.2.1 2 (by decide) (by decide), f2.2.1 4 (by decide) (by decide), f2.2.1 5 (by decide) (by decide), (upI_oth (by decide)).trans (f2.2.2 4 (by decide)), (upI_oth (by decide)).trans (f2.2.2 5 (by decide))⟩ (nx := (nx + 1) % 10) (by omega) ?_ x1 ?_ (GrW_move (MX := MX) (MR := upI MR 0 0 0) hw hj hjp (fun q a b => ?_) rfl (fun q a b => ?_) (fun k a b => ?_) (upI_same ..) (upI_same ..) (PaR_push hp hw.il hw.ip hnx ?_ ?_ ?_ hs (fun j hj => b2 j hj) b3'))
  · show (upI (upI (upI MX 32 nx (nI i)) 31 2 (nI ((nx + 1) % 10))) 31 0 (nI (min (L.length + 1) 10))).1 31 2 = _
    rw [upI_oth (by decide), upI_same]
  · exact ((upI_oth (by decide)).trans (f2.2.2 8 (by decide))).trans r1
  · rw [upI_ne (by omega), upI_ne (by omega), upI_ne (by omega), upI_ne (by omega)]
  · rw [upI_ne a]; exact f2.2.1 q a (by simp; exact b)
  · rw [upI_oth a]; exact f2.2.2 k (by simp; exact b)
  · show (upI (upI (upI MX 32 nx (nI i)) 31 2 (nI ((nx + 1) % 10))) 31 0 (nI (min (L.length + 1) 10))).1 31 0 = _
    rw [upI_same]
  · rfl
  · exact (upI_oth (by decide)).trans b1
end MV
section ST
variable {MX MR : Mem}
theorem st_go (h : Rel MX MR) (a0 : Int32) : wp_X7_go a0 MX (fun r M1 => wp_X8_go a0 MR (fun r2 M2 => r = r2 ∧ Rel M1 M2)) := by
  have h' := Rel_thr h
  rcases Rel_gr h with ⟨x0, r0⟩ | ⟨x0, r0, nx, n, X, Y, H, B, i, L, hnx, h31, hw, hw'⟩
  · exact xw_rref0 x0 (br_f (by decide) (bs_f r0 ⟨rfl, h'⟩))
  · have hN := hw.a256
    refine xw_rref (F := aN n X Y H B) (by omega) x0 hw.xa.2.2.1 (fun hv => ?_) (fun hv => ?_)
    · obtain ⟨r, hr, rfl⟩ := inr_nI hv
      obtain ⟨k1, k2, k3⟩ := kr_of hr
      refine br_t rfl ⟨vp_in_nI (by omega) (by omega), ?_⟩
      rw [nI_clamp (by omega), hw.xa.k hr]
      refine both_move h x0 hnx h31 hw k1 k2 fun M1 hrem => ?_
      refine bs_t r0 (rw_noRank (F := aN n X Y H B) (by omega) hw'.ra.2.2.1 (fun _ => br_t rfl (hrem _ fun M2 f2 hrel => ?_)) (fun z => absurd hv z))
      rw [nI_clamp (by omega), f2.2.1 14 (by decide) (by decide), show (upI MR 0 0 0).1 14 r = _ from hw.ra.k hr]
      exact ⟨vp_in_nI (by omega) (by omega), rfl, hrel⟩
    · exact br_f (by decide) (bs_t r0 (rw_noRank (F := aN n X Y H B) (by omega) hw'.ra.2.2.1 (fun z => absurd z hv) (fun _ => br_f (by decide) ⟨rfl, h'⟩)))
theorem st_back (h : Rel MX MR) : wp_X7_back MX (fun r M1 => wp_X8_back MR (fun r2 M2 => r = r2 ∧ Rel M1 M2)) := by
  have h' := Rel_thr h
  rcases Rel_gr h with ⟨x0, r0⟩ | ⟨x0, r0, nx, n, X, Y, H, B, i, L, hnx, h31, hw, hw'⟩
  · exact br_t x0 (br_t r0 ⟨rfl, h'⟩)
  · obtain ⟨x1, r1⟩ := Rel_one h x0
    obtain ⟨p1, p2, p3, p4⟩ := hw.pa
    refine br_f x0 ?_
    have p2' : (upI MR 0 0 0).1 0 25 = nI L.length := p2
    rw [p1]
    cases L with
    | nil => exact bs_f rfl (br_f r0 (bs_f p2' ⟨rfl, h'⟩))
    | cons c L =>
      have hlen : (c :: L).length = L.length + 1 := rfl
      rw [hlen] at p1 p2 p2' p3 p4 ⊢
      obtain ⟨c1, c2, c3, c4⟩ := p4 0 c rfl
      have ne0 : ¬ nI (L.length + 1) = 0 := nI_ne0 (by omega) (by omega)
      refine bs_t ne0 ?_
      unfold wp_X3_latest
      rw [h31, m10' nx hnx, show (upI MX 31 2 (nI ((nx + 9) % 10))).1 31 0 = nI (L.length + 1) from p1, nI_pred, show (upI (upI MX 31 2 (nI ((nx + 9) % 10))) 31 0 (nI L.length)).1 31 2 = nI ((nx + 9) % 10) from rfl, nI_clamp (by omega), show (upI (upI MX 31 2 (nI ((nx + 9) % 10))) 31 0 (nI L.length)).1 32 ((nx + 9) % 10) = nI c from c3]
      refine ⟨vp_in_nI (by omega) (by omega), ?_⟩
      show wp_X8_back MR (fun r2 M2 => nI L.length = r2 ∧ Rel (upI (upI (upI MX 31 2 (nI ((nx + 9) % 10))) 31 0 (nI L.length)) 0 9 (nI c)) M2)
      unfold wp_X8_back
      refine br_f r0 (bs_t (by rw [p2']; exact ne0) ?_)
      rw [p2', nI_pred, show (upI (upI MR 0 0 0) 0 25 (nI L.length)).1 0 25 = nI L.length from rfl, nI_clamp (by omega)]
      have c4' : (upI (upI MR 0 0 0) 0 25 (nI L.length)).1 15 L.length = nI (cg n X Y c) := by
        have := c4
        rw [show L.length + 1 - 1 - 0 = L.length by omega] at this
        exact this
      rw [c4']
      refine ⟨vp_in_nI (by omega) (by omega), rfl, ?_⟩
      refine Rel_mk h ⟨rfl, rfl, rfl, rfl, rfl, rfl, rfl, rfl, rfl⟩ ⟨rfl, rfl, rfl, rfl, rfl, rfl, rfl⟩ (nx := (nx + 9) % 10) (by omega) rfl x1 r1 (GrW_move (MR := upI MR 0 0 0) hw' c1 c2 (L' := L) (fun q a b => ?_) rfl (fun q a b => ?_) (fun k a b => ?_) (upI_same ..) (upI_same ..) ⟨rfl, rfl, by omega, fun k d hd => ?_⟩)
      · rw [upI_ne (by omega), upI_ne (by omega), upI_ne (by omega)]
      · rw [upI_ne a, upI_ne a]
      · rw [upI_oth a, upI_oth b]
      · obtain ⟨d1, d2, d3, d4⟩ := p4 (k + 1) d hd
        have hk := get_lt hd
        refine ⟨d1, d2, ?_, ?_⟩
        · show MX.1 32 (((nx + 9) % 10 + 9 - k) % 10) = nI d
          rw [show ((nx + 9) % 10 + 9 - k) % 10 = (nx + 9 - (k + 1)) % 10 by omega]
          exact d3
        · show MR.1 15 (L.length - 1 - k) = _
          rw [show L.length - 1 - k = L.length + 1 - 1 - (k + 1) by omega]
          exact d4
end ST
