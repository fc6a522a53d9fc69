/-! ===== APART, WAY, FAR; all the steps ===== -/
section AP
variable {MX MR : Mem}
theorem bfs_BI {n : Nat} {X Y : Nat → Int} {H B s : Nat} (hP : Pts n X Y) (hs : s < cN n X Y) (hp : ap n X Y H B s = true) : BI n X Y H B (bfs n X Y H B s) := brun_BI hP 257 0 (BI_0 hs hp)
theorem bfs_no {n : Nat} {X Y : Nat → Int} {H B s j : Nat} (hP : Pts n X Y) (hs : s < cN n X Y) (hp : ap n X Y H B s = true) (hj : ap n X Y H B j = false) : (bfs n X Y H B s).1 j = none := by
  have hB := bfs_BI hP hs hp
  cases h : (bfs n X Y H B s).1 j with
  | none => rfl
  | some d =>
    have hm := hB.2.2 j (by rw [h]; exact fun z => by cases z)
    obtain ⟨k, hk, e⟩ := List.getElem_of_mem hm
    obtain ⟨-, a, -⟩ := hB.2.1 k j (by rw [List.getElem?_eq_getElem hk, e])
    rw [hj] at a; cases a
theorem st_apart (h : Rel MX MR) (a0 : Int32) : wp_X7_apart a0 MX (fun r M1 => wp_X8_apart a0 MR (fun r2 M2 => r = r2 ∧ Rel M1 M2)) := by
  have h' := Rel_thr h
  rcases Rel_gr h with ⟨x0, r0⟩ | ⟨x0, r0, nx, n, X, Y, H, B, i, L, hnx, h31, hw, hw'⟩
  · exact xw_rref0 x0 (br_f (by decide) (bs_f r0 ⟨rfl, h'⟩))
  · have hN := hw.a256
    have hc := hw.c
    have hi := hw.il
    have hNc := aN_le (n := n) (X := X) (Y := Y) (H := H) (B := B)
    refine xw_rref (F := aN n X Y H B) (by omega) x0 hw.xa.2.2.1 (fun hv => ?_) (fun hv => ?_)
    · obtain ⟨r, hr, rfl⟩ := inr_nI hv
      obtain ⟨k1, k2, k3⟩ := kr_of hr
      refine br_t rfl ⟨vp_in_nI (by omega) (by omega), ?_⟩
      rw [nI_clamp (by omega), hw.xa.k hr]
      refine xw_measure hw.P hc hw.xk hw.xa k1 k2 fun M1 f1 g1 => ?_
      have e9 : M1.1 0 9 = nI i := by rw [f1.2 0 (by decide)]; exact hw.now
      rw [e9, nI_clamp (by omega), g1.2.1 i hi]
      refine ⟨vp_in_nI (by omega) (by omega), bs_t r0 (rw_noRank (F := aN n X Y H B) (by omega) hw'.ra.2.2.1 (fun _ => br_t rfl ?_) (fun z => absurd hv z))⟩
      have hm := rw_measure (Q := fun M2 => wp_X8_rankOf (M2.1 0 24) M2 (fun r3 M3 => (vp_in r3 2000 ∧ (oI ((bfs n X Y H B (kr n X Y H B r)).1 i) = M3.1 19 r3.toNatClampNeg ∧ Rel M1 M3)))) hw.P hc hw.h28 hw.b28 hw'.2.2.2.2.2.2.1 k1 k2 fun M2 f2 g2 => ?_
      · rw [k3] at hm
        exact hm
      · rw [f2.2.2 24 (by decide), hw'.cut]
        refine rw_rankOf hw.P hc (RW_fr hw'.2.2.2.2.2.2.1 f2).2.2 hi hw.ip ?_
        have := ark_lt_aN hi hw.ip
        rw [nI_clamp (by omega), g2.1 i hi hw.ip]
        exact ⟨vp_in_nI (by omega) (by omega), rfl, Rel_scr h' f1 (Fq_mono (by decide) (by decide) f2)⟩
    · exact br_f (by decide) (bs_t r0 (rw_noRank (F := aN n X Y H B) (by omega) hw'.ra.2.2.1 (fun z => absurd z hv) (fun _ => br_f (by decide) ⟨rfl, h'⟩)))
theorem oI_pred {o : Option Nat} {d : Nat} (ho : ∀ k, o = some k → k ≤ 256) (hd : d ≤ 256) : oI o = nI (d + 1) - 1 ↔ o = some d := by
  rw [nI_pred]
  cases o with
  | none =>
    constructor
    · intro z; exact absurd z.symm (ne9 (by omega))
    · intro z; cases z
  | some k =>
    have := ho k rfl
    show nI k = nI d ↔ _
    rw [nI_eq (by omega) (by omega)]
    constructor
    · intro z; rw [z]
    · intro z; injection z
theorem st_way (h : Rel MX MR) (a0 : Int32) : wp_X7_way a0 MX (fun r M1 => wp_X8_way a0 MR (fun r2 M2 => r = r2 ∧ Rel M1 M2)) := by
  have h' := Rel_thr h
  refine at_X7_way_fold ?_
  dsimp only [blk_X7_way, blk_X7_way_0]
  rcases Rel_gr h with ⟨x0, r0⟩ | ⟨x0, r0, nx, n, X, Y, H, B, i, L, hnx, h31, hw, hw'⟩
  · exact xw_rref0 x0 (br_f (by decide) (at_X8_way_fold (bs_f r0 ⟨rfl, h'⟩)))
  · have hN := hw.a256
    have hc := hw.c
    have hi := hw.il
    have h28 := hw.f28
    have i28 := hw.i28
    have hNc := aN_le (n := n) (X := X) (Y := Y) (H := H) (B := B)
    refine xw_rref (F := aN n X Y H B) (by omega) x0 hw.xa.2.2.1 (fun hv => ?_) (fun hv => ?_)
    · obtain ⟨r, hr, rfl⟩ := inr_nI hv
      obtain ⟨k1, k2, k3⟩ := kr_of hr
      have hBI := bfs_BI hw.P k1 k2
      have hno : ∀ j, ap n X Y H B j = false → (bfs n X Y H B (kr n X Y H B r)).1 j = none := fun j hj => bfs_no hw.P k1 k2 hj
      have hdle : ∀ j k, (bfs n X Y H B (kr n X Y H B r)).1 j = some k → k ≤ 256 := fun j k hk => by have := hBI.dle hk; omega
      refine br_t rfl ⟨vp_in_nI (by omega) (by omega), ?_⟩
      rw [nI_clamp (by omega), hw.xa.k hr]
      refine xw_measure hw.P hc hw.xk hw.xa k1 k2 fun M1 f1 g1 => ?_
      have e9 : M1.1 0 9 = nI i := by rw [f1.2 0 (by decide)]; exact hw.now
      have e24x : XK n X Y M1 := XK_Fr hw.xk f1 fun q a b => not_in3 (by omega) (by omega) (by omega)
      have exf : M1.1 13 4 = nI (fN n X Y) := by rw [f1.2 13 (by decide)]; exact hw.xf.2.1.1
      rw [e9, nI_clamp (by omega), g1.2.1 i hi]
      refine ⟨vp_in_nI (by omega) (by omega), ?_⟩
      have hrel : ∀ M2, Fq [19, 20] [] (upI MR 0 0 0) M2 → Rel M1 M2 := fun M2 f2 => Rel_scr h' f1 (Fq_mono (by decide) (by decide) f2)
      -- the reference, up to where it stands
      have rr : ∀ (K : Int32), (∀ M2, Fq [19, 20] [] (upI MR 0 0 0) M2 → RBf n X Y H B (bfs n X Y H B (kr n X Y H B r)) M2 → ((0 < oI ((bfs n X Y H B (kr n X Y H B r)).1 i) → at_X8_way (nI r) (fun r2 M2 => K = r2 ∧ Rel M1 M2) 1 (oI ((bfs n X Y H B (kr n X Y H B r)).1 i)) 0 0 M2) ∧ (¬ 0 < oI ((bfs n X Y H B (kr n X Y H B r)).1 i) → (K = -9 ∧ Rel M1 M2)))) → wp_X8_way (nI r) MR (fun r2 M2 => K = r2 ∧ Rel M1 M2) := fun K hk => by
        refine at_X8_way_fold (bs_t r0 (rw_noRank (F := aN n X Y H B) (by omega) hw'.ra.2.2.1 (fun _ => br_t rfl ?_) (fun z => absurd hv z)))
        have hm := rw_measure (Q := fun M2 => wp_X8_rankOf (M2.1 0 24) M2 (fun r3 M3 => (vp_in r3 2000 ∧ ((0 < (M3.1 19 r3.toNatClampNeg) → at_X8_way (nI r) (fun r2 M2 => K = r2 ∧ Rel M1 M2) 1 (M3.1 19 r3.toNatClampNeg) 0 0 M3) ∧ (¬ 0 < (M3.1 19 r3.toNatClampNeg) → (K = -9 ∧ Rel M1 M3)))))) hw.P hc hw.h28 hw.b28 hw'.2.2.2.2.2.2.1 k1 k2 fun M2 f2 g2 => ?_
        · rw [k3] at hm
          exact hm
        · rw [f2.2.2 24 (by decide), hw'.cut]
          refine rw_rankOf hw.P hc (RW_fr hw'.2.2.2.2.2.2.1 f2).2.2 hi hw.ip ?_
          have := ark_lt_aN hi hw.ip
          rw [nI_clamp (by omega), g2.1 i hi hw.ip]
          exact ⟨vp_in_nI (by omega) (by omega), hk M2 f2 g2⟩
      cases hd : (bfs n X Y H B (kr n X Y H B r)).1 i with
      | none =>
        rw [hd] at rr
        exact br_t rfl (rr _ fun M2 f2 g2 => br_f (by decide) ⟨rfl, hrel M2 f2⟩)
      | some d0 =>
        have hd0 := hdle i d0 hd
        rw [hd] at rr
        refine br_f (ne9 (by omega)) ?_
        cases d0 with
        | zero => exact bs_f rfl (rr _ fun M2 f2 g2 => br_f (by decide) ⟨rfl, hrel M2 f2⟩)
        | succ d =>
          refine bs_t (nI_ne0 (by omega) (by omega)) ?_
          generalize hS : bfs n X Y H B (kr n X Y H B r) = S at g1 rr hno hdle
          -- how the reference goes on
          have rl : ∀ (K : Int32) (f : Nat), (∀ M2, Fq [19, 20] [] (upI MR 0 0 0) M2 → RBf n X Y H B S M2 → at_X8_way (nI r) (fun r2 M2 => K = r2 ∧ Rel M1 M2) 1 (nI (d + 1)) (nI 0) 0 M2) → wp_X8_way (nI r) MR (fun r2 M2 => K = r2 ∧ Rel M1 M2) := fun K _ hk => rr K fun M2 f2 g2 => br_t (by
            rw [in_lt, show (0 : Int32).toInt = 0 by decide]
            show 0 < (nI (d + 1)).toInt
            rw [nI_toInt (by omega)]; omega) (hk M2 f2 g2)
          have rs : ∀ (K : Int32) (f : Nat), f < fN n X Y → ∀ M2, Fq [19, 20] [] (upI MR 0 0 0) M2 → RBf n X Y H B S M2 → (((∃ j, aft n X Y i f = some j ∧ S.1 j = some d) → K = nI f) ∧ (¬ (∃ j, aft n X Y i f = some j ∧ S.1 j = some d) → at_X8_way (nI r) (fun r2 M2 => K = r2 ∧ Rel M1 M2) 1 (nI (d + 1)) (nI (f + 1)) 0 M2)) → at_X8_way (nI r) (fun r2 M2 => K = r2 ∧ Rel M1 M2) 1 (nI (d + 1)) (nI f) 0 M2 := fun K f hf M2 f2 g2 hk => by
            have hW := RW_fr hw'.2.2.2.2.2.2.1 f2
            have ecut : M2.1 0 24 = nI (cg n X Y i) := (f2.2.2 24 (by decide)).trans hw'.cut
            have nx : ¬ (∃ j, aft n X Y i f = some j ∧ S.1 j = some d) → at_X8_way (nI r) (fun r2 M2 => K = r2 ∧ Rel M1 M2) 2 (nI (d + 1)) (nI f) 0 M2 := fun z => by
              refine at_X8_way_fold ?_
              show at_X8_way _ _ 1 (nI (d + 1)) (nI f + 1) 0 M2
              rw [nI_1 f]
              exact hk.2 z
            refine at_X8_way_fold (br_f ?_ ?_)
            · rw [hW.1.2.1.1, nI_leI (by omega) (by omega)]; omega
            · rw [ecut]
              refine rw_comes hw.P hW.1 hw.h28 hw.b28 hW.2.2.1 hW.2.2.2.1 i28 hf ?_
              rcases cms_aft hw.P (H := H) (B := B) (f := f) hi hw.ip with ⟨h1, h2⟩ | ⟨g, j, h1, h2, h3, h4, h5, h6, h7, h8⟩
              · rw [h1]
                refine br_t rfl (nx fun ⟨j, j1, j2⟩ => ?_)
                rcases h2 with h2 | ⟨j', h2, -, h4⟩
                · rw [h2] at j1; cases j1
                · rw [h2] at j1
                  injection j1 with j1
                  rw [← j1, hno j' h4] at j2; cases j2
              · rw [h1]
                have hja := ark_lt_aN h4 h5
                refine br_f (ne9 (by omega)) ?_
                show wp_X8_rankOf ((M2.1 0 24 &&& (((1 : Int32) <<< (nI f &&& 31)) ^^^ ((-1) : Int32))) ||| ((1 : Int32) <<< (nI g &&& 31))) M2 _
                rw [ecut, nI_shl (by omega), nI_shl (by omega), nI_clr, nI_or]
                show wp_X8_rankOf (nI (trn (cg n X Y i) f g)) M2 _
                rw [← h6]
                refine rw_rankOf hw.P hc hW.2.2 h4 h5 ⟨vp_in_nI (by omega) (by omega), ?_⟩
                rw [nI_clamp (by omega), g2.1 j h4 h5, oI_pred (fun k hk => hdle j k hk) (by omega)]
                by_cases z : S.1 j = some d
                · exact bs_f z ⟨hk.1 ⟨j, h3, z⟩, hrel M2 f2⟩
                · exact bs_t z (nx fun ⟨j', j1, j2⟩ => by rw [h3] at j1; injection j1 with j1; rw [← j1] at j2; exact z j2)
          -- both, fence by fence
          have key : ∀ e f, f + e = fN n X Y → (∀ K, (∀ M2, Fq [19, 20] [] (upI MR 0 0 0) M2 → RBf n X Y H B S M2 → at_X8_way (nI r) (fun r2 M2 => K = r2 ∧ Rel M1 M2) 1 (nI (d + 1)) (nI f) 0 M2) → wp_X8_way (nI r) MR (fun r2 M2 => K = r2 ∧ Rel M1 M2)) → at_X7_way (nI r) (fun r2 M1 => wp_X8_way (nI r) MR (fun r3 M2 => r2 = r3 ∧ Rel M1 M2)) 1 0 (nI (d + 1)) (nI f) 0 M1 := by
            intro e
            induction e with
            | zero =>
              intro f hf hK
              refine at_X7_way_fold (br_t ?_ (hK _ fun M2 f2 g2 => at_X8_way_fold (br_t ?_ ⟨rfl, hrel M2 f2⟩)))
              · rw [exf, nI_leI (by omega) (by omega)]; omega
              · rw [(RW_fr hw'.2.2.2.2.2.2.1 f2).1.2.1.1, nI_leI (by omega) (by omega)]; omega
            | succ e ih =>
              intro f hf hK
              have nx : ¬ (∃ j, aft n X Y i f = some j ∧ S.1 j = some d) → at_X7_way (nI r) (fun r2 M1 => wp_X8_way (nI r) MR (fun r3 M2 => r2 = r3 ∧ Rel M1 M2)) 2 0 (nI (d + 1)) (nI f) 0 M1 := fun z => by
                refine at_X7_way_fold ?_
                show at_X7_way _ _ 1 0 (nI (d + 1)) (nI f + 1) 0 M1
                rw [nI_1 f]
                exact ih (f + 1) (by omega) fun K hk => hK K fun M2 f2 g2 => rs K f (by omega) M2 f2 g2 ⟨fun w => absurd w z, fun _ => hk M2 f2 g2⟩
              refine at_X7_way_fold (br_f ?_ ?_)
              · rw [exf, nI_leI (by omega) (by omega)]; omega
              · unfold wp_X1_afterTurn
                rw [e9, ix28, nI_clamp (n := i * 28 + f) (by omega), e24x.2.2 i f hi (by omega)]
                refine ⟨vp_in_nI (by omega) (by omega), ?_⟩
                cases ha : aft n X Y i f with
                | none => exact br_t rfl (nx fun ⟨j, j1, _⟩ => by rw [ha] at j1; cases j1)
                | some j =>
                  have hj := cx_lt hw.P hi ha
                  refine br_f (ne9 (by omega)) ⟨vp_in_nI (by omega) (by omega), ?_⟩
                  show (¬ M1.1 29 (nI j).toNatClampNeg = nI (d + 1) - 1 → _) ∧ (M1.1 29 (nI j).toNatClampNeg = nI (d + 1) - 1 → _)
                  rw [nI_clamp (n := j) (by omega), g1.2.1 j hj, oI_pred (fun k hk => hdle j k hk) (by omega)]
                  by_cases z : S.1 j = some d
                  · exact bs_f z (hK _ fun M2 f2 g2 => rs _ f (by omega) M2 f2 g2 ⟨fun _ => rfl, fun w => absurd ⟨j, ha, z⟩ w⟩)
                  · exact bs_t z (nx fun ⟨j', j1, j2⟩ => by rw [ha] at j1; injection j1 with j1; rw [← j1] at j2; exact z j2)
          exact key (fN n X Y) 0 (by omega) (fun K hk => rl K 0 hk)
    · exact br_f (by decide) (at_X8_way_fold (bs_t r0 (rw_noRank (F := aN n X Y H B) (by omega) hw'.ra.2.2.1 (fun z => absurd z hv) (fun _ => br_f (by decide) ⟨rfl, h'⟩))))
/-! far -/
def mxx (v : Nat → Int32) (p : Nat → Bool) : Nat → Int32
  | 0 => 0
  | k + 1 => if p k then (if mxx v p k < v k then v k else mxx v p k) else mxx v p k
theorem mxx_pos (v : Nat → Int32) (p : Nat → Bool) : ∀ k, 0 ≤ (mxx v p k).toInt
  | 0 => by show 0 ≤ (0 : Int32).toInt; decide
  | k + 1 => by
    have ih := mxx_pos v p k
    show 0 ≤ (if p k then (if mxx v p k < v k then v k else mxx v p k) else mxx v p k).toInt
    by_cases h : p k = true
    · rw [if_pos h]
      by_cases g : mxx v p k < v k
      · rw [if_pos g]
        rw [in_lt] at g
        omega
      · rw [if_neg g]; exact ih
    · rw [if_neg h]; exact ih
theorem st_far (h : Rel MX MR) : wp_X7_far MX (fun r M1 => wp_X8_far MR (fun r2 M2 => r = r2 ∧ Rel M1 M2)) := by
  have h' := Rel_thr h
  refine at_X7_far_fold ?_
  rcases Rel_gr h with ⟨x0, r0⟩ | ⟨x0, r0, nx, n, X, Y, H, B, i, L, hnx, h31, hw, hw'⟩
  · exact bs_f x0 (at_X8_far_fold (bs_f r0 ⟨rfl, h'⟩))
  · have hN := hw.a256
    have hc := hw.c
    have hi := hw.il
    have hNc := aN_le (n := n) (X := X) (Y := Y) (H := H) (B := B)
    refine bs_t x0 ?_
    rw [hw.now]
    refine xw_measure hw.P hc hw.xk hw.xa hi hw.ip fun M1 f1 g1 => ?_
    have hno : ∀ j, ap n X Y H B j = false → (bfs n X Y H B i).1 j = none := fun j hj => bfs_no hw.P hi hw.ip hj
    have e22 : M1.1 22 1 = nI (cN n X Y) := by rw [f1.2 22 (by decide)]; exact hw.xk.1
    generalize hS : bfs n X Y H B i = S at g1 hno
    have rl : wp_X8_far MR (fun r2 M2 => mxx (fun k => oI (S.1 k)) (ap n X Y H B) (cN n X Y) = r2 ∧ Rel M1 M2) := by
      refine at_X8_far_fold (bs_t r0 ?_)
      rw [hw'.cut]
      refine rw_rankOf hw.P hc hw'.ra hi hw.ip (rw_measure hw.P hc hw.h28 hw.b28 hw'.2.2.2.2.2.2.1 hi hw.ip fun M2 f2 g2 => ?_)
      rw [hS] at g2
      have hW := RW_fr hw'.2.2.2.2.2.2.1 f2
      have key : ∀ d k, k + d = cN n X Y → at_X8_far (fun r2 M2 => mxx (fun k => oI (S.1 k)) (ap n X Y H B) (cN n X Y) = r2 ∧ Rel M1 M2) 1 (mxx (fun k => oI (S.1 k)) (ap n X Y H B) k) (nI (ark n X Y H B k)) M2 := by
        intro d
        induction d with
        | zero =>
          intro k hk
          rw [show k = cN n X Y by omega]
          refine at_X8_far_fold (br_t ?_ ⟨rfl, Rel_scr h' f1 (Fq_mono (by decide) (by decide) f2)⟩)
          rw [hW.2.2.2.2.1]
          exact (nI_leI (by omega) (by have := ark_le (n := n) (X := X) (Y := Y) (H := H) (B := B) (cN n X Y); omega)).mpr (Nat.le_refl _)
        | succ d ih =>
          intro k hk
          have nx := ih (k + 1) (by omega)
          have e : mxx (fun k => oI (S.1 k)) (ap n X Y H B) (k + 1) = if ap n X Y H B k then (if mxx (fun k => oI (S.1 k)) (ap n X Y H B) k < oI (S.1 k) then oI (S.1 k) else mxx (fun k => oI (S.1 k)) (ap n X Y H B) k) else mxx (fun k => oI (S.1 k)) (ap n X Y H B) k := rfl
          rw [e, ark_succ] at nx
          cases hp : ap n X Y H B k with
          | false =>
            rw [hp] at nx
            exact nx
          | true =>
            rw [hp] at nx
            have hkr := ark_lt_aN (n := n) (X := X) (Y := Y) (H := H) (B := B) (i := k) (by omega) hp
            have nx : at_X8_far (fun r2 M2 => mxx (fun k => oI (S.1 k)) (ap n X Y H B) (cN n X Y) = r2 ∧ Rel M1 M2) 1 (if mxx (fun k => oI (S.1 k)) (ap n X Y H B) k < oI (S.1 k) then oI (S.1 k) else mxx (fun k => oI (S.1 k)) (ap n X Y H B) k) (nI (ark n X Y H B k + 1)) M2 := nx
            rw [← nI_1] at nx
            generalize mxx (fun k => oI (S.1 k)) (ap n X Y H B) k = mk' at nx ⊢
            have v2 : vp_in (nI (ark n X Y H B k)) 2000 := vp_in_nI (by omega) (by omega)
            refine at_X8_far_fold (br_f ?_ ⟨v2, ?_⟩)
            · rw [hW.2.2.2.2.1, nI_leI (by omega) (by omega)]; omega
            · rw [nI_clamp (by omega), g2.1 k (by omega) hp]
              by_cases z : mk' < oI (S.1 k)
              · rw [if_pos z] at nx
                refine br_f ?_ ⟨v2, at_X8_far_fold nx⟩
                rw [in_lt] at z
                rw [in_le]; omega
              · rw [if_neg z] at nx
                refine br_t ?_ (at_X8_far_fold nx)
                rw [in_lt] at z
                rw [in_le]; omega
      exact key (cN n X Y) 0 (by omega)
    have key : ∀ d k, k + d = cN n X Y → at_X7_far (fun r2 M1 => wp_X8_far MR (fun r3 M2 => r2 = r3 ∧ Rel M1 M2)) 1 (mxx (fun k => oI (S.1 k)) (ap n X Y H B) k) (nI k) M1 := by
      intro d
      induction d with
      | zero =>
        intro k hk
        rw [show k = cN n X Y by omega]
        refine at_X7_far_fold (br_t ?_ rl)
        rw [e22]; exact (nI_leI (by omega) (by omega)).mpr (Nat.le_refl _)
      | succ d ih =>
        intro k hk
        have nx := ih (k + 1) (by omega)
        have e : mxx (fun k => oI (S.1 k)) (ap n X Y H B) (k + 1) = if ap n X Y H B k then (if mxx (fun k => oI (S.1 k)) (ap n X Y H B) k < oI (S.1 k) then oI (S.1 k) else mxx (fun k => oI (S.1 k)) (ap n X Y H B) k) else mxx (fun k => oI (S.1 k)) (ap n X Y H B) k := rfl
        rw [e, ← nI_1] at nx
        refine at_X7_far_fold (br_f ?_ ⟨vp_in_nI (by omega) (by omega), nm_r ?_ nx⟩)
        · rw [e22, nI_leI (by omega) (by omega)]; omega
        · rw [nI_clamp (by omega), g1.2.1 k (by omega)]
          cases hp : ap n X Y H B k with
          | true => rfl
          | false =>
            rw [hno k hp]
            have := mxx_pos (fun k => oI (S.1 k)) (ap n X Y H B) k
            rw [if_neg]
            · rfl
            · rw [in_lt]
              show ¬ _ < (-9 : Int32).toInt
              rw [show (-9 : Int32).toInt = -9 by decide]
              omega
    exact key (cN n X Y) 0 (by omega)
end AP
theorem all_steps : AllSteps Rel := fun MX MR h => ⟨st_sheet h, st_tear h, st_put h, st_at h, st_post h, st_take h, st_clear h, st_lay h, st_fence h, st_end h, st_kind h, st_weightAs h, st_crosses h, st_tell h, st_weigh h, st_cutting h, st_has h, st_thirds h, st_third h, st_degree h, st_turns h, st_turn h, st_back h, st_count h, st_rank h, st_of h, st_go h, st_sure h, st_best h, st_bestRank h, st_apart h, st_way h, st_far h, st_crossings h, st_total h⟩
