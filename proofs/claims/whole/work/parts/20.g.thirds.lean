/-! ===== DEGREE, THIRDS, THIRD ===== -/
theorem ct_or1 {m f T : Nat} (hm : m.testBit f = false) : ∀ N, ct ((m ||| 1 <<< f) &&& T).testBit N = ct (m &&& T).testBit N + (if f < N then (if T.testBit f then 1 else 0) else 0)
  | 0 => by rw [if_neg (Nat.not_lt_zero f)]; rfl
  | N + 1 => by
    have ih := ct_or1 (T := T) hm N
    rw [ct_succ, ct_succ, ih, Nat.testBit_and, Nat.testBit_and, tb_set]
    by_cases e : f = N
    · subst e
      rw [hm, decide_eq_true rfl, if_neg (Nat.lt_irrefl f), if_pos (Nat.lt_succ_self f)]
      cases T.testBit f <;> simp
    · rw [decide_eq_false e, Bool.or_false]
      by_cases g : f < N
      · rw [if_pos g, if_pos (show f < N + 1 by omega)]; omega
      · rw [if_neg g, if_neg (show ¬ f < N + 1 by omega)]; omega
section DG
variable (n : Nat) (X Y : Nat → Int)
/-- the fences at a post, below k -/
noncomputable def fmk (p : Nat) : Nat → Nat
  | 0 => 0
  | k + 1 => match fbt n X Y p k with
    | some f => fmk p k ||| 1 <<< f
    | none => fmk p k
end DG
section DG2
variable {n : Nat} {X Y : Nat → Int}
theorem fmk_tb {p f : Nat} : ∀ {k : Nat}, (fmk n X Y p k).testBit f = true → ∃ q, q < k ∧ fbt n X Y p q = some f
  | 0, h => by exact absurd h (by show ¬ (0 : Nat).testBit f = true; simp)
  | k + 1, h => by
    have e : fmk n X Y p (k + 1) = match fbt n X Y p k with
      | some f => fmk n X Y p k ||| 1 <<< f
      | none => fmk n X Y p k := rfl
    rw [e] at h
    cases hb : fbt n X Y p k with
    | none =>
      rw [hb] at h
      obtain ⟨q, q1, q2⟩ := fmk_tb (k := k) h
      exact ⟨q, by omega, q2⟩
    | some g =>
      rw [hb] at h
      have h : (fmk n X Y p k ||| 1 <<< g).testBit f = true := h
      rw [tb_set, Bool.or_eq_true, decide_eq_true_eq] at h
      rcases h with h | h
      · obtain ⟨q, q1, q2⟩ := fmk_tb (k := k) h
        exact ⟨q, by omega, q2⟩
      · exact ⟨k, by omega, by rw [hb, h]⟩
theorem fmk_lt (hn : n ≤ 8) (p : Nat) (k : Nat) : fmk n X Y p k < 2 ^ 28 := bits_lt (N := 28) (fun i hi => by
  obtain ⟨q, q1, q2⟩ := fmk_tb hi
  exact fbt_lt28 hn q2) (Nat.le_refl _)
theorem fmk_ct (hn : n ≤ 8) {p T : Nat} : ∀ k, ct (fmk n X Y p k &&& T).testBit 28 = ct (fun q => hsf n X Y T p q) k
  | 0 => by
    show ct ((0 : Nat) &&& T).testBit 28 = 0
    exact ct_none fun k _ => by simp
  | k + 1 => by
    have ih := fmk_ct hn (p := p) (T := T) k
    rw [ct_succ (fun q => hsf n X Y T p q) k, ← ih]
    have e : fmk n X Y p (k + 1) = match fbt n X Y p k with
      | some f => fmk n X Y p k ||| 1 <<< f
      | none => fmk n X Y p k := rfl
    rw [e]
    unfold hsf
    cases hb : fbt n X Y p k with
    | none => simp
    | some f =>
      have hm : (fmk n X Y p k).testBit f = false := by
        cases z : (fmk n X Y p k).testBit f with
        | false => rfl
        | true =>
          obtain ⟨q, q1, q2⟩ := fmk_tb z
          have a := (fbt_some hb).2.2.2.2.2
          have b := (fbt_some q2).2.2.2.2.2
          omega
      show ct ((fmk n X Y p k ||| 1 <<< f) &&& T).testBit 28 = _
      rw [ct_or1 hm, if_pos (fbt_lt28 hn hb)]
end DG2
theorem st_degree {MX MR : Mem} (h : Rel MX MR) (a0 : Int32) : wp_X7_degree a0 MX (fun r M1 => wp_X8_degree a0 MR (fun r2 M2 => r = r2 ∧ Rel M1 M2)) := by
  have h' := Rel_thr h
  rcases Rel_gr h with ⟨x0, r0⟩ | ⟨x0, r0, nx, n, X, Y, H, B, i, L, hnx, h31, hw, hw'⟩
  · exact bs_f x0 (at_X8_degree_fold (bs_f r0 ⟨rfl, h'⟩))
  · have hn := hw.n8
    have h28 := hw.f28
    have i28 := hw.i28
    refine bs_t x0 (xw_isPost (F := n) (by omega) hw.xf.1.1 (fun hv => ?_) (fun hv => ?_))
    · obtain ⟨p, hp, rfl⟩ := inr_nI hv
      refine bs_t (by decide) ?_
      have key : ∀ (R : Int32 → Mem → Prop), R (nI (fmk n X Y p n)) MX → ∀ d k, k + d = n → at_X2_fencesAt (nI p) R 1 (nI (fmk n X Y p k)) (nI k) 0 MX := by
        intro R hR d
        induction d with
        | zero =>
          intro k hk
          rw [show k = n by omega]
          refine at_X2_fencesAt_fold (br_t ?_ hR)
          rw [hw.xf.1.1]; exact (nI_leI (by omega) (by omega)).mpr (Nat.le_refl _)
        | succ d ih =>
          intro k hk
          have nx := ih (k + 1) (by omega)
          have e : fmk n X Y p (k + 1) = match fbt n X Y p k with
            | some f => fmk n X Y p k ||| 1 <<< f
            | none => fmk n X Y p k := rfl
          rw [e, ← nI_1] at nx
          refine at_X2_fencesAt_fold (br_f ?_ (xw_between hw.P hw.xf.2.2.1 hp (by omega) ?_))
          · rw [hw.xf.1.1, nI_leI (by omega) (by omega)]; omega
          · cases hb : fbt n X Y p k with
            | none =>
              rw [hb] at nx
              exact br_t rfl (at_X2_fencesAt_fold nx)
            | some f =>
              have f28 := fbt_lt28 hn hb
              rw [hb] at nx
              have nx : at_X2_fencesAt (nI p) R 1 (nI (fmk n X Y p k ||| 1 <<< f)) (nI k + 1) 0 MX := nx
              refine br_f (ne9 (by omega)) (at_X2_fencesAt_fold ?_)
              show at_X2_fencesAt (nI p) R 1 (nI (fmk n X Y p k) ||| ((1 : Int32) <<< (nI f &&& 31))) (nI k + 1) 0 MX
              rw [nI_shl (by omega), nI_or]
              exact nx
      refine at_X2_fencesAt_fold (key _ (xw_now hw ?_) n 0 (by omega))
      rw [nI_and]
      refine x_pop (and_lt (fmk_lt hn p n)) ?_
      rw [fmk_ct hn]
      refine at_X8_degree_fold (bs_t r0 (rw_inp (F := n) (by omega) hw'.rf.1.1 (fun _ => bs_t (by decide) ?_) (fun z => absurd hv z)))
      have key2 : ∀ d k, k + d = n → at_X8_degree (nI p) (fun r2 M2 => nI (ct (fun q => hsf n X Y (cg n X Y i) p q) n) = r2 ∧ Rel MX M2) 1 (nI (ct (fun q => hsf n X Y (cg n X Y i) p q) k)) (nI k) (upI MR 0 0 0) := by
        intro d
        induction d with
        | zero =>
          intro k hk
          rw [show k = n by omega]
          refine at_X8_degree_fold (br_t ?_ ⟨rfl, h'⟩)
          rw [hw'.rf.1.1]; exact (nI_leI (by omega) (by omega)).mpr (Nat.le_refl _)
        | succ d ih =>
          intro k hk
          have nx := ih (k + 1) (by omega)
          rw [← nI_1, ct_succ, ← nI_b] at nx
          refine at_X8_degree_fold (br_f ?_ ?_)
          · rw [hw'.rf.1.1, nI_leI (by omega) (by omega)]; omega
          · rw [hw'.cut]
            refine rw_hasFence hw.P hw'.rf.2.2.1 i28 hp (by omega) ?_
            cases hb : hsf n X Y (cg n X Y i) p k with
            | false =>
              simp only [hb] at nx
              exact br_t rfl (at_X8_degree_fold nx)
            | true =>
              simp only [hb] at nx
              exact br_f (by decide) (at_X8_degree_fold nx)
      exact key2 n 0 (by omega)
    · refine bs_f rfl (at_X8_degree_fold (bs_t r0 (rw_inp (F := n) (by omega) hw'.rf.1.1 (fun z => absurd z hv) (fun _ => bs_f rfl ⟨rfl, h'⟩))))
/-! the thirds, in their order -/
section TL
variable (n : Nat) (X Y : Nat → Int) (T : Nat)
noncomputable def tl3 (a b : Nat) : Nat → List (Nat × Nat × Nat)
  | 0 => []
  | c + 1 => tl3 a b c ++ (if b < c ∧ thr n X Y T a b c = true then [(a, b, c)] else [])
noncomputable def tl2 (a : Nat) : Nat → List (Nat × Nat × Nat)
  | 0 => []
  | b + 1 => tl2 a b ++ (if a < b then tl3 n X Y T a b n else [])
noncomputable def tl1 : Nat → List (Nat × Nat × Nat)
  | 0 => []
  | a + 1 => tl1 a ++ tl2 n X Y T a n
noncomputable def tll : List (Nat × Nat × Nat) := tl1 n X Y T n
noncomputable def tpl : List (Nat × Nat) → List (Nat × Nat × Nat)
  | [] => []
  | p :: L => tl3 n X Y T p.1 p.2 n ++ tpl L
end TL
section TL2
variable {n : Nat} {X Y : Nat → Int} {T : Nat}
theorem tl3_nil {a b : Nat} : ∀ {c : Nat}, c ≤ b + 1 → tl3 n X Y T a b c = []
  | 0, _ => rfl
  | c + 1, h => by
    show tl3 n X Y T a b c ++ _ = []
    rw [tl3_nil (c := c) (by omega), if_neg (fun z => by omega)]; rfl
theorem tl3_len (a b : Nat) : ∀ c, (tl3 n X Y T a b c).length ≤ c - (b + 1)
  | 0 => Nat.zero_le _
  | c + 1 => by
    have ih := tl3_len a b c
    show (tl3 n X Y T a b c ++ _).length ≤ _
    rw [List.length_append]
    by_cases h : b < c ∧ thr n X Y T a b c = true
    · rw [if_pos h]; show _ + 1 ≤ _; omega
    · rw [if_neg h]; show _ + 0 ≤ _; omega
theorem tl2_nil {a : Nat} : ∀ {b : Nat}, b ≤ a + 1 → tl2 n X Y T a b = []
  | 0, _ => rfl
  | b + 1, h => by
    show tl2 n X Y T a b ++ _ = []
    rw [tl2_nil (b := b) (by omega), if_neg (fun z => by omega)]; rfl
theorem tl2_len {a : Nat} : ∀ {b : Nat}, a + 1 ≤ b → b ≤ n → (tl2 n X Y T a b).length + tri (n - b) ≤ tri (n - (a + 1))
  | 0, h, _ => by omega
  | b + 1, h, hb => by
    rcases Nat.lt_or_ge a b with g | g
    · have ih := tl2_len (a := a) (b := b) (by omega) (by omega)
      have h3 := tl3_len (n := n) (X := X) (Y := Y) (T := T) a b n
      obtain ⟨d, hd⟩ : ∃ d, n - b = d + 1 := ⟨n - b - 1, by omega⟩
      rw [hd] at ih
      have e : tri (d + 1) = tri d + d := rfl
      show (tl2 n X Y T a b ++ _).length + _ ≤ _
      rw [List.length_append, if_pos g, show n - (b + 1) = d by omega]
      omega
    · rw [tl2_nil (by omega), show b = a by omega]
      show 0 + _ ≤ _
      omega
def tet : Nat → Nat
  | 0 => 0
  | k + 1 => tet k + tri k
theorem tl1_len : ∀ {a : Nat}, a ≤ n → (tl1 n X Y T a).length + tet (n - a) ≤ tet n
  | 0, _ => by show 0 + tet n ≤ tet n; omega
  | a + 1, h => by
    have ih := tl1_len (a := a) (by omega)
    have h2 := tl2_len (n := n) (X := X) (Y := Y) (T := T) (a := a) (b := n) (by omega) (Nat.le_refl n)
    obtain ⟨d, hd⟩ : ∃ d, n - a = d + 1 := ⟨n - a - 1, by omega⟩
    rw [hd] at ih
    have e : tet (d + 1) = tet d + tri d := rfl
    show (tl1 n X Y T a ++ tl2 n X Y T a n).length + _ ≤ _
    rw [List.length_append, show n - (a + 1) = d by omega]
    rw [show n - (a + 1) = d by omega] at h2
    omega
theorem tet56 : ∀ n, n ≤ 8 → tet n ≤ 56 := by decide
theorem tl2_pre (a : Nat) {b b' : Nat} (h : b ≤ b') : ∃ t, tl2 n X Y T a b' = tl2 n X Y T a b ++ t := by
  induction b' with
  | zero => exact ⟨[], by rw [show b = 0 by omega]; rfl⟩
  | succ k ih =>
    rcases Nat.lt_or_ge k b with g | g
    · exact ⟨[], by rw [show b = k + 1 by omega, List.append_nil]⟩
    · obtain ⟨t, ht⟩ := ih g
      exact ⟨_, by show tl2 n X Y T a k ++ _ = _; rw [ht, List.append_assoc]⟩
theorem tl3_pre (a b : Nat) {c c' : Nat} (h : c ≤ c') : ∃ t, tl3 n X Y T a b c' = tl3 n X Y T a b c ++ t := by
  induction c' with
  | zero => exact ⟨[], by rw [show c = 0 by omega]; rfl⟩
  | succ k ih =>
    rcases Nat.lt_or_ge k c with g | g
    · exact ⟨[], by rw [show c = k + 1 by omega, List.append_nil]⟩
    · obtain ⟨t, ht⟩ := ih g
      exact ⟨_, by show tl3 n X Y T a b k ++ _ = _; rw [ht, List.append_assoc]⟩
theorem tl1_pre {a a' : Nat} (h : a ≤ a') : ∃ t, tl1 n X Y T a' = tl1 n X Y T a ++ t := by
  induction a' with
  | zero => exact ⟨[], by rw [show a = 0 by omega]; rfl⟩
  | succ k ih =>
    rcases Nat.lt_or_ge k a with g | g
    · exact ⟨[], by rw [show a = k + 1 by omega, List.append_nil]⟩
    · obtain ⟨t, ht⟩ := ih g
      exact ⟨_, by show tl1 n X Y T k ++ _ = _; rw [ht, List.append_assoc]⟩
theorem tpl_app : ∀ L1 L2 : List (Nat × Nat), tpl n X Y T (L1 ++ L2) = tpl n X Y T L1 ++ tpl n X Y T L2
  | [], _ => rfl
  | p :: L1, L2 => by
    show tl3 n X Y T p.1 p.2 n ++ tpl n X Y T (L1 ++ L2) = (tl3 n X Y T p.1 p.2 n ++ tpl n X Y T L1) ++ tpl n X Y T L2
    rw [tpl_app L1 L2, List.append_assoc]
theorem tl3_no {a b : Nat} (h : opn n X Y a b = false) (hab : a < b) : ∀ c, tl3 n X Y T a b c = []
  | 0 => rfl
  | c + 1 => by
    show tl3 n X Y T a b c ++ _ = []
    rw [tl3_no h hab c, if_neg]
    · rfl
    · rintro ⟨-, ht⟩
      obtain ⟨f, hf, -⟩ := hsf_iff.mp (thr_iff.mp ht).2.1
      unfold fbt fb0 at hf
      rw [if_pos hab, if_neg (fun z => by rw [h] at z; exact absurd z.2 Bool.false_ne_true)] at hf
      cases hf
theorem tpl_row (a : Nat) : ∀ b, tpl n X Y T (frow n X Y a b) = tl2 n X Y T a b
  | 0 => rfl
  | b + 1 => by
    rw [frow_succ, tpl_app, tpl_row a b]
    show _ = tl2 n X Y T a b ++ (if a < b then tl3 n X Y T a b n else [])
    congr 1
    by_cases hab : a < b
    · rw [if_pos hab]
      cases ho : opn n X Y a b with
      | true =>
        rw [if_pos ⟨hab, rfl⟩]
        show tl3 n X Y T a b n ++ [] = _
        rw [List.append_nil]
      | false =>
        rw [if_neg (fun z => absurd z.2 Bool.false_ne_true), tl3_no ho hab]
        rfl
    · rw [if_neg hab, if_neg (fun z => hab z.1)]; rfl
theorem tpl_rows : ∀ a, tpl n X Y T (frows n X Y a) = tl1 n X Y T a
  | 0 => rfl
  | a + 1 => by
    show tpl n X Y T (frows n X Y a ++ frow n X Y a n) = tl1 n X Y T a ++ tl2 n X Y T a n
    rw [tpl_app, tpl_rows a, tpl_row]
/-- up to fence f -/
noncomputable def tpf (n : Nat) (X Y : Nat → Int) (T f : Nat) : List (Nat × Nat × Nat) := tpl n X Y T ((frows n X Y n).take f)
theorem tpf_0 : tpf n X Y T 0 = [] := rfl
theorem tpf_end : tpf n X Y T (fN n X Y) = tll n X Y T := by
  unfold tpf fN tll
  rw [List.take_length, tpl_rows]
theorem tpf_succ {f : Nat} (hf : f < fN n X Y) : tpf n X Y T (f + 1) = tpf n X Y T f ++ tl3 n X Y T (flo n X Y f) (fhi n X Y f) n := by
  unfold tpf
  have e : (frows n X Y n).take (f + 1) = (frows n X Y n).take f ++ [(frows n X Y n).getD f (0, 0)] := by
    rw [List.take_succ, List.getD_eq_getElem?_getD, List.getElem?_eq_getElem hf]
    rfl
  rw [e, tpl_app]
  show _ ++ (tl3 n X Y T (flo n X Y f) (fhi n X Y f) n ++ []) = _
  rw [List.append_nil]
end TL2
section TH
variable {n : Nat} {X Y : Nat → Int} {M : Mem} {T : Nat}
theorem tll_len (hn : n ≤ 8) : (tll n X Y T).length ≤ 56 := by
  have h := tl1_len (n := n) (X := X) (Y := Y) (T := T) (a := n) (Nat.le_refl n)
  have := tet56 n hn
  unfold tll
  omega
/-- the reference's thirds -/
def RT (L : List (Nat × Nat × Nat)) (M : Mem) : Prop := M.1 0 27 = nI L.length ∧ ∀ k c, L[k]? = some c → M.1 16 k = nI c.1 ∧ M.1 17 k = nI c.2.1 ∧ M.1 18 k = nI c.2.2
theorem rw_findThirds (hP : Pts n X Y) (hF : RF n X Y M) (hT : T < 2 ^ 28) {Q : Mem → Prop} (q : ∀ M', Fq [16, 17, 18] [27] M M' → RT (tll n X Y T) M' → Q M') : wp_X8_findThirds (nI T) M Q := by
  have hn := hP.1
  have fr : ∀ {M'}, Fq [16, 17, 18] [27] M M' → RF n X Y M' := fun f => RF_fr hF (f.2.2 9 (by decide)) (f.2.2 12 (by decide)) (f.2.1 6 (by decide) (by decide)) (f.2.1 7 (by decide) (by decide)) (f.2.1 8 (by decide) (by decide)) (f.2.1 9 (by decide) (by decide)) (f.2.1 10 (by decide) (by decide)) (f.2.1 11 (by decide) (by decide))
  have bound : ∀ a b c, a < n → b < n → a < b → c ≤ n → (tl1 n X Y T a ++ tl2 n X Y T a b ++ tl3 n X Y T a b c).length ≤ 56 := by
    intro a b c ha hb hab hc
    obtain ⟨t1, e1⟩ := tl1_pre (n := n) (X := X) (Y := Y) (T := T) (show a + 1 ≤ n by omega)
    obtain ⟨t2, e2⟩ := tl2_pre (n := n) (X := X) (Y := Y) (T := T) a (show b + 1 ≤ n by omega)
    obtain ⟨t3, e3⟩ := tl3_pre (n := n) (X := X) (Y := Y) (T := T) a b hc
    have h := tll_len (n := n) (X := X) (Y := Y) (T := T) hn
    unfold tll at h
    have f1 : tl1 n X Y T (a + 1) = tl1 n X Y T a ++ tl2 n X Y T a n := rfl
    have f2 : tl2 n X Y T a (b + 1) = tl2 n X Y T a b ++ (if a < b then tl3 n X Y T a b n else []) := rfl
    rw [e1, f1, e2, f2, if_pos hab, e3] at h
    simp only [List.length_append] at h ⊢
    omega
  have l3 : ∀ a b, a < n → b < n → a < b → (∀ M', Fq [16, 17, 18] [27] M M' → RT (tl1 n X Y T a ++ tl2 n X Y T a b ++ tl3 n X Y T a b n) M' → at_X8_findThirds (nI T) Q 2 (nI a) (nI (b + 1)) 0 M') → ∀ d c M', c + d = n → b < c → Fq [16, 17, 18] [27] M M' → RT (tl1 n X Y T a ++ tl2 n X Y T a b ++ tl3 n X Y T a b c) M' → at_X8_findThirds (nI T) Q 3 (nI a) (nI b) (nI c) M' := by
    intro a b ha hb hab kk d
    induction d with
    | zero =>
      intro c M' hc hbc f1 g1
      refine at_X8_findThirds_fold (br_t ?_ ?_)
      · rw [(fr f1).1.1]; exact (nI_leI (by omega) (by omega)).mpr (by omega)
      · rw [nI_1]
        rw [show c = n by omega] at g1
        exact kk M' f1 g1
    | succ d ih =>
      intro c M' hc hbc f1 g1
      have e : tl3 n X Y T a b (c + 1) = tl3 n X Y T a b c ++ (if b < c ∧ thr n X Y T a b c = true then [(a, b, c)] else []) := rfl
      have hle := bound a b c ha hb hab (by omega)
      refine at_X8_findThirds_fold (br_f ?_ (rw_isThird hP (fr f1).1 (fr f1).2.2.1 hT ha hb (by omega) ?_))
      · rw [(fr f1).1.1, nI_leI (by omega) (by omega)]; omega
      · cases ht : thr n X Y T a b c with
        | false =>
          refine br_t rfl (at_X8_findThirds_fold ?_)
          show at_X8_findThirds (nI T) Q 3 (nI a) (nI b) (nI c + 1) M'
          rw [nI_1]
          refine ih (c + 1) M' (by omega) (by omega) f1 ?_
          rw [e, if_neg (fun z => by rw [ht] at z; exact absurd z.2 Bool.false_ne_true), List.append_nil]
          exact g1
        | true =>
          obtain ⟨g0, g2⟩ := g1
          rw [if_pos ⟨hbc, ht⟩] at e
          refine br_f (by decide) ?_
          rw [g0]
          generalize hLL : tl1 n X Y T a ++ tl2 n X Y T a b ++ tl3 n X Y T a b c = LL at g0 g2 hle ⊢
          have vl : vp_in (nI LL.length) 60 := vp_in_nI (by omega) (by omega)
          refine ⟨vl, ?_⟩
          rw [show (upI M' 16 (nI LL.length).toNatClampNeg (nI a)).1 0 27 = nI LL.length from g0]
          refine ⟨vl, ?_⟩
          rw [show (upI (upI M' 16 (nI LL.length).toNatClampNeg (nI a)) 17 (nI LL.length).toNatClampNeg (nI b)).1 0 27 = nI LL.length from g0]
          refine ⟨vl, at_X8_findThirds_fold ?_⟩
          show at_X8_findThirds (nI T) Q 3 (nI a) (nI b) (nI c + 1) _
          rw [show (upI (upI (upI M' 16 (nI LL.length).toNatClampNeg (nI a)) 17 (nI LL.length).toNatClampNeg (nI b)) 18 (nI LL.length).toNatClampNeg (nI c)).1 0 27 = nI LL.length from g0, nI_1, nI_1, nI_clamp (by omega)]
          refine ih (c + 1) _ (by omega) (by omega) (Fq_up0 (Fq_up (Fq_up (Fq_up f1 (by decide) (by decide) _ _) (by decide) (by decide) _ _) (by decide) (by decide) _ _) (by decide) _) ?_
          rw [e, ← List.append_assoc, hLL]
          refine ⟨by rw [List.length_append]; exact upI_same .., fun k d hd => ?_⟩
          rcases get_snoc hd with h | ⟨h1, h2⟩
          · have hk := get_lt h
            obtain ⟨p1, p2, p3⟩ := g2 k d h
            refine ⟨?_, ?_, ?_⟩
            · rw [upI_ne (by decide), upI_ne (by decide), upI_ne (by decide), upI_oth (by omega)]; exact p1
            · rw [upI_ne (by decide), upI_ne (by decide), upI_oth (by omega), upI_ne (by decide)]; exact p2
            · rw [upI_ne (by decide), upI_oth (by omega), upI_ne (by decide), upI_ne (by decide)]; exact p3
          · rw [h1, h2]
            refine ⟨?_, ?_, ?_⟩
            · rw [upI_ne (by decide), upI_ne (by decide), upI_ne (by decide), upI_same]
            · rw [upI_ne (by decide), upI_ne (by decide), upI_same]
            · rw [upI_ne (by decide), upI_same]
  have l2 : ∀ a, a < n → (∀ M', Fq [16, 17, 18] [27] M M' → RT (tl1 n X Y T (a + 1)) M' → at_X8_findThirds (nI T) Q 1 (nI (a + 1)) 0 0 M') → ∀ d b M', b + d = n → a < b → Fq [16, 17, 18] [27] M M' → RT (tl1 n X Y T a ++ tl2 n X Y T a b) M' → at_X8_findThirds (nI T) Q 2 (nI a) (nI b) 0 M' := by
    intro a ha kk d
    induction d with
    | zero =>
      intro b M' hb hab f1 g1
      refine at_X8_findThirds_fold (br_t ?_ ?_)
      · rw [(fr f1).1.1]; exact (nI_leI (by omega) (by omega)).mpr (by omega)
      · rw [nI_1]
        rw [show b = n by omega] at g1
        exact kk M' f1 g1
    | succ d ih =>
      intro b M' hb hab f1 g1
      have e : tl2 n X Y T a (b + 1) = tl2 n X Y T a b ++ (if a < b then tl3 n X Y T a b n else []) := rfl
      rw [if_pos hab] at e
      refine at_X8_findThirds_fold (br_f ?_ ?_)
      · rw [(fr f1).1.1, nI_leI (by omega) (by omega)]; omega
      · rw [nI_1]
        refine l3 a b ha (by omega) hab (fun M1 f2 g2 => ih (b + 1) M1 (by omega) (by omega) f2 ?_) (n - (b + 1)) (b + 1) M' (by omega) (by omega) f1 ?_
        · rw [e, ← List.append_assoc]; exact g2
        · rw [tl3_nil (Nat.le_refl _), List.append_nil]; exact g1
  have l1 : ∀ d a M', a + d = n → Fq [16, 17, 18] [27] M M' → RT (tl1 n X Y T a) M' → at_X8_findThirds (nI T) Q 1 (nI a) 0 0 M' := by
    intro d
    induction d with
    | zero =>
      intro a M' ha f1 g1
      refine at_X8_findThirds_fold (br_t ?_ ?_)
      · rw [(fr f1).1.1]; exact (nI_leI (by omega) (by omega)).mpr (by omega)
      · rw [show a = n by omega] at g1
        exact q M' f1 g1
    | succ d ih =>
      intro a M' ha f1 g1
      refine at_X8_findThirds_fold (br_f ?_ ?_)
      · rw [(fr f1).1.1, nI_leI (by omega) (by omega)]; omega
      · rw [nI_1]
        refine l2 a (by omega) (fun M1 f2 g2 => ih (a + 1) M1 (by omega) f2 g2) (n - (a + 1)) (a + 1) M' (by omega) (by omega) f1 ?_
        rw [tl2_nil (Nat.le_refl _), List.append_nil]; exact g1
  exact at_X8_findThirds_fold (l1 n 0 _ (by omega) (Fq_up0 (Fq_refl _ _ _) (by decide) _) ⟨upI_same .., fun k c z => (by cases z)⟩)
theorem xw_thirdsOf (hP : Pts n X Y) (hF : XF n X Y M) {Q : Int32 → Mem → Prop} (q : Q (nI (tll n X Y T).length) M) : wp_X2_thirdsOf (nI T) M Q := by
  have hn := hP.1
  have h28 := hP.f28
  obtain ⟨hG, hL, hB, -, -, hS⟩ := hF
  have l2 : ∀ f, f < fN n X Y → at_X2_thirdsOf (nI T) Q 1 (nI (tpf n X Y T (f + 1)).length) (nI (f + 1)) 0 M → ∀ d c, c + d = n → fhi n X Y f < c → at_X2_thirdsOf (nI T) Q 2 (nI (tpf n X Y T f ++ tl3 n X Y T (flo n X Y f) (fhi n X Y f) c).length) (nI f) (nI c) M := by
    intro f hf kk d
    induction d with
    | zero =>
      intro c hc hbc
      refine at_X2_thirdsOf_fold (br_t ?_ ?_)
      · rw [hG.1]; exact (nI_leI (by omega) (by omega)).mpr (by omega)
      · rw [nI_1, show c = n by omega, ← tpf_succ hf]
        exact kk
    | succ d ih =>
      intro c hc hbc
      have nx := ih (c + 1) (by omega) (by omega)
      have e : tl3 n X Y T (flo n X Y f) (fhi n X Y f) (c + 1) = tl3 n X Y T (flo n X Y f) (fhi n X Y f) c ++ (if fhi n X Y f < c ∧ thr n X Y T (flo n X Y f) (fhi n X Y f) c = true then [(flo n X Y f, fhi n X Y f, c)] else []) := rfl
      rw [e, ← nI_1] at nx
      refine at_X2_thirdsOf_fold (br_f ?_ (xw_isThird hP hS hf (by omega) ?_))
      · rw [hG.1, nI_leI (by omega) (by omega)]; omega
      · cases ht : thr n X Y T (flo n X Y f) (fhi n X Y f) c with
        | false =>
          rw [if_neg (fun z => by rw [ht] at z; exact absurd z.2 Bool.false_ne_true), List.append_nil] at nx
          exact br_t rfl (at_X2_thirdsOf_fold nx)
        | true =>
          rw [if_pos ⟨hbc, ht⟩, ← List.append_assoc, List.length_append] at nx
          refine br_f (by decide) (at_X2_thirdsOf_fold ?_)
          show at_X2_thirdsOf (nI T) Q 2 (nI _ + 1) (nI f) (nI c + 1) M
          rw [nI_1 (tpf n X Y T f ++ tl3 n X Y T (flo n X Y f) (fhi n X Y f) c).length]
          exact nx
  have l1 : ∀ d f, f + d = fN n X Y → at_X2_thirdsOf (nI T) Q 1 (nI (tpf n X Y T f).length) (nI f) 0 M := by
    intro d
    induction d with
    | zero =>
      intro f hf
      rw [show f = fN n X Y by omega, tpf_end]
      refine at_X2_thirdsOf_fold (br_t ?_ q)
      rw [hL.1]; exact (nI_leI (by omega) (by omega)).mpr (Nat.le_refl _)
    | succ d ih =>
      intro f hf
      have hhi := hP.hi (f := f) (by omega)
      refine at_X2_thirdsOf_fold (br_f ?_ ⟨vp_in_nI (by omega) (by omega), ?_⟩)
      · rw [hL.1, nI_leI (by omega) (by omega)]; omega
      · rw [nI_clamp (by omega), (hL.2 f (by omega)).2, nI_1]
        have := l2 f (by omega) (ih (f + 1) (by omega)) (n - (fhi n X Y f + 1)) (fhi n X Y f + 1) (by omega) (by omega)
        rw [tl3_nil (Nat.le_refl _), List.append_nil] at this
        exact this
  exact at_X2_thirdsOf_fold (l1 (fN n X Y) 0 (by omega))
/-- a post of a third -/
def tcm (what : Int32) (c : Nat × Nat × Nat) : Int32 := if what = 0 then nI c.1 else if what = 1 then nI c.2.1 else nI c.2.2
theorem xw_cornerOf (hP : Pts n X Y) (hF : XF n X Y M) {v w : Int32} {Q : Int32 → Mem → Prop} (q1 : ∀ j c, v = nI j → (tll n X Y T)[j]? = some c → Q (tcm w c) M) (q0 : (∀ j, j < (tll n X Y T).length → ¬ v = nI j) → Q (-9) M) : wp_X2_cornerOf (nI T) v w M Q := by
  have hn := hP.1
  have h28 := hP.f28
  have h56 := tll_len (n := n) (X := X) (Y := Y) (T := T) hn
  obtain ⟨hG, hL, hB, -, -, hS⟩ := hF
  have l2 : ∀ f, f < fN n X Y → (∃ t, tll n X Y T = tpf n X Y T (f + 1) ++ t) → ((∀ j, j < (tpf n X Y T (f + 1)).length → ¬ v = nI j) → at_X2_cornerOf (nI T) v w Q 1 (nI (tpf n X Y T (f + 1)).length) (nI (f + 1)) 0 M) → ∀ d c, c + d = n → fhi n X Y f < c → (∀ j, j < (tpf n X Y T f ++ tl3 n X Y T (flo n X Y f) (fhi n X Y f) c).length → ¬ v = nI j) → at_X2_cornerOf (nI T) v w Q 2 (nI (tpf n X Y T f ++ tl3 n X Y T (flo n X Y f) (fhi n X Y f) c).length) (nI f) (nI c) M := by
    intro f hf ⟨t, ht⟩ kk d
    induction d with
    | zero =>
      intro c hc hbc hno
      refine at_X2_cornerOf_fold (br_t ?_ ?_)
      · rw [hG.1]; exact (nI_leI (by omega) (by omega)).mpr (by omega)
      · rw [show c = n by omega, ← tpf_succ hf] at hno ⊢
        rw [nI_1]
        exact kk hno
    | succ d ih =>
      intro c hc hbc hno
      have nx := ih (c + 1) (by omega) (by omega)
      have e : tl3 n X Y T (flo n X Y f) (fhi n X Y f) (c + 1) = tl3 n X Y T (flo n X Y f) (fhi n X Y f) c ++ (if fhi n X Y f < c ∧ thr n X Y T (flo n X Y f) (fhi n X Y f) c = true then [(flo n X Y f, fhi n X Y f, c)] else []) := rfl
      obtain ⟨t3, e3⟩ := tl3_pre (n := n) (X := X) (Y := Y) (T := T) (flo n X Y f) (fhi n X Y f) (show c + 1 ≤ n by omega)
      rw [tpf_succ hf, e3] at ht
      rw [e] at nx ht
      refine at_X2_cornerOf_fold (br_f ?_ (xw_isThird hP hS hf (by omega) ?_))
      · rw [hG.1, nI_leI (by omega) (by omega)]; omega
      · cases hth : thr n X Y T (flo n X Y f) (fhi n X Y f) c with
        | false =>
          rw [if_neg (fun z => by rw [hth] at z; exact absurd z.2 Bool.false_ne_true), List.append_nil] at nx
          refine bs_f rfl (at_X2_cornerOf_fold ?_)
          show at_X2_cornerOf (nI T) v w Q 2 _ (nI f) (nI c + 1) M
          rw [nI_1]
          exact nx hno
        | true =>
          rw [if_pos ⟨hbc, hth⟩, ← List.append_assoc, List.length_append] at nx
          rw [if_pos ⟨hbc, hth⟩, ← List.append_assoc (tpf n X Y T f), ← List.append_assoc (tpf n X Y T f)] at ht
          generalize tpf n X Y T f ++ tl3 n X Y T (flo n X Y f) (fhi n X Y f) c = LL at nx ht hno ⊢
          have hl : LL.length < (tll n X Y T).length := by
            rw [ht]; simp only [List.length_append]; show _ < _ + 1 + _ + _; omega
          refine bs_t (by decide) ?_
          by_cases hv : nI LL.length = v
          · have hq := q1 LL.length (flo n X Y f, fhi n X Y f, c) hv.symm (by rw [ht]; simp)
            unfold tcm at hq
            have vf : vp_in (nI f) 28 := vp_in_nI (by omega) (by omega)
            refine bs_f hv ?_
            show (¬ w = 0 → (¬ w = 1 → Q (nI c) M) ∧ (w = 1 → vp_in (nI f) 28 ∧ Q (M.1 18 (nI f).toNatClampNeg) M)) ∧ (w = 0 → vp_in (nI f) 28 ∧ Q (M.1 17 (nI f).toNatClampNeg) M)
            rw [nI_clamp (by omega), (hL.2 f hf).1, (hL.2 f hf).2]
            by_cases w0 : w = 0
            · rw [if_pos w0] at hq
              exact bs_f w0 ⟨vf, hq⟩
            · rw [if_neg w0] at hq
              refine bs_t w0 ?_
              by_cases w1 : w = 1
              · rw [if_pos w1] at hq
                exact bs_f w1 ⟨vf, hq⟩
              · rw [if_neg w1] at hq
                exact bs_t w1 hq
          · refine bs_t hv (at_X2_cornerOf_fold ?_)
            show at_X2_cornerOf (nI T) v w Q 2 (nI LL.length + 1) (nI f) (nI c + 1) M
            rw [nI_1, nI_1]
            exact nx (lt_s hno (fun z => hv z.symm))
  have l1 : ∀ d f, f + d = fN n X Y → (∀ j, j < (tpf n X Y T f).length → ¬ v = nI j) → at_X2_cornerOf (nI T) v w Q 1 (nI (tpf n X Y T f).length) (nI f) 0 M := by
    intro d
    induction d with
    | zero =>
      intro f hf hno
      rw [show f = fN n X Y by omega, tpf_end] at hno
      refine at_X2_cornerOf_fold (br_t ?_ (q0 hno))
      rw [hL.1, show f = fN n X Y by omega]; exact (nI_leI (by omega) (by omega)).mpr (Nat.le_refl _)
    | succ d ih =>
      intro f hf hno
      have hhi := hP.hi (f := f) (by omega)
      have hpre : ∃ t, tll n X Y T = tpf n X Y T (f + 1) ++ t := by
        refine ⟨tpl n X Y T ((frows n X Y n).drop (f + 1)), ?_⟩
        unfold tll tpf
        rw [← tpl_app, List.take_append_drop, tpl_rows]
      refine at_X2_cornerOf_fold (br_f ?_ ⟨vp_in_nI (by omega) (by omega), ?_⟩)
      · rw [hL.1, nI_leI (by omega) (by omega)]; omega
      · rw [nI_clamp (by omega), (hL.2 f (by omega)).2, nI_1]
        have := l2 f (by omega) hpre (fun z => ih (f + 1) (by omega) z) (n - (fhi n X Y f + 1)) (fhi n X Y f + 1) (by omega) (by omega)
        rw [tl3_nil (Nat.le_refl _), List.append_nil] at this
        exact this hno
  exact at_X2_cornerOf_fold (l1 (fN n X Y) 0 (by omega) (fun j hj => absurd hj (Nat.not_lt_zero j)))
end TH
section ST
variable {MX MR : Mem}
theorem st_thirds (h : Rel MX MR) : wp_X7_thirds MX (fun r M1 => wp_X8_thirds MR (fun r2 M2 => r = r2 ∧ Rel M1 M2)) := by
  have h' := Rel_thr h
  rcases Rel_gr h with ⟨x0, r0⟩ | ⟨x0, r0, nx, n, X, Y, H, B, i, L, hnx, h31, hw, hw'⟩
  · exact br_t x0 (bs_f r0 ⟨rfl, h'⟩)
  · refine br_f x0 (xw_now hw (xw_thirdsOf hw.P hw.xf (bs_t r0 ?_)))
    rw [hw'.cut]
    exact rw_findThirds hw.P hw'.rf hw.i28 fun M' f1 g1 => ⟨g1.1.symm, Rel_scr h' (Fr_refl _ _) (Fq_mono (by decide) (by decide) f1)⟩
theorem st_third (h : Rel MX MR) (a0 a1 : Int32) : wp_X7_third a0 a1 MX (fun r M1 => wp_X8_third a0 a1 MR (fun r2 M2 => r = r2 ∧ Rel M1 M2)) := by
  have h' := Rel_thr h
  have z0 : (0 : Int64).toInt = 0 := by decide
  have z2 : (2 : Int64).toInt = 2 := by decide
  show _ ∧ _
  rw [in_lt, in_le, show (0 : Int32).toInt = 0 by decide, show (2 : Int32).toInt = 2 by decide]
  have bad : ¬ (0 ≤ a1.toInt ∧ a1.toInt ≤ 2) → wp_X8_third a0 a1 MR (fun r2 M2 => -2 = r2 ∧ Rel MX M2) := fun hb => rw_inl z0 z2 (fun z => absurd z hb) (fun _ => bs_f rfl ⟨rfl, h'⟩)
  by_cases b1 : a1.toInt < 0
  · exact br_t b1 (bad (by omega))
  refine br_f b1 ?_
  by_cases b2 : a1.toInt ≤ 2
  · refine br_t b2 ?_
    have hb : 0 ≤ a1.toInt ∧ a1.toInt ≤ 2 := ⟨by omega, b2⟩
    rcases Rel_gr h with ⟨x0, r0⟩ | ⟨x0, r0, nx, n, X, Y, H, B, i, L, hnx, h31, hw, hw'⟩
    · exact br_t x0 (rw_inl z0 z2 (fun _ => bs_t (by decide) (bs_f r0 ⟨rfl, h'⟩)) (fun z => absurd hb z))
    · have hn := hw.n8
      have h56 := tll_len (n := n) (X := X) (Y := Y) (T := cg n X Y i) hn
      have rr : ∀ r : Int32, (∀ M', Fq [16, 17, 18] [27] (upI MR 0 0 0) M' → RT (tll n X Y (cg n X Y i)) M' → wp_X8_in a0.toInt64 (0 : Int64) (((M'.1 0 27) - 1).toInt64) M' (fun r3 M3 => ((¬ r3 = 0 → ((¬ a1 = 0 → ((¬ a1 = 1 → (vp_in a0 60 ∧ (r = M3.1 18 a0.toNatClampNeg ∧ Rel MX M3))) ∧ (a1 = 1 → (vp_in a0 60 ∧ (r = M3.1 17 a0.toNatClampNeg ∧ Rel MX M3))))) ∧ (a1 = 0 → (vp_in a0 60 ∧ (r = M3.1 16 a0.toNatClampNeg ∧ Rel MX M3))))) ∧ (r3 = 0 → (r = -9 ∧ Rel MX M3))))) → wp_X8_third a0 a1 MR (fun r2 M2 => r = r2 ∧ Rel MX M2) := fun r hk => by
        refine rw_inl z0 z2 (fun _ => bs_t (by decide) (bs_t r0 ?_)) (fun z => absurd hb z)
        rw [hw'.cut]
        exact rw_findThirds hw.P hw'.rf hw.i28 fun M' f1 g1 => hk M' f1 g1
      refine br_f x0 (xw_now hw (xw_cornerOf hw.P hw.xf (fun j c hj hc => rr _ fun M' f1 g1 => ?_) (fun hno => rr _ fun M' f1 g1 => ?_)))
      · have hR := Rel_scr h' (Fr_refl _ _) (Fq_mono (by decide) (by decide) f1)
        have hl := get_lt hc
        obtain ⟨p1, p2, p3⟩ := g1.2 j c hc
        subst hj
        have vj : vp_in (nI j) 60 := vp_in_nI (by omega) (by omega)
        refine rw_inp (F := (tll n X Y (cg n X Y i)).length) (by omega) g1.1 (fun _ => bs_t (by decide) ?_) (fun z => absurd (nI_inr hl (by omega)) z)
        rw [nI_clamp (by omega), p1, p2, p3]
        unfold tcm
        by_cases w0 : a1 = 0
        · rw [if_pos w0]
          exact bs_f w0 ⟨vj, rfl, hR⟩
        · rw [if_neg w0]
          refine bs_t w0 ?_
          by_cases w1 : a1 = 1
          · rw [if_pos w1]
            exact bs_f w1 ⟨vj, rfl, hR⟩
          · rw [if_neg w1]
            exact bs_t w1 ⟨vj, rfl, hR⟩
      · have hR := Rel_scr h' (Fr_refl _ _) (Fq_mono (by decide) (by decide) f1)
        refine rw_inp (F := (tll n X Y (cg n X Y i)).length) (by omega) g1.1 (fun z => ?_) (fun _ => bs_f rfl ⟨rfl, hR⟩)
        obtain ⟨j, hj, e⟩ := inr_nI z
        exact absurd e (hno j hj)
  · exact br_f b2 (bad (by omega))
end ST
