/-! ===== CNT: how many greatest sets without crossings a graph of 28 points has ===== -/
def fc {α : Type} (n : Nat) (k : Nat → α) : α := Nat.rec (k 0) (fun m _ => k (Nat.succ m)) n
theorem fc_eq {α : Type} (n : Nat) (k : Nat → α) : fc n k = k n := by cases n <;> rfl
def arow (A u : Nat) : Nat := Nat.land (Nat.shiftRight A (Nat.mul 28 u)) 268435455
def aclr (x a : Nat) : Nat := Nat.xor x (Nat.land x a)
noncomputable def bsel (b : Bool) (x y : Nat) : Nat := @Bool.rec (fun _ => Nat) y x b
theorem bsel_eq (b : Bool) (x y : Nat) : bsel b x y = if b = true then x else y := by cases b <;> rfl
noncomputable def ab7 (ih : Nat → Nat → Nat) (c o3 : Nat) : Nat := ih c o3
noncomputable def ab6 (ih : Nat → Nat → Nat) (c2 o2 : Nat) : Nat := ih c2 o2
noncomputable def ab5 (ih : Nat → Nat → Nat) (owed a c2 : Nat) : Nat := fc (Nat.xor owed (Nat.land owed a)) (ih c2)
noncomputable def ab4 (ih : Nat → Nat → Nat) (owed u a c t : Nat) : Nat := bsel (Nat.beq t 0) (ab5 ih owed a c) (Nat.add (fc (Nat.xor c t) (ab5 ih owed a)) (fc (Nat.lor owed (Nat.shiftLeft 1 u)) (ih c)))
noncomputable def ab3 (ih : Nat → Nat → Nat) (owed u a c : Nat) : Nat := ab4 ih owed u a c (Nat.land c a)
noncomputable def ab2 (ih : Nat → Nat → Nat) (cand owed u a : Nat) : Nat := fc (Nat.xor cand (Nat.shiftLeft 1 u)) (ab3 ih owed u a)
noncomputable def abr (A : Nat) (ih : Nat → Nat → Nat) (cand owed u : Nat) : Nat := ab2 ih cand owed u (arow A u)
noncomputable def cn1 (A : Nat) (ih : Nat → Nat → Nat) (cand owed o : Nat) : Nat := bsel (Nat.beq o 0) 0 (abr A ih cand owed (Nat.log2 o))
noncomputable def cn0 (A : Nat) (ih : Nat → Nat → Nat) (cand owed : Nat) : Nat := bsel (Nat.beq owed 0) (bsel (Nat.beq cand 0) 1 (abr A ih cand owed (Nat.log2 cand))) (fc (Nat.land (arow A (Nat.log2 owed)) cand) (cn1 A ih cand owed))
noncomputable def cnt (A : Nat) (f : Nat) : Nat → Nat → Nat := Nat.rec (fun _ _ => 1000000000) (fun _ ih => cn0 A ih) f
theorem beq_iff {x y : Nat} : Nat.beq x y = true ↔ x = y := ⟨Nat.eq_of_beq_eq_true, fun h => by rw [h]; exact Nat.beq_refl y⟩
theorem abr_eq (A : Nat) (ih : Nat → Nat → Nat) (cand owed u : Nat) : abr A ih cand owed u = ih (aclr (cand ^^^ (1 <<< u)) (arow A u)) (aclr owed (arow A u)) + (if arow A u &&& (cand ^^^ (1 <<< u)) = 0 then 0 else ih (cand ^^^ (1 <<< u)) (owed ||| (1 <<< u))) := by
  unfold abr ab2 ab3 ab4 ab5
  simp only [fc_eq, bsel_eq, beq_iff]
  show (if (cand ^^^ (1 <<< u)) &&& arow A u = 0 then ih (cand ^^^ (1 <<< u)) (aclr owed (arow A u)) else ih (aclr (cand ^^^ (1 <<< u)) (arow A u)) (aclr owed (arow A u)) + ih (cand ^^^ (1 <<< u)) (owed ||| (1 <<< u))) = _
  rw [Nat.and_comm (arow A u)]
  by_cases h : (cand ^^^ (1 <<< u)) &&& arow A u = 0
  · rw [if_pos h, if_pos h, Nat.add_zero]
    congr 1
    show _ = (cand ^^^ (1 <<< u)) ^^^ ((cand ^^^ (1 <<< u)) &&& arow A u)
    rw [h, Nat.xor_zero]
  · rw [if_neg h, if_neg h]
theorem cnt_zero (A cand owed : Nat) : cnt A 0 cand owed = 1000000000 := rfl
theorem cnt_succ (A f cand owed : Nat) : cnt A (f + 1) cand owed = if owed = 0 then (if cand = 0 then 1 else abr A (cnt A f) cand owed cand.log2) else if arow A owed.log2 &&& cand = 0 then 0 else abr A (cnt A f) cand owed (arow A owed.log2 &&& cand).log2 := by
  show cn0 A (cnt A f) cand owed = _
  unfold cn0 cn1
  simp only [fc_eq, bsel_eq, beq_iff]
  rfl
/-- what a set T has yet to be: within cand, no two of it cross, all else of cand and all that is owed is crossed by it -/
def cP (A cand owed T : Nat) : Prop := (∀ i, T.testBit i = true → cand.testBit i = true) ∧ (∀ i j, T.testBit i = true → T.testBit j = true → (arow A i).testBit j = false) ∧ (∀ x, cand.testBit x = true → T.testBit x = false → ∃ t, T.testBit t = true ∧ (arow A t).testBit x = true) ∧ ∀ w, owed.testBit w = true → ∃ t, T.testBit t = true ∧ (arow A t).testBit w = true
def aSym (A : Nat) : Prop := ∀ i j, (arow A i).testBit j = (arow A j).testBit i
theorem tb_clr (x a i : Nat) : (aclr x a).testBit i = (x.testBit i && !a.testBit i) := by
  show (x ^^^ (x &&& a)).testBit i = _
  rw [Nat.testBit_xor, Nat.testBit_and]
  cases x.testBit i <;> cases a.testBit i <;> rfl
theorem tb_one (u i : Nat) : (1 <<< u).testBit i = decide (u = i) := by
  rw [Nat.one_shiftLeft, Nat.testBit_two_pow]
theorem tb_flip {T u i : Nat} : (T ^^^ (1 <<< u)).testBit i = if i = u then !T.testBit i else T.testBit i := by
  rw [Nat.testBit_xor, tb_one]
  by_cases h : i = u
  · subst h; simp
  · rw [if_neg h]
    have : decide (u = i) = false := decide_eq_false (fun e => h e.symm)
    rw [this]; simp
theorem tb_ne {x : Nat} (h : x ≠ 0) : x.testBit x.log2 = true := Nat.testBit_log2 h
theorem and_ne {a b i : Nat} (h1 : a.testBit i = true) (h2 : b.testBit i = true) : a &&& b ≠ 0 := by
  intro h
  have : (a &&& b).testBit i = true := by rw [Nat.testBit_and, h1, h2]; rfl
  rw [h, Nat.zero_testBit] at this
  cases this
theorem cnt_branch {A cand owed u f : Nat} (hs : aSym A) (hu : cand.testBit u = true)
    (ih : ∀ (cand owed : Nat) (L : List Nat), L.Nodup → (∀ T ∈ L, cP A cand owed T) → cnt A f cand owed < 1000000000 → L.length ≤ cnt A f cand owed)
    {L : List Nat} (hn : L.Nodup) (hL : ∀ T ∈ L, cP A cand owed T) (hlt : abr A (cnt A f) cand owed u < 1000000000) : L.length ≤ abr A (cnt A f) cand owed u := by
  rw [abr_eq] at hlt ⊢
  have hsum : L.length = (L.filter (fun T => T.testBit u)).length + (L.filter (fun T => !T.testBit u)).length := by
    rw [List.length_eq_countP_add_countP (fun T => T.testBit u), List.countP_eq_length_filter, List.countP_eq_length_filter]
    congr 2
    apply List.filter_congr
    intro T _
    cases T.testBit u <;> rfl
  have h1 : (L.filter (fun T => T.testBit u)).length ≤ cnt A f (aclr (cand ^^^ (1 <<< u)) (arow A u)) (aclr owed (arow A u)) := by
    have hm : ((L.filter (fun T => T.testBit u)).map (fun T => T ^^^ (1 <<< u))).length = (L.filter (fun T => T.testBit u)).length := List.length_map ..
    rw [← hm]
    refine ih _ _ _ ?_ ?_ (by omega)
    · refine List.Pairwise.map _ (fun a b hab => ?_) (hn.filter _)
      intro e
      apply hab
      have : (a ^^^ (1 <<< u)) ^^^ (1 <<< u) = (b ^^^ (1 <<< u)) ^^^ (1 <<< u) := by rw [e]
      rwa [Nat.xor_assoc, Nat.xor_assoc, Nat.xor_self, Nat.xor_zero, Nat.xor_zero] at this
    · intro T' hT'
      obtain ⟨T, hT, rfl⟩ := List.mem_map.mp hT'
      obtain ⟨hTL, hTu⟩ := List.mem_filter.mp hT
      have hTu : T.testBit u = true := hTu
      obtain ⟨p1, p2, p3, p4⟩ := hL T hTL
      have hb : ∀ i, (T ^^^ (1 <<< u)).testBit i = true → i ≠ u ∧ T.testBit i = true := by
        intro i hi
        rw [tb_flip] at hi
        by_cases e : i = u
        · rw [if_pos e, e, hTu] at hi; cases hi
        · rw [if_neg e] at hi; exact ⟨e, hi⟩
      have hb' : ∀ i, i ≠ u → T.testBit i = true → (T ^^^ (1 <<< u)).testBit i = true := fun i e hi => by rw [tb_flip, if_neg e]; exact hi
      refine ⟨fun i hi => ?_, fun i j hi hj => p2 i j (hb i hi).2 (hb j hj).2, fun x hx hTx => ?_, fun w hw => ?_⟩
      · obtain ⟨e, hi⟩ := hb i hi
        rw [tb_clr, tb_flip, if_neg e, p1 i hi, p2 u i hTu hi]; rfl
      · rw [tb_clr, tb_flip] at hx
        have hx := Bool.and_eq_true_iff.mp hx
        have hxu : x ≠ u := by
          intro e
          rw [if_pos e, e, hu] at hx
          cases hx.1
        rw [if_neg hxu] at hx
        rw [tb_flip, if_neg hxu] at hTx
        obtain ⟨t, ht, hadj⟩ := p3 x hx.1 hTx
        have htu : t ≠ u := by
          intro e
          rw [e] at hadj
          rw [hadj] at hx
          cases hx.2
        exact ⟨t, hb' t htu ht, hadj⟩
      · rw [tb_clr] at hw
        have hw := Bool.and_eq_true_iff.mp hw
        obtain ⟨t, ht, hadj⟩ := p4 w hw.1
        have htu : t ≠ u := by
          intro e
          rw [e] at hadj
          rw [hadj] at hw
          cases hw.2
        exact ⟨t, hb' t htu ht, hadj⟩
  have h2 : (L.filter (fun T => !T.testBit u)).length ≤ if arow A u &&& (cand ^^^ (1 <<< u)) = 0 then 0 else cnt A f (cand ^^^ (1 <<< u)) (owed ||| (1 <<< u)) := by
    have key : ∀ T ∈ L.filter (fun T => !T.testBit u), cP A (cand ^^^ (1 <<< u)) (owed ||| (1 <<< u)) T ∧ arow A u &&& (cand ^^^ (1 <<< u)) ≠ 0 := by
      intro T hT
      obtain ⟨hTL, hTu⟩ := List.mem_filter.mp hT
      have hTu : T.testBit u = false := by
        cases h : T.testBit u
        · rfl
        · rw [h] at hTu; cases hTu
      obtain ⟨p1, p2, p3, p4⟩ := hL T hTL
      have hne : ∀ i, T.testBit i = true → i ≠ u := fun i hi e => by rw [e, hTu] at hi; cases hi
      have hsub : ∀ i, T.testBit i = true → (cand ^^^ (1 <<< u)).testBit i = true := fun i hi => by rw [tb_flip, if_neg (hne i hi)]; exact p1 i hi
      obtain ⟨t0, ht0, ha0⟩ := p3 u hu hTu
      refine ⟨⟨hsub, p2, fun x hx hTx => ?_, fun w hw => ?_⟩, and_ne (i := t0) (by rw [hs]; exact ha0) (hsub t0 ht0)⟩
      · rw [tb_flip] at hx
        by_cases e : x = u
        · rw [e]; exact ⟨t0, ht0, ha0⟩
        · rw [if_neg e] at hx; exact p3 x hx hTx
      · rw [Nat.testBit_or, tb_one] at hw
        rcases Bool.or_eq_true_iff.mp hw with h | h
        · exact p4 w h
        · rw [← of_decide_eq_true h]; exact ⟨t0, ht0, ha0⟩
    by_cases h0 : arow A u &&& (cand ^^^ (1 <<< u)) = 0
    · rw [if_pos h0]
      cases hf : L.filter (fun T => !T.testBit u) with
      | nil => exact Nat.le_refl 0
      | cons T R => exact absurd h0 (key T (by rw [hf]; exact List.mem_cons_self)).2
    · rw [if_neg h0] at hlt ⊢
      exact ih _ _ _ (hn.filter _) (fun T hT => (key T hT).1) (by omega)
  omega
theorem cnt_sound {A : Nat} (hs : aSym A) : ∀ (f cand owed : Nat) (L : List Nat), L.Nodup → (∀ T ∈ L, cP A cand owed T) → cnt A f cand owed < 1000000000 → L.length ≤ cnt A f cand owed := by
  intro f
  induction f with
  | zero => intro cand owed L _ _ h; rw [cnt_zero] at h; omega
  | succ f ih =>
    intro cand owed L hn hL hlt
    rw [cnt_succ] at hlt ⊢
    by_cases ho : owed = 0
    · rw [if_pos ho] at hlt ⊢
      by_cases hc : cand = 0
      · rw [if_pos hc]
        have hsub : L ⊆ [0] := by
          intro T hT
          have hz : T = 0 := by
            apply Nat.eq_of_testBit_eq
            intro i
            rw [Nat.zero_testBit]
            cases hh : T.testBit i
            · rfl
            · have := (hL T hT).1 i hh
              rw [hc, Nat.zero_testBit] at this
              cases this
          rw [hz]; exact List.mem_cons_self
        exact hn.length_le_of_subset hsub
      · rw [if_neg hc] at hlt ⊢
        exact cnt_branch hs (tb_ne hc) ih hn hL hlt
    · rw [if_neg ho] at hlt ⊢
      by_cases h0 : arow A owed.log2 &&& cand = 0
      · rw [if_pos h0]
        cases L with
        | nil => exact Nat.le_refl 0
        | cons T R =>
          exfalso
          obtain ⟨p1, p2, p3, p4⟩ := hL T List.mem_cons_self
          obtain ⟨t, ht, ha⟩ := p4 _ (tb_ne ho)
          exact and_ne (i := t) (by rw [hs]; exact ha) (p1 t ht) h0
      · rw [if_neg h0] at hlt ⊢
        refine cnt_branch hs ?_ ih hn hL hlt
        have := tb_ne h0
        rw [Nat.testBit_and] at this
        exact (Bool.and_eq_true_iff.mp this).2
