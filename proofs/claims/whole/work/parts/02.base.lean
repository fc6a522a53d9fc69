/-! ===== BASE: one memory for a world of fixed cells; rows over it ===== -/
abbrev Mem : Type := (Nat → Nat → Int32) × (Nat → Nat → Int64)
def upI (M : Mem) (q k : Nat) (v : Int32) : Mem := (fun a => if a = q then upd (M.1 q) k v else M.1 a, M.2)
def upJ (M : Mem) (q k : Nat) (v : Int64) : Mem := (M.1, fun a => if a = q then vp_updL (M.2 q) k v else M.2 a)
def xNest : Cond := .methodLinkNest "FenceTurns$Cuttings" 46 yX7_isIn "FenceTurns"
abbrev xT (cy : Nat → ClassId) : List (ClassId × FieldType) := [(cy 0, .int), (cy 1, .long), (cy 2, .object "FenceTurns$Sheet")]
def xK (D : va_G) (cy : Nat → ClassId) (U : State) : Prop := va_K D vwCl (xT cy) U ∧ va_Nw xNest U
def xA (B : Nat → Prop) (sz : Nat) : Nat → Prop := fun q => B q ∨ sz ≤ q
theorem xA_mono {B : Nat → Prop} {a b q : Nat} (h : a ≤ b) (hq : xA B b q) : xA B a q := hq.elim Or.inl (fun z => Or.inr (Nat.le_trans h z))
theorem xK_warm {D : va_G} {cy : Nat → ClassId} {s U : State} (hW : s.WarmedH U.vm) (h : xK D cy s) : xK D cy U := ⟨va_K.moved hW.alike h.1, va_Nw.warmM hW h.2⟩
theorem xK_call {D : va_G} {cy : Nat → ClassId} {U : State} {g : JFrame} {mk : MethodId} {a : Array Value} (h : xK D cy U) : xK D cy (U.calling g mk a) := ⟨va_K.moved (u := U) (U := U.calling g mk a) (Vm.Alike.refl U.vm) h.1, va_Nw.same rfl (u := U) (U := U.calling g mk a) rfl h.2⟩
def xPre (D : va_G) (cy : Nat → ClassId) (w : Mem → va_W) (B : Nat → Prop) (M : Mem) (sz : Nat) (av : List Value) : Array Value → State → Prop := va_Pc av (fun U => U.heap.size = sz ∧ va_P D vwCl (w M) U.heap ∧ xK D cy U ∧ va_D B (w M))
theorem xPre_blind {D : va_G} {cy : Nat → ClassId} {w : Mem → va_W} {B : Nat → Prop} {M : Mem} {sz : Nat} {av : List Value} : FrameBlind (xPre D cy w B M sz av) := fun a U g mk q => by
  obtain ⟨q0, q1, qP, qK, qD⟩ := q
  exact ⟨q0, q1, qP, xK_call qK, qD⟩
abbrev xB (D : va_G) (w : Mem → va_W) (B : Nat → Prop) (u : Mem) (t : State) : Prop := va_P D vwCl (w u) t.heap ∧ va_D B (w u)
def CTi (l : Launch) (D : va_G) (cy : Nat → ClassId) (w : Mem → va_W) (B : Nat → Prop) (y : MethodName) (ws : List Cond) (rm : Jvm.Room) (av : List Value) (M : Mem) (Q : Int32 → Mem → Prop) : Prop := ∀ sz : Nat, Met l y ws rm (xPre D cy w B M sz av) (va_Qi (S := Mem) Q (xB D w B) (xA B sz)) 0 0 (xA B sz)
def CTl (l : Launch) (D : va_G) (cy : Nat → ClassId) (w : Mem → va_W) (B : Nat → Prop) (y : MethodName) (ws : List Cond) (rm : Jvm.Room) (av : List Value) (M : Mem) (Q : Int64 → Mem → Prop) : Prop := ∀ sz : Nat, Met l y ws rm (xPre D cy w B M sz av) (va_Ql (S := Mem) Q (xB D w B) (xA B sz)) 0 0 (xA B sz)
def CTv (l : Launch) (D : va_G) (cy : Nat → ClassId) (w : Mem → va_W) (B : Nat → Prop) (y : MethodName) (ws : List Cond) (rm : Jvm.Room) (av : List Value) (M : Mem) (Q : Mem → Prop) : Prop := ∀ sz : Nat, Met l y ws rm (xPre D cy w B M sz av) (va_Qv (S := Mem) Q (xB D w B) (xA B sz)) 0 0 (xA B sz)
/-- the world at a point of a walk -/
def xS (D : va_G) (w : Mem → va_W) (B : Nat → Prop) (H0 H : Heap) (locs : List Loc) (M : Mem) : Prop := va_P D vwCl (w M) H ∧ va_D B (w M) ∧ va_S (xA B H0.size) H0 H locs
/-- a cell that is an array of ints, longs; an object's int field, reference field; a row of references -/
def ArrI (w : Mem → va_W) (q a : Nat) (c : ClassId) (n : Nat) : Prop := ∀ M : Mem, (w M)[q]? = some (a, .inl (c, n, .inl (M.1 q))) ∧ ∀ (k : Nat) (v : Int32), (w M).set q (a, .inl (c, n, .inl (upd (M.1 q) k v))) = w (upI M q k v)
def ArrJ (w : Mem → va_W) (q a : Nat) (c : ClassId) (n : Nat) : Prop := ∀ M : Mem, (w M)[q]? = some (a, .inl (c, n, .inr (.inl (M.2 q)))) ∧ ∀ (k : Nat) (v : Int64), (w M).set q (a, .inl (c, n, .inr (.inl (vp_updL (M.2 q) k v)))) = w (upJ M q k v)
def FldI (w : Mem → va_W) (q a ci k : Nat) : Prop := ∀ M : Mem, ∃ fs : List Value, (w M)[q]? = some (a, .inr (ci, fs)) ∧ fs[k]? = some (.int (M.1 q k)) ∧ k < fs.length ∧ ∀ v : Int32, (w M).set q (a, .inr (ci, fs.set k (.int v))) = w (upI M q k v)
def FldR (w : Mem → va_W) (q a ci k b : Nat) : Prop := ∀ M : Mem, ∃ fs : List Value, (w M)[q]? = some (a, .inr (ci, fs)) ∧ fs[k]? = some (.ref b)
def ArrR (w : Mem → va_W) (q a : Nat) (c : ClassId) (n : Nat) (f : Nat → Option Nat) : Prop := ∀ M : Mem, (w M)[q]? = some (a, .inl (c, n, .inr (.inr (.inr (.inr f)))))
def ObjAt (w : Mem → va_W) (q a ci : Nat) : Prop := ∀ M : Mem, ∃ fs : List Value, (w M)[q]? = some (a, .inr (ci, fs))
def iushr (x y : Int32) : Int32 := (x.toUInt32 >>> (y.toUInt32 &&& Int32.toUInt32 31)).toInt32
theorem x_in4 {i : Int32} (h : vp_in i 4) : i.toNatClampNeg = 0 ∨ i.toNatClampNeg = 1 ∨ i.toNatClampNeg = 2 ∨ i.toNatClampNeg = 3 := by
  have : i.toNatClampNeg < 4 := Nat.not_le.mp fun q => h (Or.inr q)
  omega
theorem x_nb {v : Int32} (h : v = 0 ∨ v = 1) : narrow .boolean (.int v) = .int v := by
  rcases h with rfl | rfl <;> rfl
section XR
variable {p : Program} {l : Launch} {e : Env} {R : Jvm.Room} {s : State} {m : MethodId} {args : Array Value} {below : List Frame} {meth : Method} {c : Code} {H : Heap} {locs : List Loc} {cells slots : Nat} {Q : State → Prop}
variable {cc : ByteArray} {pc : Nat} {ls : Array Slot} {rest st0 : List Value} {D : va_G} {cy : Nat → ClassId} {B : Nat → Prop} {a : Nat} {w : Mem → va_W} {M : Mem} {H0 : Heap}
theorem xS_DA (S : xS D w B H0 H locs M) : va_D (xA B H0.size) (w M) := S.2.1.weaken (fun _ _ _ h => Or.inl h)
theorem x_iald (hx : p.tables.exec = Jvm.exec) (hb : c.code = cc) (hK : xK D cy s) (S : xS D w B H0 H locs M) {q n : Nat} (hq : ArrI w q a (cy 0) n) {i : Int32} (hin : vp_in i n) (hdg : decode cc pc = .ok (.iaload, 1))
    (kk : W p l e R s m args below meth c H locs cells slots Q (F0 m (pc + 1) ls (.int (M.1 q i.toNatClampNeg) :: rest))) : W p l e R s m args below meth c H locs cells slots Q (F0 m pc ls (.int i :: .ref a :: rest)) :=
  va_iald hx hb hK.1 S.1 q 0 (hq M).1 rfl hin hdg kk
theorem x_lald (hx : p.tables.exec = Jvm.exec) (hb : c.code = cc) (hK : xK D cy s) (S : xS D w B H0 H locs M) {q n : Nat} (hq : ArrJ w q a (cy 1) n) {i : Int32} (hin : vp_in i n) (hdg : decode cc pc = .ok (.laload, 1))
    (kk : W p l e R s m args below meth c H locs cells slots Q (F0 m (pc + 1) ls (.long (M.2 q i.toNatClampNeg) :: rest))) : W p l e R s m args below meth c H locs cells slots Q (F0 m pc ls (.int i :: .ref a :: rest)) :=
  va_lald hx hb hK.1 S.1 q 1 (hq M).1 rfl hin hdg kk
theorem x_iast (hx : p.tables.exec = Jvm.exec) (hb : c.code = cc) (hK : xK D cy s) (S : xS D w B H0 H locs M) {q n : Nat} (hq : ArrI w q a (cy 0) n) {i x : Int32} (hin : vp_in i n) (hdg : decode cc pc = .ok (.iastore, 1))
    (kk : ∀ (H1 : Heap) (locs1 : List Loc), xS D w B H0 H1 locs1 (upI M q i.toNatClampNeg x) → W p l e R s m args below meth c H1 locs1 cells slots Q (F0 m (pc + 1) ls rest)) : W p l e R s m args below meth c H locs cells slots Q (F0 m pc ls (.int x :: .int i :: .ref a :: rest)) := by
  refine va_iast hx hb hK.1 S.1 (xS_DA S) S.2.2 q 0 (hq M).1 rfl hin hdg (fun H1 locs1 hP hD hS => kk H1 locs1 ⟨?_, ?_, hS⟩)
  · rw [← (hq M).2]; exact hP
  · rw [← (hq M).2]; exact S.2.1.set (hq M).1
theorem x_last (hx : p.tables.exec = Jvm.exec) (hb : c.code = cc) (hK : xK D cy s) (S : xS D w B H0 H locs M) {q n : Nat} (hq : ArrJ w q a (cy 1) n) {i : Int32} {x : Int64} (hin : vp_in i n) (hdg : decode cc pc = .ok (.lastore, 1))
    (kk : ∀ (H1 : Heap) (locs1 : List Loc), xS D w B H0 H1 locs1 (upJ M q i.toNatClampNeg x) → W p l e R s m args below meth c H1 locs1 cells slots Q (F0 m (pc + 1) ls rest)) : W p l e R s m args below meth c H locs cells slots Q (F0 m pc ls (.long x :: .int i :: .ref a :: rest)) := by
  refine va_last hx hb hK.1 S.1 (xS_DA S) S.2.2 q 1 (hq M).1 rfl hin hdg (fun H1 locs1 hP hD hS => kk H1 locs1 ⟨?_, ?_, hS⟩)
  · rw [← (hq M).2]; exact hP
  · rw [← (hq M).2]; exact S.2.1.set (hq M).1
/-- what a method has of its class: name, table and words of a class of vwCl -/
def xC (Ts : List Cond) (ci : Nat) (C : String) (T : u_T) (N : Nat) : Prop := (∀ w ∈ u_ws C T N, w ∈ Ts) ∧ vwCl[ci]? = some (C, T, N)
theorem x_getI (hx : p.tables.exec = Jvm.exec) (hb : c.code = cc) {own C : String} {T : u_T} {N ci index : Nat} {Ts : List Cond} (hts : ∀ w ∈ Ts, w.before args s = true) (hC : xC Ts ci C T N) (hown : s.vm.findClass own = some m.cls) (hK : xK D cy s) (S : xS D w B H0 H locs M) {q : Nat} (k : Nat) (hk : k < N) (hq : FldI w q a ci k) (hlink : (Cond.fieldLink own index (T k).1 (T k).2.1 (T k).2.2.1).before args s = true) (hdg : decode cc pc = .ok (.getfield index, 3))
    (kk : W p l e R s m args below meth c H locs cells slots Q (F0 m (pc + 3) ls (.int (M.1 q k) :: rest))) : W p l e R s m args below meth c H locs cells slots Q (F0 m pc ls (.ref a :: rest)) := by
  obtain ⟨fs, h1, h2, h3, -⟩ := hq M
  exact va_get hx hb hts hC.1 hown hK.1 S.1 q h1 hC.2 k hk hlink (fun _ h => h) h2 hdg kk
theorem x_getR (hx : p.tables.exec = Jvm.exec) (hb : c.code = cc) {own C : String} {T : u_T} {N ci index b : Nat} {Ts : List Cond} (hts : ∀ w ∈ Ts, w.before args s = true) (hC : xC Ts ci C T N) (hown : s.vm.findClass own = some m.cls) (hK : xK D cy s) (S : xS D w B H0 H locs M) {q : Nat} (k : Nat) (hk : k < N) (hq : FldR w q a ci k b) (hlink : (Cond.fieldLink own index (T k).1 (T k).2.1 (T k).2.2.1).before args s = true) (hdg : decode cc pc = .ok (.getfield index, 3))
    (kk : W p l e R s m args below meth c H locs cells slots Q (F0 m (pc + 3) ls (.ref b :: rest))) : W p l e R s m args below meth c H locs cells slots Q (F0 m pc ls (.ref a :: rest)) := by
  obtain ⟨fs, h1, h2⟩ := hq M
  exact va_get hx hb hts hC.1 hown hK.1 S.1 q h1 hC.2 k hk hlink (fun _ h => h) h2 hdg kk
theorem x_putI (hx : p.tables.exec = Jvm.exec) (hb : c.code = cc) {own C : String} {T : u_T} {N ci index : Nat} {Ts : List Cond} (hts : ∀ w ∈ Ts, w.before args s = true) (hC : xC Ts ci C T N) (ty0 : Nat → FieldType) (hty : ∀ k, k < N → parseFieldDescriptor (T k).2.2.1 = some (ty0 k)) (hnm : ∀ a, a < N → ∀ b, b < N → a ≠ b → (T a).2.1 ≠ (T b).2.1) (hown : s.vm.findClass own = some m.cls) (hK : xK D cy s) (S : xS D w B H0 H locs M) {q : Nat} (k : Nat) (hk : k < N) (hq : FldI w q a ci k) (hlink : (Cond.fieldLink own index (T k).1 (T k).2.1 (T k).2.2.1).before args s = true) (hfin : (T k).2.2.2 = false) {v : Int32} (hn : narrow (ty0 k) (.int v) = .int v) (hfit : fits (ty0 k) (.int v) = true) (hdg : decode cc pc = .ok (.putfield index, 3))
    (kk : ∀ (H1 : Heap) (locs1 : List Loc), xS D w B H0 H1 locs1 (upI M q k v) → W p l e R s m args below meth c H1 locs1 cells slots Q (F0 m (pc + 3) ls rest)) : W p l e R s m args below meth c H locs cells slots Q (F0 m pc ls (.int v :: .ref a :: rest)) := by
  obtain ⟨fs, h1, h2, h3, h4⟩ := hq M
  refine va_put hx hb hts hC.1 ty0 hty hnm hown hK.1 S.1 (xS_DA S) S.2.2 q h1 hC.2 k hk hlink (fun _ h => h) hfin (hty k hk) hn hfit h3 hdg (fun H1 locs1 hP hD hS => kk H1 locs1 ⟨?_, ?_, hS⟩)
  · rw [← h4]; exact hP
  · rw [← h4]; exact S.2.1.set h1
theorem x_aald (hx : p.tables.exec = Jvm.exec) (hb : c.code = cc) (hK : xK D cy s) (S : xS D w B H0 H locs M) {q n : Nat} {f : Nat → Option Nat} (hq : ArrR w q a (cy 2) n f) {i : Int32} (hin : vp_in i n) {j b : Nat} (hj : i.toNatClampNeg = j) (hf : f j = some b) (hdg : decode cc pc = .ok (.aaload, 1))
    (kk : W p l e R s m args below meth c H locs cells slots Q (F0 m (pc + 1) ls (.ref b :: rest))) : W p l e R s m args below meth c H locs cells slots Q (F0 m pc ls (.int i :: .ref a :: rest)) := by
  refine va_aldq hx hb hK.1 S.1 q 2 (hq M) rfl hin hdg ?_
  rw [hj, hf]
  exact kk
variable {y : MethodName} {bytes : ByteArray} {maxL nL n index : Nat} {ret : Option FieldType} {ws Ts : List Cond} {rm : Jvm.Room} {own C : String} {b : Addr} {As : List Value}
theorem x_callVi {Q' : Int32 → Mem → Prop} (S0 : CallFix p m c cc nL s args Ts own) (hK : xK D cy s) (S : xS D w B H0 H locs M) (hM : CTi l D cy w B y ws rm (.ref b :: As) M Q') {ci q : Nat} {qc : vw_C} (hq : ObjAt w q b ci) (hc : vwCl[ci]? = some qc) (cw : CallW R s args own qc.1 index y bytes maxL ret ws rm 0 0 n) (hn : As.length = n) (hsize : ls.size = nL) (hst : st0 = As.reverse ++ .ref b :: rest) (hrs : (rest.map fun v => v.category).sum ≤ 8) (hdg : decode cc pc = .ok (.invokevirtual index, 3)) (hf : cells ≤ R.cells ∧ slots ≤ R.slots)
    (kk : ∀ (r : Int32) (M1 : Mem) (H1 : Heap) (locs1 : List Loc), Q' r M1 → xS D w B H0 H1 locs1 M1 → W p l e R s m args below meth c H1 locs1 cells slots Q (F0 m (pc + 3) ls (.int r :: rest))) : W p l e R s m args below meth c H locs cells slots Q (F0 m pc ls st0) := by
  obtain ⟨fs, he⟩ := hq M
  refine va_calli (va_runV (As := As) (rest := rest) S0 (hM H.size) cw ⟨xPre_blind, va_recv hK.1 S.1 hc he, fun U hU hW => ⟨rfl, by rw [hU], by rw [hU]; exact S.1, xK_warm hW hK, S.2.1⟩⟩ rfl hn hsize hst (lv_room hrs) hdg hf) S.2.2 (fun q _ h => xA_mono S.2.2.1 h) (fun q h => xA_mono S.2.2.1 h) (fun r u t H1 locs1 ht hvm hw hB hz1 hk1 hS => ?_)
  rw [← ht] at hS ⊢
  exact kk r u t.heap locs1 hw ⟨hB.1, hB.2, hS⟩
theorem x_callVl {Q' : Int64 → Mem → Prop} (S0 : CallFix p m c cc nL s args Ts own) (hK : xK D cy s) (S : xS D w B H0 H locs M) (hM : CTl l D cy w B y ws rm (.ref b :: As) M Q') {ci q : Nat} {qc : vw_C} (hq : ObjAt w q b ci) (hc : vwCl[ci]? = some qc) (cw : CallW R s args own qc.1 index y bytes maxL ret ws rm 0 0 n) (hn : As.length = n) (hsize : ls.size = nL) (hst : st0 = As.reverse ++ .ref b :: rest) (hrs : (rest.map fun v => v.category).sum ≤ 8) (hdg : decode cc pc = .ok (.invokevirtual index, 3)) (hf : cells ≤ R.cells ∧ slots ≤ R.slots)
    (kk : ∀ (r : Int64) (M1 : Mem) (H1 : Heap) (locs1 : List Loc), Q' r M1 → xS D w B H0 H1 locs1 M1 → W p l e R s m args below meth c H1 locs1 cells slots Q (F0 m (pc + 3) ls (.long r :: rest))) : W p l e R s m args below meth c H locs cells slots Q (F0 m pc ls st0) := by
  obtain ⟨fs, he⟩ := hq M
  refine va_calll (va_runV (As := As) (rest := rest) S0 (hM H.size) cw ⟨xPre_blind, va_recv hK.1 S.1 hc he, fun U hU hW => ⟨rfl, by rw [hU], by rw [hU]; exact S.1, xK_warm hW hK, S.2.1⟩⟩ rfl hn hsize hst (lv_room hrs) hdg hf) S.2.2 (fun q _ h => xA_mono S.2.2.1 h) (fun q h => xA_mono S.2.2.1 h) (fun r u t H1 locs1 ht hvm hw hB hz1 hk1 hS => ?_)
  rw [← ht] at hS ⊢
  exact kk r u t.heap locs1 hw ⟨hB.1, hB.2, hS⟩
theorem x_callVv {Q' : Mem → Prop} (S0 : CallFix p m c cc nL s args Ts own) (hK : xK D cy s) (S : xS D w B H0 H locs M) (hM : CTv l D cy w B y ws rm (.ref b :: As) M Q') {ci q : Nat} {qc : vw_C} (hq : ObjAt w q b ci) (hc : vwCl[ci]? = some qc) (cw : CallW R s args own qc.1 index y bytes maxL ret ws rm 0 0 n) (hn : As.length = n) (hsize : ls.size = nL) (hst : st0 = As.reverse ++ .ref b :: rest) (hrs : (rest.map fun v => v.category).sum ≤ 8) (hdg : decode cc pc = .ok (.invokevirtual index, 3)) (hf : cells ≤ R.cells ∧ slots ≤ R.slots)
    (kk : ∀ (M1 : Mem) (H1 : Heap) (locs1 : List Loc), Q' M1 → xS D w B H0 H1 locs1 M1 → W p l e R s m args below meth c H1 locs1 cells slots Q (F0 m (pc + 3) ls rest)) : W p l e R s m args below meth c H locs cells slots Q (F0 m pc ls st0) := by
  obtain ⟨fs, he⟩ := hq M
  refine va_callv (va_runV (As := As) (rest := rest) S0 (hM H.size) cw ⟨xPre_blind, va_recv hK.1 S.1 hc he, fun U hU hW => ⟨rfl, by rw [hU], by rw [hU]; exact S.1, xK_warm hW hK, S.2.1⟩⟩ rfl hn hsize hst (lv_room hrs) hdg hf) S.2.2 (fun q _ h => xA_mono S.2.2.1 h) (fun q h => xA_mono S.2.2.1 h) (fun u t H1 locs1 ht hvm hw hB hz1 hk1 hS => ?_)
  rw [← ht] at hS ⊢
  exact kk u t.heap locs1 hw ⟨hB.1, hB.2, hS⟩
theorem x_callSi {Q' : Int32 → Mem → Prop} (S0 : CallFix p m c cc nL s args Ts own) (hK : xK D cy s) (S : xS D w B H0 H locs M) (hM : CTi l D cy w B y ws rm As M Q') (cw : CallB R s args own index y bytes maxL ret ws rm 0 0 n ∧ (Cond.static y).before args s = true) (hn : As.length = n) (hsize : ls.size = nL) (hst : st0 = As.reverse ++ rest) (hrs : (rest.map fun v => v.category).sum ≤ 8) (hdg : decode cc pc = .ok (.invokestatic index, 3)) (hf : cells ≤ R.cells ∧ slots ≤ R.slots)
    (kk : ∀ (r : Int32) (M1 : Mem) (H1 : Heap) (locs1 : List Loc), Q' r M1 → xS D w B H0 H1 locs1 M1 → W p l e R s m args below meth c H1 locs1 cells slots Q (F0 m (pc + 3) ls (.int r :: rest))) : W p l e R s m args below meth c H locs cells slots Q (F0 m pc ls st0) := by
  refine va_calli (va_runS (As := As) (rest := rest) S0 (hM H.size) cw ⟨xPre_blind, fun U hU hW => ⟨rfl, by rw [hU], by rw [hU]; exact S.1, xK_warm hW hK, S.2.1⟩⟩ rfl hn hsize hst (lv_room hrs) hdg hf) S.2.2 (fun q _ h => xA_mono S.2.2.1 h) (fun q h => xA_mono S.2.2.1 h) (fun r u t H1 locs1 ht hvm hw hB hz1 hk1 hS => ?_)
  rw [← ht] at hS ⊢
  exact kk r u t.heap locs1 hw ⟨hB.1, hB.2, hS⟩
theorem x_callSv {Q' : Mem → Prop} (S0 : CallFix p m c cc nL s args Ts own) (hK : xK D cy s) (S : xS D w B H0 H locs M) (hM : CTv l D cy w B y ws rm As M Q') (cw : CallB R s args own index y bytes maxL ret ws rm 0 0 n ∧ (Cond.static y).before args s = true) (hn : As.length = n) (hsize : ls.size = nL) (hst : st0 = As.reverse ++ rest) (hrs : (rest.map fun v => v.category).sum ≤ 8) (hdg : decode cc pc = .ok (.invokestatic index, 3)) (hf : cells ≤ R.cells ∧ slots ≤ R.slots)
    (kk : ∀ (M1 : Mem) (H1 : Heap) (locs1 : List Loc), Q' M1 → xS D w B H0 H1 locs1 M1 → W p l e R s m args below meth c H1 locs1 cells slots Q (F0 m (pc + 3) ls rest)) : W p l e R s m args below meth c H locs cells slots Q (F0 m pc ls st0) := by
  refine va_callv (va_runS (As := As) (rest := rest) S0 (hM H.size) cw ⟨xPre_blind, fun U hU hW => ⟨rfl, by rw [hU], by rw [hU]; exact S.1, xK_warm hW hK, S.2.1⟩⟩ rfl hn hsize hst (lv_room hrs) hdg hf) S.2.2 (fun q _ h => xA_mono S.2.2.1 h) (fun q h => xA_mono S.2.2.1 h) (fun u t H1 locs1 ht hvm hw hB hz1 hk1 hS => ?_)
  rw [← ht] at hS ⊢
  exact kk u t.heap locs1 hw ⟨hB.1, hB.2, hS⟩
theorem x_callNi {host : String} {Q' : Int32 → Mem → Prop} (S0 : CallFix p m c cc nL s args Ts own) (hK : xK D cy s) (S : xS D w B H0 H locs M) (hM : CTi l D cy w B y ws rm As M Q') (cw : va_CN R s args own index y host bytes maxL ret ws rm 0 0 n ∧ (Cond.static y).before args s = true ∧ True) (hn : As.length = n) (hsize : ls.size = nL) (hst : st0 = As.reverse ++ rest) (hrs : (rest.map fun v => v.category).sum ≤ 8) (hdg : decode cc pc = .ok (.invokestatic index, 3)) (hf : cells ≤ R.cells ∧ slots ≤ R.slots)
    (kk : ∀ (r : Int32) (M1 : Mem) (H1 : Heap) (locs1 : List Loc), Q' r M1 → xS D w B H0 H1 locs1 M1 → W p l e R s m args below meth c H1 locs1 cells slots Q (F0 m (pc + 3) ls (.int r :: rest))) : W p l e R s m args below meth c H locs cells slots Q (F0 m pc ls st0) := by
  refine va_calli (va_runSN (As := As) (rest := rest) S0 (hM H.size) cw ⟨xPre_blind, fun U hU hW => ⟨rfl, by rw [hU], by rw [hU]; exact S.1, xK_warm hW hK, S.2.1⟩⟩ rfl hn hsize hst (lv_room hrs) hdg hf) S.2.2 (fun q _ h => xA_mono S.2.2.1 h) (fun q h => xA_mono S.2.2.1 h) (fun r u t H1 locs1 ht hvm hw hB hz1 hk1 hS => ?_)
  rw [← ht] at hS ⊢
  exact kk r u t.heap locs1 hw ⟨hB.1, hB.2, hS⟩
theorem x_iret {Qc : Int32 → Mem → Prop} {v : Int32} {ty : FieldType} (hx : p.tables.exec = Jvm.exec) (hb : c.code = cc) (hr : meth.sig.returnType = some ty) (hlocks : meth.locks = false) (S : xS D w B s.heap H locs M) (hn : narrow ty (.int v) = .int v) (hq : Qc v M) (hdg : decode cc pc = .ok (.ireturn, 1)) : W p l e R s m args below meth c H locs cells slots (MQ below (va_Qi (S := Mem) Qc (xB D w B) (xA B s.heap.size)) args s cells slots (xA B s.heap.size)) (F0 m pc ls [.int v]) :=
  W.zret hx hb hr hn (fun t ht hW => ⟨⟨v, M, rfl, hq, by rw [ht]; exact S.1, S.2.1⟩, S.2.2.F ht⟩) S.2.2.2.2 hdg hlocks
theorem x_lret {Qc : Int64 → Mem → Prop} {v : Int64} (hx : p.tables.exec = Jvm.exec) (hb : c.code = cc) (hr : meth.sig.returnType = some .long) (hlocks : meth.locks = false) (S : xS D w B s.heap H locs M) (hq : Qc v M) (hdg : decode cc pc = .ok (.lreturn, 1)) : W p l e R s m args below meth c H locs cells slots (MQ below (va_Ql (S := Mem) Qc (xB D w B) (xA B s.heap.size)) args s cells slots (xA B s.heap.size)) (F0 m pc ls [.long v]) :=
  W.lret hx hb hr (fun t ht hW => ⟨⟨v, M, rfl, hq, by rw [ht]; exact S.1, S.2.1⟩, S.2.2.F ht⟩) S.2.2.2.2 hdg hlocks
theorem x_vret {Qc : Mem → Prop} (hx : p.tables.exec = Jvm.exec) (hb : c.code = cc) (hr : meth.sig.returnType = none) (hlocks : meth.locks = false) (S : xS D w B s.heap H locs M) (hq : Qc M) (hdg : decode cc pc = .ok (.return_, 1)) : W p l e R s m args below meth c H locs cells slots (MQ below (va_Qv (S := Mem) Qc (xB D w B) (xA B s.heap.size)) args s cells slots (xA B s.heap.size)) (F0 m pc ls []) :=
  W.vret hx hb hr (fun t ht hW => ⟨⟨M, rfl, hq, by rw [ht]; exact S.1, S.2.1⟩, S.2.2.F ht⟩) S.2.2.2.2 hdg hlocks
end XR
