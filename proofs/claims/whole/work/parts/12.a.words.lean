/-! ===== WORDS: branches, bits, small numbers ===== -/
theorem bs_t {c A B : Prop} (h : ¬ c) (a : A) : (¬ c → A) ∧ (c → B) := ⟨fun _ => a, fun z => absurd z h⟩
theorem bs_f {c A B : Prop} (h : c) (b : B) : (¬ c → A) ∧ (c → B) := ⟨fun z => absurd h z, fun _ => b⟩
theorem bs_c {c A B : Prop} (a : ¬ c → A) (b : c → B) : (¬ c → A) ∧ (c → B) := ⟨a, b⟩
def sI : Ordering → Int32
  | .lt => -1
  | .eq => 0
  | .gt => 1
def bI : Bool → Int32
  | true => 1
  | false => 0
def oI : Option Nat → Int32
  | none => -9
  | some k => nI k
theorem sI_0 {o : Ordering} : sI o = 0 ↔ o = .eq := by cases o <;> decide
theorem sI_mul {a b : Ordering} : 0 ≤ sI a * sI b ↔ ¬ om a b = .lt := by cases a <;> cases b <;> decide
theorem sI_mul' {a b : Ordering} : sI a * sI b < 0 ↔ om a b = .lt := by cases a <;> cases b <;> decide
theorem sI_inj {a b : Ordering} : sI a = sI b ↔ a = b := by cases a <;> cases b <;> decide
theorem sI_le {o : Ordering} : sI o ≤ 0 ↔ ¬ o = .gt := by cases o <;> decide
theorem sI_ge {o : Ordering} : 0 ≤ sI o ↔ ¬ o = .lt := by cases o <;> decide
theorem bI_0 {b : Bool} : bI b = 0 ↔ b = false := by cases b <;> decide
theorem bI_1 {b : Bool} : bI b = 1 ↔ b = true := by cases b <;> decide
theorem bI_n0 {b : Bool} : ¬ bI b = 0 ↔ b = true := by cases b <;> decide
theorem ne9 {k : Nat} (h : k < 2 ^ 31) : ¬ nI k = -9 := by
  intro q
  have a := nI_toInt h
  rw [q] at a
  have : (-9 : Int32).toInt = -9 := by decide
  omega
theorem oI_9 {o : Option Nat} (h : ∀ k, o = some k → k < 2 ^ 31) : oI o = -9 ↔ o = none := by
  cases o with
  | none => exact ⟨fun _ => rfl, fun _ => rfl⟩
  | some k => exact ⟨fun q => absurd q (ne9 (h k rfl)), fun q => by cases q⟩
theorem nI_mul (a b : Nat) : nI a * nI b = nI (a * b) := (Int32.ofNat_mul a b).symm
theorem ix8 (a b : Nat) : nI a * 8 + nI b = nI (a * 8 + b) := by rw [show (8 : Int32) = nI 8 from rfl, nI_mul, nI_add]
theorem ix8' (a b : Nat) : 8 * nI a + nI b = nI (8 * a + b) := by rw [show (8 : Int32) = nI 8 from rfl, nI_mul, nI_add]
theorem ix28 (a b : Nat) : nI a * 28 + nI b = nI (a * 28 + b) := by rw [show (28 : Int32) = nI 28 from rfl, nI_mul, nI_add]
theorem ix20 (a b : Nat) : 20 * nI a + nI b = nI (20 * a + b) := by rw [show (20 : Int32) = nI 20 from rfl, nI_mul, nI_add]
theorem nI_sub {a b : Nat} (h : b ≤ a) : nI a - nI b = nI (a - b) := by
  have : nI a = nI (a - b) + nI b := by rw [nI_add, Nat.sub_add_cancel h]
  rw [this, Int32.add_sub_cancel]
theorem nI_lit (n : Nat) : (OfNat.ofNat n : Int32) = nI n := rfl
/-! Int32 of an Int -/
def iI (z : Int) : Int32 := Int32.ofInt z
theorem iI_add (a b : Int) : iI a + iI b = iI (a + b) := (Int32.ofInt_add a b).symm
theorem iI_sub (a b : Int) : iI a - iI b = iI (a - b) := (Int32.ofInt_sub a b).symm
theorem iI_mul (a b : Int) : iI a * iI b = iI (a * b) := (Int32.ofInt_mul a b).symm
theorem iI_toInt {z : Int} (h1 : -2147483648 ≤ z) (h2 : z < 2147483648) : (iI z).toInt = z := Int32.toInt_ofInt_of_le (by show -2 ^ 31 ≤ z; omega) (by show z < 2 ^ 31; omega)
theorem iI_le0 {z : Int} (h1 : -2147483648 ≤ z) (h2 : z < 2147483648) : iI z ≤ 0 ↔ z ≤ 0 := by
  rw [Int32.le_iff_toInt_le, iI_toInt h1 h2, Int32.toInt_zero]
theorem iI_ge0 {z : Int} (h1 : -2147483648 ≤ z) (h2 : z < 2147483648) : 0 ≤ iI z ↔ 0 ≤ z := by
  rw [Int32.le_iff_toInt_le, iI_toInt h1 h2, Int32.toInt_zero]
theorem iI_eq {a b : Int} (h1 : -2147483648 ≤ a) (h2 : a < 2147483648) (h3 : -2147483648 ≤ b) (h4 : b < 2147483648) : iI a = iI b ↔ a = b := by
  rw [← Int32.toInt_inj, iI_toInt h1 h2, iI_toInt h3 h4]
theorem mul60 {u v : Int} (h1 : -60 ≤ u) (h2 : u ≤ 60) (h3 : -60 ≤ v) (h4 : v ≤ 60) : -3600 ≤ u * v ∧ u * v ≤ 3600 := by
  have h : (u * v).natAbs ≤ 60 * 60 := by
    rw [Int.natAbs_mul]
    exact Nat.mul_le_mul (by omega) (by omega)
  omega
/-! bits -/
def bt (x : Int32) (i : Nat) : Bool := x.toBitVec.getLsbD i
theorem b_ext {x y : Int32} (h : ∀ i, i < 32 → bt x i = bt y i) : x = y := Int32.toBitVec_inj.mp (BitVec.eq_of_getLsbD_eq (fun i hi => h i hi))
theorem b_or (x y : Int32) (i : Nat) : bt (x ||| y) i = (bt x i || bt y i) := by unfold bt; rw [Int32.toBitVec_or, BitVec.getLsbD_or]
theorem b_and (x y : Int32) (i : Nat) : bt (x &&& y) i = (bt x i && bt y i) := by unfold bt; rw [Int32.toBitVec_and, BitVec.getLsbD_and]
theorem b_xor (x y : Int32) (i : Nat) : bt (x ^^^ y) i = (bt x i ^^ bt y i) := by unfold bt; rw [Int32.toBitVec_xor, BitVec.getLsbD_xor]
theorem s_l : ∀ n, n < 32 → ((nI n &&& 31).toBitVec.smod 32).toNat = n := by decide +kernel
theorem s_u : ∀ n, n < 32 → (((nI n).toUInt32 &&& Int32.toUInt32 31).toBitVec % 32).toNat = n := by decide +kernel
theorem b_shl (n : Nat) (hn : n < 32) (x : Int32) {i : Nat} (hi : i < 32) : bt (x <<< (nI n &&& 31)) i = (decide (n ≤ i) && bt x (i - n)) := by
  unfold bt
  rw [Int32.toBitVec_shiftLeft]
  show (x.toBitVec <<< ((nI n &&& 31).toBitVec.smod 32).toNat).getLsbD i = _
  rw [s_l n hn, BitVec.getLsbD_shiftLeft]
  rcases Nat.lt_or_ge i n with h | h
  · simp [h, Nat.not_le.mpr h]
  · simp [hi, h, Nat.not_lt.mpr h]
theorem b_ushr (n : Nat) (hn : n < 32) (x : Int32) (i : Nat) : bt ((x.toUInt32 >>> ((nI n).toUInt32 &&& Int32.toUInt32 31)).toInt32) i = bt x (n + i) := by
  show (x.toUInt32 >>> ((nI n).toUInt32 &&& Int32.toUInt32 31)).toBitVec.getLsbD i = x.toUInt32.toBitVec.getLsbD (n + i)
  rw [UInt32.toBitVec_shiftRight]
  show (x.toUInt32.toBitVec >>> (((nI n).toUInt32 &&& Int32.toUInt32 31).toBitVec % 32).toNat).getLsbD i = _
  rw [s_u n hn, BitVec.getLsbD_ushiftRight]
theorem b_sshr (n : Nat) (hn : n < 32) (x : Int32) {i : Nat} (hi : i < 32) : bt (x >>> (nI n &&& 31)) i = if n + i < 32 then bt x (n + i) else bt x 31 := by
  unfold bt
  rw [Int32.toBitVec_shiftRight]
  show (x.toBitVec.sshiftRight ((nI n &&& 31).toBitVec.smod 32).toNat).getLsbD i = _
  rw [s_l n hn, BitVec.getLsbD_sshiftRight, BitVec.msb_eq_getLsbD_last]
  simp [hi]
theorem bt_n (s : Nat) {i : Nat} (hi : i < 32) : bt (nI s) i = s.testBit i := by
  show (BitVec.ofNat 32 s).getLsbD i = _
  rw [BitVec.getLsbD_ofNat]
  simp [hi]
theorem tb_big {s n i : Nat} (h : s < 2 ^ n) (hi : n ≤ i) : s.testBit i = false := Nat.testBit_lt_two_pow (Nat.lt_of_lt_of_le h (Nat.pow_le_pow_right (by omega) hi))
theorem bt_n' {s : Nat} (h : s < 2 ^ 32) (i : Nat) : bt (nI s) i = s.testBit i := by
  rcases Nat.lt_or_ge i 32 with hi | hi
  · exact bt_n s hi
  · rw [tb_big h hi]; exact BitVec.getLsbD_of_ge _ _ hi
theorem nI_and (a b : Nat) : nI a &&& nI b = nI (a &&& b) := b_ext fun i hi => by rw [b_and, bt_n _ hi, bt_n _ hi, bt_n _ hi, Nat.testBit_and]
theorem nI_or (a b : Nat) : nI a ||| nI b = nI (a ||| b) := b_ext fun i hi => by rw [b_or, bt_n _ hi, bt_n _ hi, bt_n _ hi, Nat.testBit_or]
theorem nI_xor (a b : Nat) : nI a ^^^ nI b = nI (a ^^^ b) := b_ext fun i hi => by rw [b_xor, bt_n _ hi, bt_n _ hi, bt_n _ hi, Nat.testBit_xor]
theorem nI_shl {f : Nat} (hf : f < 32) : (1 : Int32) <<< (nI f &&& 31) = nI (1 <<< f) := b_ext fun i hi => by
  rw [b_shl f hf _ hi, bt_n _ hi, tb_one, show (1 : Int32) = nI 1 from rfl, bt_n _ (by omega)]
  rcases Nat.lt_trichotomy f i with h | h | h
  · rw [decide_eq_false (by omega : ¬ f = i), Nat.testBit_lt_two_pow (Nat.one_lt_two_pow (by omega)), Bool.and_false]
  · subst h; simp
  · rw [decide_eq_false (by omega : ¬ f ≤ i), decide_eq_false (by omega : ¬ f = i)]; rfl
theorem bt_31 {s : Nat} (h : s < 2 ^ 31) : bt (nI s) 31 = false := by rw [bt_n _ (by omega), tb_big h (by omega)]
theorem bt_1 {i : Nat} (hi : i < 32) : bt (1 : Int32) i = decide (i = 0) := by
  rw [show (1 : Int32) = nI 1 from rfl, bt_n _ hi]
  rcases Nat.eq_zero_or_pos i with h | h
  · subst h; rfl
  · rw [Nat.testBit_lt_two_pow (Nat.one_lt_two_pow (by omega)), decide_eq_false (by omega)]
theorem bt_bI (b : Bool) {i : Nat} (hi : i < 32) : bt (bI b) i = (decide (i = 0) && b) := by
  cases b
  · rw [Bool.and_false]; show bt (nI 0) i = false; rw [bt_n _ hi, Nat.zero_testBit]
  · rw [Bool.and_true]; exact bt_1 hi
/-- one bit of a set -/
theorem tbI {s f : Nat} (hs : s < 2 ^ 31) (hf : f < 32) : (nI s >>> (nI f &&& 31)) &&& 1 = bI (s.testBit f) := b_ext fun i hi => by
  rw [b_and, b_sshr f hf _ hi, bt_1 hi, bt_bI _ hi]
  rcases Nat.eq_zero_or_pos i with h | h
  · subst h
    rw [if_pos (by omega : f + 0 < 32), bt_n _ (by omega)]
    simp
  · rw [decide_eq_false (by omega)]; simp
theorem m1_n : (-1 : Int32) = nI 4294967295 := by decide
theorem aclr_tb (x a i : Nat) : (aclr x a).testBit i = (x.testBit i && !a.testBit i) := tb_clr x a i
theorem bm1 {i : Nat} (h : i < 32) : (4294967295 : Nat).testBit i = true := (by decide +kernel : ∀ i, i < 32 → (4294967295 : Nat).testBit i = true) i h
theorem nI_clr (a b : Nat) : nI a &&& (nI b ^^^ (-1 : Int32)) = nI (aclr a b) := b_ext fun i hi => by
  rw [b_and, b_xor, m1_n, bt_n _ hi, bt_n _ hi, bt_n _ hi, bt_n _ hi, aclr_tb, bm1 hi]
  simp
theorem aclr_lt {x a n : Nat} (h : x < 2 ^ n) : aclr x a < 2 ^ n := Nat.lt_pow_two_of_testBit _ fun i hi => by rw [aclr_tb, tb_big h hi]; rfl
theorem and_lt {x a n : Nat} (h : x < 2 ^ n) : x &&& a < 2 ^ n := Nat.lt_pow_two_of_testBit _ fun i hi => by rw [Nat.testBit_and, tb_big h hi]; rfl
theorem or_lt {x a n : Nat} (h : x < 2 ^ n) (g : a < 2 ^ n) : x ||| a < 2 ^ n := Nat.or_lt_two_pow h g
theorem one_lt {f n : Nat} (h : f < n) : 1 <<< f < 2 ^ n := by rw [Nat.one_shiftLeft]; exact Nat.pow_lt_pow_right (by omega) h
theorem lt31 {x n : Nat} (h : x < 2 ^ n) (hn : n ≤ 28) : x < 2 ^ 31 := Nat.lt_of_lt_of_le h (Nat.pow_le_pow_right (by omega) (by omega))
theorem pow31 {n : Nat} (hn : n ≤ 28) : 2 ^ n < 2 ^ 31 := Nat.lt_of_le_of_lt (Nat.pow_le_pow_right (by omega) hn) (by omega)
theorem nI_mask {f : Nat} : nI (1 <<< f) - 1 = nI (2 ^ f - 1) := by
  rw [Nat.one_shiftLeft, show (1 : Int32) = nI 1 from rfl, nI_sub (Nat.two_pow_pos f)]
theorem nI_0' {a : Nat} (h : a < 2 ^ 31) : nI a = 0 ↔ a = 0 := nI_eq (a := a) (b := 0) h (by omega)
/-- the sets are the same where one has the other -/
theorem sub_iff {a b : Nat} : b &&& a = a ↔ ∀ i, a.testBit i = true → b.testBit i = true := by
  constructor
  · intro h i hi
    have : (b &&& a).testBit i = true := by rw [h]; exact hi
    rw [Nat.testBit_and] at this
    exact (Bool.and_eq_true_iff.mp this).1
  · intro h
    apply Nat.eq_of_testBit_eq
    intro i
    rw [Nat.testBit_and]
    cases hi : a.testBit i
    · exact Bool.and_false _
    · rw [h i hi]; rfl
theorem dis_iff {a b : Nat} : b &&& a = 0 ↔ ∀ i, a.testBit i = true → b.testBit i = false := by
  constructor
  · intro h i hi
    have : (b &&& a).testBit i = false := by rw [h]; exact Nat.zero_testBit i
    rw [Nat.testBit_and, hi, Bool.and_true] at this
    exact this
  · intro h
    apply Nat.eq_of_testBit_eq
    intro i
    rw [Nat.testBit_and, Nat.zero_testBit]
    cases hi : a.testBit i
    · exact Bool.and_false _
    · rw [h i hi]; rfl
/-! counts -/
def ct (p : Nat → Bool) : Nat → Nat
  | 0 => 0
  | n + 1 => ct p n + (if p n then 1 else 0)
theorem ct_succ (p : Nat → Bool) (n : Nat) : ct p (n + 1) = ct p n + (if p n then 1 else 0) := rfl
theorem ct_le (p : Nat → Bool) : ∀ n, ct p n ≤ n
  | 0 => Nat.le_refl 0
  | n + 1 => by
    have := ct_le p n
    rw [ct_succ]
    split <;> omega
theorem ct_cong {p q : Nat → Bool} : ∀ {n : Nat}, (∀ k, k < n → p k = q k) → ct p n = ct q n
  | 0, _ => rfl
  | n + 1, h => by rw [ct_succ, ct_succ, h n (by omega), ct_cong (n := n) fun k hk => h k (by omega)]
theorem ct_split (p : Nat → Bool) (m : Nat) : ∀ n, ct p (m + n) = ct p m + ct (fun k => p (m + k)) n
  | 0 => rfl
  | n + 1 => by rw [← Nat.add_assoc, ct_succ, ct_split p m n, ct_succ, Nat.add_assoc]
theorem ct_none {p : Nat → Bool} : ∀ {n : Nat}, (∀ k, k < n → p k = false) → ct p n = 0
  | 0, _ => rfl
  | n + 1, h => by rw [ct_succ, h n (by omega), ct_none (n := n) fun k hk => h k (by omega)]; rfl
theorem ct_more {p : Nat → Bool} {m n : Nat} (h : m ≤ n) (hp : ∀ k, m ≤ k → p k = false) : ct p n = ct p m := by
  obtain ⟨d, rfl⟩ : ∃ d, n = m + d := ⟨n - m, by omega⟩
  rw [ct_split, ct_none fun k _ => hp (m + k) (by omega)]; rfl
theorem ct_pos {p : Nat → Bool} {n k : Nat} (hk : k < n) (hp : p k = true) : 0 < ct p n := by
  induction n with
  | zero => omega
  | succ n ih =>
    rw [ct_succ]
    rcases Nat.lt_or_ge k n with h | h
    · have := ih h; omega
    · rw [show n = k by omega, hp]; simp
theorem ct_mono {p q : Nat → Bool} : ∀ {n : Nat}, (∀ k, k < n → p k = true → q k = true) → ct p n ≤ ct q n
  | 0, _ => Nat.le_refl 0
  | n + 1, h => by
    have := ct_mono (n := n) (fun k hk => h k (by omega))
    rw [ct_succ, ct_succ]
    cases hp : p n
    · simp; omega
    · rw [h n (by omega) hp]; omega
/-! rows of bytes: the count of bits -/
def bv : List Nat → Nat
  | [] => 0
  | d :: L => 256 * bv L + d
def bk (m : Nat) : Nat → Nat
  | 0 => 0
  | n + 1 => 256 * bk m n + m
theorem byte_tb (a : Nat) {d : Nat} (hd : d < 256) (j : Nat) : (256 * a + d).testBit j = if j < 8 then d.testBit j else a.testBit (j - 8) := by
  have := Nat.testBit_two_pow_mul_add a (i := 8) hd j
  simpa using this
theorem byte_and (a M : Nat) {d m : Nat} (hd : d < 256) (hm : m < 256) : (256 * a + d) &&& (256 * M + m) = 256 * (a &&& M) + (d &&& m) := by
  apply Nat.eq_of_testBit_eq
  intro j
  have h : d &&& m < 256 := Nat.lt_of_le_of_lt Nat.and_le_left hd
  rw [Nat.testBit_and, byte_tb a hd, byte_tb M hm, byte_tb _ h, Nat.testBit_and, Nat.testBit_and]
  by_cases h : j < 8 <;> simp [h]
theorem byte_shr (a M : Nat) {d m k : Nat} (hd : d < 256) (hm : m < 256) (hk : ∀ j, 8 ≤ k + j → m.testBit j = false) : ((256 * a + d) >>> k) &&& (256 * M + m) = 256 * ((a >>> k) &&& M) + ((d >>> k) &&& m) := by
  apply Nat.eq_of_testBit_eq
  intro j
  have h : (d >>> k) &&& m < 256 := Nat.lt_of_le_of_lt Nat.and_le_right hm
  rw [Nat.testBit_and, Nat.testBit_shiftRight, byte_tb a hd, byte_tb M hm, byte_tb _ h, Nat.testBit_and, Nat.testBit_shiftRight, Nat.testBit_and, Nat.testBit_shiftRight]
  by_cases h : j < 8
  · by_cases g : k + j < 8
    · simp [h, g]
    · simp [h, g, hk j (by omega)]
  · rw [if_neg h, if_neg h, if_neg (by omega : ¬ k + j < 8), show k + j - 8 = k + (j - 8) by omega]
theorem bv_and {m : Nat} (hm : m < 256) : ∀ L : List Nat, (∀ d ∈ L, d < 256) → bv L &&& bk m L.length = bv (L.map fun d => d &&& m)
  | [], _ => by show 0 &&& 0 = 0; simp
  | d :: L, h => by
    show (256 * bv L + d) &&& (256 * bk m L.length + m) = _
    rw [byte_and _ _ (h d (List.mem_cons_self ..)) hm, bv_and hm L fun d hd => h d (List.mem_cons_of_mem _ hd)]
    rfl
theorem bv_shr {m k : Nat} (hm : m < 256) (hk : ∀ j, 8 ≤ k + j → m.testBit j = false) : ∀ L : List Nat, (∀ d ∈ L, d < 256) → (bv L >>> k) &&& bk m L.length = bv (L.map fun d => (d >>> k) &&& m)
  | [], _ => by show (0 >>> k) &&& 0 = 0; simp
  | d :: L, h => by
    show ((256 * bv L + d) >>> k) &&& (256 * bk m L.length + m) = _
    rw [byte_shr _ _ (h d (List.mem_cons_self ..)) hm hk, bv_shr hm hk L fun d hd => h d (List.mem_cons_of_mem _ hd)]
    rfl
theorem bv_add (f g : Nat → Nat) : ∀ L : List Nat, bv (L.map f) + bv (L.map g) = bv (L.map fun d => f d + g d)
  | [] => rfl
  | d :: L => by
    have := bv_add f g L
    show 256 * bv (L.map f) + f d + (256 * bv (L.map g) + g d) = 256 * bv (L.map fun d => f d + g d) + (f d + g d)
    omega
theorem hk_of {m k : Nat} (h : ∀ j, j < 8 → 8 ≤ k + j → m.testBit j = false) (hm : m < 256) : ∀ j, 8 ≤ k + j → m.testBit j = false := fun j hj => by
  rcases Nat.lt_or_ge j 8 with g | g
  · exact h j g hj
  · exact tb_big (n := 8) hm g
def pc1 (d : Nat) : Nat := d - ((d >>> 1) &&& 85)
def pc2 (d : Nat) : Nat := (d &&& 51) + ((d >>> 2) &&& 51)
theorem pc_all : ∀ d, d < 256 → pc1 d < 256 ∧ ((d >>> 1) &&& 85) ≤ d ∧ pc2 (pc1 d) % 16 ≤ 4 ∧ pc2 (pc1 d) / 16 ≤ 4 ∧ pc2 (pc1 d) % 16 + pc2 (pc1 d) / 16 = ct d.testBit 8 := by decide +kernel
theorem ct_byte (a : Nat) {d : Nat} (hd : d < 256) (n : Nat) : ct (256 * a + d).testBit (8 + n) = ct d.testBit 8 + ct a.testBit n := by
  rw [ct_split, ct_cong (p := (256 * a + d).testBit) (q := d.testBit) (n := 8) fun k hk => by rw [byte_tb a hd, if_pos hk], ct_cong (p := fun k => (256 * a + d).testBit (8 + k)) (q := a.testBit) (n := n) fun k _ => by rw [byte_tb a hd, if_neg (by omega), Nat.add_sub_cancel_left]]
def pn1 (s : Nat) : Nat := s - ((s >>> 1) &&& 1431655765)
def pn2 (x : Nat) : Nat := (x &&& 858993459) + ((x >>> 2) &&& 858993459)
def pn3 (x : Nat) : Nat := (x + (x >>> 4)) &&& 252645135
def pn4 (x : Nat) : Nat := (x + (x >>> 8)) + ((x + (x >>> 8)) >>> 16)
theorem bk85 : bk 85 4 = 1431655765 := by decide +kernel
theorem bk51 : bk 51 4 = 858993459 := by decide +kernel
theorem bk15 : bk 15 4 = 252645135 := by decide +kernel
theorem pn_ok {b0 b1 b2 b3 : Nat} (h0 : b0 < 256) (h1 : b1 < 256) (h2 : b2 < 256) (h3 : b3 < 256) : pn4 (pn3 (pn2 (pn1 (bv [b0, b1, b2, b3])))) &&& 63 = ct b0.testBit 8 + (ct b1.testBit 8 + (ct b2.testBit 8 + ct b3.testBit 8)) ∧ pn1 (bv [b0, b1, b2, b3]) < 2 ^ 32 ∧ pn2 (pn1 (bv [b0, b1, b2, b3])) < 2 ^ 31 ∧ pn3 (pn2 (pn1 (bv [b0, b1, b2, b3]))) < 2 ^ 30 ∧ ((bv [b0, b1, b2, b3]) >>> 1) &&& 1431655765 ≤ bv [b0, b1, b2, b3] := by
  obtain ⟨p0, q0, l0, g0, c0⟩ := pc_all b0 h0
  obtain ⟨p1, q1, l1, g1, c1⟩ := pc_all b1 h1
  obtain ⟨p2, q2, l2, g2, c2⟩ := pc_all b2 h2
  obtain ⟨p3, q3, l3, g3, c3⟩ := pc_all b3 h3
  have hm : ∀ d ∈ [b0, b1, b2, b3], d < 256 := by simp; exact ⟨h0, h1, h2, h3⟩
  have hp : ∀ d ∈ [pc1 b0, pc1 b1, pc1 b2, pc1 b3], d < 256 := by simp; exact ⟨p0, p1, p2, p3⟩
  have e1 : (bv [b0, b1, b2, b3] >>> 1) &&& 1431655765 = bv [(b0 >>> 1) &&& 85, (b1 >>> 1) &&& 85, (b2 >>> 1) &&& 85, (b3 >>> 1) &&& 85] := by
    rw [← bk85]
    exact bv_shr (m := 85) (k := 1) (by omega) (hk_of (by decide) (by omega)) [b0, b1, b2, b3] hm
  have f1 : pn1 (bv [b0, b1, b2, b3]) = bv [pc1 b0, pc1 b1, pc1 b2, pc1 b3] := by
    unfold pn1
    rw [e1]
    unfold pc1
    simp only [bv]
    omega
  have e2 : bv [pc1 b0, pc1 b1, pc1 b2, pc1 b3] &&& 858993459 = bv [pc1 b0 &&& 51, pc1 b1 &&& 51, pc1 b2 &&& 51, pc1 b3 &&& 51] := by
    rw [← bk51]
    exact bv_and (m := 51) (by omega) [pc1 b0, pc1 b1, pc1 b2, pc1 b3] hp
  have e3 : (bv [pc1 b0, pc1 b1, pc1 b2, pc1 b3] >>> 2) &&& 858993459 = bv [(pc1 b0 >>> 2) &&& 51, (pc1 b1 >>> 2) &&& 51, (pc1 b2 >>> 2) &&& 51, (pc1 b3 >>> 2) &&& 51] := by
    rw [← bk51]
    exact bv_shr (m := 51) (k := 2) (by omega) (hk_of (by decide) (by omega)) [pc1 b0, pc1 b1, pc1 b2, pc1 b3] hp
  have f2 : pn2 (pn1 (bv [b0, b1, b2, b3])) = bv [pc2 (pc1 b0), pc2 (pc1 b1), pc2 (pc1 b2), pc2 (pc1 b3)] := by
    rw [f1]
    unfold pn2
    rw [e2, e3]
    unfold pc2
    simp only [bv]
    omega
  generalize pc2 (pc1 b0) = d0 at *
  generalize pc2 (pc1 b1) = d1 at *
  generalize pc2 (pc1 b2) = d2 at *
  generalize pc2 (pc1 b3) = d3 at *
  have e4 : bv [d0, d1, d2, d3] + (bv [d0, d1, d2, d3] >>> 4) = bv [d0 % 16 + d0 / 16 + 16 * (d0 / 16 + d1 % 16), d1 % 16 + d1 / 16 + 16 * (d1 / 16 + d2 % 16), d2 % 16 + d2 / 16 + 16 * (d2 / 16 + d3 % 16), d3 % 16 + d3 / 16 + 16 * (d3 / 16)] := by
    rw [Nat.shiftRight_eq_div_pow]
    simp only [bv]
    omega
  have hq : ∀ d ∈ [d0 % 16 + d0 / 16 + 16 * (d0 / 16 + d1 % 16), d1 % 16 + d1 / 16 + 16 * (d1 / 16 + d2 % 16), d2 % 16 + d2 / 16 + 16 * (d2 / 16 + d3 % 16), d3 % 16 + d3 / 16 + 16 * (d3 / 16)], d < 256 := by
    simp
    omega
  have f3 : pn3 (pn2 (pn1 (bv [b0, b1, b2, b3]))) = bv [d0 % 16 + d0 / 16, d1 % 16 + d1 / 16, d2 % 16 + d2 / 16, d3 % 16 + d3 / 16] := by
    rw [f2]
    unfold pn3
    rw [e4, ← bk15]
    refine (bv_and (m := 15) (by omega) _ hq).trans ?_
    have ha : ∀ x : Nat, x &&& 15 = x % 16 := fun x => Nat.and_two_pow_sub_one_eq_mod x 4
    have hb : ∀ l h t : Nat, l ≤ 4 → h ≤ 4 → (l + h + 16 * t) % 16 = l + h := by intro l h t _ _; omega
    simp only [List.map, ha]
    rw [hb _ _ _ l0 g0, hb _ _ _ l1 g1, hb _ _ _ l2 g2, hb _ _ _ l3 g3]
  rw [c0, c1, c2, c3] at f3
  have k0 := ct_le b0.testBit 8
  have k1 := ct_le b1.testBit 8
  have k2 := ct_le b2.testBit 8
  have k3 := ct_le b3.testBit 8
  generalize ct b0.testBit 8 = z0 at *
  generalize ct b1.testBit 8 = z1 at *
  generalize ct b2.testBit 8 = z2 at *
  generalize ct b3.testBit 8 = z3 at *
  refine ⟨?_, ?_, ?_, ?_, ?_⟩
  · rw [f3, show ∀ x : Nat, x &&& 63 = x % 64 from fun x => Nat.and_two_pow_sub_one_eq_mod x 6]
    unfold pn4
    have w1 : bv [z0, z1, z2, z3] >>> 8 = z1 + 256 * z2 + 65536 * z3 := by
      rw [Nat.shiftRight_eq_div_pow]
      simp only [bv]
      omega
    have w2 : bv [z0, z1, z2, z3] + (z1 + 256 * z2 + 65536 * z3) = (z0 + z1 + 256 * (z1 + z2)) + 65536 * (z2 + z3 + 256 * z3) := by
      simp only [bv]
      omega
    have w3 : ((z0 + z1 + 256 * (z1 + z2)) + 65536 * (z2 + z3 + 256 * z3)) >>> 16 = z2 + z3 + 256 * z3 := by
      rw [Nat.shiftRight_eq_div_pow, show (2 : Nat) ^ 16 = 65536 from rfl, Nat.add_mul_div_left _ _ (by omega : 0 < 65536), Nat.div_eq_of_lt (by omega), Nat.zero_add]
    rw [w1, w2, w3, show (z0 + z1 + 256 * (z1 + z2)) + 65536 * (z2 + z3 + 256 * z3) + (z2 + z3 + 256 * z3) = (z0 + (z1 + (z2 + z3))) + 64 * (4 * (z1 + z2) + 1024 * (z2 + z3 + 256 * z3) + 4 * z3) by omega, Nat.add_mul_mod_self_left, Nat.mod_eq_of_lt (by omega)]
  · rw [f1]; simp only [bv]; omega
  · rw [f2]; simp only [bv]; omega
  · rw [f3]; simp only [bv]; omega
  · rw [e1]; simp only [bv]; omega
theorem bytes_of (s : Nat) : s = bv [s % 256, s / 256 % 256, s / 65536 % 256, s / 16777216] := by
  simp only [bv]
  omega
theorem ct_bytes {b0 b1 b2 b3 : Nat} (h0 : b0 < 256) (h1 : b1 < 256) (h2 : b2 < 256) (h3 : b3 < 256) : ct (bv [b0, b1, b2, b3]).testBit 32 = ct b0.testBit 8 + (ct b1.testBit 8 + (ct b2.testBit 8 + ct b3.testBit 8)) := by
  show ct (256 * (256 * (256 * (256 * 0 + b3) + b2) + b1) + b0).testBit (8 + 24) = _
  rw [ct_byte _ h0, show (24 : Nat) = 8 + 16 from rfl, ct_byte _ h1, show (16 : Nat) = 8 + 8 from rfl, ct_byte _ h2, show (8 : Nat) = 8 + 0 from rfl, ct_byte _ h3]
  rfl
theorem bt_iushr {s k : Nat} (hs : s < 2 ^ 32) (hk : k < 32) : iushr (nI s) (nI k) = nI (s >>> k) := b_ext fun i hi => by
  unfold iushr
  rw [b_ushr k hk, bt_n' hs, bt_n _ hi, Nat.testBit_shiftRight]
theorem x_pop {s : Nat} (hs : s < 2 ^ 28) {M : Mem} {Q : Int32 → Mem → Prop} (q : Q (nI (ct s.testBit 28)) M) : wp_J6_bitCount_0f7a4_X (nI s) M Q := by
  have hc : ct s.testBit 28 = ct s.testBit 32 := (ct_more (by omega) fun k hk => tb_big hs hk).symm
  rw [hc] at q
  have hb := bytes_of s
  have h3 : s / 16777216 < 256 := by omega
  obtain ⟨a0, a1, a2, a3, a4⟩ := pn_ok (Nat.mod_lt s (by omega : 0 < 256)) (Nat.mod_lt (s / 256) (by omega : 0 < 256)) (Nat.mod_lt (s / 65536) (by omega : 0 < 256)) h3
  rw [← ct_bytes (Nat.mod_lt s (by omega : 0 < 256)) (Nat.mod_lt (s / 256) (by omega : 0 < 256)) (Nat.mod_lt (s / 65536) (by omega : 0 < 256)) h3] at a0
  rw [← hb] at a0 a1 a2 a3 a4
  have e1 : nI s - (iushr (nI s) 1 &&& 1431655765) = nI (pn1 s) := by
    rw [show (1 : Int32) = nI 1 from rfl, bt_iushr (by omega) (by omega), show (1431655765 : Int32) = nI 1431655765 from rfl, nI_and, nI_sub a4]
    rfl
  have e2 : (nI (pn1 s) &&& 858993459) + (iushr (nI (pn1 s)) 2 &&& 858993459) = nI (pn2 (pn1 s)) := by
    rw [show (2 : Int32) = nI 2 from rfl, bt_iushr a1 (by omega), show (858993459 : Int32) = nI 858993459 from rfl, nI_and, nI_and, nI_add]
    rfl
  have e3 : (nI (pn2 (pn1 s)) + iushr (nI (pn2 (pn1 s))) 4) &&& 252645135 = nI (pn3 (pn2 (pn1 s))) := by
    rw [show (4 : Int32) = nI 4 from rfl, bt_iushr (by omega) (by omega), show (252645135 : Int32) = nI 252645135 from rfl, nI_add, nI_and]
    rfl
  have e4 : (nI (pn3 (pn2 (pn1 s))) + iushr (nI (pn3 (pn2 (pn1 s)))) 8) + iushr (nI (pn3 (pn2 (pn1 s))) + iushr (nI (pn3 (pn2 (pn1 s)))) 8) 16 = nI (pn4 (pn3 (pn2 (pn1 s)))) := by
    have : pn3 (pn2 (pn1 s)) >>> 8 ≤ pn3 (pn2 (pn1 s)) := by rw [Nat.shiftRight_eq_div_pow]; exact Nat.div_le_self _ _
    rw [show (8 : Int32) = nI 8 from rfl, bt_iushr (by omega) (by omega), show (16 : Int32) = nI 16 from rfl, nI_add, bt_iushr (by omega) (by omega), nI_add]
    rfl
  unfold wp_J6_bitCount_0f7a4_X
  refine nm_r e1 (nm_r e2 (nm_r e3 (nm_r e4 ?_)))
  rw [show (63 : Int32) = nI 63 from rfl, nI_and, a0]
  exact q
