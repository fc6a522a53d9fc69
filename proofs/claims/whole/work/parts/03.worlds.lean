def xRow (ad : Nat → Nat) : Nat → Option Nat := fun j => match j with
  | 0 => some (ad 2)
  | 1 => some (ad 3)
  | 2 => some (ad 4)
  | 3 => some (ad 5)
  | _ => none
def wX (ad : Nat → Nat) (cy : Nat → ClassId) (M : Mem) : va_W := [(ad 0, .inr (7, [.ref (ad 1), .ref (ad 10), .ref (ad 13), .ref (ad 22), .ref (ad 25), .ref (ad 28), .ref (ad 31), .ref (ad 33), .int (M.1 0 8), .int (M.1 0 9), .int (M.1 0 10)])),
  (ad 1, .inl (cy 2, 4, .inr (.inr (.inr (.inr (xRow ad)))))),
  (ad 2, .inr (5, [.ref (ad 6), .int (M.1 2 1), .int (M.1 2 2), .int (M.1 2 3)])),
  (ad 3, .inr (5, [.ref (ad 7), .int (M.1 3 1), .int (M.1 3 2), .int (M.1 3 3)])),
  (ad 4, .inr (5, [.ref (ad 8), .int (M.1 4 1), .int (M.1 4 2), .int (M.1 4 3)])),
  (ad 5, .inr (5, [.ref (ad 9), .int (M.1 5 1), .int (M.1 5 2), .int (M.1 5 3)])),
  (ad 6, .inl (cy 1, 20, .inr (.inl (M.2 6)))),
  (ad 7, .inl (cy 1, 20, .inr (.inl (M.2 7)))),
  (ad 8, .inl (cy 1, 20, .inr (.inl (M.2 8)))),
  (ad 9, .inl (cy 1, 20, .inr (.inl (M.2 9)))),
  (ad 10, .inr (4, [.ref (ad 11), .ref (ad 12), .int (M.1 10 2)])),
  (ad 11, .inl (cy 0, 8, .inl (M.1 11))),
  (ad 12, .inl (cy 0, 8, .inl (M.1 12))),
  (ad 13, .inr (2, [.ref (ad 14), .ref (ad 17), .ref (ad 18), .ref (ad 19), .int (M.1 13 4), .int (M.1 13 5), .ref (ad 20), .ref (ad 21)])),
  (ad 14, .inr (4, [.ref (ad 15), .ref (ad 16), .int (M.1 14 2)])),
  (ad 15, .inl (cy 0, 8, .inl (M.1 15))),
  (ad 16, .inl (cy 0, 8, .inl (M.1 16))),
  (ad 17, .inl (cy 0, 28, .inl (M.1 17))),
  (ad 18, .inl (cy 0, 28, .inl (M.1 18))),
  (ad 19, .inl (cy 0, 28, .inl (M.1 19))),
  (ad 20, .inl (cy 0, 64, .inl (M.1 20))),
  (ad 21, .inl (cy 0, 224, .inl (M.1 21))),
  (ad 22, .inr (1, [.ref (ad 23), .int (M.1 22 1), .ref (ad 24)])),
  (ad 23, .inl (cy 0, 256, .inl (M.1 23))),
  (ad 24, .inl (cy 0, 7168, .inl (M.1 24))),
  (ad 25, .inr (0, [.ref (ad 26), .ref (ad 27), .int (M.1 25 2), .int (M.1 25 3), .int (M.1 25 4)])),
  (ad 26, .inl (cy 0, 256, .inl (M.1 26))),
  (ad 27, .inl (cy 0, 256, .inl (M.1 27))),
  (ad 28, .inr (6, [.ref (ad 29), .ref (ad 30), .int (M.1 28 2)])),
  (ad 29, .inl (cy 0, 256, .inl (M.1 29))),
  (ad 30, .inl (cy 0, 256, .inl (M.1 30))),
  (ad 31, .inr (3, [.int (M.1 31 0), .ref (ad 32), .int (M.1 31 2)])),
  (ad 32, .inl (cy 0, 10, .inl (M.1 32))),
  (ad 33, .inl (cy 0, 28, .inl (M.1 33)))]
theorem xo_0 {ad : Nat → Nat} {cy : Nat → ClassId} : ObjAt (wX ad cy) 0 (ad 0) 7 := fun M => ⟨_, rfl⟩
theorem xf_0_0 {ad : Nat → Nat} {cy : Nat → ClassId} : FldR (wX ad cy) 0 (ad 0) 7 0 (ad 1) := fun M => ⟨_, rfl, rfl⟩
theorem xf_0_1 {ad : Nat → Nat} {cy : Nat → ClassId} : FldR (wX ad cy) 0 (ad 0) 7 1 (ad 10) := fun M => ⟨_, rfl, rfl⟩
theorem xf_0_2 {ad : Nat → Nat} {cy : Nat → ClassId} : FldR (wX ad cy) 0 (ad 0) 7 2 (ad 13) := fun M => ⟨_, rfl, rfl⟩
theorem xf_0_3 {ad : Nat → Nat} {cy : Nat → ClassId} : FldR (wX ad cy) 0 (ad 0) 7 3 (ad 22) := fun M => ⟨_, rfl, rfl⟩
theorem xf_0_4 {ad : Nat → Nat} {cy : Nat → ClassId} : FldR (wX ad cy) 0 (ad 0) 7 4 (ad 25) := fun M => ⟨_, rfl, rfl⟩
theorem xf_0_5 {ad : Nat → Nat} {cy : Nat → ClassId} : FldR (wX ad cy) 0 (ad 0) 7 5 (ad 28) := fun M => ⟨_, rfl, rfl⟩
theorem xf_0_6 {ad : Nat → Nat} {cy : Nat → ClassId} : FldR (wX ad cy) 0 (ad 0) 7 6 (ad 31) := fun M => ⟨_, rfl, rfl⟩
theorem xf_0_7 {ad : Nat → Nat} {cy : Nat → ClassId} : FldR (wX ad cy) 0 (ad 0) 7 7 (ad 33) := fun M => ⟨_, rfl, rfl⟩
theorem xf_0_8 {ad : Nat → Nat} {cy : Nat → ClassId} : FldI (wX ad cy) 0 (ad 0) 7 8 := fun M => ⟨_, rfl, rfl, Nat.le_of_ble_eq_true rfl, fun v => rfl⟩
theorem xf_0_9 {ad : Nat → Nat} {cy : Nat → ClassId} : FldI (wX ad cy) 0 (ad 0) 7 9 := fun M => ⟨_, rfl, rfl, Nat.le_of_ble_eq_true rfl, fun v => rfl⟩
theorem xf_0_10 {ad : Nat → Nat} {cy : Nat → ClassId} : FldI (wX ad cy) 0 (ad 0) 7 10 := fun M => ⟨_, rfl, rfl, Nat.le_of_ble_eq_true rfl, fun v => rfl⟩
theorem xa_1 {ad : Nat → Nat} {cy : Nat → ClassId} : ArrR (wX ad cy) 1 (ad 1) (cy 2) 4 (xRow ad) := fun M => rfl
theorem xo_2 {ad : Nat → Nat} {cy : Nat → ClassId} : ObjAt (wX ad cy) 2 (ad 2) 5 := fun M => ⟨_, rfl⟩
theorem xf_2_0 {ad : Nat → Nat} {cy : Nat → ClassId} : FldR (wX ad cy) 2 (ad 2) 5 0 (ad 6) := fun M => ⟨_, rfl, rfl⟩
theorem xf_2_1 {ad : Nat → Nat} {cy : Nat → ClassId} : FldI (wX ad cy) 2 (ad 2) 5 1 := fun M => ⟨_, rfl, rfl, Nat.le_of_ble_eq_true rfl, fun v => rfl⟩
theorem xf_2_2 {ad : Nat → Nat} {cy : Nat → ClassId} : FldI (wX ad cy) 2 (ad 2) 5 2 := fun M => ⟨_, rfl, rfl, Nat.le_of_ble_eq_true rfl, fun v => rfl⟩
theorem xf_2_3 {ad : Nat → Nat} {cy : Nat → ClassId} : FldI (wX ad cy) 2 (ad 2) 5 3 := fun M => ⟨_, rfl, rfl, Nat.le_of_ble_eq_true rfl, fun v => rfl⟩
theorem xo_3 {ad : Nat → Nat} {cy : Nat → ClassId} : ObjAt (wX ad cy) 3 (ad 3) 5 := fun M => ⟨_, rfl⟩
theorem xf_3_0 {ad : Nat → Nat} {cy : Nat → ClassId} : FldR (wX ad cy) 3 (ad 3) 5 0 (ad 7) := fun M => ⟨_, rfl, rfl⟩
theorem xf_3_1 {ad : Nat → Nat} {cy : Nat → ClassId} : FldI (wX ad cy) 3 (ad 3) 5 1 := fun M => ⟨_, rfl, rfl, Nat.le_of_ble_eq_true rfl, fun v => rfl⟩
theorem xf_3_2 {ad : Nat → Nat} {cy : Nat → ClassId} : FldI (wX ad cy) 3 (ad 3) 5 2 := fun M => ⟨_, rfl, rfl, Nat.le_of_ble_eq_true rfl, fun v => rfl⟩
theorem xf_3_3 {ad : Nat → Nat} {cy : Nat → ClassId} : FldI (wX ad cy) 3 (ad 3) 5 3 := fun M => ⟨_, rfl, rfl, Nat.le_of_ble_eq_true rfl, fun v => rfl⟩
theorem xo_4 {ad : Nat → Nat} {cy : Nat → ClassId} : ObjAt (wX ad cy) 4 (ad 4) 5 := fun M => ⟨_, rfl⟩
theorem xf_4_0 {ad : Nat → Nat} {cy : Nat → ClassId} : FldR (wX ad cy) 4 (ad 4) 5 0 (ad 8) := fun M => ⟨_, rfl, rfl⟩
theorem xf_4_1 {ad : Nat → Nat} {cy : Nat → ClassId} : FldI (wX ad cy) 4 (ad 4) 5 1 := fun M => ⟨_, rfl, rfl, Nat.le_of_ble_eq_true rfl, fun v => rfl⟩
theorem xf_4_2 {ad : Nat → Nat} {cy : Nat → ClassId} : FldI (wX ad cy) 4 (ad 4) 5 2 := fun M => ⟨_, rfl, rfl, Nat.le_of_ble_eq_true rfl, fun v => rfl⟩
theorem xf_4_3 {ad : Nat → Nat} {cy : Nat → ClassId} : FldI (wX ad cy) 4 (ad 4) 5 3 := fun M => ⟨_, rfl, rfl, Nat.le_of_ble_eq_true rfl, fun v => rfl⟩
theorem xo_5 {ad : Nat → Nat} {cy : Nat → ClassId} : ObjAt (wX ad cy) 5 (ad 5) 5 := fun M => ⟨_, rfl⟩
theorem xf_5_0 {ad : Nat → Nat} {cy : Nat → ClassId} : FldR (wX ad cy) 5 (ad 5) 5 0 (ad 9) := fun M => ⟨_, rfl, rfl⟩
theorem xf_5_1 {ad : Nat → Nat} {cy : Nat → ClassId} : FldI (wX ad cy) 5 (ad 5) 5 1 := fun M => ⟨_, rfl, rfl, Nat.le_of_ble_eq_true rfl, fun v => rfl⟩
theorem xf_5_2 {ad : Nat → Nat} {cy : Nat → ClassId} : FldI (wX ad cy) 5 (ad 5) 5 2 := fun M => ⟨_, rfl, rfl, Nat.le_of_ble_eq_true rfl, fun v => rfl⟩
theorem xf_5_3 {ad : Nat → Nat} {cy : Nat → ClassId} : FldI (wX ad cy) 5 (ad 5) 5 3 := fun M => ⟨_, rfl, rfl, Nat.le_of_ble_eq_true rfl, fun v => rfl⟩
theorem xa_6 {ad : Nat → Nat} {cy : Nat → ClassId} : ArrJ (wX ad cy) 6 (ad 6) (cy 1) 20 := fun M => ⟨rfl, fun k v => rfl⟩
theorem xa_7 {ad : Nat → Nat} {cy : Nat → ClassId} : ArrJ (wX ad cy) 7 (ad 7) (cy 1) 20 := fun M => ⟨rfl, fun k v => rfl⟩
theorem xa_8 {ad : Nat → Nat} {cy : Nat → ClassId} : ArrJ (wX ad cy) 8 (ad 8) (cy 1) 20 := fun M => ⟨rfl, fun k v => rfl⟩
theorem xa_9 {ad : Nat → Nat} {cy : Nat → ClassId} : ArrJ (wX ad cy) 9 (ad 9) (cy 1) 20 := fun M => ⟨rfl, fun k v => rfl⟩
theorem xo_10 {ad : Nat → Nat} {cy : Nat → ClassId} : ObjAt (wX ad cy) 10 (ad 10) 4 := fun M => ⟨_, rfl⟩
theorem xf_10_0 {ad : Nat → Nat} {cy : Nat → ClassId} : FldR (wX ad cy) 10 (ad 10) 4 0 (ad 11) := fun M => ⟨_, rfl, rfl⟩
theorem xf_10_1 {ad : Nat → Nat} {cy : Nat → ClassId} : FldR (wX ad cy) 10 (ad 10) 4 1 (ad 12) := fun M => ⟨_, rfl, rfl⟩
theorem xf_10_2 {ad : Nat → Nat} {cy : Nat → ClassId} : FldI (wX ad cy) 10 (ad 10) 4 2 := fun M => ⟨_, rfl, rfl, Nat.le_of_ble_eq_true rfl, fun v => rfl⟩
theorem xa_11 {ad : Nat → Nat} {cy : Nat → ClassId} : ArrI (wX ad cy) 11 (ad 11) (cy 0) 8 := fun M => ⟨rfl, fun k v => rfl⟩
theorem xa_12 {ad : Nat → Nat} {cy : Nat → ClassId} : ArrI (wX ad cy) 12 (ad 12) (cy 0) 8 := fun M => ⟨rfl, fun k v => rfl⟩
theorem xo_13 {ad : Nat → Nat} {cy : Nat → ClassId} : ObjAt (wX ad cy) 13 (ad 13) 2 := fun M => ⟨_, rfl⟩
theorem xf_13_0 {ad : Nat → Nat} {cy : Nat → ClassId} : FldR (wX ad cy) 13 (ad 13) 2 0 (ad 14) := fun M => ⟨_, rfl, rfl⟩
theorem xf_13_1 {ad : Nat → Nat} {cy : Nat → ClassId} : FldR (wX ad cy) 13 (ad 13) 2 1 (ad 17) := fun M => ⟨_, rfl, rfl⟩
theorem xf_13_2 {ad : Nat → Nat} {cy : Nat → ClassId} : FldR (wX ad cy) 13 (ad 13) 2 2 (ad 18) := fun M => ⟨_, rfl, rfl⟩
theorem xf_13_3 {ad : Nat → Nat} {cy : Nat → ClassId} : FldR (wX ad cy) 13 (ad 13) 2 3 (ad 19) := fun M => ⟨_, rfl, rfl⟩
theorem xf_13_4 {ad : Nat → Nat} {cy : Nat → ClassId} : FldI (wX ad cy) 13 (ad 13) 2 4 := fun M => ⟨_, rfl, rfl, Nat.le_of_ble_eq_true rfl, fun v => rfl⟩
theorem xf_13_5 {ad : Nat → Nat} {cy : Nat → ClassId} : FldI (wX ad cy) 13 (ad 13) 2 5 := fun M => ⟨_, rfl, rfl, Nat.le_of_ble_eq_true rfl, fun v => rfl⟩
theorem xf_13_6 {ad : Nat → Nat} {cy : Nat → ClassId} : FldR (wX ad cy) 13 (ad 13) 2 6 (ad 20) := fun M => ⟨_, rfl, rfl⟩
theorem xf_13_7 {ad : Nat → Nat} {cy : Nat → ClassId} : FldR (wX ad cy) 13 (ad 13) 2 7 (ad 21) := fun M => ⟨_, rfl, rfl⟩
theorem xo_14 {ad : Nat → Nat} {cy : Nat → ClassId} : ObjAt (wX ad cy) 14 (ad 14) 4 := fun M => ⟨_, rfl⟩
theorem xf_14_0 {ad : Nat → Nat} {cy : Nat → ClassId} : FldR (wX ad cy) 14 (ad 14) 4 0 (ad 15) := fun M => ⟨_, rfl, rfl⟩
theorem xf_14_1 {ad : Nat → Nat} {cy : Nat → ClassId} : FldR (wX ad cy) 14 (ad 14) 4 1 (ad 16) := fun M => ⟨_, rfl, rfl⟩
theorem xf_14_2 {ad : Nat → Nat} {cy : Nat → ClassId} : FldI (wX ad cy) 14 (ad 14) 4 2 := fun M => ⟨_, rfl, rfl, Nat.le_of_ble_eq_true rfl, fun v => rfl⟩
theorem xa_15 {ad : Nat → Nat} {cy : Nat → ClassId} : ArrI (wX ad cy) 15 (ad 15) (cy 0) 8 := fun M => ⟨rfl, fun k v => rfl⟩
theorem xa_16 {ad : Nat → Nat} {cy : Nat → ClassId} : ArrI (wX ad cy) 16 (ad 16) (cy 0) 8 := fun M => ⟨rfl, fun k v => rfl⟩
theorem xa_17 {ad : Nat → Nat} {cy : Nat → ClassId} : ArrI (wX ad cy) 17 (ad 17) (cy 0) 28 := fun M => ⟨rfl, fun k v => rfl⟩
theorem xa_18 {ad : Nat → Nat} {cy : Nat → ClassId} : ArrI (wX ad cy) 18 (ad 18) (cy 0) 28 := fun M => ⟨rfl, fun k v => rfl⟩
theorem xa_19 {ad : Nat → Nat} {cy : Nat → ClassId} : ArrI (wX ad cy) 19 (ad 19) (cy 0) 28 := fun M => ⟨rfl, fun k v => rfl⟩
theorem xa_20 {ad : Nat → Nat} {cy : Nat → ClassId} : ArrI (wX ad cy) 20 (ad 20) (cy 0) 64 := fun M => ⟨rfl, fun k v => rfl⟩
theorem xa_21 {ad : Nat → Nat} {cy : Nat → ClassId} : ArrI (wX ad cy) 21 (ad 21) (cy 0) 224 := fun M => ⟨rfl, fun k v => rfl⟩
theorem xo_22 {ad : Nat → Nat} {cy : Nat → ClassId} : ObjAt (wX ad cy) 22 (ad 22) 1 := fun M => ⟨_, rfl⟩
theorem xf_22_0 {ad : Nat → Nat} {cy : Nat → ClassId} : FldR (wX ad cy) 22 (ad 22) 1 0 (ad 23) := fun M => ⟨_, rfl, rfl⟩
theorem xf_22_1 {ad : Nat → Nat} {cy : Nat → ClassId} : FldI (wX ad cy) 22 (ad 22) 1 1 := fun M => ⟨_, rfl, rfl, Nat.le_of_ble_eq_true rfl, fun v => rfl⟩
theorem xf_22_2 {ad : Nat → Nat} {cy : Nat → ClassId} : FldR (wX ad cy) 22 (ad 22) 1 2 (ad 24) := fun M => ⟨_, rfl, rfl⟩
theorem xa_23 {ad : Nat → Nat} {cy : Nat → ClassId} : ArrI (wX ad cy) 23 (ad 23) (cy 0) 256 := fun M => ⟨rfl, fun k v => rfl⟩
theorem xa_24 {ad : Nat → Nat} {cy : Nat → ClassId} : ArrI (wX ad cy) 24 (ad 24) (cy 0) 7168 := fun M => ⟨rfl, fun k v => rfl⟩
theorem xo_25 {ad : Nat → Nat} {cy : Nat → ClassId} : ObjAt (wX ad cy) 25 (ad 25) 0 := fun M => ⟨_, rfl⟩
theorem xf_25_0 {ad : Nat → Nat} {cy : Nat → ClassId} : FldR (wX ad cy) 25 (ad 25) 0 0 (ad 26) := fun M => ⟨_, rfl, rfl⟩
theorem xf_25_1 {ad : Nat → Nat} {cy : Nat → ClassId} : FldR (wX ad cy) 25 (ad 25) 0 1 (ad 27) := fun M => ⟨_, rfl, rfl⟩
theorem xf_25_2 {ad : Nat → Nat} {cy : Nat → ClassId} : FldI (wX ad cy) 25 (ad 25) 0 2 := fun M => ⟨_, rfl, rfl, Nat.le_of_ble_eq_true rfl, fun v => rfl⟩
theorem xf_25_3 {ad : Nat → Nat} {cy : Nat → ClassId} : FldI (wX ad cy) 25 (ad 25) 0 3 := fun M => ⟨_, rfl, rfl, Nat.le_of_ble_eq_true rfl, fun v => rfl⟩
theorem xf_25_4 {ad : Nat → Nat} {cy : Nat → ClassId} : FldI (wX ad cy) 25 (ad 25) 0 4 := fun M => ⟨_, rfl, rfl, Nat.le_of_ble_eq_true rfl, fun v => rfl⟩
theorem xa_26 {ad : Nat → Nat} {cy : Nat → ClassId} : ArrI (wX ad cy) 26 (ad 26) (cy 0) 256 := fun M => ⟨rfl, fun k v => rfl⟩
theorem xa_27 {ad : Nat → Nat} {cy : Nat → ClassId} : ArrI (wX ad cy) 27 (ad 27) (cy 0) 256 := fun M => ⟨rfl, fun k v => rfl⟩
theorem xo_28 {ad : Nat → Nat} {cy : Nat → ClassId} : ObjAt (wX ad cy) 28 (ad 28) 6 := fun M => ⟨_, rfl⟩
theorem xf_28_0 {ad : Nat → Nat} {cy : Nat → ClassId} : FldR (wX ad cy) 28 (ad 28) 6 0 (ad 29) := fun M => ⟨_, rfl, rfl⟩
theorem xf_28_1 {ad : Nat → Nat} {cy : Nat → ClassId} : FldR (wX ad cy) 28 (ad 28) 6 1 (ad 30) := fun M => ⟨_, rfl, rfl⟩
theorem xf_28_2 {ad : Nat → Nat} {cy : Nat → ClassId} : FldI (wX ad cy) 28 (ad 28) 6 2 := fun M => ⟨_, rfl, rfl, Nat.le_of_ble_eq_true rfl, fun v => rfl⟩
theorem xa_29 {ad : Nat → Nat} {cy : Nat → ClassId} : ArrI (wX ad cy) 29 (ad 29) (cy 0) 256 := fun M => ⟨rfl, fun k v => rfl⟩
theorem xa_30 {ad : Nat → Nat} {cy : Nat → ClassId} : ArrI (wX ad cy) 30 (ad 30) (cy 0) 256 := fun M => ⟨rfl, fun k v => rfl⟩
theorem xo_31 {ad : Nat → Nat} {cy : Nat → ClassId} : ObjAt (wX ad cy) 31 (ad 31) 3 := fun M => ⟨_, rfl⟩
theorem xf_31_0 {ad : Nat → Nat} {cy : Nat → ClassId} : FldI (wX ad cy) 31 (ad 31) 3 0 := fun M => ⟨_, rfl, rfl, Nat.le_of_ble_eq_true rfl, fun v => rfl⟩
theorem xf_31_1 {ad : Nat → Nat} {cy : Nat → ClassId} : FldR (wX ad cy) 31 (ad 31) 3 1 (ad 32) := fun M => ⟨_, rfl, rfl⟩
theorem xf_31_2 {ad : Nat → Nat} {cy : Nat → ClassId} : FldI (wX ad cy) 31 (ad 31) 3 2 := fun M => ⟨_, rfl, rfl, Nat.le_of_ble_eq_true rfl, fun v => rfl⟩
theorem xa_32 {ad : Nat → Nat} {cy : Nat → ClassId} : ArrI (wX ad cy) 32 (ad 32) (cy 0) 10 := fun M => ⟨rfl, fun k v => rfl⟩
theorem xa_33 {ad : Nat → Nat} {cy : Nat → ClassId} : ArrI (wX ad cy) 33 (ad 33) (cy 0) 28 := fun M => ⟨rfl, fun k v => rfl⟩
def wR (ad : Nat → Nat) (cy : Nat → ClassId) (M : Mem) : va_W := [(ad 0, .inr (8, [.int (M.1 0 0), .ref (ad 1), .ref (ad 2), .ref (ad 3), .int (M.1 0 4), .int (M.1 0 5), .ref (ad 4), .ref (ad 5), .int (M.1 0 8), .int (M.1 0 9), .ref (ad 6), .ref (ad 7), .int (M.1 0 12), .ref (ad 8), .ref (ad 9), .ref (ad 10), .ref (ad 11), .ref (ad 12), .int (M.1 0 18), .int (M.1 0 19), .int (M.1 0 20), .ref (ad 13), .int (M.1 0 22), .ref (ad 14), .int (M.1 0 24), .int (M.1 0 25), .ref (ad 15), .int (M.1 0 27), .ref (ad 16), .ref (ad 17), .ref (ad 18), .ref (ad 19), .ref (ad 20), .ref (ad 21)])),
  (ad 1, .inl (cy 0, 4, .inl (M.1 1))),
  (ad 2, .inl (cy 0, 4, .inl (M.1 2))),
  (ad 3, .inl (cy 1, 80, .inr (.inl (M.2 3)))),
  (ad 4, .inl (cy 0, 8, .inl (M.1 4))),
  (ad 5, .inl (cy 0, 8, .inl (M.1 5))),
  (ad 6, .inl (cy 0, 8, .inl (M.1 6))),
  (ad 7, .inl (cy 0, 8, .inl (M.1 7))),
  (ad 8, .inl (cy 0, 28, .inl (M.1 8))),
  (ad 9, .inl (cy 0, 28, .inl (M.1 9))),
  (ad 10, .inl (cy 0, 64, .inl (M.1 10))),
  (ad 11, .inl (cy 0, 28, .inl (M.1 11))),
  (ad 12, .inl (cy 0, 28, .inl (M.1 12))),
  (ad 13, .inl (cy 0, 2000, .inl (M.1 13))),
  (ad 14, .inl (cy 0, 2000, .inl (M.1 14))),
  (ad 15, .inl (cy 0, 10, .inl (M.1 15))),
  (ad 16, .inl (cy 0, 60, .inl (M.1 16))),
  (ad 17, .inl (cy 0, 60, .inl (M.1 17))),
  (ad 18, .inl (cy 0, 60, .inl (M.1 18))),
  (ad 19, .inl (cy 0, 2000, .inl (M.1 19))),
  (ad 20, .inl (cy 0, 2000, .inl (M.1 20))),
  (ad 21, .inl (cy 0, 29, .inl (M.1 21)))]
theorem ro_0 {ad : Nat → Nat} {cy : Nat → ClassId} : ObjAt (wR ad cy) 0 (ad 0) 8 := fun M => ⟨_, rfl⟩
theorem rf_0_0 {ad : Nat → Nat} {cy : Nat → ClassId} : FldI (wR ad cy) 0 (ad 0) 8 0 := fun M => ⟨_, rfl, rfl, Nat.le_of_ble_eq_true rfl, fun v => rfl⟩
theorem rf_0_1 {ad : Nat → Nat} {cy : Nat → ClassId} : FldR (wR ad cy) 0 (ad 0) 8 1 (ad 1) := fun M => ⟨_, rfl, rfl⟩
theorem rf_0_2 {ad : Nat → Nat} {cy : Nat → ClassId} : FldR (wR ad cy) 0 (ad 0) 8 2 (ad 2) := fun M => ⟨_, rfl, rfl⟩
theorem rf_0_3 {ad : Nat → Nat} {cy : Nat → ClassId} : FldR (wR ad cy) 0 (ad 0) 8 3 (ad 3) := fun M => ⟨_, rfl, rfl⟩
theorem rf_0_4 {ad : Nat → Nat} {cy : Nat → ClassId} : FldI (wR ad cy) 0 (ad 0) 8 4 := fun M => ⟨_, rfl, rfl, Nat.le_of_ble_eq_true rfl, fun v => rfl⟩
theorem rf_0_5 {ad : Nat → Nat} {cy : Nat → ClassId} : FldI (wR ad cy) 0 (ad 0) 8 5 := fun M => ⟨_, rfl, rfl, Nat.le_of_ble_eq_true rfl, fun v => rfl⟩
theorem rf_0_6 {ad : Nat → Nat} {cy : Nat → ClassId} : FldR (wR ad cy) 0 (ad 0) 8 6 (ad 4) := fun M => ⟨_, rfl, rfl⟩
theorem rf_0_7 {ad : Nat → Nat} {cy : Nat → ClassId} : FldR (wR ad cy) 0 (ad 0) 8 7 (ad 5) := fun M => ⟨_, rfl, rfl⟩
theorem rf_0_8 {ad : Nat → Nat} {cy : Nat → ClassId} : FldI (wR ad cy) 0 (ad 0) 8 8 := fun M => ⟨_, rfl, rfl, Nat.le_of_ble_eq_true rfl, fun v => rfl⟩
theorem rf_0_9 {ad : Nat → Nat} {cy : Nat → ClassId} : FldI (wR ad cy) 0 (ad 0) 8 9 := fun M => ⟨_, rfl, rfl, Nat.le_of_ble_eq_true rfl, fun v => rfl⟩
theorem rf_0_10 {ad : Nat → Nat} {cy : Nat → ClassId} : FldR (wR ad cy) 0 (ad 0) 8 10 (ad 6) := fun M => ⟨_, rfl, rfl⟩
theorem rf_0_11 {ad : Nat → Nat} {cy : Nat → ClassId} : FldR (wR ad cy) 0 (ad 0) 8 11 (ad 7) := fun M => ⟨_, rfl, rfl⟩
theorem rf_0_12 {ad : Nat → Nat} {cy : Nat → ClassId} : FldI (wR ad cy) 0 (ad 0) 8 12 := fun M => ⟨_, rfl, rfl, Nat.le_of_ble_eq_true rfl, fun v => rfl⟩
theorem rf_0_13 {ad : Nat → Nat} {cy : Nat → ClassId} : FldR (wR ad cy) 0 (ad 0) 8 13 (ad 8) := fun M => ⟨_, rfl, rfl⟩
theorem rf_0_14 {ad : Nat → Nat} {cy : Nat → ClassId} : FldR (wR ad cy) 0 (ad 0) 8 14 (ad 9) := fun M => ⟨_, rfl, rfl⟩
theorem rf_0_15 {ad : Nat → Nat} {cy : Nat → ClassId} : FldR (wR ad cy) 0 (ad 0) 8 15 (ad 10) := fun M => ⟨_, rfl, rfl⟩
theorem rf_0_16 {ad : Nat → Nat} {cy : Nat → ClassId} : FldR (wR ad cy) 0 (ad 0) 8 16 (ad 11) := fun M => ⟨_, rfl, rfl⟩
theorem rf_0_17 {ad : Nat → Nat} {cy : Nat → ClassId} : FldR (wR ad cy) 0 (ad 0) 8 17 (ad 12) := fun M => ⟨_, rfl, rfl⟩
theorem rf_0_18 {ad : Nat → Nat} {cy : Nat → ClassId} : FldI (wR ad cy) 0 (ad 0) 8 18 := fun M => ⟨_, rfl, rfl, Nat.le_of_ble_eq_true rfl, fun v => rfl⟩
theorem rf_0_19 {ad : Nat → Nat} {cy : Nat → ClassId} : FldI (wR ad cy) 0 (ad 0) 8 19 := fun M => ⟨_, rfl, rfl, Nat.le_of_ble_eq_true rfl, fun v => rfl⟩
theorem rf_0_20 {ad : Nat → Nat} {cy : Nat → ClassId} : FldI (wR ad cy) 0 (ad 0) 8 20 := fun M => ⟨_, rfl, rfl, Nat.le_of_ble_eq_true rfl, fun v => rfl⟩
theorem rf_0_21 {ad : Nat → Nat} {cy : Nat → ClassId} : FldR (wR ad cy) 0 (ad 0) 8 21 (ad 13) := fun M => ⟨_, rfl, rfl⟩
theorem rf_0_22 {ad : Nat → Nat} {cy : Nat → ClassId} : FldI (wR ad cy) 0 (ad 0) 8 22 := fun M => ⟨_, rfl, rfl, Nat.le_of_ble_eq_true rfl, fun v => rfl⟩
theorem rf_0_23 {ad : Nat → Nat} {cy : Nat → ClassId} : FldR (wR ad cy) 0 (ad 0) 8 23 (ad 14) := fun M => ⟨_, rfl, rfl⟩
theorem rf_0_24 {ad : Nat → Nat} {cy : Nat → ClassId} : FldI (wR ad cy) 0 (ad 0) 8 24 := fun M => ⟨_, rfl, rfl, Nat.le_of_ble_eq_true rfl, fun v => rfl⟩
theorem rf_0_25 {ad : Nat → Nat} {cy : Nat → ClassId} : FldI (wR ad cy) 0 (ad 0) 8 25 := fun M => ⟨_, rfl, rfl, Nat.le_of_ble_eq_true rfl, fun v => rfl⟩
theorem rf_0_26 {ad : Nat → Nat} {cy : Nat → ClassId} : FldR (wR ad cy) 0 (ad 0) 8 26 (ad 15) := fun M => ⟨_, rfl, rfl⟩
theorem rf_0_27 {ad : Nat → Nat} {cy : Nat → ClassId} : FldI (wR ad cy) 0 (ad 0) 8 27 := fun M => ⟨_, rfl, rfl, Nat.le_of_ble_eq_true rfl, fun v => rfl⟩
theorem rf_0_28 {ad : Nat → Nat} {cy : Nat → ClassId} : FldR (wR ad cy) 0 (ad 0) 8 28 (ad 16) := fun M => ⟨_, rfl, rfl⟩
theorem rf_0_29 {ad : Nat → Nat} {cy : Nat → ClassId} : FldR (wR ad cy) 0 (ad 0) 8 29 (ad 17) := fun M => ⟨_, rfl, rfl⟩
theorem rf_0_30 {ad : Nat → Nat} {cy : Nat → ClassId} : FldR (wR ad cy) 0 (ad 0) 8 30 (ad 18) := fun M => ⟨_, rfl, rfl⟩
theorem rf_0_31 {ad : Nat → Nat} {cy : Nat → ClassId} : FldR (wR ad cy) 0 (ad 0) 8 31 (ad 19) := fun M => ⟨_, rfl, rfl⟩
theorem rf_0_32 {ad : Nat → Nat} {cy : Nat → ClassId} : FldR (wR ad cy) 0 (ad 0) 8 32 (ad 20) := fun M => ⟨_, rfl, rfl⟩
theorem rf_0_33 {ad : Nat → Nat} {cy : Nat → ClassId} : FldR (wR ad cy) 0 (ad 0) 8 33 (ad 21) := fun M => ⟨_, rfl, rfl⟩
theorem ra_1 {ad : Nat → Nat} {cy : Nat → ClassId} : ArrI (wR ad cy) 1 (ad 1) (cy 0) 4 := fun M => ⟨rfl, fun k v => rfl⟩
theorem ra_2 {ad : Nat → Nat} {cy : Nat → ClassId} : ArrI (wR ad cy) 2 (ad 2) (cy 0) 4 := fun M => ⟨rfl, fun k v => rfl⟩
theorem ra_3 {ad : Nat → Nat} {cy : Nat → ClassId} : ArrJ (wR ad cy) 3 (ad 3) (cy 1) 80 := fun M => ⟨rfl, fun k v => rfl⟩
theorem ra_4 {ad : Nat → Nat} {cy : Nat → ClassId} : ArrI (wR ad cy) 4 (ad 4) (cy 0) 8 := fun M => ⟨rfl, fun k v => rfl⟩
theorem ra_5 {ad : Nat → Nat} {cy : Nat → ClassId} : ArrI (wR ad cy) 5 (ad 5) (cy 0) 8 := fun M => ⟨rfl, fun k v => rfl⟩
theorem ra_6 {ad : Nat → Nat} {cy : Nat → ClassId} : ArrI (wR ad cy) 6 (ad 6) (cy 0) 8 := fun M => ⟨rfl, fun k v => rfl⟩
theorem ra_7 {ad : Nat → Nat} {cy : Nat → ClassId} : ArrI (wR ad cy) 7 (ad 7) (cy 0) 8 := fun M => ⟨rfl, fun k v => rfl⟩
theorem ra_8 {ad : Nat → Nat} {cy : Nat → ClassId} : ArrI (wR ad cy) 8 (ad 8) (cy 0) 28 := fun M => ⟨rfl, fun k v => rfl⟩
theorem ra_9 {ad : Nat → Nat} {cy : Nat → ClassId} : ArrI (wR ad cy) 9 (ad 9) (cy 0) 28 := fun M => ⟨rfl, fun k v => rfl⟩
theorem ra_10 {ad : Nat → Nat} {cy : Nat → ClassId} : ArrI (wR ad cy) 10 (ad 10) (cy 0) 64 := fun M => ⟨rfl, fun k v => rfl⟩
theorem ra_11 {ad : Nat → Nat} {cy : Nat → ClassId} : ArrI (wR ad cy) 11 (ad 11) (cy 0) 28 := fun M => ⟨rfl, fun k v => rfl⟩
theorem ra_12 {ad : Nat → Nat} {cy : Nat → ClassId} : ArrI (wR ad cy) 12 (ad 12) (cy 0) 28 := fun M => ⟨rfl, fun k v => rfl⟩
theorem ra_13 {ad : Nat → Nat} {cy : Nat → ClassId} : ArrI (wR ad cy) 13 (ad 13) (cy 0) 2000 := fun M => ⟨rfl, fun k v => rfl⟩
theorem ra_14 {ad : Nat → Nat} {cy : Nat → ClassId} : ArrI (wR ad cy) 14 (ad 14) (cy 0) 2000 := fun M => ⟨rfl, fun k v => rfl⟩
theorem ra_15 {ad : Nat → Nat} {cy : Nat → ClassId} : ArrI (wR ad cy) 15 (ad 15) (cy 0) 10 := fun M => ⟨rfl, fun k v => rfl⟩
theorem ra_16 {ad : Nat → Nat} {cy : Nat → ClassId} : ArrI (wR ad cy) 16 (ad 16) (cy 0) 60 := fun M => ⟨rfl, fun k v => rfl⟩
theorem ra_17 {ad : Nat → Nat} {cy : Nat → ClassId} : ArrI (wR ad cy) 17 (ad 17) (cy 0) 60 := fun M => ⟨rfl, fun k v => rfl⟩
theorem ra_18 {ad : Nat → Nat} {cy : Nat → ClassId} : ArrI (wR ad cy) 18 (ad 18) (cy 0) 60 := fun M => ⟨rfl, fun k v => rfl⟩
theorem ra_19 {ad : Nat → Nat} {cy : Nat → ClassId} : ArrI (wR ad cy) 19 (ad 19) (cy 0) 2000 := fun M => ⟨rfl, fun k v => rfl⟩
theorem ra_20 {ad : Nat → Nat} {cy : Nat → ClassId} : ArrI (wR ad cy) 20 (ad 20) (cy 0) 2000 := fun M => ⟨rfl, fun k v => rfl⟩
theorem ra_21 {ad : Nat → Nat} {cy : Nat → ClassId} : ArrI (wR ad cy) 21 (ad 21) (cy 0) 29 := fun M => ⟨rfl, fun k v => rfl⟩
