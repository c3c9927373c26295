/-! THE REFERENCE: its state (ints by their fields, truth values, rows of ints, the row of longs), its cells -/
abbrev MS : Type := (Nat → Int32) × (Nat → Bool) × (Nat → Nat → Int32) × (Nat → Int64)
abbrev mI (σ : MS) (k : Nat) : Int32 := σ.1 k
abbrev mZ (σ : MS) (k : Nat) : Bool := σ.2.1 k
abbrev mA (σ : MS) (k : Nat) : Nat → Int32 := σ.2.2.1 k
abbrev mE (σ : MS) : Nat → Int64 := σ.2.2.2
def sI (σ : MS) (k : Nat) (v : Int32) : MS := (va_up σ.1 k v, σ.2)
def sZ (σ : MS) (k : Nat) (b : Bool) : MS := (σ.1, va_up σ.2.1 k b, σ.2.2)
def sA (σ : MS) (k i : Nat) (v : Int32) : MS := (σ.1, σ.2.1, va_up σ.2.2.1 k (upd (σ.2.2.1 k) i v), σ.2.2.2)
def sE (σ : MS) (i : Nat) (v : Int64) : MS := (σ.1, σ.2.1, σ.2.2.1, vp_updL σ.2.2.2 i v)
def fM (ad : Nat → Nat) (σ : MS) : List Value := [.ref (ad 1), .ref (ad 2), .ref (ad 3), .ref (ad 4), .ref (ad 5), .int (mI σ 5), .int (mI σ 6), .int (mI σ 7), .int (mI σ 8), .int (mI σ 9), .ref (ad 11), .ref (ad 12), .ref (ad 13), .ref (ad 14), .ref (ad 15), .ref (ad 16), .ref (ad 17), .ref (ad 18), .ref (ad 19), .ref (ad 20), .ref (ad 21), .int (mI σ 21), .int (mI σ 22), .int (mI σ 23), .int (mI σ 24), .ref (ad 26), .ref (ad 27), .ref (ad 28), .ref (ad 29), .ref (ad 30), .ref (ad 31), .ref (ad 32), .ref (ad 33), .ref (ad 34), .ref (ad 35), .int (mI σ 35), .int (mI σ 36), .int (mI σ 37), .int (mI σ 38), .ref (ad 40), .int (bI (mZ σ 40)), .int (bI (mZ σ 41)), .int (mI σ 42)]
def wsM (ad : Nat → Nat) (Z : ZT) (σ : MS) : va_W := [(ad 0, .inr (7, fM ad σ)), (ad 1, .inl (Z.1, 8, .inl (mA σ 0))), (ad 2, .inl (Z.1, 6, .inl (mA σ 1))), (ad 3, .inl (Z.1, 60, .inl (mA σ 2))), (ad 4, .inl (Z.1, 6, .inl (mA σ 3))), (ad 5, .inl (Z.1, 6, .inl (mA σ 4))), (ad 11, .inl (Z.1, 6, .inl (mA σ 10))), (ad 12, .inl (Z.1, 6, .inl (mA σ 11))), (ad 13, .inl (Z.1, 6, .inl (mA σ 12))), (ad 14, .inl (Z.1, 120, .inl (mA σ 13))), (ad 15, .inl (Z.1, 6, .inl (mA σ 14))), (ad 16, .inl (Z.1, 3, .inl (mA σ 15))), (ad 17, .inl (Z.1, 200, .inl (mA σ 16))), (ad 18, .inl (Z.1, 200, .inl (mA σ 17))), (ad 19, .inl (Z.1, 200, .inl (mA σ 18))), (ad 20, .inl (Z.1, 200, .inl (mA σ 19))), (ad 21, .inl (Z.1, 200, .inl (mA σ 20))), (ad 26, .inl (Z.1, 366, .inl (mA σ 25))), (ad 27, .inl (Z.1, 366, .inl (mA σ 26))), (ad 28, .inl (Z.1, 61, .inl (mA σ 27))), (ad 29, .inl (Z.1, 8, .inl (mA σ 28))), (ad 30, .inl (Z.1, 8, .inl (mA σ 29))), (ad 31, .inl (Z.2.1, 1280, .inr (.inl (mE σ)))), (ad 32, .inl (Z.1, 60, .inl (mA σ 31))), (ad 33, .inl (Z.1, 60, .inl (mA σ 32))), (ad 34, .inl (Z.1, 60, .inl (mA σ 33))), (ad 35, .inl (Z.1, 60, .inl (mA σ 34))), (ad 40, .inl (Z.1, 90, .inl (mA σ 39)))]
section MR
variable {α : Type} {X : JX} {M : JM} {Qf : α → State → Prop} {pc : Nat} {lv : List (Option Value)} {st : List Value} {o : Option α} {ad : Nat → Nat} {σ : MS}
theorem gM0 (d : decode M.1 pc = .ok (.getfield 7, 3)) (hM : M.2.2.1 = RX10) (k : JO X M Qf (pc + 3) lv (.ref (ad 1) :: st) (wsM ad (xZ X) σ) o) : JO X M Qf pc lv (.ref (ad 0) :: st) (wsM ad (xZ X) σ) o :=
  JO.get (q0 := 0) (ci := 7) (fs := fM ad σ) rfl inT10 rfl 0 rfl (by rw [hM]; exact k4_237) (Or.inl rfl) rfl d k
theorem aM0 {i : Int32} (d : decode M.1 pc = .ok (.iaload, 1)) (k : JO X M Qf (pc + 1) lv (.int (mA σ 0 (ix i)) :: st) (wsM ad (xZ X) σ) o) : JO X M Qf pc lv (.int i :: .ref (ad 1) :: st) (wsM ad (xZ X) σ) (if inB i 8 = true then o else none) :=
  JO.iald (q0 := 1) rfl d k
theorem uM0_w {i x : Int32} : (wsM ad (xZ X) σ).set 1 (ad 1, .inl ((xZ X).1, 8, .inl (upd (mA σ 0) (ix i) x))) = wsM ad (xZ X) (sA σ 0 (ix i) x) := rfl
theorem uM0 {i x : Int32} (d : decode M.1 pc = .ok (.iastore, 1)) (k : JO X M Qf (pc + 1) lv st (wsM ad (xZ X) (sA σ 0 (ix i) x)) o) : JO X M Qf pc lv (.int x :: .int i :: .ref (ad 1) :: st) (wsM ad (xZ X) σ) (if inB i 8 = true then o else none) :=
  JO.iast (q0 := 1) rfl uM0_w d k
theorem nM0 (d : decode M.1 pc = .ok (.arraylength, 1)) (k : JO X M Qf (pc + 1) lv (.int 8 :: st) (wsM ad (xZ X) σ) o) : JO X M Qf pc lv (.ref (ad 1) :: st) (wsM ad (xZ X) σ) o :=
  JO.alen (q0 := 1) 0 rfl rfl 8 rfl d k
theorem gM1 (d : decode M.1 pc = .ok (.getfield 13, 3)) (hM : M.2.2.1 = RX10) (k : JO X M Qf (pc + 3) lv (.ref (ad 2) :: st) (wsM ad (xZ X) σ) o) : JO X M Qf pc lv (.ref (ad 0) :: st) (wsM ad (xZ X) σ) o :=
  JO.get (q0 := 0) (ci := 7) (fs := fM ad σ) rfl inT10 rfl 1 rfl (by rw [hM]; exact k4_238) (Or.inl rfl) rfl d k
theorem aM1 {i : Int32} (d : decode M.1 pc = .ok (.iaload, 1)) (k : JO X M Qf (pc + 1) lv (.int (mA σ 1 (ix i)) :: st) (wsM ad (xZ X) σ) o) : JO X M Qf pc lv (.int i :: .ref (ad 2) :: st) (wsM ad (xZ X) σ) (if inB i 6 = true then o else none) :=
  JO.iald (q0 := 2) rfl d k
theorem uM1_w {i x : Int32} : (wsM ad (xZ X) σ).set 2 (ad 2, .inl ((xZ X).1, 6, .inl (upd (mA σ 1) (ix i) x))) = wsM ad (xZ X) (sA σ 1 (ix i) x) := rfl
theorem uM1 {i x : Int32} (d : decode M.1 pc = .ok (.iastore, 1)) (k : JO X M Qf (pc + 1) lv st (wsM ad (xZ X) (sA σ 1 (ix i) x)) o) : JO X M Qf pc lv (.int x :: .int i :: .ref (ad 2) :: st) (wsM ad (xZ X) σ) (if inB i 6 = true then o else none) :=
  JO.iast (q0 := 2) rfl uM1_w d k
theorem nM1 (d : decode M.1 pc = .ok (.arraylength, 1)) (k : JO X M Qf (pc + 1) lv (.int 6 :: st) (wsM ad (xZ X) σ) o) : JO X M Qf pc lv (.ref (ad 2) :: st) (wsM ad (xZ X) σ) o :=
  JO.alen (q0 := 2) 0 rfl rfl 6 rfl d k
theorem gM2 (d : decode M.1 pc = .ok (.getfield 16, 3)) (hM : M.2.2.1 = RX10) (k : JO X M Qf (pc + 3) lv (.ref (ad 3) :: st) (wsM ad (xZ X) σ) o) : JO X M Qf pc lv (.ref (ad 0) :: st) (wsM ad (xZ X) σ) o :=
  JO.get (q0 := 0) (ci := 7) (fs := fM ad σ) rfl inT10 rfl 2 rfl (by rw [hM]; exact k4_239) (Or.inl rfl) rfl d k
theorem aM2 {i : Int32} (d : decode M.1 pc = .ok (.iaload, 1)) (k : JO X M Qf (pc + 1) lv (.int (mA σ 2 (ix i)) :: st) (wsM ad (xZ X) σ) o) : JO X M Qf pc lv (.int i :: .ref (ad 3) :: st) (wsM ad (xZ X) σ) (if inB i 60 = true then o else none) :=
  JO.iald (q0 := 3) rfl d k
theorem uM2_w {i x : Int32} : (wsM ad (xZ X) σ).set 3 (ad 3, .inl ((xZ X).1, 60, .inl (upd (mA σ 2) (ix i) x))) = wsM ad (xZ X) (sA σ 2 (ix i) x) := rfl
theorem uM2 {i x : Int32} (d : decode M.1 pc = .ok (.iastore, 1)) (k : JO X M Qf (pc + 1) lv st (wsM ad (xZ X) (sA σ 2 (ix i) x)) o) : JO X M Qf pc lv (.int x :: .int i :: .ref (ad 3) :: st) (wsM ad (xZ X) σ) (if inB i 60 = true then o else none) :=
  JO.iast (q0 := 3) rfl uM2_w d k
theorem nM2 (d : decode M.1 pc = .ok (.arraylength, 1)) (k : JO X M Qf (pc + 1) lv (.int 60 :: st) (wsM ad (xZ X) σ) o) : JO X M Qf pc lv (.ref (ad 3) :: st) (wsM ad (xZ X) σ) o :=
  JO.alen (q0 := 3) 0 rfl rfl 60 rfl d k
theorem gM3 (d : decode M.1 pc = .ok (.getfield 19, 3)) (hM : M.2.2.1 = RX10) (k : JO X M Qf (pc + 3) lv (.ref (ad 4) :: st) (wsM ad (xZ X) σ) o) : JO X M Qf pc lv (.ref (ad 0) :: st) (wsM ad (xZ X) σ) o :=
  JO.get (q0 := 0) (ci := 7) (fs := fM ad σ) rfl inT10 rfl 3 rfl (by rw [hM]; exact k5_0) (Or.inl rfl) rfl d k
theorem aM3 {i : Int32} (d : decode M.1 pc = .ok (.iaload, 1)) (k : JO X M Qf (pc + 1) lv (.int (mA σ 3 (ix i)) :: st) (wsM ad (xZ X) σ) o) : JO X M Qf pc lv (.int i :: .ref (ad 4) :: st) (wsM ad (xZ X) σ) (if inB i 6 = true then o else none) :=
  JO.iald (q0 := 4) rfl d k
theorem uM3_w {i x : Int32} : (wsM ad (xZ X) σ).set 4 (ad 4, .inl ((xZ X).1, 6, .inl (upd (mA σ 3) (ix i) x))) = wsM ad (xZ X) (sA σ 3 (ix i) x) := rfl
theorem uM3 {i x : Int32} (d : decode M.1 pc = .ok (.iastore, 1)) (k : JO X M Qf (pc + 1) lv st (wsM ad (xZ X) (sA σ 3 (ix i) x)) o) : JO X M Qf pc lv (.int x :: .int i :: .ref (ad 4) :: st) (wsM ad (xZ X) σ) (if inB i 6 = true then o else none) :=
  JO.iast (q0 := 4) rfl uM3_w d k
theorem nM3 (d : decode M.1 pc = .ok (.arraylength, 1)) (k : JO X M Qf (pc + 1) lv (.int 6 :: st) (wsM ad (xZ X) σ) o) : JO X M Qf pc lv (.ref (ad 4) :: st) (wsM ad (xZ X) σ) o :=
  JO.alen (q0 := 4) 0 rfl rfl 6 rfl d k
theorem gM4 (d : decode M.1 pc = .ok (.getfield 22, 3)) (hM : M.2.2.1 = RX10) (k : JO X M Qf (pc + 3) lv (.ref (ad 5) :: st) (wsM ad (xZ X) σ) o) : JO X M Qf pc lv (.ref (ad 0) :: st) (wsM ad (xZ X) σ) o :=
  JO.get (q0 := 0) (ci := 7) (fs := fM ad σ) rfl inT10 rfl 4 rfl (by rw [hM]; exact k5_1) (Or.inl rfl) rfl d k
theorem aM4 {i : Int32} (d : decode M.1 pc = .ok (.iaload, 1)) (k : JO X M Qf (pc + 1) lv (.int (mA σ 4 (ix i)) :: st) (wsM ad (xZ X) σ) o) : JO X M Qf pc lv (.int i :: .ref (ad 5) :: st) (wsM ad (xZ X) σ) (if inB i 6 = true then o else none) :=
  JO.iald (q0 := 5) rfl d k
theorem uM4_w {i x : Int32} : (wsM ad (xZ X) σ).set 5 (ad 5, .inl ((xZ X).1, 6, .inl (upd (mA σ 4) (ix i) x))) = wsM ad (xZ X) (sA σ 4 (ix i) x) := rfl
theorem uM4 {i x : Int32} (d : decode M.1 pc = .ok (.iastore, 1)) (k : JO X M Qf (pc + 1) lv st (wsM ad (xZ X) (sA σ 4 (ix i) x)) o) : JO X M Qf pc lv (.int x :: .int i :: .ref (ad 5) :: st) (wsM ad (xZ X) σ) (if inB i 6 = true then o else none) :=
  JO.iast (q0 := 5) rfl uM4_w d k
theorem nM4 (d : decode M.1 pc = .ok (.arraylength, 1)) (k : JO X M Qf (pc + 1) lv (.int 6 :: st) (wsM ad (xZ X) σ) o) : JO X M Qf pc lv (.ref (ad 5) :: st) (wsM ad (xZ X) σ) o :=
  JO.alen (q0 := 5) 0 rfl rfl 6 rfl d k
theorem gM5 (d : decode M.1 pc = .ok (.getfield 96, 3)) (hM : M.2.2.1 = RX10) (k : JO X M Qf (pc + 3) lv (.int (mI σ 5) :: st) (wsM ad (xZ X) σ) o) : JO X M Qf pc lv (.ref (ad 0) :: st) (wsM ad (xZ X) σ) o :=
  JO.get (q0 := 0) (ci := 7) (fs := fM ad σ) rfl inT10 rfl 5 rfl (by rw [hM]; exact k5_2) (Or.inl rfl) rfl d k
theorem pM5_w {v : Int32} : (wsM ad (xZ X) σ).set 0 (ad 0, .inr (7, (fM ad σ).set 5 (.int v))) = wsM ad (xZ X) (sI σ 5 v) := rfl
theorem pM5 {v : Int32} (d : decode M.1 pc = .ok (.putfield 96, 3)) (hM : M.2.2.1 = RX10) (k : JO X M Qf (pc + 3) lv st (wsM ad (xZ X) (sI σ 5 v)) o) : JO X M Qf pc lv (.int v :: .ref (ad 0) :: st) (wsM ad (xZ X) σ) o :=
  JO.put (q0 := 0) (ci := 7) (fs := fM ad σ) (ty := .int) tyX10 tyX10_ok nmX10 rfl inT10 rfl 5 rfl (by rw [hM]; exact k5_2) (Or.inl rfl) rfl rfl rfl rfl (Nat.le_of_ble_eq_true rfl) pM5_w d k
theorem gM6 (d : decode M.1 pc = .ok (.getfield 99, 3)) (hM : M.2.2.1 = RX10) (k : JO X M Qf (pc + 3) lv (.int (mI σ 6) :: st) (wsM ad (xZ X) σ) o) : JO X M Qf pc lv (.ref (ad 0) :: st) (wsM ad (xZ X) σ) o :=
  JO.get (q0 := 0) (ci := 7) (fs := fM ad σ) rfl inT10 rfl 6 rfl (by rw [hM]; exact k5_3) (Or.inl rfl) rfl d k
theorem pM6_w {v : Int32} : (wsM ad (xZ X) σ).set 0 (ad 0, .inr (7, (fM ad σ).set 6 (.int v))) = wsM ad (xZ X) (sI σ 6 v) := rfl
theorem pM6 {v : Int32} (d : decode M.1 pc = .ok (.putfield 99, 3)) (hM : M.2.2.1 = RX10) (k : JO X M Qf (pc + 3) lv st (wsM ad (xZ X) (sI σ 6 v)) o) : JO X M Qf pc lv (.int v :: .ref (ad 0) :: st) (wsM ad (xZ X) σ) o :=
  JO.put (q0 := 0) (ci := 7) (fs := fM ad σ) (ty := .int) tyX10 tyX10_ok nmX10 rfl inT10 rfl 6 rfl (by rw [hM]; exact k5_3) (Or.inl rfl) rfl rfl rfl rfl (Nat.le_of_ble_eq_true rfl) pM6_w d k
theorem gM7 (d : decode M.1 pc = .ok (.getfield 102, 3)) (hM : M.2.2.1 = RX10) (k : JO X M Qf (pc + 3) lv (.int (mI σ 7) :: st) (wsM ad (xZ X) σ) o) : JO X M Qf pc lv (.ref (ad 0) :: st) (wsM ad (xZ X) σ) o :=
  JO.get (q0 := 0) (ci := 7) (fs := fM ad σ) rfl inT10 rfl 7 rfl (by rw [hM]; exact k5_4) (Or.inl rfl) rfl d k
theorem pM7_w {v : Int32} : (wsM ad (xZ X) σ).set 0 (ad 0, .inr (7, (fM ad σ).set 7 (.int v))) = wsM ad (xZ X) (sI σ 7 v) := rfl
theorem pM7 {v : Int32} (d : decode M.1 pc = .ok (.putfield 102, 3)) (hM : M.2.2.1 = RX10) (k : JO X M Qf (pc + 3) lv st (wsM ad (xZ X) (sI σ 7 v)) o) : JO X M Qf pc lv (.int v :: .ref (ad 0) :: st) (wsM ad (xZ X) σ) o :=
  JO.put (q0 := 0) (ci := 7) (fs := fM ad σ) (ty := .int) tyX10 tyX10_ok nmX10 rfl inT10 rfl 7 rfl (by rw [hM]; exact k5_4) (Or.inl rfl) rfl rfl rfl rfl (Nat.le_of_ble_eq_true rfl) pM7_w d k
theorem gM8 (d : decode M.1 pc = .ok (.getfield 136, 3)) (hM : M.2.2.1 = RX10) (k : JO X M Qf (pc + 3) lv (.int (mI σ 8) :: st) (wsM ad (xZ X) σ) o) : JO X M Qf pc lv (.ref (ad 0) :: st) (wsM ad (xZ X) σ) o :=
  JO.get (q0 := 0) (ci := 7) (fs := fM ad σ) rfl inT10 rfl 8 rfl (by rw [hM]; exact k5_5) (Or.inl rfl) rfl d k
theorem pM8_w {v : Int32} : (wsM ad (xZ X) σ).set 0 (ad 0, .inr (7, (fM ad σ).set 8 (.int v))) = wsM ad (xZ X) (sI σ 8 v) := rfl
theorem pM8 {v : Int32} (d : decode M.1 pc = .ok (.putfield 136, 3)) (hM : M.2.2.1 = RX10) (k : JO X M Qf (pc + 3) lv st (wsM ad (xZ X) (sI σ 8 v)) o) : JO X M Qf pc lv (.int v :: .ref (ad 0) :: st) (wsM ad (xZ X) σ) o :=
  JO.put (q0 := 0) (ci := 7) (fs := fM ad σ) (ty := .int) tyX10 tyX10_ok nmX10 rfl inT10 rfl 8 rfl (by rw [hM]; exact k5_5) (Or.inl rfl) rfl rfl rfl rfl (Nat.le_of_ble_eq_true rfl) pM8_w d k
theorem gM9 (d : decode M.1 pc = .ok (.getfield 105, 3)) (hM : M.2.2.1 = RX10) (k : JO X M Qf (pc + 3) lv (.int (mI σ 9) :: st) (wsM ad (xZ X) σ) o) : JO X M Qf pc lv (.ref (ad 0) :: st) (wsM ad (xZ X) σ) o :=
  JO.get (q0 := 0) (ci := 7) (fs := fM ad σ) rfl inT10 rfl 9 rfl (by rw [hM]; exact k5_6) (Or.inl rfl) rfl d k
theorem pM9_w {v : Int32} : (wsM ad (xZ X) σ).set 0 (ad 0, .inr (7, (fM ad σ).set 9 (.int v))) = wsM ad (xZ X) (sI σ 9 v) := rfl
theorem pM9 {v : Int32} (d : decode M.1 pc = .ok (.putfield 105, 3)) (hM : M.2.2.1 = RX10) (k : JO X M Qf (pc + 3) lv st (wsM ad (xZ X) (sI σ 9 v)) o) : JO X M Qf pc lv (.int v :: .ref (ad 0) :: st) (wsM ad (xZ X) σ) o :=
  JO.put (q0 := 0) (ci := 7) (fs := fM ad σ) (ty := .int) tyX10 tyX10_ok nmX10 rfl inT10 rfl 9 rfl (by rw [hM]; exact k5_6) (Or.inl rfl) rfl rfl rfl rfl (Nat.le_of_ble_eq_true rfl) pM9_w d k
theorem gM10 (d : decode M.1 pc = .ok (.getfield 25, 3)) (hM : M.2.2.1 = RX10) (k : JO X M Qf (pc + 3) lv (.ref (ad 11) :: st) (wsM ad (xZ X) σ) o) : JO X M Qf pc lv (.ref (ad 0) :: st) (wsM ad (xZ X) σ) o :=
  JO.get (q0 := 0) (ci := 7) (fs := fM ad σ) rfl inT10 rfl 10 rfl (by rw [hM]; exact k5_7) (Or.inl rfl) rfl d k
theorem aM10 {i : Int32} (d : decode M.1 pc = .ok (.iaload, 1)) (k : JO X M Qf (pc + 1) lv (.int (mA σ 10 (ix i)) :: st) (wsM ad (xZ X) σ) o) : JO X M Qf pc lv (.int i :: .ref (ad 11) :: st) (wsM ad (xZ X) σ) (if inB i 6 = true then o else none) :=
  JO.iald (q0 := 6) rfl d k
theorem uM10_w {i x : Int32} : (wsM ad (xZ X) σ).set 6 (ad 11, .inl ((xZ X).1, 6, .inl (upd (mA σ 10) (ix i) x))) = wsM ad (xZ X) (sA σ 10 (ix i) x) := rfl
theorem uM10 {i x : Int32} (d : decode M.1 pc = .ok (.iastore, 1)) (k : JO X M Qf (pc + 1) lv st (wsM ad (xZ X) (sA σ 10 (ix i) x)) o) : JO X M Qf pc lv (.int x :: .int i :: .ref (ad 11) :: st) (wsM ad (xZ X) σ) (if inB i 6 = true then o else none) :=
  JO.iast (q0 := 6) rfl uM10_w d k
theorem nM10 (d : decode M.1 pc = .ok (.arraylength, 1)) (k : JO X M Qf (pc + 1) lv (.int 6 :: st) (wsM ad (xZ X) σ) o) : JO X M Qf pc lv (.ref (ad 11) :: st) (wsM ad (xZ X) σ) o :=
  JO.alen (q0 := 6) 0 rfl rfl 6 rfl d k
theorem gM11 (d : decode M.1 pc = .ok (.getfield 28, 3)) (hM : M.2.2.1 = RX10) (k : JO X M Qf (pc + 3) lv (.ref (ad 12) :: st) (wsM ad (xZ X) σ) o) : JO X M Qf pc lv (.ref (ad 0) :: st) (wsM ad (xZ X) σ) o :=
  JO.get (q0 := 0) (ci := 7) (fs := fM ad σ) rfl inT10 rfl 11 rfl (by rw [hM]; exact k5_8) (Or.inl rfl) rfl d k
theorem aM11 {i : Int32} (d : decode M.1 pc = .ok (.iaload, 1)) (k : JO X M Qf (pc + 1) lv (.int (mA σ 11 (ix i)) :: st) (wsM ad (xZ X) σ) o) : JO X M Qf pc lv (.int i :: .ref (ad 12) :: st) (wsM ad (xZ X) σ) (if inB i 6 = true then o else none) :=
  JO.iald (q0 := 7) rfl d k
theorem uM11_w {i x : Int32} : (wsM ad (xZ X) σ).set 7 (ad 12, .inl ((xZ X).1, 6, .inl (upd (mA σ 11) (ix i) x))) = wsM ad (xZ X) (sA σ 11 (ix i) x) := rfl
theorem uM11 {i x : Int32} (d : decode M.1 pc = .ok (.iastore, 1)) (k : JO X M Qf (pc + 1) lv st (wsM ad (xZ X) (sA σ 11 (ix i) x)) o) : JO X M Qf pc lv (.int x :: .int i :: .ref (ad 12) :: st) (wsM ad (xZ X) σ) (if inB i 6 = true then o else none) :=
  JO.iast (q0 := 7) rfl uM11_w d k
theorem nM11 (d : decode M.1 pc = .ok (.arraylength, 1)) (k : JO X M Qf (pc + 1) lv (.int 6 :: st) (wsM ad (xZ X) σ) o) : JO X M Qf pc lv (.ref (ad 12) :: st) (wsM ad (xZ X) σ) o :=
  JO.alen (q0 := 7) 0 rfl rfl 6 rfl d k
theorem gM12 (d : decode M.1 pc = .ok (.getfield 31, 3)) (hM : M.2.2.1 = RX10) (k : JO X M Qf (pc + 3) lv (.ref (ad 13) :: st) (wsM ad (xZ X) σ) o) : JO X M Qf pc lv (.ref (ad 0) :: st) (wsM ad (xZ X) σ) o :=
  JO.get (q0 := 0) (ci := 7) (fs := fM ad σ) rfl inT10 rfl 12 rfl (by rw [hM]; exact k5_9) (Or.inl rfl) rfl d k
theorem aM12 {i : Int32} (d : decode M.1 pc = .ok (.iaload, 1)) (k : JO X M Qf (pc + 1) lv (.int (mA σ 12 (ix i)) :: st) (wsM ad (xZ X) σ) o) : JO X M Qf pc lv (.int i :: .ref (ad 13) :: st) (wsM ad (xZ X) σ) (if inB i 6 = true then o else none) :=
  JO.iald (q0 := 8) rfl d k
theorem uM12_w {i x : Int32} : (wsM ad (xZ X) σ).set 8 (ad 13, .inl ((xZ X).1, 6, .inl (upd (mA σ 12) (ix i) x))) = wsM ad (xZ X) (sA σ 12 (ix i) x) := rfl
theorem uM12 {i x : Int32} (d : decode M.1 pc = .ok (.iastore, 1)) (k : JO X M Qf (pc + 1) lv st (wsM ad (xZ X) (sA σ 12 (ix i) x)) o) : JO X M Qf pc lv (.int x :: .int i :: .ref (ad 13) :: st) (wsM ad (xZ X) σ) (if inB i 6 = true then o else none) :=
  JO.iast (q0 := 8) rfl uM12_w d k
theorem nM12 (d : decode M.1 pc = .ok (.arraylength, 1)) (k : JO X M Qf (pc + 1) lv (.int 6 :: st) (wsM ad (xZ X) σ) o) : JO X M Qf pc lv (.ref (ad 13) :: st) (wsM ad (xZ X) σ) o :=
  JO.alen (q0 := 8) 0 rfl rfl 6 rfl d k
theorem gM13 (d : decode M.1 pc = .ok (.getfield 34, 3)) (hM : M.2.2.1 = RX10) (k : JO X M Qf (pc + 3) lv (.ref (ad 14) :: st) (wsM ad (xZ X) σ) o) : JO X M Qf pc lv (.ref (ad 0) :: st) (wsM ad (xZ X) σ) o :=
  JO.get (q0 := 0) (ci := 7) (fs := fM ad σ) rfl inT10 rfl 13 rfl (by rw [hM]; exact k5_10) (Or.inl rfl) rfl d k
theorem aM13 {i : Int32} (d : decode M.1 pc = .ok (.iaload, 1)) (k : JO X M Qf (pc + 1) lv (.int (mA σ 13 (ix i)) :: st) (wsM ad (xZ X) σ) o) : JO X M Qf pc lv (.int i :: .ref (ad 14) :: st) (wsM ad (xZ X) σ) (if inB i 120 = true then o else none) :=
  JO.iald (q0 := 9) rfl d k
theorem uM13_w {i x : Int32} : (wsM ad (xZ X) σ).set 9 (ad 14, .inl ((xZ X).1, 120, .inl (upd (mA σ 13) (ix i) x))) = wsM ad (xZ X) (sA σ 13 (ix i) x) := rfl
theorem uM13 {i x : Int32} (d : decode M.1 pc = .ok (.iastore, 1)) (k : JO X M Qf (pc + 1) lv st (wsM ad (xZ X) (sA σ 13 (ix i) x)) o) : JO X M Qf pc lv (.int x :: .int i :: .ref (ad 14) :: st) (wsM ad (xZ X) σ) (if inB i 120 = true then o else none) :=
  JO.iast (q0 := 9) rfl uM13_w d k
theorem nM13 (d : decode M.1 pc = .ok (.arraylength, 1)) (k : JO X M Qf (pc + 1) lv (.int 120 :: st) (wsM ad (xZ X) σ) o) : JO X M Qf pc lv (.ref (ad 14) :: st) (wsM ad (xZ X) σ) o :=
  JO.alen (q0 := 9) 0 rfl rfl 120 rfl d k
theorem gM14 (d : decode M.1 pc = .ok (.getfield 37, 3)) (hM : M.2.2.1 = RX10) (k : JO X M Qf (pc + 3) lv (.ref (ad 15) :: st) (wsM ad (xZ X) σ) o) : JO X M Qf pc lv (.ref (ad 0) :: st) (wsM ad (xZ X) σ) o :=
  JO.get (q0 := 0) (ci := 7) (fs := fM ad σ) rfl inT10 rfl 14 rfl (by rw [hM]; exact k5_11) (Or.inl rfl) rfl d k
theorem aM14 {i : Int32} (d : decode M.1 pc = .ok (.iaload, 1)) (k : JO X M Qf (pc + 1) lv (.int (mA σ 14 (ix i)) :: st) (wsM ad (xZ X) σ) o) : JO X M Qf pc lv (.int i :: .ref (ad 15) :: st) (wsM ad (xZ X) σ) (if inB i 6 = true then o else none) :=
  JO.iald (q0 := 10) rfl d k
theorem uM14_w {i x : Int32} : (wsM ad (xZ X) σ).set 10 (ad 15, .inl ((xZ X).1, 6, .inl (upd (mA σ 14) (ix i) x))) = wsM ad (xZ X) (sA σ 14 (ix i) x) := rfl
theorem uM14 {i x : Int32} (d : decode M.1 pc = .ok (.iastore, 1)) (k : JO X M Qf (pc + 1) lv st (wsM ad (xZ X) (sA σ 14 (ix i) x)) o) : JO X M Qf pc lv (.int x :: .int i :: .ref (ad 15) :: st) (wsM ad (xZ X) σ) (if inB i 6 = true then o else none) :=
  JO.iast (q0 := 10) rfl uM14_w d k
theorem nM14 (d : decode M.1 pc = .ok (.arraylength, 1)) (k : JO X M Qf (pc + 1) lv (.int 6 :: st) (wsM ad (xZ X) σ) o) : JO X M Qf pc lv (.ref (ad 15) :: st) (wsM ad (xZ X) σ) o :=
  JO.alen (q0 := 10) 0 rfl rfl 6 rfl d k
theorem gM15 (d : decode M.1 pc = .ok (.getfield 40, 3)) (hM : M.2.2.1 = RX10) (k : JO X M Qf (pc + 3) lv (.ref (ad 16) :: st) (wsM ad (xZ X) σ) o) : JO X M Qf pc lv (.ref (ad 0) :: st) (wsM ad (xZ X) σ) o :=
  JO.get (q0 := 0) (ci := 7) (fs := fM ad σ) rfl inT10 rfl 15 rfl (by rw [hM]; exact k5_12) (Or.inl rfl) rfl d k
theorem aM15 {i : Int32} (d : decode M.1 pc = .ok (.iaload, 1)) (k : JO X M Qf (pc + 1) lv (.int (mA σ 15 (ix i)) :: st) (wsM ad (xZ X) σ) o) : JO X M Qf pc lv (.int i :: .ref (ad 16) :: st) (wsM ad (xZ X) σ) (if inB i 3 = true then o else none) :=
  JO.iald (q0 := 11) rfl d k
theorem uM15_w {i x : Int32} : (wsM ad (xZ X) σ).set 11 (ad 16, .inl ((xZ X).1, 3, .inl (upd (mA σ 15) (ix i) x))) = wsM ad (xZ X) (sA σ 15 (ix i) x) := rfl
theorem uM15 {i x : Int32} (d : decode M.1 pc = .ok (.iastore, 1)) (k : JO X M Qf (pc + 1) lv st (wsM ad (xZ X) (sA σ 15 (ix i) x)) o) : JO X M Qf pc lv (.int x :: .int i :: .ref (ad 16) :: st) (wsM ad (xZ X) σ) (if inB i 3 = true then o else none) :=
  JO.iast (q0 := 11) rfl uM15_w d k
theorem nM15 (d : decode M.1 pc = .ok (.arraylength, 1)) (k : JO X M Qf (pc + 1) lv (.int 3 :: st) (wsM ad (xZ X) σ) o) : JO X M Qf pc lv (.ref (ad 16) :: st) (wsM ad (xZ X) σ) o :=
  JO.alen (q0 := 11) 0 rfl rfl 3 rfl d k
theorem gM16 (d : decode M.1 pc = .ok (.getfield 43, 3)) (hM : M.2.2.1 = RX10) (k : JO X M Qf (pc + 3) lv (.ref (ad 17) :: st) (wsM ad (xZ X) σ) o) : JO X M Qf pc lv (.ref (ad 0) :: st) (wsM ad (xZ X) σ) o :=
  JO.get (q0 := 0) (ci := 7) (fs := fM ad σ) rfl inT10 rfl 16 rfl (by rw [hM]; exact k5_13) (Or.inl rfl) rfl d k
theorem aM16 {i : Int32} (d : decode M.1 pc = .ok (.iaload, 1)) (k : JO X M Qf (pc + 1) lv (.int (mA σ 16 (ix i)) :: st) (wsM ad (xZ X) σ) o) : JO X M Qf pc lv (.int i :: .ref (ad 17) :: st) (wsM ad (xZ X) σ) (if inB i 200 = true then o else none) :=
  JO.iald (q0 := 12) rfl d k
theorem uM16_w {i x : Int32} : (wsM ad (xZ X) σ).set 12 (ad 17, .inl ((xZ X).1, 200, .inl (upd (mA σ 16) (ix i) x))) = wsM ad (xZ X) (sA σ 16 (ix i) x) := rfl
theorem uM16 {i x : Int32} (d : decode M.1 pc = .ok (.iastore, 1)) (k : JO X M Qf (pc + 1) lv st (wsM ad (xZ X) (sA σ 16 (ix i) x)) o) : JO X M Qf pc lv (.int x :: .int i :: .ref (ad 17) :: st) (wsM ad (xZ X) σ) (if inB i 200 = true then o else none) :=
  JO.iast (q0 := 12) rfl uM16_w d k
theorem nM16 (d : decode M.1 pc = .ok (.arraylength, 1)) (k : JO X M Qf (pc + 1) lv (.int 200 :: st) (wsM ad (xZ X) σ) o) : JO X M Qf pc lv (.ref (ad 17) :: st) (wsM ad (xZ X) σ) o :=
  JO.alen (q0 := 12) 0 rfl rfl 200 rfl d k
theorem gM17 (d : decode M.1 pc = .ok (.getfield 46, 3)) (hM : M.2.2.1 = RX10) (k : JO X M Qf (pc + 3) lv (.ref (ad 18) :: st) (wsM ad (xZ X) σ) o) : JO X M Qf pc lv (.ref (ad 0) :: st) (wsM ad (xZ X) σ) o :=
  JO.get (q0 := 0) (ci := 7) (fs := fM ad σ) rfl inT10 rfl 17 rfl (by rw [hM]; exact k5_14) (Or.inl rfl) rfl d k
theorem aM17 {i : Int32} (d : decode M.1 pc = .ok (.iaload, 1)) (k : JO X M Qf (pc + 1) lv (.int (mA σ 17 (ix i)) :: st) (wsM ad (xZ X) σ) o) : JO X M Qf pc lv (.int i :: .ref (ad 18) :: st) (wsM ad (xZ X) σ) (if inB i 200 = true then o else none) :=
  JO.iald (q0 := 13) rfl d k
theorem uM17_w {i x : Int32} : (wsM ad (xZ X) σ).set 13 (ad 18, .inl ((xZ X).1, 200, .inl (upd (mA σ 17) (ix i) x))) = wsM ad (xZ X) (sA σ 17 (ix i) x) := rfl
theorem uM17 {i x : Int32} (d : decode M.1 pc = .ok (.iastore, 1)) (k : JO X M Qf (pc + 1) lv st (wsM ad (xZ X) (sA σ 17 (ix i) x)) o) : JO X M Qf pc lv (.int x :: .int i :: .ref (ad 18) :: st) (wsM ad (xZ X) σ) (if inB i 200 = true then o else none) :=
  JO.iast (q0 := 13) rfl uM17_w d k
theorem nM17 (d : decode M.1 pc = .ok (.arraylength, 1)) (k : JO X M Qf (pc + 1) lv (.int 200 :: st) (wsM ad (xZ X) σ) o) : JO X M Qf pc lv (.ref (ad 18) :: st) (wsM ad (xZ X) σ) o :=
  JO.alen (q0 := 13) 0 rfl rfl 200 rfl d k
theorem gM18 (d : decode M.1 pc = .ok (.getfield 49, 3)) (hM : M.2.2.1 = RX10) (k : JO X M Qf (pc + 3) lv (.ref (ad 19) :: st) (wsM ad (xZ X) σ) o) : JO X M Qf pc lv (.ref (ad 0) :: st) (wsM ad (xZ X) σ) o :=
  JO.get (q0 := 0) (ci := 7) (fs := fM ad σ) rfl inT10 rfl 18 rfl (by rw [hM]; exact k5_15) (Or.inl rfl) rfl d k
theorem aM18 {i : Int32} (d : decode M.1 pc = .ok (.iaload, 1)) (k : JO X M Qf (pc + 1) lv (.int (mA σ 18 (ix i)) :: st) (wsM ad (xZ X) σ) o) : JO X M Qf pc lv (.int i :: .ref (ad 19) :: st) (wsM ad (xZ X) σ) (if inB i 200 = true then o else none) :=
  JO.iald (q0 := 14) rfl d k
theorem uM18_w {i x : Int32} : (wsM ad (xZ X) σ).set 14 (ad 19, .inl ((xZ X).1, 200, .inl (upd (mA σ 18) (ix i) x))) = wsM ad (xZ X) (sA σ 18 (ix i) x) := rfl
theorem uM18 {i x : Int32} (d : decode M.1 pc = .ok (.iastore, 1)) (k : JO X M Qf (pc + 1) lv st (wsM ad (xZ X) (sA σ 18 (ix i) x)) o) : JO X M Qf pc lv (.int x :: .int i :: .ref (ad 19) :: st) (wsM ad (xZ X) σ) (if inB i 200 = true then o else none) :=
  JO.iast (q0 := 14) rfl uM18_w d k
theorem nM18 (d : decode M.1 pc = .ok (.arraylength, 1)) (k : JO X M Qf (pc + 1) lv (.int 200 :: st) (wsM ad (xZ X) σ) o) : JO X M Qf pc lv (.ref (ad 19) :: st) (wsM ad (xZ X) σ) o :=
  JO.alen (q0 := 14) 0 rfl rfl 200 rfl d k
theorem gM19 (d : decode M.1 pc = .ok (.getfield 52, 3)) (hM : M.2.2.1 = RX10) (k : JO X M Qf (pc + 3) lv (.ref (ad 20) :: st) (wsM ad (xZ X) σ) o) : JO X M Qf pc lv (.ref (ad 0) :: st) (wsM ad (xZ X) σ) o :=
  JO.get (q0 := 0) (ci := 7) (fs := fM ad σ) rfl inT10 rfl 19 rfl (by rw [hM]; exact k5_16) (Or.inl rfl) rfl d k
theorem aM19 {i : Int32} (d : decode M.1 pc = .ok (.iaload, 1)) (k : JO X M Qf (pc + 1) lv (.int (mA σ 19 (ix i)) :: st) (wsM ad (xZ X) σ) o) : JO X M Qf pc lv (.int i :: .ref (ad 20) :: st) (wsM ad (xZ X) σ) (if inB i 200 = true then o else none) :=
  JO.iald (q0 := 15) rfl d k
theorem uM19_w {i x : Int32} : (wsM ad (xZ X) σ).set 15 (ad 20, .inl ((xZ X).1, 200, .inl (upd (mA σ 19) (ix i) x))) = wsM ad (xZ X) (sA σ 19 (ix i) x) := rfl
theorem uM19 {i x : Int32} (d : decode M.1 pc = .ok (.iastore, 1)) (k : JO X M Qf (pc + 1) lv st (wsM ad (xZ X) (sA σ 19 (ix i) x)) o) : JO X M Qf pc lv (.int x :: .int i :: .ref (ad 20) :: st) (wsM ad (xZ X) σ) (if inB i 200 = true then o else none) :=
  JO.iast (q0 := 15) rfl uM19_w d k
theorem nM19 (d : decode M.1 pc = .ok (.arraylength, 1)) (k : JO X M Qf (pc + 1) lv (.int 200 :: st) (wsM ad (xZ X) σ) o) : JO X M Qf pc lv (.ref (ad 20) :: st) (wsM ad (xZ X) σ) o :=
  JO.alen (q0 := 15) 0 rfl rfl 200 rfl d k
theorem gM20 (d : decode M.1 pc = .ok (.getfield 55, 3)) (hM : M.2.2.1 = RX10) (k : JO X M Qf (pc + 3) lv (.ref (ad 21) :: st) (wsM ad (xZ X) σ) o) : JO X M Qf pc lv (.ref (ad 0) :: st) (wsM ad (xZ X) σ) o :=
  JO.get (q0 := 0) (ci := 7) (fs := fM ad σ) rfl inT10 rfl 20 rfl (by rw [hM]; exact k5_17) (Or.inl rfl) rfl d k
theorem aM20 {i : Int32} (d : decode M.1 pc = .ok (.iaload, 1)) (k : JO X M Qf (pc + 1) lv (.int (mA σ 20 (ix i)) :: st) (wsM ad (xZ X) σ) o) : JO X M Qf pc lv (.int i :: .ref (ad 21) :: st) (wsM ad (xZ X) σ) (if inB i 200 = true then o else none) :=
  JO.iald (q0 := 16) rfl d k
theorem uM20_w {i x : Int32} : (wsM ad (xZ X) σ).set 16 (ad 21, .inl ((xZ X).1, 200, .inl (upd (mA σ 20) (ix i) x))) = wsM ad (xZ X) (sA σ 20 (ix i) x) := rfl
theorem uM20 {i x : Int32} (d : decode M.1 pc = .ok (.iastore, 1)) (k : JO X M Qf (pc + 1) lv st (wsM ad (xZ X) (sA σ 20 (ix i) x)) o) : JO X M Qf pc lv (.int x :: .int i :: .ref (ad 21) :: st) (wsM ad (xZ X) σ) (if inB i 200 = true then o else none) :=
  JO.iast (q0 := 16) rfl uM20_w d k
theorem nM20 (d : decode M.1 pc = .ok (.arraylength, 1)) (k : JO X M Qf (pc + 1) lv (.int 200 :: st) (wsM ad (xZ X) σ) o) : JO X M Qf pc lv (.ref (ad 21) :: st) (wsM ad (xZ X) σ) o :=
  JO.alen (q0 := 16) 0 rfl rfl 200 rfl d k
theorem gM21 (d : decode M.1 pc = .ok (.getfield 112, 3)) (hM : M.2.2.1 = RX10) (k : JO X M Qf (pc + 3) lv (.int (mI σ 21) :: st) (wsM ad (xZ X) σ) o) : JO X M Qf pc lv (.ref (ad 0) :: st) (wsM ad (xZ X) σ) o :=
  JO.get (q0 := 0) (ci := 7) (fs := fM ad σ) rfl inT10 rfl 21 rfl (by rw [hM]; exact k5_18) (Or.inl rfl) rfl d k
theorem pM21_w {v : Int32} : (wsM ad (xZ X) σ).set 0 (ad 0, .inr (7, (fM ad σ).set 21 (.int v))) = wsM ad (xZ X) (sI σ 21 v) := rfl
theorem pM21 {v : Int32} (d : decode M.1 pc = .ok (.putfield 112, 3)) (hM : M.2.2.1 = RX10) (k : JO X M Qf (pc + 3) lv st (wsM ad (xZ X) (sI σ 21 v)) o) : JO X M Qf pc lv (.int v :: .ref (ad 0) :: st) (wsM ad (xZ X) σ) o :=
  JO.put (q0 := 0) (ci := 7) (fs := fM ad σ) (ty := .int) tyX10 tyX10_ok nmX10 rfl inT10 rfl 21 rfl (by rw [hM]; exact k5_18) (Or.inl rfl) rfl rfl rfl rfl (Nat.le_of_ble_eq_true rfl) pM21_w d k
theorem gM22 (d : decode M.1 pc = .ok (.getfield 115, 3)) (hM : M.2.2.1 = RX10) (k : JO X M Qf (pc + 3) lv (.int (mI σ 22) :: st) (wsM ad (xZ X) σ) o) : JO X M Qf pc lv (.ref (ad 0) :: st) (wsM ad (xZ X) σ) o :=
  JO.get (q0 := 0) (ci := 7) (fs := fM ad σ) rfl inT10 rfl 22 rfl (by rw [hM]; exact k5_19) (Or.inl rfl) rfl d k
theorem pM22_w {v : Int32} : (wsM ad (xZ X) σ).set 0 (ad 0, .inr (7, (fM ad σ).set 22 (.int v))) = wsM ad (xZ X) (sI σ 22 v) := rfl
theorem pM22 {v : Int32} (d : decode M.1 pc = .ok (.putfield 115, 3)) (hM : M.2.2.1 = RX10) (k : JO X M Qf (pc + 3) lv st (wsM ad (xZ X) (sI σ 22 v)) o) : JO X M Qf pc lv (.int v :: .ref (ad 0) :: st) (wsM ad (xZ X) σ) o :=
  JO.put (q0 := 0) (ci := 7) (fs := fM ad σ) (ty := .int) tyX10 tyX10_ok nmX10 rfl inT10 rfl 22 rfl (by rw [hM]; exact k5_19) (Or.inl rfl) rfl rfl rfl rfl (Nat.le_of_ble_eq_true rfl) pM22_w d k
theorem gM23 (d : decode M.1 pc = .ok (.getfield 202, 3)) (hM : M.2.2.1 = RX10) (k : JO X M Qf (pc + 3) lv (.int (mI σ 23) :: st) (wsM ad (xZ X) σ) o) : JO X M Qf pc lv (.ref (ad 0) :: st) (wsM ad (xZ X) σ) o :=
  JO.get (q0 := 0) (ci := 7) (fs := fM ad σ) rfl inT10 rfl 23 rfl (by rw [hM]; exact k5_20) (Or.inl rfl) rfl d k
theorem pM23_w {v : Int32} : (wsM ad (xZ X) σ).set 0 (ad 0, .inr (7, (fM ad σ).set 23 (.int v))) = wsM ad (xZ X) (sI σ 23 v) := rfl
theorem pM23 {v : Int32} (d : decode M.1 pc = .ok (.putfield 202, 3)) (hM : M.2.2.1 = RX10) (k : JO X M Qf (pc + 3) lv st (wsM ad (xZ X) (sI σ 23 v)) o) : JO X M Qf pc lv (.int v :: .ref (ad 0) :: st) (wsM ad (xZ X) σ) o :=
  JO.put (q0 := 0) (ci := 7) (fs := fM ad σ) (ty := .int) tyX10 tyX10_ok nmX10 rfl inT10 rfl 23 rfl (by rw [hM]; exact k5_20) (Or.inl rfl) rfl rfl rfl rfl (Nat.le_of_ble_eq_true rfl) pM23_w d k
theorem gM24 (d : decode M.1 pc = .ok (.getfield 122, 3)) (hM : M.2.2.1 = RX10) (k : JO X M Qf (pc + 3) lv (.int (mI σ 24) :: st) (wsM ad (xZ X) σ) o) : JO X M Qf pc lv (.ref (ad 0) :: st) (wsM ad (xZ X) σ) o :=
  JO.get (q0 := 0) (ci := 7) (fs := fM ad σ) rfl inT10 rfl 24 rfl (by rw [hM]; exact k5_21) (Or.inl rfl) rfl d k
theorem pM24_w {v : Int32} : (wsM ad (xZ X) σ).set 0 (ad 0, .inr (7, (fM ad σ).set 24 (.int v))) = wsM ad (xZ X) (sI σ 24 v) := rfl
theorem pM24 {v : Int32} (d : decode M.1 pc = .ok (.putfield 122, 3)) (hM : M.2.2.1 = RX10) (k : JO X M Qf (pc + 3) lv st (wsM ad (xZ X) (sI σ 24 v)) o) : JO X M Qf pc lv (.int v :: .ref (ad 0) :: st) (wsM ad (xZ X) σ) o :=
  JO.put (q0 := 0) (ci := 7) (fs := fM ad σ) (ty := .int) tyX10 tyX10_ok nmX10 rfl inT10 rfl 24 rfl (by rw [hM]; exact k5_21) (Or.inl rfl) rfl rfl rfl rfl (Nat.le_of_ble_eq_true rfl) pM24_w d k
theorem gM25 (d : decode M.1 pc = .ok (.getfield 58, 3)) (hM : M.2.2.1 = RX10) (k : JO X M Qf (pc + 3) lv (.ref (ad 26) :: st) (wsM ad (xZ X) σ) o) : JO X M Qf pc lv (.ref (ad 0) :: st) (wsM ad (xZ X) σ) o :=
  JO.get (q0 := 0) (ci := 7) (fs := fM ad σ) rfl inT10 rfl 25 rfl (by rw [hM]; exact k5_22) (Or.inl rfl) rfl d k
theorem aM25 {i : Int32} (d : decode M.1 pc = .ok (.iaload, 1)) (k : JO X M Qf (pc + 1) lv (.int (mA σ 25 (ix i)) :: st) (wsM ad (xZ X) σ) o) : JO X M Qf pc lv (.int i :: .ref (ad 26) :: st) (wsM ad (xZ X) σ) (if inB i 366 = true then o else none) :=
  JO.iald (q0 := 17) rfl d k
theorem uM25_w {i x : Int32} : (wsM ad (xZ X) σ).set 17 (ad 26, .inl ((xZ X).1, 366, .inl (upd (mA σ 25) (ix i) x))) = wsM ad (xZ X) (sA σ 25 (ix i) x) := rfl
theorem uM25 {i x : Int32} (d : decode M.1 pc = .ok (.iastore, 1)) (k : JO X M Qf (pc + 1) lv st (wsM ad (xZ X) (sA σ 25 (ix i) x)) o) : JO X M Qf pc lv (.int x :: .int i :: .ref (ad 26) :: st) (wsM ad (xZ X) σ) (if inB i 366 = true then o else none) :=
  JO.iast (q0 := 17) rfl uM25_w d k
theorem nM25 (d : decode M.1 pc = .ok (.arraylength, 1)) (k : JO X M Qf (pc + 1) lv (.int 366 :: st) (wsM ad (xZ X) σ) o) : JO X M Qf pc lv (.ref (ad 26) :: st) (wsM ad (xZ X) σ) o :=
  JO.alen (q0 := 17) 0 rfl rfl 366 rfl d k
theorem gM26 (d : decode M.1 pc = .ok (.getfield 61, 3)) (hM : M.2.2.1 = RX10) (k : JO X M Qf (pc + 3) lv (.ref (ad 27) :: st) (wsM ad (xZ X) σ) o) : JO X M Qf pc lv (.ref (ad 0) :: st) (wsM ad (xZ X) σ) o :=
  JO.get (q0 := 0) (ci := 7) (fs := fM ad σ) rfl inT10 rfl 26 rfl (by rw [hM]; exact k5_23) (Or.inl rfl) rfl d k
theorem aM26 {i : Int32} (d : decode M.1 pc = .ok (.iaload, 1)) (k : JO X M Qf (pc + 1) lv (.int (mA σ 26 (ix i)) :: st) (wsM ad (xZ X) σ) o) : JO X M Qf pc lv (.int i :: .ref (ad 27) :: st) (wsM ad (xZ X) σ) (if inB i 366 = true then o else none) :=
  JO.iald (q0 := 18) rfl d k
theorem uM26_w {i x : Int32} : (wsM ad (xZ X) σ).set 18 (ad 27, .inl ((xZ X).1, 366, .inl (upd (mA σ 26) (ix i) x))) = wsM ad (xZ X) (sA σ 26 (ix i) x) := rfl
theorem uM26 {i x : Int32} (d : decode M.1 pc = .ok (.iastore, 1)) (k : JO X M Qf (pc + 1) lv st (wsM ad (xZ X) (sA σ 26 (ix i) x)) o) : JO X M Qf pc lv (.int x :: .int i :: .ref (ad 27) :: st) (wsM ad (xZ X) σ) (if inB i 366 = true then o else none) :=
  JO.iast (q0 := 18) rfl uM26_w d k
theorem nM26 (d : decode M.1 pc = .ok (.arraylength, 1)) (k : JO X M Qf (pc + 1) lv (.int 366 :: st) (wsM ad (xZ X) σ) o) : JO X M Qf pc lv (.ref (ad 27) :: st) (wsM ad (xZ X) σ) o :=
  JO.alen (q0 := 18) 0 rfl rfl 366 rfl d k
theorem gM27 (d : decode M.1 pc = .ok (.getfield 64, 3)) (hM : M.2.2.1 = RX10) (k : JO X M Qf (pc + 3) lv (.ref (ad 28) :: st) (wsM ad (xZ X) σ) o) : JO X M Qf pc lv (.ref (ad 0) :: st) (wsM ad (xZ X) σ) o :=
  JO.get (q0 := 0) (ci := 7) (fs := fM ad σ) rfl inT10 rfl 27 rfl (by rw [hM]; exact k5_24) (Or.inl rfl) rfl d k
theorem aM27 {i : Int32} (d : decode M.1 pc = .ok (.iaload, 1)) (k : JO X M Qf (pc + 1) lv (.int (mA σ 27 (ix i)) :: st) (wsM ad (xZ X) σ) o) : JO X M Qf pc lv (.int i :: .ref (ad 28) :: st) (wsM ad (xZ X) σ) (if inB i 61 = true then o else none) :=
  JO.iald (q0 := 19) rfl d k
theorem uM27_w {i x : Int32} : (wsM ad (xZ X) σ).set 19 (ad 28, .inl ((xZ X).1, 61, .inl (upd (mA σ 27) (ix i) x))) = wsM ad (xZ X) (sA σ 27 (ix i) x) := rfl
theorem uM27 {i x : Int32} (d : decode M.1 pc = .ok (.iastore, 1)) (k : JO X M Qf (pc + 1) lv st (wsM ad (xZ X) (sA σ 27 (ix i) x)) o) : JO X M Qf pc lv (.int x :: .int i :: .ref (ad 28) :: st) (wsM ad (xZ X) σ) (if inB i 61 = true then o else none) :=
  JO.iast (q0 := 19) rfl uM27_w d k
theorem nM27 (d : decode M.1 pc = .ok (.arraylength, 1)) (k : JO X M Qf (pc + 1) lv (.int 61 :: st) (wsM ad (xZ X) σ) o) : JO X M Qf pc lv (.ref (ad 28) :: st) (wsM ad (xZ X) σ) o :=
  JO.alen (q0 := 19) 0 rfl rfl 61 rfl d k
theorem gM28 (d : decode M.1 pc = .ok (.getfield 67, 3)) (hM : M.2.2.1 = RX10) (k : JO X M Qf (pc + 3) lv (.ref (ad 29) :: st) (wsM ad (xZ X) σ) o) : JO X M Qf pc lv (.ref (ad 0) :: st) (wsM ad (xZ X) σ) o :=
  JO.get (q0 := 0) (ci := 7) (fs := fM ad σ) rfl inT10 rfl 28 rfl (by rw [hM]; exact k5_25) (Or.inl rfl) rfl d k
theorem aM28 {i : Int32} (d : decode M.1 pc = .ok (.iaload, 1)) (k : JO X M Qf (pc + 1) lv (.int (mA σ 28 (ix i)) :: st) (wsM ad (xZ X) σ) o) : JO X M Qf pc lv (.int i :: .ref (ad 29) :: st) (wsM ad (xZ X) σ) (if inB i 8 = true then o else none) :=
  JO.iald (q0 := 20) rfl d k
theorem uM28_w {i x : Int32} : (wsM ad (xZ X) σ).set 20 (ad 29, .inl ((xZ X).1, 8, .inl (upd (mA σ 28) (ix i) x))) = wsM ad (xZ X) (sA σ 28 (ix i) x) := rfl
theorem uM28 {i x : Int32} (d : decode M.1 pc = .ok (.iastore, 1)) (k : JO X M Qf (pc + 1) lv st (wsM ad (xZ X) (sA σ 28 (ix i) x)) o) : JO X M Qf pc lv (.int x :: .int i :: .ref (ad 29) :: st) (wsM ad (xZ X) σ) (if inB i 8 = true then o else none) :=
  JO.iast (q0 := 20) rfl uM28_w d k
theorem nM28 (d : decode M.1 pc = .ok (.arraylength, 1)) (k : JO X M Qf (pc + 1) lv (.int 8 :: st) (wsM ad (xZ X) σ) o) : JO X M Qf pc lv (.ref (ad 29) :: st) (wsM ad (xZ X) σ) o :=
  JO.alen (q0 := 20) 0 rfl rfl 8 rfl d k
theorem gM29 (d : decode M.1 pc = .ok (.getfield 70, 3)) (hM : M.2.2.1 = RX10) (k : JO X M Qf (pc + 3) lv (.ref (ad 30) :: st) (wsM ad (xZ X) σ) o) : JO X M Qf pc lv (.ref (ad 0) :: st) (wsM ad (xZ X) σ) o :=
  JO.get (q0 := 0) (ci := 7) (fs := fM ad σ) rfl inT10 rfl 29 rfl (by rw [hM]; exact k5_26) (Or.inl rfl) rfl d k
theorem aM29 {i : Int32} (d : decode M.1 pc = .ok (.iaload, 1)) (k : JO X M Qf (pc + 1) lv (.int (mA σ 29 (ix i)) :: st) (wsM ad (xZ X) σ) o) : JO X M Qf pc lv (.int i :: .ref (ad 30) :: st) (wsM ad (xZ X) σ) (if inB i 8 = true then o else none) :=
  JO.iald (q0 := 21) rfl d k
theorem uM29_w {i x : Int32} : (wsM ad (xZ X) σ).set 21 (ad 30, .inl ((xZ X).1, 8, .inl (upd (mA σ 29) (ix i) x))) = wsM ad (xZ X) (sA σ 29 (ix i) x) := rfl
theorem uM29 {i x : Int32} (d : decode M.1 pc = .ok (.iastore, 1)) (k : JO X M Qf (pc + 1) lv st (wsM ad (xZ X) (sA σ 29 (ix i) x)) o) : JO X M Qf pc lv (.int x :: .int i :: .ref (ad 30) :: st) (wsM ad (xZ X) σ) (if inB i 8 = true then o else none) :=
  JO.iast (q0 := 21) rfl uM29_w d k
theorem nM29 (d : decode M.1 pc = .ok (.arraylength, 1)) (k : JO X M Qf (pc + 1) lv (.int 8 :: st) (wsM ad (xZ X) σ) o) : JO X M Qf pc lv (.ref (ad 30) :: st) (wsM ad (xZ X) σ) o :=
  JO.alen (q0 := 21) 0 rfl rfl 8 rfl d k
theorem gM30 (d : decode M.1 pc = .ok (.getfield 73, 3)) (hM : M.2.2.1 = RX10) (k : JO X M Qf (pc + 3) lv (.ref (ad 31) :: st) (wsM ad (xZ X) σ) o) : JO X M Qf pc lv (.ref (ad 0) :: st) (wsM ad (xZ X) σ) o :=
  JO.get (q0 := 0) (ci := 7) (fs := fM ad σ) rfl inT10 rfl 30 rfl (by rw [hM]; exact k5_27) (Or.inl rfl) rfl d k
theorem aM30 {i : Int32} (d : decode M.1 pc = .ok (.laload, 1)) (k : JO X M Qf (pc + 1) lv (.long (mE σ (ix i)) :: st) (wsM ad (xZ X) σ) o) : JO X M Qf pc lv (.int i :: .ref (ad 31) :: st) (wsM ad (xZ X) σ) (if inB i 1280 = true then o else none) :=
  JO.lald (q0 := 22) rfl d k
theorem uM30_w {i : Int32} {x : Int64} : (wsM ad (xZ X) σ).set 22 (ad 31, .inl ((xZ X).2.1, 1280, .inr (.inl (vp_updL (mE σ) (ix i) x)))) = wsM ad (xZ X) (sE σ (ix i) x) := rfl
theorem uM30 {i : Int32} {x : Int64} (d : decode M.1 pc = .ok (.lastore, 1)) (k : JO X M Qf (pc + 1) lv st (wsM ad (xZ X) (sE σ (ix i) x)) o) : JO X M Qf pc lv (.long x :: .int i :: .ref (ad 31) :: st) (wsM ad (xZ X) σ) (if inB i 1280 = true then o else none) :=
  JO.last (q0 := 22) rfl uM30_w d k
theorem gM31 (d : decode M.1 pc = .ok (.getfield 77, 3)) (hM : M.2.2.1 = RX10) (k : JO X M Qf (pc + 3) lv (.ref (ad 32) :: st) (wsM ad (xZ X) σ) o) : JO X M Qf pc lv (.ref (ad 0) :: st) (wsM ad (xZ X) σ) o :=
  JO.get (q0 := 0) (ci := 7) (fs := fM ad σ) rfl inT10 rfl 31 rfl (by rw [hM]; exact k5_28) (Or.inl rfl) rfl d k
theorem aM31 {i : Int32} (d : decode M.1 pc = .ok (.iaload, 1)) (k : JO X M Qf (pc + 1) lv (.int (mA σ 31 (ix i)) :: st) (wsM ad (xZ X) σ) o) : JO X M Qf pc lv (.int i :: .ref (ad 32) :: st) (wsM ad (xZ X) σ) (if inB i 60 = true then o else none) :=
  JO.iald (q0 := 23) rfl d k
theorem uM31_w {i x : Int32} : (wsM ad (xZ X) σ).set 23 (ad 32, .inl ((xZ X).1, 60, .inl (upd (mA σ 31) (ix i) x))) = wsM ad (xZ X) (sA σ 31 (ix i) x) := rfl
theorem uM31 {i x : Int32} (d : decode M.1 pc = .ok (.iastore, 1)) (k : JO X M Qf (pc + 1) lv st (wsM ad (xZ X) (sA σ 31 (ix i) x)) o) : JO X M Qf pc lv (.int x :: .int i :: .ref (ad 32) :: st) (wsM ad (xZ X) σ) (if inB i 60 = true then o else none) :=
  JO.iast (q0 := 23) rfl uM31_w d k
theorem nM31 (d : decode M.1 pc = .ok (.arraylength, 1)) (k : JO X M Qf (pc + 1) lv (.int 60 :: st) (wsM ad (xZ X) σ) o) : JO X M Qf pc lv (.ref (ad 32) :: st) (wsM ad (xZ X) σ) o :=
  JO.alen (q0 := 23) 0 rfl rfl 60 rfl d k
theorem gM32 (d : decode M.1 pc = .ok (.getfield 80, 3)) (hM : M.2.2.1 = RX10) (k : JO X M Qf (pc + 3) lv (.ref (ad 33) :: st) (wsM ad (xZ X) σ) o) : JO X M Qf pc lv (.ref (ad 0) :: st) (wsM ad (xZ X) σ) o :=
  JO.get (q0 := 0) (ci := 7) (fs := fM ad σ) rfl inT10 rfl 32 rfl (by rw [hM]; exact k5_29) (Or.inl rfl) rfl d k
theorem aM32 {i : Int32} (d : decode M.1 pc = .ok (.iaload, 1)) (k : JO X M Qf (pc + 1) lv (.int (mA σ 32 (ix i)) :: st) (wsM ad (xZ X) σ) o) : JO X M Qf pc lv (.int i :: .ref (ad 33) :: st) (wsM ad (xZ X) σ) (if inB i 60 = true then o else none) :=
  JO.iald (q0 := 24) rfl d k
theorem uM32_w {i x : Int32} : (wsM ad (xZ X) σ).set 24 (ad 33, .inl ((xZ X).1, 60, .inl (upd (mA σ 32) (ix i) x))) = wsM ad (xZ X) (sA σ 32 (ix i) x) := rfl
theorem uM32 {i x : Int32} (d : decode M.1 pc = .ok (.iastore, 1)) (k : JO X M Qf (pc + 1) lv st (wsM ad (xZ X) (sA σ 32 (ix i) x)) o) : JO X M Qf pc lv (.int x :: .int i :: .ref (ad 33) :: st) (wsM ad (xZ X) σ) (if inB i 60 = true then o else none) :=
  JO.iast (q0 := 24) rfl uM32_w d k
theorem nM32 (d : decode M.1 pc = .ok (.arraylength, 1)) (k : JO X M Qf (pc + 1) lv (.int 60 :: st) (wsM ad (xZ X) σ) o) : JO X M Qf pc lv (.ref (ad 33) :: st) (wsM ad (xZ X) σ) o :=
  JO.alen (q0 := 24) 0 rfl rfl 60 rfl d k
theorem gM33 (d : decode M.1 pc = .ok (.getfield 83, 3)) (hM : M.2.2.1 = RX10) (k : JO X M Qf (pc + 3) lv (.ref (ad 34) :: st) (wsM ad (xZ X) σ) o) : JO X M Qf pc lv (.ref (ad 0) :: st) (wsM ad (xZ X) σ) o :=
  JO.get (q0 := 0) (ci := 7) (fs := fM ad σ) rfl inT10 rfl 33 rfl (by rw [hM]; exact k5_30) (Or.inl rfl) rfl d k
theorem aM33 {i : Int32} (d : decode M.1 pc = .ok (.iaload, 1)) (k : JO X M Qf (pc + 1) lv (.int (mA σ 33 (ix i)) :: st) (wsM ad (xZ X) σ) o) : JO X M Qf pc lv (.int i :: .ref (ad 34) :: st) (wsM ad (xZ X) σ) (if inB i 60 = true then o else none) :=
  JO.iald (q0 := 25) rfl d k
theorem uM33_w {i x : Int32} : (wsM ad (xZ X) σ).set 25 (ad 34, .inl ((xZ X).1, 60, .inl (upd (mA σ 33) (ix i) x))) = wsM ad (xZ X) (sA σ 33 (ix i) x) := rfl
theorem uM33 {i x : Int32} (d : decode M.1 pc = .ok (.iastore, 1)) (k : JO X M Qf (pc + 1) lv st (wsM ad (xZ X) (sA σ 33 (ix i) x)) o) : JO X M Qf pc lv (.int x :: .int i :: .ref (ad 34) :: st) (wsM ad (xZ X) σ) (if inB i 60 = true then o else none) :=
  JO.iast (q0 := 25) rfl uM33_w d k
theorem nM33 (d : decode M.1 pc = .ok (.arraylength, 1)) (k : JO X M Qf (pc + 1) lv (.int 60 :: st) (wsM ad (xZ X) σ) o) : JO X M Qf pc lv (.ref (ad 34) :: st) (wsM ad (xZ X) σ) o :=
  JO.alen (q0 := 25) 0 rfl rfl 60 rfl d k
theorem gM34 (d : decode M.1 pc = .ok (.getfield 86, 3)) (hM : M.2.2.1 = RX10) (k : JO X M Qf (pc + 3) lv (.ref (ad 35) :: st) (wsM ad (xZ X) σ) o) : JO X M Qf pc lv (.ref (ad 0) :: st) (wsM ad (xZ X) σ) o :=
  JO.get (q0 := 0) (ci := 7) (fs := fM ad σ) rfl inT10 rfl 34 rfl (by rw [hM]; exact k5_31) (Or.inl rfl) rfl d k
theorem aM34 {i : Int32} (d : decode M.1 pc = .ok (.iaload, 1)) (k : JO X M Qf (pc + 1) lv (.int (mA σ 34 (ix i)) :: st) (wsM ad (xZ X) σ) o) : JO X M Qf pc lv (.int i :: .ref (ad 35) :: st) (wsM ad (xZ X) σ) (if inB i 60 = true then o else none) :=
  JO.iald (q0 := 26) rfl d k
theorem uM34_w {i x : Int32} : (wsM ad (xZ X) σ).set 26 (ad 35, .inl ((xZ X).1, 60, .inl (upd (mA σ 34) (ix i) x))) = wsM ad (xZ X) (sA σ 34 (ix i) x) := rfl
theorem uM34 {i x : Int32} (d : decode M.1 pc = .ok (.iastore, 1)) (k : JO X M Qf (pc + 1) lv st (wsM ad (xZ X) (sA σ 34 (ix i) x)) o) : JO X M Qf pc lv (.int x :: .int i :: .ref (ad 35) :: st) (wsM ad (xZ X) σ) (if inB i 60 = true then o else none) :=
  JO.iast (q0 := 26) rfl uM34_w d k
theorem nM34 (d : decode M.1 pc = .ok (.arraylength, 1)) (k : JO X M Qf (pc + 1) lv (.int 60 :: st) (wsM ad (xZ X) σ) o) : JO X M Qf pc lv (.ref (ad 35) :: st) (wsM ad (xZ X) σ) o :=
  JO.alen (q0 := 26) 0 rfl rfl 60 rfl d k
theorem gM35 (d : decode M.1 pc = .ok (.getfield 254, 3)) (hM : M.2.2.1 = RX10) (k : JO X M Qf (pc + 3) lv (.int (mI σ 35) :: st) (wsM ad (xZ X) σ) o) : JO X M Qf pc lv (.ref (ad 0) :: st) (wsM ad (xZ X) σ) o :=
  JO.get (q0 := 0) (ci := 7) (fs := fM ad σ) rfl inT10 rfl 35 rfl (by rw [hM]; exact k5_32) (Or.inl rfl) rfl d k
theorem pM35_w {v : Int32} : (wsM ad (xZ X) σ).set 0 (ad 0, .inr (7, (fM ad σ).set 35 (.int v))) = wsM ad (xZ X) (sI σ 35 v) := rfl
theorem pM35 {v : Int32} (d : decode M.1 pc = .ok (.putfield 254, 3)) (hM : M.2.2.1 = RX10) (k : JO X M Qf (pc + 3) lv st (wsM ad (xZ X) (sI σ 35 v)) o) : JO X M Qf pc lv (.int v :: .ref (ad 0) :: st) (wsM ad (xZ X) σ) o :=
  JO.put (q0 := 0) (ci := 7) (fs := fM ad σ) (ty := .int) tyX10 tyX10_ok nmX10 rfl inT10 rfl 35 rfl (by rw [hM]; exact k5_32) (Or.inl rfl) rfl rfl rfl rfl (Nat.le_of_ble_eq_true rfl) pM35_w d k
theorem gM36 (d : decode M.1 pc = .ok (.getfield 89, 3)) (hM : M.2.2.1 = RX10) (k : JO X M Qf (pc + 3) lv (.int (mI σ 36) :: st) (wsM ad (xZ X) σ) o) : JO X M Qf pc lv (.ref (ad 0) :: st) (wsM ad (xZ X) σ) o :=
  JO.get (q0 := 0) (ci := 7) (fs := fM ad σ) rfl inT10 rfl 36 rfl (by rw [hM]; exact k5_33) (Or.inl rfl) rfl d k
theorem pM36_w {v : Int32} : (wsM ad (xZ X) σ).set 0 (ad 0, .inr (7, (fM ad σ).set 36 (.int v))) = wsM ad (xZ X) (sI σ 36 v) := rfl
theorem pM36 {v : Int32} (d : decode M.1 pc = .ok (.putfield 89, 3)) (hM : M.2.2.1 = RX10) (k : JO X M Qf (pc + 3) lv st (wsM ad (xZ X) (sI σ 36 v)) o) : JO X M Qf pc lv (.int v :: .ref (ad 0) :: st) (wsM ad (xZ X) σ) o :=
  JO.put (q0 := 0) (ci := 7) (fs := fM ad σ) (ty := .int) tyX10 tyX10_ok nmX10 rfl inT10 rfl 36 rfl (by rw [hM]; exact k5_33) (Or.inl rfl) rfl rfl rfl rfl (Nat.le_of_ble_eq_true rfl) pM36_w d k
theorem gM37 (d : decode M.1 pc = .ok (.getfield 266, 3)) (hM : M.2.2.1 = RX10) (k : JO X M Qf (pc + 3) lv (.int (mI σ 37) :: st) (wsM ad (xZ X) σ) o) : JO X M Qf pc lv (.ref (ad 0) :: st) (wsM ad (xZ X) σ) o :=
  JO.get (q0 := 0) (ci := 7) (fs := fM ad σ) rfl inT10 rfl 37 rfl (by rw [hM]; exact k5_34) (Or.inl rfl) rfl d k
theorem pM37_w {v : Int32} : (wsM ad (xZ X) σ).set 0 (ad 0, .inr (7, (fM ad σ).set 37 (.int v))) = wsM ad (xZ X) (sI σ 37 v) := rfl
theorem pM37 {v : Int32} (d : decode M.1 pc = .ok (.putfield 266, 3)) (hM : M.2.2.1 = RX10) (k : JO X M Qf (pc + 3) lv st (wsM ad (xZ X) (sI σ 37 v)) o) : JO X M Qf pc lv (.int v :: .ref (ad 0) :: st) (wsM ad (xZ X) σ) o :=
  JO.put (q0 := 0) (ci := 7) (fs := fM ad σ) (ty := .int) tyX10 tyX10_ok nmX10 rfl inT10 rfl 37 rfl (by rw [hM]; exact k5_34) (Or.inl rfl) rfl rfl rfl rfl (Nat.le_of_ble_eq_true rfl) pM37_w d k
theorem gM38 (d : decode M.1 pc = .ok (.getfield 245, 3)) (hM : M.2.2.1 = RX10) (k : JO X M Qf (pc + 3) lv (.int (mI σ 38) :: st) (wsM ad (xZ X) σ) o) : JO X M Qf pc lv (.ref (ad 0) :: st) (wsM ad (xZ X) σ) o :=
  JO.get (q0 := 0) (ci := 7) (fs := fM ad σ) rfl inT10 rfl 38 rfl (by rw [hM]; exact k5_35) (Or.inl rfl) rfl d k
theorem pM38_w {v : Int32} : (wsM ad (xZ X) σ).set 0 (ad 0, .inr (7, (fM ad σ).set 38 (.int v))) = wsM ad (xZ X) (sI σ 38 v) := rfl
theorem pM38 {v : Int32} (d : decode M.1 pc = .ok (.putfield 245, 3)) (hM : M.2.2.1 = RX10) (k : JO X M Qf (pc + 3) lv st (wsM ad (xZ X) (sI σ 38 v)) o) : JO X M Qf pc lv (.int v :: .ref (ad 0) :: st) (wsM ad (xZ X) σ) o :=
  JO.put (q0 := 0) (ci := 7) (fs := fM ad σ) (ty := .int) tyX10 tyX10_ok nmX10 rfl inT10 rfl 38 rfl (by rw [hM]; exact k5_35) (Or.inl rfl) rfl rfl rfl rfl (Nat.le_of_ble_eq_true rfl) pM38_w d k
theorem gM39 (d : decode M.1 pc = .ok (.getfield 93, 3)) (hM : M.2.2.1 = RX10) (k : JO X M Qf (pc + 3) lv (.ref (ad 40) :: st) (wsM ad (xZ X) σ) o) : JO X M Qf pc lv (.ref (ad 0) :: st) (wsM ad (xZ X) σ) o :=
  JO.get (q0 := 0) (ci := 7) (fs := fM ad σ) rfl inT10 rfl 39 rfl (by rw [hM]; exact k5_36) (Or.inl rfl) rfl d k
theorem aM39 {i : Int32} (d : decode M.1 pc = .ok (.iaload, 1)) (k : JO X M Qf (pc + 1) lv (.int (mA σ 39 (ix i)) :: st) (wsM ad (xZ X) σ) o) : JO X M Qf pc lv (.int i :: .ref (ad 40) :: st) (wsM ad (xZ X) σ) (if inB i 90 = true then o else none) :=
  JO.iald (q0 := 27) rfl d k
theorem uM39_w {i x : Int32} : (wsM ad (xZ X) σ).set 27 (ad 40, .inl ((xZ X).1, 90, .inl (upd (mA σ 39) (ix i) x))) = wsM ad (xZ X) (sA σ 39 (ix i) x) := rfl
theorem uM39 {i x : Int32} (d : decode M.1 pc = .ok (.iastore, 1)) (k : JO X M Qf (pc + 1) lv st (wsM ad (xZ X) (sA σ 39 (ix i) x)) o) : JO X M Qf pc lv (.int x :: .int i :: .ref (ad 40) :: st) (wsM ad (xZ X) σ) (if inB i 90 = true then o else none) :=
  JO.iast (q0 := 27) rfl uM39_w d k
theorem nM39 (d : decode M.1 pc = .ok (.arraylength, 1)) (k : JO X M Qf (pc + 1) lv (.int 90 :: st) (wsM ad (xZ X) σ) o) : JO X M Qf pc lv (.ref (ad 40) :: st) (wsM ad (xZ X) σ) o :=
  JO.alen (q0 := 27) 0 rfl rfl 90 rfl d k
theorem gM40 (d : decode M.1 pc = .ok (.getfield 357, 3)) (hM : M.2.2.1 = RX10) (k : JO X M Qf (pc + 3) lv (.int (bI (mZ σ 40)) :: st) (wsM ad (xZ X) σ) o) : JO X M Qf pc lv (.ref (ad 0) :: st) (wsM ad (xZ X) σ) o :=
  JO.get (q0 := 0) (ci := 7) (fs := fM ad σ) rfl inT10 rfl 40 rfl (by rw [hM]; exact k5_37) (Or.inl rfl) rfl d k
theorem pM40_w {v : Bool} : (wsM ad (xZ X) σ).set 0 (ad 0, .inr (7, (fM ad σ).set 40 (.int (bI v)))) = wsM ad (xZ X) (sZ σ 40 v) := rfl
theorem pM40 {v : Bool} (d : decode M.1 pc = .ok (.putfield 357, 3)) (hM : M.2.2.1 = RX10) (k : JO X M Qf (pc + 3) lv st (wsM ad (xZ X) (sZ σ 40 v)) o) : JO X M Qf pc lv (.int (bI v) :: .ref (ad 0) :: st) (wsM ad (xZ X) σ) o :=
  JO.put (q0 := 0) (ci := 7) (fs := fM ad σ) (ty := .boolean) tyX10 tyX10_ok nmX10 rfl inT10 rfl 40 rfl (by rw [hM]; exact k5_37) (Or.inl rfl) rfl rfl (by cases v <;> rfl) (by cases v <;> rfl) (Nat.le_of_ble_eq_true rfl) pM40_w d k
theorem gM41 (d : decode M.1 pc = .ok (.getfield 343, 3)) (hM : M.2.2.1 = RX10) (k : JO X M Qf (pc + 3) lv (.int (bI (mZ σ 41)) :: st) (wsM ad (xZ X) σ) o) : JO X M Qf pc lv (.ref (ad 0) :: st) (wsM ad (xZ X) σ) o :=
  JO.get (q0 := 0) (ci := 7) (fs := fM ad σ) rfl inT10 rfl 41 rfl (by rw [hM]; exact k5_38) (Or.inl rfl) rfl d k
theorem pM41_w {v : Bool} : (wsM ad (xZ X) σ).set 0 (ad 0, .inr (7, (fM ad σ).set 41 (.int (bI v)))) = wsM ad (xZ X) (sZ σ 41 v) := rfl
theorem pM41 {v : Bool} (d : decode M.1 pc = .ok (.putfield 343, 3)) (hM : M.2.2.1 = RX10) (k : JO X M Qf (pc + 3) lv st (wsM ad (xZ X) (sZ σ 41 v)) o) : JO X M Qf pc lv (.int (bI v) :: .ref (ad 0) :: st) (wsM ad (xZ X) σ) o :=
  JO.put (q0 := 0) (ci := 7) (fs := fM ad σ) (ty := .boolean) tyX10 tyX10_ok nmX10 rfl inT10 rfl 41 rfl (by rw [hM]; exact k5_38) (Or.inl rfl) rfl rfl (by cases v <;> rfl) (by cases v <;> rfl) (Nat.le_of_ble_eq_true rfl) pM41_w d k
theorem gM42 (d : decode M.1 pc = .ok (.getfield 347, 3)) (hM : M.2.2.1 = RX10) (k : JO X M Qf (pc + 3) lv (.int (mI σ 42) :: st) (wsM ad (xZ X) σ) o) : JO X M Qf pc lv (.ref (ad 0) :: st) (wsM ad (xZ X) σ) o :=
  JO.get (q0 := 0) (ci := 7) (fs := fM ad σ) rfl inT10 rfl 42 rfl (by rw [hM]; exact k5_39) (Or.inl rfl) rfl d k
theorem pM42_w {v : Int32} : (wsM ad (xZ X) σ).set 0 (ad 0, .inr (7, (fM ad σ).set 42 (.int v))) = wsM ad (xZ X) (sI σ 42 v) := rfl
theorem pM42 {v : Int32} (d : decode M.1 pc = .ok (.putfield 347, 3)) (hM : M.2.2.1 = RX10) (k : JO X M Qf (pc + 3) lv st (wsM ad (xZ X) (sI σ 42 v)) o) : JO X M Qf pc lv (.int v :: .ref (ad 0) :: st) (wsM ad (xZ X) σ) o :=
  JO.put (q0 := 0) (ci := 7) (fs := fM ad σ) (ty := .int) tyX10 tyX10_ok nmX10 rfl inT10 rfl 42 rfl (by rw [hM]; exact k5_39) (Or.inl rfl) rfl rfl rfl rfl (Nat.le_of_ble_eq_true rfl) pM42_w d k
end MR
abbrev wM (ad : Nat → Nat) (Z : ZT) {ρ : Type} : ρ × MS → va_W := fun a => wsM ad Z a.2
/-- locals at a jump: fewer are claimed -/
def lvLe : List (Option Value) → List (Option Value) → Prop
  | [], _ => True
  | none :: r, l => lvLe r l.tail
  | some v :: r, l => l.head? = some (some v) ∧ lvLe r l.tail
theorem lvLe.at : ∀ {l' l : List (Option Value)}, lvLe l' l → ∀ (i : Nat) (v : Value), l'[i]? = some (some v) → l[i]? = some (some v)
  | [], _, _, i, v, h => by simp at h
  | none :: r, l, hl, 0, v, h => by simp at h
  | none :: r, l, hl, i + 1, v, h => by
    have := lvLe.at (l := l.tail) hl i v (by simpa using h)
    cases l with
    | nil => simp at this
    | cons a b => simpa using this
  | some w :: r, l, hl, 0, v, h => by
    simp at h; subst h
    cases l with
    | nil => exact absurd hl.1 (by simp)
    | cons a b => simpa using hl.1
  | some w :: r, l, hl, i + 1, v, h => by
    have := lvLe.at (l := l.tail) hl.2 i v (by simpa using h)
    cases l with
    | nil => simp at this
    | cons a b => simpa using this
theorem JO.jump {α : Type} {X : JX} {M : JM} {Qf : α → State → Prop} {pc : Nat} {lv lv' : List (Option Value)} {st : List Value} {ws : va_W} {o : Option α} (k : JO X M Qf pc lv' st ws o) (hs : lvLe lv' lv) : JO X M Qf pc lv st ws o := k.sub (lvLe.at hs)
theorem lvLe.nil {l : List (Option Value)} : lvLe [] l := trivial
theorem lvLe.no {r l : List (Option Value)} (h : lvLe r l.tail) : lvLe (none :: r) l := h
theorem lvLe.so {v : Value} {r l : List (Option Value)} (h1 : l.head? = some (some v)) (h2 : lvLe r l.tail) : lvLe (some v :: r) l := ⟨h1, h2⟩
/-- what a call by its receiver's class asks of the callee: its words, its face -/
def Kv (y : MethodName) (M' : JM) (C : String) (n : Nat) : Prop := y.cls = C ∧ Cond.instanceMethod y ∈ TT ∧ Cond.selects C y y ∈ TT ∧ Cond.initialized C ∈ TT ∧ Cond.code y M'.1 M'.2.1 M'.2.2.2.1 ∈ TT ∧ (y.cls ≠ "java/lang/invoke/MethodHandle" ∧ y.cls ≠ "java/lang/invoke/VarHandle" ∧ (parseMethodDescriptor y.desc).map (fun d => d.parameters.length) = some n)
def Ks (y : MethodName) (M' : JM) (n : Nat) : Prop := Cond.static y ∈ TT ∧ Cond.initialized y.cls ∈ TT ∧ Cond.code y M'.1 M'.2.1 M'.2.2.2.1 ∈ TT ∧ (y.cls ≠ "java/lang/invoke/MethodHandle" ∧ y.cls ≠ "java/lang/invoke/VarHandle" ∧ (parseMethodDescriptor y.desc).map (fun d => d.parameters.length) = some n)
section MC
variable {α : Type} {X : JX} {M M' : JM} {Qf : α → State → Prop} {pc n index : Nat} {lv : List (Option Value)} {st rest As : List Value} {ad : Nat → Nat} {σ : MS} {y : MethodName}
theorem JO.mvi {o' : Option (Int32 × MS)} {kk : Int32 × MS → Option α} (hc : CO y M' eI (xZ X) (wM ad (xZ X)) (.ref (ad 0) :: As) (wsM ad (xZ X) σ) o') (K : Kv y M' RX10 n) (w1 : Cond.methodLink M.2.2.1 index y ∈ TT) (hn : As.length = n) (hst : st = As.reverse ++ .ref (ad 0) :: rest) (hroom : roomOk M M' = true) (hcat : (rest.map fun v => v.category).sum ≤ 8) (d : decode M.1 pc = .ok (.invokevirtual index, 3)) (k : ∀ b : Int32 × MS, JO X M Qf (pc + 3) lv (.int b.1 :: rest) (wsM ad (xZ X) b.2) (kk b)) : JO X M Qf pc lv st (wsM ad (xZ X) σ) (o'.bind kk) :=
  JO.callV (q0 := 0) (ci := 7) (fs := fM ad σ) hc rfl rfl K.1 w1 K.2.1 K.2.2.1 K.2.2.2.1 K.2.2.2.2.1 K.2.2.2.2.2 hn hst hroom hcat (fun _ => rfl) d k
theorem JO.msi {o' : Option (Int32 × MS)} {kk : Int32 × MS → Option α} (hc : CO y M' eI (xZ X) (wM ad (xZ X)) As (wsM ad (xZ X) σ) o') (K : Ks y M' n) (w1 : Cond.methodLink M.2.2.1 index y ∈ TT) (hn : As.length = n) (hst : st = As.reverse ++ rest) (hroom : roomOk M M' = true) (hcat : (rest.map fun v => v.category).sum ≤ 8) (d : decode M.1 pc = .ok (.invokestatic index, 3)) (k : ∀ b : Int32 × MS, JO X M Qf (pc + 3) lv (.int b.1 :: rest) (wsM ad (xZ X) b.2) (kk b)) : JO X M Qf pc lv st (wsM ad (xZ X) σ) (o'.bind kk) :=
  JO.callS hc w1 K.1 K.2.1 K.2.2.1 K.2.2.2 hn hst hroom hcat (fun _ => rfl) d k
theorem JO.mvz {o' : Option (Bool × MS)} {kk : Bool × MS → Option α} (hc : CO y M' eZ (xZ X) (wM ad (xZ X)) (.ref (ad 0) :: As) (wsM ad (xZ X) σ) o') (K : Kv y M' RX10 n) (w1 : Cond.methodLink M.2.2.1 index y ∈ TT) (hn : As.length = n) (hst : st = As.reverse ++ .ref (ad 0) :: rest) (hroom : roomOk M M' = true) (hcat : (rest.map fun v => v.category).sum ≤ 8) (d : decode M.1 pc = .ok (.invokevirtual index, 3)) (k : ∀ b : Bool × MS, JO X M Qf (pc + 3) lv (.int (bI b.1) :: rest) (wsM ad (xZ X) b.2) (kk b)) : JO X M Qf pc lv st (wsM ad (xZ X) σ) (o'.bind kk) :=
  JO.callV (q0 := 0) (ci := 7) (fs := fM ad σ) hc rfl rfl K.1 w1 K.2.1 K.2.2.1 K.2.2.2.1 K.2.2.2.2.1 K.2.2.2.2.2 hn hst hroom hcat (fun _ => rfl) d k
theorem JO.msz {o' : Option (Bool × MS)} {kk : Bool × MS → Option α} (hc : CO y M' eZ (xZ X) (wM ad (xZ X)) As (wsM ad (xZ X) σ) o') (K : Ks y M' n) (w1 : Cond.methodLink M.2.2.1 index y ∈ TT) (hn : As.length = n) (hst : st = As.reverse ++ rest) (hroom : roomOk M M' = true) (hcat : (rest.map fun v => v.category).sum ≤ 8) (d : decode M.1 pc = .ok (.invokestatic index, 3)) (k : ∀ b : Bool × MS, JO X M Qf (pc + 3) lv (.int (bI b.1) :: rest) (wsM ad (xZ X) b.2) (kk b)) : JO X M Qf pc lv st (wsM ad (xZ X) σ) (o'.bind kk) :=
  JO.callS hc w1 K.1 K.2.1 K.2.2.1 K.2.2.2 hn hst hroom hcat (fun _ => rfl) d k
theorem JO.mvl {o' : Option (Int64 × MS)} {kk : Int64 × MS → Option α} (hc : CO y M' eL (xZ X) (wM ad (xZ X)) (.ref (ad 0) :: As) (wsM ad (xZ X) σ) o') (K : Kv y M' RX10 n) (w1 : Cond.methodLink M.2.2.1 index y ∈ TT) (hn : As.length = n) (hst : st = As.reverse ++ .ref (ad 0) :: rest) (hroom : roomOk M M' = true) (hcat : (rest.map fun v => v.category).sum ≤ 8) (d : decode M.1 pc = .ok (.invokevirtual index, 3)) (k : ∀ b : Int64 × MS, JO X M Qf (pc + 3) lv (.long b.1 :: rest) (wsM ad (xZ X) b.2) (kk b)) : JO X M Qf pc lv st (wsM ad (xZ X) σ) (o'.bind kk) :=
  JO.callV (q0 := 0) (ci := 7) (fs := fM ad σ) hc rfl rfl K.1 w1 K.2.1 K.2.2.1 K.2.2.2.1 K.2.2.2.2.1 K.2.2.2.2.2 hn hst hroom hcat (fun _ => rfl) d k
theorem JO.msl {o' : Option (Int64 × MS)} {kk : Int64 × MS → Option α} (hc : CO y M' eL (xZ X) (wM ad (xZ X)) As (wsM ad (xZ X) σ) o') (K : Ks y M' n) (w1 : Cond.methodLink M.2.2.1 index y ∈ TT) (hn : As.length = n) (hst : st = As.reverse ++ rest) (hroom : roomOk M M' = true) (hcat : (rest.map fun v => v.category).sum ≤ 8) (d : decode M.1 pc = .ok (.invokestatic index, 3)) (k : ∀ b : Int64 × MS, JO X M Qf (pc + 3) lv (.long b.1 :: rest) (wsM ad (xZ X) b.2) (kk b)) : JO X M Qf pc lv st (wsM ad (xZ X) σ) (o'.bind kk) :=
  JO.callS hc w1 K.1 K.2.1 K.2.2.1 K.2.2.2 hn hst hroom hcat (fun _ => rfl) d k
theorem JO.mvv {o' : Option (Unit × MS)} {kk : Unit × MS → Option α} (hc : CO y M' eV (xZ X) (wM ad (xZ X)) (.ref (ad 0) :: As) (wsM ad (xZ X) σ) o') (K : Kv y M' RX10 n) (w1 : Cond.methodLink M.2.2.1 index y ∈ TT) (hn : As.length = n) (hst : st = As.reverse ++ .ref (ad 0) :: rest) (hroom : roomOk M M' = true) (hcat : (rest.map fun v => v.category).sum ≤ 8) (d : decode M.1 pc = .ok (.invokevirtual index, 3)) (k : ∀ b : Unit × MS, JO X M Qf (pc + 3) lv (rest) (wsM ad (xZ X) b.2) (kk b)) : JO X M Qf pc lv st (wsM ad (xZ X) σ) (o'.bind kk) :=
  JO.callV (q0 := 0) (ci := 7) (fs := fM ad σ) hc rfl rfl K.1 w1 K.2.1 K.2.2.1 K.2.2.2.1 K.2.2.2.2.1 K.2.2.2.2.2 hn hst hroom hcat (fun _ => rfl) d k
theorem JO.msv {o' : Option (Unit × MS)} {kk : Unit × MS → Option α} (hc : CO y M' eV (xZ X) (wM ad (xZ X)) As (wsM ad (xZ X) σ) o') (K : Ks y M' n) (w1 : Cond.methodLink M.2.2.1 index y ∈ TT) (hn : As.length = n) (hst : st = As.reverse ++ rest) (hroom : roomOk M M' = true) (hcat : (rest.map fun v => v.category).sum ≤ 8) (d : decode M.1 pc = .ok (.invokestatic index, 3)) (k : ∀ b : Unit × MS, JO X M Qf (pc + 3) lv (rest) (wsM ad (xZ X) b.2) (kk b)) : JO X M Qf pc lv st (wsM ad (xZ X) σ) (o'.bind kk) :=
  JO.callS hc w1 K.1 K.2.1 K.2.2.1 K.2.2.2 hn hst hroom hcat (fun _ => rfl) d k
end MC
