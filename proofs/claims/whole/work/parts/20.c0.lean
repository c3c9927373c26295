/-! THE CLASS: its state (ints, truth values, longs by cell and slot; rows of ints, of longs by cell), its 74 cells.
0 the object, 1 shelves, 2 refusals, 3 setup (4, 5 its rows), 6 kept (7, 8), 9 reader, 10 draft (11, 12), 13 numbers; a run at b = 14 or 36: b, b + 1 its sites' row, b + 2 + j site j, b + 8 + j its log, b + 14 .. b + 18 messages, b + 19, b + 20, b + 21 moments; 58 + i shelf i, 66 + i its elements -/
abbrev CS : Type := (Nat → Nat → Int32) × (Nat → Nat → Bool) × (Nat → Nat → Int64) × (Nat → Nat → Int32) × (Nat → Nat → Int64)
abbrev CL : Type := (Nat → Int32) × (Nat → Bool) × (Nat → Int64) × (Nat → Int32) × (Nat → Int64)
abbrev cI (σ : CS) (c k : Nat) : Int32 := σ.1 c k
abbrev cZ (σ : CS) (c k : Nat) : Bool := σ.2.1 c k
abbrev cG (σ : CS) (c k : Nat) : Int64 := σ.2.2.1 c k
abbrev cA (σ : CS) (c : Nat) : Nat → Int32 := σ.2.2.2.1 c
abbrev cB (σ : CS) (c : Nat) : Nat → Int64 := σ.2.2.2.2 c
def tI (σ : CS) (c k : Nat) (v : Int32) : CS := (va_up σ.1 c (va_up (σ.1 c) k v), σ.2)
def tZ (σ : CS) (c k : Nat) (v : Bool) : CS := (σ.1, va_up σ.2.1 c (va_up (σ.2.1 c) k v), σ.2.2)
def tG (σ : CS) (c k : Nat) (v : Int64) : CS := (σ.1, σ.2.1, va_up σ.2.2.1 c (va_up (σ.2.2.1 c) k v), σ.2.2.2)
def tA (σ : CS) (c i : Nat) (v : Int32) : CS := (σ.1, σ.2.1, σ.2.2.1, va_up σ.2.2.2.1 c (upd (σ.2.2.2.1 c) i v), σ.2.2.2.2)
def tB (σ : CS) (c i : Nat) (v : Int64) : CS := (σ.1, σ.2.1, σ.2.2.1, σ.2.2.2.1, va_up σ.2.2.2.2 c (vp_updL (σ.2.2.2.2 c) i v))
/-- a whole row of ints, of longs, becomes another -/
def tAr (σ : CS) (c : Nat) (f : Nat → Int32) : CS := (σ.1, σ.2.1, σ.2.2.1, va_up σ.2.2.2.1 c f, σ.2.2.2.2)
def tBr (σ : CS) (c : Nat) (f : Nat → Int64) : CS := (σ.1, σ.2.1, σ.2.2.1, σ.2.2.2.1, va_up σ.2.2.2.2 c f)
def sl (σ : CS) (c : Nat) : CL := (σ.1 c, σ.2.1 c, σ.2.2.1 c, σ.2.2.2.1 c, σ.2.2.2.2 c)
theorem va_up_s {α : Type} (f : Nat → α) (k : Nat) (v : α) : va_up f k v k = v := by simp [va_up]
theorem va_up_n {α : Type} (f : Nat → α) {k j : Nat} (v : α) (h : j ≠ k) : va_up f k v j = f j := by simp [va_up, h]
def iA (Z : ZT) (n : Nat) (d : CL) : va_E := .inl (Z.1, n, .inl d.2.2.2.1)
def lA (Z : ZT) (n : Nat) (d : CL) : va_E := .inl (Z.2.1, n, .inr (.inl d.2.2.2.2))
def fP (ad : Nat → Nat) (d : CL) : List Value := [.ref (ad (1)), .ref (ad (2)), .ref (ad (3)), .ref (ad (6)), .int (bI (d.2.1 4)), .ref (ad (9)), .int (d.1 6), .ref (ad (14)), .int (bI (d.2.1 8)), .ref (ad (36)), .int (bI (d.2.1 10)), .long (d.2.2.1 11), .long (d.2.2.1 12)]
def fS (ad : Nat → Nat) (q : Nat) (d : CL) : List Value := [.int (d.1 0), .int (d.1 1), .int (d.1 2), .int (bI (d.2.1 3)), .int (d.1 4), .long (d.2.2.1 5), .ref (ad (q + 1)), .ref (ad (q + 2)), .int (d.1 8)]
def fQ (ad : Nat → Nat) (d : CL) : List Value := [.ref (ad (10)), .int (d.1 1), .int (d.1 2), .ref (ad (13))]
def fR (ad : Nat → Nat) (b : Nat) (d : CL) : List Value := [.ref (ad (3)), .ref (ad (b + 2)), .ref (ad (b + 1)), .int (bI (d.2.1 3)), .long (d.2.2.1 4), .int (d.1 5), .int (d.1 6), .int (d.1 7), .int (d.1 8), .ref (ad (b + 14)), .ref (ad (b + 15)), .ref (ad (b + 16)), .ref (ad (b + 17)), .ref (ad (b + 18)), .ref (ad (b + 19)), .ref (ad (b + 20)), .ref (ad (b + 21))]
def fT0 (ad : Nat → Nat) (b : Nat) (d : CL) : List Value := [.int 0, .ref (ad (b + 8)), .int (d.1 2), .int (bI (d.2.1 3)), .int (d.1 4), .int (d.1 5), .int (d.1 6)]
def fT (ad : Nat → Nat) (b j : Nat) (d : CL) : List Value := [.int (Int32.ofNat j), .ref (ad (b + 8 + j)), .int (d.1 2), .int (bI (d.2.1 3)), .int (d.1 4), .int (d.1 5)]
def fH (ad : Nat → Nat) (i : Nat) (d : CL) : List Value := [.int (d.1 0), .int (d.1 1), .int (d.1 2), .ref (ad (66 + i)), .int (d.1 4), .int (d.1 5), .int (d.1 6), .int (d.1 7)]
def rowT (ad : Nat → Nat) (b : Nat) : Nat → Option Nat := fun j => if j < 6 then some (ad (b + 2 + j)) else none
def rowH (ad : Nat → Nat) : Nat → Option Nat := fun i => if i < 8 then some (ad (58 + i)) else none
/-- the cells of a run, by their places in it -/
def runC (ad : Nat → Nat) (Z : ZT) (b r : Nat) (d : CL) : va_E :=
  if r = 0 then .inr (2, fR ad b d) else if r = 1 then .inl (Z.2.2.2.1, 6, .inr (.inr (.inr (.inr (rowT ad b))))) else if r = 2 then .inr (0, fT0 ad b d) else if r < 8 then .inr (1, fT ad b (r - 2) d)
  else if r < 14 then iA Z 8 d else if r < 19 then iA Z 200 d else if r < 21 then iA Z 366 d else iA Z 61 d
def setC (ad : Nat → Nat) (Z : ZT) (q r : Nat) (d : CL) : va_E := if r = 0 then .inr (3, fS ad q d) else iA Z 6 d
def cellC (ad : Nat → Nat) (Z : ZT) (c : Nat) (d : CL) : va_E :=
  if c < 14 then (if c = 0 then .inr (6, fP ad d) else if c = 1 then .inl (Z.2.2.1, 8, .inr (.inr (.inr (.inr (rowH ad))))) else if c = 2 then iA Z 8 d else if c < 6 then setC ad Z 3 (c - 3) d else if c < 9 then setC ad Z 6 (c - 6) d else if c = 9 then .inr (5, fQ ad d) else if c < 13 then setC ad Z 10 (c - 10) d else iA Z 3 d)
  else if c < 36 then runC ad Z 14 (c - 14) d else if c < 58 then runC ad Z 36 (c - 36) d else if c < 66 then .inr (4, fH ad (c - 58) d) else lA Z 160 d
def wsC (ad : Nat → Nat) (Z : ZT) (σ : CS) : va_W := (List.range 74).map (fun c => (ad c, cellC ad Z c (sl σ c)))
theorem wsC_at {ad : Nat → Nat} {Z : ZT} {σ : CS} {c : Nat} (h : c < 74) : (wsC ad Z σ)[c]? = some (ad c, cellC ad Z c (sl σ c)) := by
  unfold wsC
  rw [List.getElem?_map, List.getElem?_range h]; rfl
theorem wsC_set {ad : Nat → Nat} {Z : ZT} {σ σ' : CS} {c : Nat} {e : va_E} (h : c < 74) (he : cellC ad Z c (sl σ' c) = e) (ho : ∀ c', c' ≠ c → sl σ' c' = sl σ c') : (wsC ad Z σ).set c (ad c, e) = wsC ad Z σ' := by
  apply List.ext_getElem?
  intro i
  by_cases hi : i = c
  · subst hi
    rw [wsC_at h, List.getElem?_set_self (by unfold wsC; simpa using h), he]
  · rw [List.getElem?_set_ne (fun q => hi q.symm)]
    by_cases hl : i < 74
    · rw [wsC_at hl, wsC_at hl, ho i hi]
    · rw [List.getElem?_eq_none (by unfold wsC; simp; omega), List.getElem?_eq_none (by unfold wsC; simp; omega)]
theorem wsC_fst {ad : Nat → Nat} {Z : ZT} {σ σ' : CS} : (wsC ad Z σ').map Prod.fst = (wsC ad Z σ).map Prod.fst := by
  unfold wsC; rw [List.map_map, List.map_map]; rfl
theorem tI_o {σ : CS} {c k : Nat} {v : Int32} : ∀ c', c' ≠ c → sl (tI σ c k v) c' = sl σ c' := fun c' h => by simp [sl, tI, va_up_n _ _ h]
theorem tZ_o {σ : CS} {c k : Nat} {v : Bool} : ∀ c', c' ≠ c → sl (tZ σ c k v) c' = sl σ c' := fun c' h => by simp [sl, tZ, va_up_n _ _ h]
theorem tG_o {σ : CS} {c k : Nat} {v : Int64} : ∀ c', c' ≠ c → sl (tG σ c k v) c' = sl σ c' := fun c' h => by simp [sl, tG, va_up_n _ _ h]
theorem tAr_o {σ : CS} {c : Nat} {f : Nat → Int32} : ∀ c', c' ≠ c → sl (tAr σ c f) c' = sl σ c' := fun c' h => by simp [sl, tAr, va_up_n _ _ h]
theorem tBr_o {σ : CS} {c : Nat} {f : Nat → Int64} : ∀ c', c' ≠ c → sl (tBr σ c f) c' = sl σ c' := fun c' h => by simp [sl, tBr, va_up_n _ _ h]
theorem tI_s {σ : CS} {c k : Nat} {v : Int32} : sl (tI σ c k v) c = (va_up (sl σ c).1 k v, (sl σ c).2) := by simp [sl, tI, va_up_s]
theorem tZ_s {σ : CS} {c k : Nat} {v : Bool} : sl (tZ σ c k v) c = ((sl σ c).1, va_up (sl σ c).2.1 k v, (sl σ c).2.2) := by simp [sl, tZ, va_up_s]
theorem tG_s {σ : CS} {c k : Nat} {v : Int64} : sl (tG σ c k v) c = ((sl σ c).1, (sl σ c).2.1, va_up (sl σ c).2.2.1 k v, (sl σ c).2.2.2) := by simp [sl, tG, va_up_s]
theorem tAr_s {σ : CS} {c : Nat} {f : Nat → Int32} : sl (tAr σ c f) c = ((sl σ c).1, (sl σ c).2.1, (sl σ c).2.2.1, f, (sl σ c).2.2.2.2) := by simp [sl, tAr, va_up_s]
theorem tBr_s {σ : CS} {c : Nat} {f : Nat → Int64} : sl (tBr σ c f) c = ((sl σ c).1, (sl σ c).2.1, (sl σ c).2.2.1, (sl σ c).2.2.2.1, f) := by simp [sl, tBr, va_up_s]
theorem tA_r {σ : CS} {c i : Nat} {v : Int32} : tA σ c i v = tAr σ c (upd (cA σ c) i v) := rfl
theorem tB_r {σ : CS} {c i : Nat} {v : Int64} : tB σ c i v = tBr σ c (vp_updL (cB σ c) i v) := rfl
/-- which places a set-up, a run has -/
def isS (q : Nat) : Prop := q = 3 ∨ q = 6 ∨ q = 10
def isR (b : Nat) : Prop := b = 14 ∨ b = 36
theorem isS3 : isS 3 := Or.inl rfl
theorem isS6 : isS 6 := Or.inr (Or.inl rfl)
theorem isS10 : isS 10 := Or.inr (Or.inr rfl)
theorem isR14 : isR 14 := Or.inl rfl
theorem isR36 : isR 36 := Or.inr rfl
def isO (c ci : Nat) (f : (Nat → Nat) → CL → List Value) : Prop := c < 74 ∧ ∀ ad Z d, cellC ad Z c d = .inr (ci, f ad d)
def isIA (c n : Nat) : Prop := c < 74 ∧ ∀ ad Z d, cellC ad Z c d = iA Z n d
def isLA (c n : Nat) : Prop := c < 74 ∧ ∀ ad Z d, cellC ad Z c d = lA Z n d
theorem o_P : isO 0 6 fP := ⟨by decide, fun _ _ _ => rfl⟩
theorem o_Q : isO 9 5 fQ := ⟨by decide, fun _ _ _ => rfl⟩
theorem o_S {q : Nat} (h : isS q) : isO q 3 (fun ad d => fS ad q d) := by rcases h with rfl | rfl | rfl <;> exact ⟨by decide, fun _ _ _ => rfl⟩
theorem o_R {b : Nat} (h : isR b) : isO b 2 (fun ad d => fR ad b d) := by rcases h with rfl | rfl <;> exact ⟨by decide, fun _ _ _ => rfl⟩
theorem o_T0 {b : Nat} (h : isR b) : isO (b + 2) 0 (fun ad d => fT0 ad b d) := by rcases h with rfl | rfl <;> exact ⟨by decide, fun _ _ _ => rfl⟩
theorem lt6 {j : Nat} (h : j < 6) : j = 0 ∨ j = 1 ∨ j = 2 ∨ j = 3 ∨ j = 4 ∨ j = 5 := by omega
theorem lt8 {j : Nat} (h : j < 8) : j = 0 ∨ j = 1 ∨ j = 2 ∨ j = 3 ∨ j = 4 ∨ j = 5 ∨ j = 6 ∨ j = 7 := by omega
theorem o_T {b j : Nat} (h : isR b) (h0 : 0 < j) (hj : j < 6) : isO (b + 2 + j) 1 (fun ad d => fT ad b j d) := by
  rcases h with rfl | rfl <;> rcases lt6 hj with rfl | rfl | rfl | rfl | rfl | rfl <;> first | exact absurd h0 (by decide) | exact ⟨by decide, fun _ _ _ => rfl⟩
theorem o_H {i : Nat} (h : i < 8) : isO (58 + i) 4 (fun ad d => fH ad i d) := by
  rcases lt8 h with rfl | rfl | rfl | rfl | rfl | rfl | rfl | rfl <;> exact ⟨by decide, fun _ _ _ => rfl⟩
theorem i_2 : isIA 2 8 := ⟨by decide, fun _ _ _ => rfl⟩
theorem i_13 : isIA 13 3 := ⟨by decide, fun _ _ _ => rfl⟩
theorem i_gd {q : Nat} (h : isS q) : isIA (q + 1) 6 := by rcases h with rfl | rfl | rfl <;> exact ⟨by decide, fun _ _ _ => rfl⟩
theorem i_cu {q : Nat} (h : isS q) : isIA (q + 2) 6 := by rcases h with rfl | rfl | rfl <;> exact ⟨by decide, fun _ _ _ => rfl⟩
theorem i_log {b j : Nat} (h : isR b) (hj : j < 6) : isIA (b + 8 + j) 8 := by
  rcases h with rfl | rfl <;> rcases lt6 hj with rfl | rfl | rfl | rfl | rfl | rfl <;> exact ⟨by decide, fun _ _ _ => rfl⟩
theorem i_r14 {b : Nat} (h : isR b) : isIA (b + 14) 200 := by rcases h with rfl | rfl <;> exact ⟨by decide, fun _ _ _ => rfl⟩
theorem i_r15 {b : Nat} (h : isR b) : isIA (b + 15) 200 := by rcases h with rfl | rfl <;> exact ⟨by decide, fun _ _ _ => rfl⟩
theorem i_r16 {b : Nat} (h : isR b) : isIA (b + 16) 200 := by rcases h with rfl | rfl <;> exact ⟨by decide, fun _ _ _ => rfl⟩
theorem i_r17 {b : Nat} (h : isR b) : isIA (b + 17) 200 := by rcases h with rfl | rfl <;> exact ⟨by decide, fun _ _ _ => rfl⟩
theorem i_r18 {b : Nat} (h : isR b) : isIA (b + 18) 200 := by rcases h with rfl | rfl <;> exact ⟨by decide, fun _ _ _ => rfl⟩
theorem i_r19 {b : Nat} (h : isR b) : isIA (b + 19) 366 := by rcases h with rfl | rfl <;> exact ⟨by decide, fun _ _ _ => rfl⟩
theorem i_r20 {b : Nat} (h : isR b) : isIA (b + 20) 366 := by rcases h with rfl | rfl <;> exact ⟨by decide, fun _ _ _ => rfl⟩
theorem i_r21 {b : Nat} (h : isR b) : isIA (b + 21) 61 := by rcases h with rfl | rfl <;> exact ⟨by decide, fun _ _ _ => rfl⟩
theorem l_el {i : Nat} (h : i < 8) : isLA (66 + i) 160 := by
  rcases lt8 h with rfl | rfl | rfl | rfl | rfl | rfl | rfl | rfl <;> exact ⟨by decide, fun _ _ _ => rfl⟩
section CR
variable {α : Type} {X : JX} {M : JM} {Qf : α → State → Prop} {pc : Nat} {lv : List (Option Value)} {st : List Value} {o : Option α} {ad : Nat → Nat} {σ : CS} {c ci n index : Nat} {f : (Nat → Nat) → CL → List Value}
theorem cC_he (h : isO c ci f) : (wsC ad (xZ X) σ)[c]? = some (ad c, .inr (ci, f ad (sl σ c))) := by rw [wsC_at h.1, h.2]
theorem JO.aC {i : Int32} (h : isIA c n) (d : decode M.1 pc = .ok (.iaload, 1)) (k : JO X M Qf (pc + 1) lv (.int (cA σ c (ix i)) :: st) (wsC ad (xZ X) σ) o) : JO X M Qf pc lv (.int i :: .ref (ad c) :: st) (wsC ad (xZ X) σ) (if inB i n = true then o else none) :=
  JO.iald (q0 := c) (by rw [wsC_at h.1, h.2]; rfl) d k
theorem JO.uC {i x : Int32} (h : isIA c n) (d : decode M.1 pc = .ok (.iastore, 1)) (k : JO X M Qf (pc + 1) lv st (wsC ad (xZ X) (tA σ c (ix i) x)) o) : JO X M Qf pc lv (.int x :: .int i :: .ref (ad c) :: st) (wsC ad (xZ X) σ) (if inB i n = true then o else none) :=
  JO.iast (q0 := c) (f := cA σ c) (by rw [wsC_at h.1, h.2]; rfl) (wsC_set h.1 (by rw [h.2, tA_r, tAr_s]; rfl) (by rw [tA_r]; exact tAr_o)) d k
theorem JO.lC {i : Int32} (h : isLA c n) (d : decode M.1 pc = .ok (.laload, 1)) (k : JO X M Qf (pc + 1) lv (.long (cB σ c (ix i)) :: st) (wsC ad (xZ X) σ) o) : JO X M Qf pc lv (.int i :: .ref (ad c) :: st) (wsC ad (xZ X) σ) (if inB i n = true then o else none) :=
  JO.lald (q0 := c) (by rw [wsC_at h.1, h.2]; rfl) d k
theorem JO.vC {i : Int32} {x : Int64} (h : isLA c n) (d : decode M.1 pc = .ok (.lastore, 1)) (k : JO X M Qf (pc + 1) lv st (wsC ad (xZ X) (tB σ c (ix i) x)) o) : JO X M Qf pc lv (.long x :: .int i :: .ref (ad c) :: st) (wsC ad (xZ X) σ) (if inB i n = true then o else none) :=
  JO.last (q0 := c) (f := cB σ c) (by rw [wsC_at h.1, h.2]; rfl) (wsC_set h.1 (by rw [h.2, tB_r, tBr_s]; rfl) (by rw [tB_r]; exact tBr_o)) d k
theorem JO.nC (v : Int32) (h : isIA c n) (hv : Int32.ofNat n = v) (d : decode M.1 pc = .ok (.arraylength, 1)) (k : JO X M Qf (pc + 1) lv (.int v :: st) (wsC ad (xZ X) σ) o) : JO X M Qf pc lv (.ref (ad c) :: st) (wsC ad (xZ X) σ) o :=
  JO.alen (q0 := c) 0 (cA := (xZ X).1) (x := (n, .inl (cA σ c))) (ty := .int) (by rw [wsC_at h.1, h.2]; rfl) rfl v hv d k
theorem JO.nL (v : Int32) (h : isLA c n) (hv : Int32.ofNat n = v) (d : decode M.1 pc = .ok (.arraylength, 1)) (k : JO X M Qf (pc + 1) lv (.int v :: st) (wsC ad (xZ X) σ) o) : JO X M Qf pc lv (.ref (ad c) :: st) (wsC ad (xZ X) σ) o :=
  JO.alen (q0 := c) 1 (cA := (xZ X).2.1) (x := (n, .inr (.inl (cB σ c)))) (ty := .long) (by rw [wsC_at h.1, h.2]; rfl) rfl v hv d k
theorem inB_lt {i : Int32} {n : Nat} (h : inB i n = true) : ix i < n := by
  simp only [inB, Bool.and_eq_true, decide_eq_true_eq] at h
  exact h.2
theorem JO.aT {b : Nat} {i : Int32} (h : isR b) (d : decode M.1 pc = .ok (.aaload, 1)) (k : ix i < 6 → JO X M Qf (pc + 1) lv (.ref (ad (b + 2 + ix i)) :: st) (wsC ad (xZ X) σ) o) : JO X M Qf pc lv (.int i :: .ref (ad (b + 1)) :: st) (wsC ad (xZ X) σ) (if inB i 6 = true then o else none) := by
  intro a hh ok ls H locs hl hP hD hS
  by_cases hi : inB i 6 = true
  · rw [if_pos hi] at hh
    have hlt := inB_lt hi
    have he : (wsC ad (xZ X) σ)[b + 1]? = some (ad (b + 1), .inl ((xZ X).2.2.2.1, 6, .inr (.inr (.inr (.inr (rowT ad b)))))) := by
      rcases h with rfl | rfl <;> exact wsC_at (by decide)
    refine va_aldq ok.1 ok.2.1 ok.hK hP (b + 1) 3 he rfl (inB_in hi) d ?_
    rw [show rowT ad b i.toNatClampNeg = some (ad (b + 2 + ix i)) from if_pos hlt]
    exact k hlt a hh ok ls H locs hl hP hD hS
  · rw [if_neg hi] at hh; cases hh
theorem JO.aH {i : Int32} (d : decode M.1 pc = .ok (.aaload, 1)) (k : ix i < 8 → JO X M Qf (pc + 1) lv (.ref (ad (58 + ix i)) :: st) (wsC ad (xZ X) σ) o) : JO X M Qf pc lv (.int i :: .ref (ad 1) :: st) (wsC ad (xZ X) σ) (if inB i 8 = true then o else none) := by
  intro a hh ok ls H locs hl hP hD hS
  by_cases hi : inB i 8 = true
  · rw [if_pos hi] at hh
    have hlt := inB_lt hi
    have he : (wsC ad (xZ X) σ)[1]? = some (ad 1, .inl ((xZ X).2.2.1, 8, .inr (.inr (.inr (.inr (rowH ad)))))) := wsC_at (by decide)
    refine va_aldq ok.1 ok.2.1 ok.hK hP 1 2 he rfl (inB_in hi) d ?_
    rw [show rowH ad i.toNatClampNeg = some (ad (58 + ix i)) from if_pos hlt]
    exact k hlt a hh ok ls H locs hl hP hD hS
  · rw [if_neg hi] at hh; cases hh
theorem gP0 (w : Cond.fieldLink M.2.2.1 index "CommitPrefixes" "shelves" "[LCommitPrefixes$Shelf;" ∈ TT) (d : decode M.1 pc = .ok (.getfield index, 3)) (k : JO X M Qf (pc + 3) lv (.ref (ad (1)) :: st) (wsC ad (xZ X) σ) o) : JO X M Qf pc lv (.ref (ad (0)) :: st) (wsC ad (xZ X) σ) o :=
  JO.get (q0 := 0) (ci := 6) rfl inT9 (cC_he o_P) 0 rfl w (Or.inl rfl) rfl d k
theorem gP1 (w : Cond.fieldLink M.2.2.1 index "CommitPrefixes" "refusals" "[I" ∈ TT) (d : decode M.1 pc = .ok (.getfield index, 3)) (k : JO X M Qf (pc + 3) lv (.ref (ad (2)) :: st) (wsC ad (xZ X) σ) o) : JO X M Qf pc lv (.ref (ad (0)) :: st) (wsC ad (xZ X) σ) o :=
  JO.get (q0 := 0) (ci := 6) rfl inT9 (cC_he o_P) 1 rfl w (Or.inl rfl) rfl d k
theorem gP2 (w : Cond.fieldLink M.2.2.1 index "CommitPrefixes" "setup" "LCommitPrefixes$Setup;" ∈ TT) (d : decode M.1 pc = .ok (.getfield index, 3)) (k : JO X M Qf (pc + 3) lv (.ref (ad (3)) :: st) (wsC ad (xZ X) σ) o) : JO X M Qf pc lv (.ref (ad (0)) :: st) (wsC ad (xZ X) σ) o :=
  JO.get (q0 := 0) (ci := 6) rfl inT9 (cC_he o_P) 2 rfl w (Or.inl rfl) rfl d k
theorem gP3 (w : Cond.fieldLink M.2.2.1 index "CommitPrefixes" "kept" "LCommitPrefixes$Setup;" ∈ TT) (d : decode M.1 pc = .ok (.getfield index, 3)) (k : JO X M Qf (pc + 3) lv (.ref (ad (6)) :: st) (wsC ad (xZ X) σ) o) : JO X M Qf pc lv (.ref (ad (0)) :: st) (wsC ad (xZ X) σ) o :=
  JO.get (q0 := 0) (ci := 6) rfl inT9 (cC_he o_P) 3 rfl w (Or.inl rfl) rfl d k
theorem gP4 (w : Cond.fieldLink M.2.2.1 index "CommitPrefixes" "imageTaken" "Z" ∈ TT) (d : decode M.1 pc = .ok (.getfield index, 3)) (k : JO X M Qf (pc + 3) lv (.int (bI (cZ σ (0) 4)) :: st) (wsC ad (xZ X) σ) o) : JO X M Qf pc lv (.ref (ad (0)) :: st) (wsC ad (xZ X) σ) o :=
  JO.get (q0 := 0) (ci := 6) rfl inT9 (cC_he o_P) 4 rfl w (Or.inl rfl) rfl d k
theorem pP4 {v : Bool} (w : Cond.fieldLink M.2.2.1 index "CommitPrefixes" "imageTaken" "Z" ∈ TT) (d : decode M.1 pc = .ok (.putfield index, 3)) (k : JO X M Qf (pc + 3) lv st (wsC ad (xZ X) (tZ σ (0) 4 v)) o) : JO X M Qf pc lv (.int (bI v) :: .ref (ad (0)) :: st) (wsC ad (xZ X) σ) o :=
  JO.put (q0 := 0) (ci := 6) (ty := .boolean) tyX9 tyX9_ok nmX9 rfl inT9 (cC_he o_P) 4 rfl w (Or.inl rfl) rfl rfl (by cases v <;> rfl) (by cases v <;> rfl) (Nat.le_of_ble_eq_true rfl) (wsC_set (o_P).1 (by rw [(o_P).2, tZ_s]; rfl) tZ_o) d k
theorem gP5 (w : Cond.fieldLink M.2.2.1 index "CommitPrefixes" "reader" "LCommitPrefixes$TextReader;" ∈ TT) (d : decode M.1 pc = .ok (.getfield index, 3)) (k : JO X M Qf (pc + 3) lv (.ref (ad (9)) :: st) (wsC ad (xZ X) σ) o) : JO X M Qf pc lv (.ref (ad (0)) :: st) (wsC ad (xZ X) σ) o :=
  JO.get (q0 := 0) (ci := 6) rfl inT9 (cC_he o_P) 5 rfl w (Or.inl rfl) rfl d k
theorem gP6 (w : Cond.fieldLink M.2.2.1 index "CommitPrefixes" "latestFault" "I" ∈ TT) (d : decode M.1 pc = .ok (.getfield index, 3)) (k : JO X M Qf (pc + 3) lv (.int (cI σ (0) 6) :: st) (wsC ad (xZ X) σ) o) : JO X M Qf pc lv (.ref (ad (0)) :: st) (wsC ad (xZ X) σ) o :=
  JO.get (q0 := 0) (ci := 6) rfl inT9 (cC_he o_P) 6 rfl w (Or.inl rfl) rfl d k
theorem pP6 {v : Int32} (w : Cond.fieldLink M.2.2.1 index "CommitPrefixes" "latestFault" "I" ∈ TT) (d : decode M.1 pc = .ok (.putfield index, 3)) (k : JO X M Qf (pc + 3) lv st (wsC ad (xZ X) (tI σ (0) 6 v)) o) : JO X M Qf pc lv (.int v :: .ref (ad (0)) :: st) (wsC ad (xZ X) σ) o :=
  JO.put (q0 := 0) (ci := 6) (ty := .int) tyX9 tyX9_ok nmX9 rfl inT9 (cC_he o_P) 6 rfl w (Or.inl rfl) rfl rfl rfl rfl (Nat.le_of_ble_eq_true rfl) (wsC_set (o_P).1 (by rw [(o_P).2, tI_s]; rfl) tI_o) d k
theorem gP7 (w : Cond.fieldLink M.2.2.1 index "CommitPrefixes" "run" "LCommitPrefixes$Run;" ∈ TT) (d : decode M.1 pc = .ok (.getfield index, 3)) (k : JO X M Qf (pc + 3) lv (.ref (ad (14)) :: st) (wsC ad (xZ X) σ) o) : JO X M Qf pc lv (.ref (ad (0)) :: st) (wsC ad (xZ X) σ) o :=
  JO.get (q0 := 0) (ci := 6) rfl inT9 (cC_he o_P) 7 rfl w (Or.inl rfl) rfl d k
theorem gP8 (w : Cond.fieldLink M.2.2.1 index "CommitPrefixes" "runStands" "Z" ∈ TT) (d : decode M.1 pc = .ok (.getfield index, 3)) (k : JO X M Qf (pc + 3) lv (.int (bI (cZ σ (0) 8)) :: st) (wsC ad (xZ X) σ) o) : JO X M Qf pc lv (.ref (ad (0)) :: st) (wsC ad (xZ X) σ) o :=
  JO.get (q0 := 0) (ci := 6) rfl inT9 (cC_he o_P) 8 rfl w (Or.inl rfl) rfl d k
theorem pP8 {v : Bool} (w : Cond.fieldLink M.2.2.1 index "CommitPrefixes" "runStands" "Z" ∈ TT) (d : decode M.1 pc = .ok (.putfield index, 3)) (k : JO X M Qf (pc + 3) lv st (wsC ad (xZ X) (tZ σ (0) 8 v)) o) : JO X M Qf pc lv (.int (bI v) :: .ref (ad (0)) :: st) (wsC ad (xZ X) σ) o :=
  JO.put (q0 := 0) (ci := 6) (ty := .boolean) tyX9 tyX9_ok nmX9 rfl inT9 (cC_he o_P) 8 rfl w (Or.inl rfl) rfl rfl (by cases v <;> rfl) (by cases v <;> rfl) (Nat.le_of_ble_eq_true rfl) (wsC_set (o_P).1 (by rw [(o_P).2, tZ_s]; rfl) tZ_o) d k
theorem gP9 (w : Cond.fieldLink M.2.2.1 index "CommitPrefixes" "trial" "LCommitPrefixes$Run;" ∈ TT) (d : decode M.1 pc = .ok (.getfield index, 3)) (k : JO X M Qf (pc + 3) lv (.ref (ad (36)) :: st) (wsC ad (xZ X) σ) o) : JO X M Qf pc lv (.ref (ad (0)) :: st) (wsC ad (xZ X) σ) o :=
  JO.get (q0 := 0) (ci := 6) rfl inT9 (cC_he o_P) 9 rfl w (Or.inl rfl) rfl d k
theorem gP10 (w : Cond.fieldLink M.2.2.1 index "CommitPrefixes" "trialsStand" "Z" ∈ TT) (d : decode M.1 pc = .ok (.getfield index, 3)) (k : JO X M Qf (pc + 3) lv (.int (bI (cZ σ (0) 10)) :: st) (wsC ad (xZ X) σ) o) : JO X M Qf pc lv (.ref (ad (0)) :: st) (wsC ad (xZ X) σ) o :=
  JO.get (q0 := 0) (ci := 6) rfl inT9 (cC_he o_P) 10 rfl w (Or.inl rfl) rfl d k
theorem pP10 {v : Bool} (w : Cond.fieldLink M.2.2.1 index "CommitPrefixes" "trialsStand" "Z" ∈ TT) (d : decode M.1 pc = .ok (.putfield index, 3)) (k : JO X M Qf (pc + 3) lv st (wsC ad (xZ X) (tZ σ (0) 10 v)) o) : JO X M Qf pc lv (.int (bI v) :: .ref (ad (0)) :: st) (wsC ad (xZ X) σ) o :=
  JO.put (q0 := 0) (ci := 6) (ty := .boolean) tyX9 tyX9_ok nmX9 rfl inT9 (cC_he o_P) 10 rfl w (Or.inl rfl) rfl rfl (by cases v <;> rfl) (by cases v <;> rfl) (Nat.le_of_ble_eq_true rfl) (wsC_set (o_P).1 (by rw [(o_P).2, tZ_s]; rfl) tZ_o) d k
theorem gP11 (w : Cond.fieldLink M.2.2.1 index "CommitPrefixes" "harmful" "J" ∈ TT) (d : decode M.1 pc = .ok (.getfield index, 3)) (k : JO X M Qf (pc + 3) lv (.long (cG σ (0) 11) :: st) (wsC ad (xZ X) σ) o) : JO X M Qf pc lv (.ref (ad (0)) :: st) (wsC ad (xZ X) σ) o :=
  JO.get (q0 := 0) (ci := 6) rfl inT9 (cC_he o_P) 11 rfl w (Or.inl rfl) rfl d k
theorem pP11 {v : Int64} (w : Cond.fieldLink M.2.2.1 index "CommitPrefixes" "harmful" "J" ∈ TT) (d : decode M.1 pc = .ok (.putfield index, 3)) (k : JO X M Qf (pc + 3) lv st (wsC ad (xZ X) (tG σ (0) 11 v)) o) : JO X M Qf pc lv (.long v :: .ref (ad (0)) :: st) (wsC ad (xZ X) σ) o :=
  JO.put (q0 := 0) (ci := 6) (ty := .long) tyX9 tyX9_ok nmX9 rfl inT9 (cC_he o_P) 11 rfl w (Or.inl rfl) rfl rfl rfl rfl (Nat.le_of_ble_eq_true rfl) (wsC_set (o_P).1 (by rw [(o_P).2, tG_s]; rfl) tG_o) d k
theorem gP12 (w : Cond.fieldLink M.2.2.1 index "CommitPrefixes" "blocking" "J" ∈ TT) (d : decode M.1 pc = .ok (.getfield index, 3)) (k : JO X M Qf (pc + 3) lv (.long (cG σ (0) 12) :: st) (wsC ad (xZ X) σ) o) : JO X M Qf pc lv (.ref (ad (0)) :: st) (wsC ad (xZ X) σ) o :=
  JO.get (q0 := 0) (ci := 6) rfl inT9 (cC_he o_P) 12 rfl w (Or.inl rfl) rfl d k
theorem pP12 {v : Int64} (w : Cond.fieldLink M.2.2.1 index "CommitPrefixes" "blocking" "J" ∈ TT) (d : decode M.1 pc = .ok (.putfield index, 3)) (k : JO X M Qf (pc + 3) lv st (wsC ad (xZ X) (tG σ (0) 12 v)) o) : JO X M Qf pc lv (.long v :: .ref (ad (0)) :: st) (wsC ad (xZ X) σ) o :=
  JO.put (q0 := 0) (ci := 6) (ty := .long) tyX9 tyX9_ok nmX9 rfl inT9 (cC_he o_P) 12 rfl w (Or.inl rfl) rfl rfl rfl rfl (Nat.le_of_ble_eq_true rfl) (wsC_set (o_P).1 (by rw [(o_P).2, tG_s]; rfl) tG_o) d k
theorem gS0 {q : Nat} (hq : isS q) (w : Cond.fieldLink M.2.2.1 index "CommitPrefixes$Setup" "participants" "I" ∈ TT) (d : decode M.1 pc = .ok (.getfield index, 3)) (k : JO X M Qf (pc + 3) lv (.int (cI σ (q) 0) :: st) (wsC ad (xZ X) σ) o) : JO X M Qf pc lv (.ref (ad (q)) :: st) (wsC ad (xZ X) σ) o :=
  JO.get (q0 := q) (ci := 3) rfl inT5 (cC_he (o_S hq)) 0 rfl w (Or.inl rfl) rfl d k
theorem pS0 {q : Nat} (hq : isS q) {v : Int32} (w : Cond.fieldLink M.2.2.1 index "CommitPrefixes$Setup" "participants" "I" ∈ TT) (d : decode M.1 pc = .ok (.putfield index, 3)) (k : JO X M Qf (pc + 3) lv st (wsC ad (xZ X) (tI σ (q) 0 v)) o) : JO X M Qf pc lv (.int v :: .ref (ad (q)) :: st) (wsC ad (xZ X) σ) o :=
  JO.put (q0 := q) (ci := 3) (ty := .int) tyX5 tyX5_ok nmX5 rfl inT5 (cC_he (o_S hq)) 0 rfl w (Or.inl rfl) rfl rfl rfl rfl (Nat.le_of_ble_eq_true rfl) (wsC_set ((o_S hq)).1 (by rw [((o_S hq)).2, tI_s]; rfl) tI_o) d k
theorem gS1 {q : Nat} (hq : isS q) (w : Cond.fieldLink M.2.2.1 index "CommitPrefixes$Setup" "phases" "I" ∈ TT) (d : decode M.1 pc = .ok (.getfield index, 3)) (k : JO X M Qf (pc + 3) lv (.int (cI σ (q) 1) :: st) (wsC ad (xZ X) σ) o) : JO X M Qf pc lv (.ref (ad (q)) :: st) (wsC ad (xZ X) σ) o :=
  JO.get (q0 := q) (ci := 3) rfl inT5 (cC_he (o_S hq)) 1 rfl w (Or.inl rfl) rfl d k
theorem pS1 {q : Nat} (hq : isS q) {v : Int32} (w : Cond.fieldLink M.2.2.1 index "CommitPrefixes$Setup" "phases" "I" ∈ TT) (d : decode M.1 pc = .ok (.putfield index, 3)) (k : JO X M Qf (pc + 3) lv st (wsC ad (xZ X) (tI σ (q) 1 v)) o) : JO X M Qf pc lv (.int v :: .ref (ad (q)) :: st) (wsC ad (xZ X) σ) o :=
  JO.put (q0 := q) (ci := 3) (ty := .int) tyX5 tyX5_ok nmX5 rfl inT5 (cC_he (o_S hq)) 1 rfl w (Or.inl rfl) rfl rfl rfl rfl (Nat.le_of_ble_eq_true rfl) (wsC_set ((o_S hq)).1 (by rw [((o_S hq)).2, tI_s]; rfl) tI_o) d k
theorem gS2 {q : Nat} (hq : isS q) (w : Cond.fieldLink M.2.2.1 index "CommitPrefixes$Setup" "wait" "I" ∈ TT) (d : decode M.1 pc = .ok (.getfield index, 3)) (k : JO X M Qf (pc + 3) lv (.int (cI σ (q) 2) :: st) (wsC ad (xZ X) σ) o) : JO X M Qf pc lv (.ref (ad (q)) :: st) (wsC ad (xZ X) σ) o :=
  JO.get (q0 := q) (ci := 3) rfl inT5 (cC_he (o_S hq)) 2 rfl w (Or.inl rfl) rfl d k
theorem pS2 {q : Nat} (hq : isS q) {v : Int32} (w : Cond.fieldLink M.2.2.1 index "CommitPrefixes$Setup" "wait" "I" ∈ TT) (d : decode M.1 pc = .ok (.putfield index, 3)) (k : JO X M Qf (pc + 3) lv st (wsC ad (xZ X) (tI σ (q) 2 v)) o) : JO X M Qf pc lv (.int v :: .ref (ad (q)) :: st) (wsC ad (xZ X) σ) o :=
  JO.put (q0 := q) (ci := 3) (ty := .int) tyX5 tyX5_ok nmX5 rfl inT5 (cC_he (o_S hq)) 2 rfl w (Or.inl rfl) rfl rfl rfl rfl (Nat.le_of_ble_eq_true rfl) (wsC_set ((o_S hq)).1 (by rw [((o_S hq)).2, tI_s]; rfl) tI_o) d k
theorem gS3 {q : Nat} (hq : isS q) (w : Cond.fieldLink M.2.2.1 index "CommitPrefixes$Setup" "presumed" "Z" ∈ TT) (d : decode M.1 pc = .ok (.getfield index, 3)) (k : JO X M Qf (pc + 3) lv (.int (bI (cZ σ (q) 3)) :: st) (wsC ad (xZ X) σ) o) : JO X M Qf pc lv (.ref (ad (q)) :: st) (wsC ad (xZ X) σ) o :=
  JO.get (q0 := q) (ci := 3) rfl inT5 (cC_he (o_S hq)) 3 rfl w (Or.inl rfl) rfl d k
theorem pS3 {q : Nat} (hq : isS q) {v : Bool} (w : Cond.fieldLink M.2.2.1 index "CommitPrefixes$Setup" "presumed" "Z" ∈ TT) (d : decode M.1 pc = .ok (.putfield index, 3)) (k : JO X M Qf (pc + 3) lv st (wsC ad (xZ X) (tZ σ (q) 3 v)) o) : JO X M Qf pc lv (.int (bI v) :: .ref (ad (q)) :: st) (wsC ad (xZ X) σ) o :=
  JO.put (q0 := q) (ci := 3) (ty := .boolean) tyX5 tyX5_ok nmX5 rfl inT5 (cC_he (o_S hq)) 3 rfl w (Or.inl rfl) rfl rfl (by cases v <;> rfl) (by cases v <;> rfl) (Nat.le_of_ble_eq_true rfl) (wsC_set ((o_S hq)).1 (by rw [((o_S hq)).2, tZ_s]; rfl) tZ_o) d k
theorem gS4 {q : Nat} (hq : isS q) (w : Cond.fieldLink M.2.2.1 index "CommitPrefixes$Setup" "votes" "I" ∈ TT) (d : decode M.1 pc = .ok (.getfield index, 3)) (k : JO X M Qf (pc + 3) lv (.int (cI σ (q) 4) :: st) (wsC ad (xZ X) σ) o) : JO X M Qf pc lv (.ref (ad (q)) :: st) (wsC ad (xZ X) σ) o :=
  JO.get (q0 := q) (ci := 3) rfl inT5 (cC_he (o_S hq)) 4 rfl w (Or.inl rfl) rfl d k
theorem pS4 {q : Nat} (hq : isS q) {v : Int32} (w : Cond.fieldLink M.2.2.1 index "CommitPrefixes$Setup" "votes" "I" ∈ TT) (d : decode M.1 pc = .ok (.putfield index, 3)) (k : JO X M Qf (pc + 3) lv st (wsC ad (xZ X) (tI σ (q) 4 v)) o) : JO X M Qf pc lv (.int v :: .ref (ad (q)) :: st) (wsC ad (xZ X) σ) o :=
  JO.put (q0 := q) (ci := 3) (ty := .int) tyX5 tyX5_ok nmX5 rfl inT5 (cC_he (o_S hq)) 4 rfl w (Or.inl rfl) rfl rfl rfl rfl (Nat.le_of_ble_eq_true rfl) (wsC_set ((o_S hq)).1 (by rw [((o_S hq)).2, tI_s]; rfl) tI_o) d k
theorem gS5 {q : Nat} (hq : isS q) (w : Cond.fieldLink M.2.2.1 index "CommitPrefixes$Setup" "losses" "J" ∈ TT) (d : decode M.1 pc = .ok (.getfield index, 3)) (k : JO X M Qf (pc + 3) lv (.long (cG σ (q) 5) :: st) (wsC ad (xZ X) σ) o) : JO X M Qf pc lv (.ref (ad (q)) :: st) (wsC ad (xZ X) σ) o :=
  JO.get (q0 := q) (ci := 3) rfl inT5 (cC_he (o_S hq)) 5 rfl w (Or.inl rfl) rfl d k
theorem pS5 {q : Nat} (hq : isS q) {v : Int64} (w : Cond.fieldLink M.2.2.1 index "CommitPrefixes$Setup" "losses" "J" ∈ TT) (d : decode M.1 pc = .ok (.putfield index, 3)) (k : JO X M Qf (pc + 3) lv st (wsC ad (xZ X) (tG σ (q) 5 v)) o) : JO X M Qf pc lv (.long v :: .ref (ad (q)) :: st) (wsC ad (xZ X) σ) o :=
  JO.put (q0 := q) (ci := 3) (ty := .long) tyX5 tyX5_ok nmX5 rfl inT5 (cC_he (o_S hq)) 5 rfl w (Or.inl rfl) rfl rfl rfl rfl (Nat.le_of_ble_eq_true rfl) (wsC_set ((o_S hq)).1 (by rw [((o_S hq)).2, tG_s]; rfl) tG_o) d k
theorem gS6 {q : Nat} (hq : isS q) (w : Cond.fieldLink M.2.2.1 index "CommitPrefixes$Setup" "goesDown" "[I" ∈ TT) (d : decode M.1 pc = .ok (.getfield index, 3)) (k : JO X M Qf (pc + 3) lv (.ref (ad (q + 1)) :: st) (wsC ad (xZ X) σ) o) : JO X M Qf pc lv (.ref (ad (q)) :: st) (wsC ad (xZ X) σ) o :=
  JO.get (q0 := q) (ci := 3) rfl inT5 (cC_he (o_S hq)) 6 rfl w (Or.inl rfl) rfl d k
theorem gS7 {q : Nat} (hq : isS q) (w : Cond.fieldLink M.2.2.1 index "CommitPrefixes$Setup" "comesUp" "[I" ∈ TT) (d : decode M.1 pc = .ok (.getfield index, 3)) (k : JO X M Qf (pc + 3) lv (.ref (ad (q + 2)) :: st) (wsC ad (xZ X) σ) o) : JO X M Qf pc lv (.ref (ad (q)) :: st) (wsC ad (xZ X) σ) o :=
  JO.get (q0 := q) (ci := 3) rfl inT5 (cC_he (o_S hq)) 7 rfl w (Or.inl rfl) rfl d k
theorem gS8 {q : Nat} (hq : isS q) (w : Cond.fieldLink M.2.2.1 index "CommitPrefixes$Setup" "seed" "I" ∈ TT) (d : decode M.1 pc = .ok (.getfield index, 3)) (k : JO X M Qf (pc + 3) lv (.int (cI σ (q) 8) :: st) (wsC ad (xZ X) σ) o) : JO X M Qf pc lv (.ref (ad (q)) :: st) (wsC ad (xZ X) σ) o :=
  JO.get (q0 := q) (ci := 3) rfl inT5 (cC_he (o_S hq)) 8 rfl w (Or.inl rfl) rfl d k
theorem pS8 {q : Nat} (hq : isS q) {v : Int32} (w : Cond.fieldLink M.2.2.1 index "CommitPrefixes$Setup" "seed" "I" ∈ TT) (d : decode M.1 pc = .ok (.putfield index, 3)) (k : JO X M Qf (pc + 3) lv st (wsC ad (xZ X) (tI σ (q) 8 v)) o) : JO X M Qf pc lv (.int v :: .ref (ad (q)) :: st) (wsC ad (xZ X) σ) o :=
  JO.put (q0 := q) (ci := 3) (ty := .int) tyX5 tyX5_ok nmX5 rfl inT5 (cC_he (o_S hq)) 8 rfl w (Or.inl rfl) rfl rfl rfl rfl (Nat.le_of_ble_eq_true rfl) (wsC_set ((o_S hq)).1 (by rw [((o_S hq)).2, tI_s]; rfl) tI_o) d k
theorem gQ0 (w : Cond.fieldLink M.2.2.1 index "CommitPrefixes$TextReader" "draft" "LCommitPrefixes$Setup;" ∈ TT) (d : decode M.1 pc = .ok (.getfield index, 3)) (k : JO X M Qf (pc + 3) lv (.ref (ad (10)) :: st) (wsC ad (xZ X) σ) o) : JO X M Qf pc lv (.ref (ad (9)) :: st) (wsC ad (xZ X) σ) o :=
  JO.get (q0 := 9) (ci := 5) rfl inT8 (cC_he o_Q) 0 rfl w (Or.inl rfl) rfl d k
theorem gQ1 (w : Cond.fieldLink M.2.2.1 index "CommitPrefixes$TextReader" "fault" "I" ∈ TT) (d : decode M.1 pc = .ok (.getfield index, 3)) (k : JO X M Qf (pc + 3) lv (.int (cI σ (9) 1) :: st) (wsC ad (xZ X) σ) o) : JO X M Qf pc lv (.ref (ad (9)) :: st) (wsC ad (xZ X) σ) o :=
  JO.get (q0 := 9) (ci := 5) rfl inT8 (cC_he o_Q) 1 rfl w (Or.inl rfl) rfl d k
theorem pQ1 {v : Int32} (w : Cond.fieldLink M.2.2.1 index "CommitPrefixes$TextReader" "fault" "I" ∈ TT) (d : decode M.1 pc = .ok (.putfield index, 3)) (k : JO X M Qf (pc + 3) lv st (wsC ad (xZ X) (tI σ (9) 1 v)) o) : JO X M Qf pc lv (.int v :: .ref (ad (9)) :: st) (wsC ad (xZ X) σ) o :=
  JO.put (q0 := 9) (ci := 5) (ty := .int) tyX8 tyX8_ok nmX8 rfl inT8 (cC_he o_Q) 1 rfl w (Or.inl rfl) rfl rfl rfl rfl (Nat.le_of_ble_eq_true rfl) (wsC_set (o_Q).1 (by rw [(o_Q).2, tI_s]; rfl) tI_o) d k
theorem gQ2 (w : Cond.fieldLink M.2.2.1 index "CommitPrefixes$TextReader" "place" "I" ∈ TT) (d : decode M.1 pc = .ok (.getfield index, 3)) (k : JO X M Qf (pc + 3) lv (.int (cI σ (9) 2) :: st) (wsC ad (xZ X) σ) o) : JO X M Qf pc lv (.ref (ad (9)) :: st) (wsC ad (xZ X) σ) o :=
  JO.get (q0 := 9) (ci := 5) rfl inT8 (cC_he o_Q) 2 rfl w (Or.inl rfl) rfl d k
theorem pQ2 {v : Int32} (w : Cond.fieldLink M.2.2.1 index "CommitPrefixes$TextReader" "place" "I" ∈ TT) (d : decode M.1 pc = .ok (.putfield index, 3)) (k : JO X M Qf (pc + 3) lv st (wsC ad (xZ X) (tI σ (9) 2 v)) o) : JO X M Qf pc lv (.int v :: .ref (ad (9)) :: st) (wsC ad (xZ X) σ) o :=
  JO.put (q0 := 9) (ci := 5) (ty := .int) tyX8 tyX8_ok nmX8 rfl inT8 (cC_he o_Q) 2 rfl w (Or.inl rfl) rfl rfl rfl rfl (Nat.le_of_ble_eq_true rfl) (wsC_set (o_Q).1 (by rw [(o_Q).2, tI_s]; rfl) tI_o) d k
theorem gQ3 (w : Cond.fieldLink M.2.2.1 index "CommitPrefixes$TextReader" "numbers" "[I" ∈ TT) (d : decode M.1 pc = .ok (.getfield index, 3)) (k : JO X M Qf (pc + 3) lv (.ref (ad (13)) :: st) (wsC ad (xZ X) σ) o) : JO X M Qf pc lv (.ref (ad (9)) :: st) (wsC ad (xZ X) σ) o :=
  JO.get (q0 := 9) (ci := 5) rfl inT8 (cC_he o_Q) 3 rfl w (Or.inl rfl) rfl d k
theorem gR0 {b : Nat} (hb : isR b) (w : Cond.fieldLink M.2.2.1 index "CommitPrefixes$Run" "setup" "LCommitPrefixes$Setup;" ∈ TT) (d : decode M.1 pc = .ok (.getfield index, 3)) (k : JO X M Qf (pc + 3) lv (.ref (ad (3)) :: st) (wsC ad (xZ X) σ) o) : JO X M Qf pc lv (.ref (ad (b)) :: st) (wsC ad (xZ X) σ) o :=
  JO.get (q0 := b) (ci := 2) rfl inT4 (cC_he (o_R hb)) 0 rfl w (Or.inl rfl) rfl d k
theorem gR1 {b : Nat} (hb : isR b) (w : Cond.fieldLink M.2.2.1 index "CommitPrefixes$Run" "coordinator" "LCommitPrefixes$Coordinator;" ∈ TT) (d : decode M.1 pc = .ok (.getfield index, 3)) (k : JO X M Qf (pc + 3) lv (.ref (ad (b + 2)) :: st) (wsC ad (xZ X) σ) o) : JO X M Qf pc lv (.ref (ad (b)) :: st) (wsC ad (xZ X) σ) o :=
  JO.get (q0 := b) (ci := 2) rfl inT4 (cC_he (o_R hb)) 1 rfl w (Or.inl rfl) rfl d k
theorem gR2 {b : Nat} (hb : isR b) (w : Cond.fieldLink M.2.2.1 index "CommitPrefixes$Run" "sites" "[LCommitPrefixes$Site;" ∈ TT) (d : decode M.1 pc = .ok (.getfield index, 3)) (k : JO X M Qf (pc + 3) lv (.ref (ad (b + 1)) :: st) (wsC ad (xZ X) σ) o) : JO X M Qf pc lv (.ref (ad (b)) :: st) (wsC ad (xZ X) σ) o :=
  JO.get (q0 := b) (ci := 2) rfl inT4 (cC_he (o_R hb)) 2 rfl w (Or.inl rfl) rfl d k
theorem gR3 {b : Nat} (hb : isR b) (w : Cond.fieldLink M.2.2.1 index "CommitPrefixes$Run" "presumed" "Z" ∈ TT) (d : decode M.1 pc = .ok (.getfield index, 3)) (k : JO X M Qf (pc + 3) lv (.int (bI (cZ σ (b) 3)) :: st) (wsC ad (xZ X) σ) o) : JO X M Qf pc lv (.ref (ad (b)) :: st) (wsC ad (xZ X) σ) o :=
  JO.get (q0 := b) (ci := 2) rfl inT4 (cC_he (o_R hb)) 3 rfl w (Or.inl rfl) rfl d k
theorem pR3 {b : Nat} (hb : isR b) {v : Bool} (w : Cond.fieldLink M.2.2.1 index "CommitPrefixes$Run" "presumed" "Z" ∈ TT) (d : decode M.1 pc = .ok (.putfield index, 3)) (k : JO X M Qf (pc + 3) lv st (wsC ad (xZ X) (tZ σ (b) 3 v)) o) : JO X M Qf pc lv (.int (bI v) :: .ref (ad (b)) :: st) (wsC ad (xZ X) σ) o :=
  JO.put (q0 := b) (ci := 2) (ty := .boolean) tyX4 tyX4_ok nmX4 rfl inT4 (cC_he (o_R hb)) 3 rfl w (Or.inl rfl) rfl rfl (by cases v <;> rfl) (by cases v <;> rfl) (Nat.le_of_ble_eq_true rfl) (wsC_set ((o_R hb)).1 (by rw [((o_R hb)).2, tZ_s]; rfl) tZ_o) d k
theorem gR4 {b : Nat} (hb : isR b) (w : Cond.fieldLink M.2.2.1 index "CommitPrefixes$Run" "losses" "J" ∈ TT) (d : decode M.1 pc = .ok (.getfield index, 3)) (k : JO X M Qf (pc + 3) lv (.long (cG σ (b) 4) :: st) (wsC ad (xZ X) σ) o) : JO X M Qf pc lv (.ref (ad (b)) :: st) (wsC ad (xZ X) σ) o :=
  JO.get (q0 := b) (ci := 2) rfl inT4 (cC_he (o_R hb)) 4 rfl w (Or.inl rfl) rfl d k
theorem pR4 {b : Nat} (hb : isR b) {v : Int64} (w : Cond.fieldLink M.2.2.1 index "CommitPrefixes$Run" "losses" "J" ∈ TT) (d : decode M.1 pc = .ok (.putfield index, 3)) (k : JO X M Qf (pc + 3) lv st (wsC ad (xZ X) (tG σ (b) 4 v)) o) : JO X M Qf pc lv (.long v :: .ref (ad (b)) :: st) (wsC ad (xZ X) σ) o :=
  JO.put (q0 := b) (ci := 2) (ty := .long) tyX4 tyX4_ok nmX4 rfl inT4 (cC_he (o_R hb)) 4 rfl w (Or.inl rfl) rfl rfl rfl rfl (Nat.le_of_ble_eq_true rfl) (wsC_set ((o_R hb)).1 (by rw [((o_R hb)).2, tG_s]; rfl) tG_o) d k
theorem gR5 {b : Nat} (hb : isR b) (w : Cond.fieldLink M.2.2.1 index "CommitPrefixes$Run" "everyone" "I" ∈ TT) (d : decode M.1 pc = .ok (.getfield index, 3)) (k : JO X M Qf (pc + 3) lv (.int (cI σ (b) 5) :: st) (wsC ad (xZ X) σ) o) : JO X M Qf pc lv (.ref (ad (b)) :: st) (wsC ad (xZ X) σ) o :=
  JO.get (q0 := b) (ci := 2) rfl inT4 (cC_he (o_R hb)) 5 rfl w (Or.inl rfl) rfl d k
theorem pR5 {b : Nat} (hb : isR b) {v : Int32} (w : Cond.fieldLink M.2.2.1 index "CommitPrefixes$Run" "everyone" "I" ∈ TT) (d : decode M.1 pc = .ok (.putfield index, 3)) (k : JO X M Qf (pc + 3) lv st (wsC ad (xZ X) (tI σ (b) 5 v)) o) : JO X M Qf pc lv (.int v :: .ref (ad (b)) :: st) (wsC ad (xZ X) σ) o :=
  JO.put (q0 := b) (ci := 2) (ty := .int) tyX4 tyX4_ok nmX4 rfl inT4 (cC_he (o_R hb)) 5 rfl w (Or.inl rfl) rfl rfl rfl rfl (Nat.le_of_ble_eq_true rfl) (wsC_set ((o_R hb)).1 (by rw [((o_R hb)).2, tI_s]; rfl) tI_o) d k
theorem gR6 {b : Nat} (hb : isR b) (w : Cond.fieldLink M.2.2.1 index "CommitPrefixes$Run" "tick" "I" ∈ TT) (d : decode M.1 pc = .ok (.getfield index, 3)) (k : JO X M Qf (pc + 3) lv (.int (cI σ (b) 6) :: st) (wsC ad (xZ X) σ) o) : JO X M Qf pc lv (.ref (ad (b)) :: st) (wsC ad (xZ X) σ) o :=
  JO.get (q0 := b) (ci := 2) rfl inT4 (cC_he (o_R hb)) 6 rfl w (Or.inl rfl) rfl d k
theorem pR6 {b : Nat} (hb : isR b) {v : Int32} (w : Cond.fieldLink M.2.2.1 index "CommitPrefixes$Run" "tick" "I" ∈ TT) (d : decode M.1 pc = .ok (.putfield index, 3)) (k : JO X M Qf (pc + 3) lv st (wsC ad (xZ X) (tI σ (b) 6 v)) o) : JO X M Qf pc lv (.int v :: .ref (ad (b)) :: st) (wsC ad (xZ X) σ) o :=
  JO.put (q0 := b) (ci := 2) (ty := .int) tyX4 tyX4_ok nmX4 rfl inT4 (cC_he (o_R hb)) 6 rfl w (Or.inl rfl) rfl rfl rfl rfl (Nat.le_of_ble_eq_true rfl) (wsC_set ((o_R hb)).1 (by rw [((o_R hb)).2, tI_s]; rfl) tI_o) d k
theorem gR7 {b : Nat} (hb : isR b) (w : Cond.fieldLink M.2.2.1 index "CommitPrefixes$Run" "still" "I" ∈ TT) (d : decode M.1 pc = .ok (.getfield index, 3)) (k : JO X M Qf (pc + 3) lv (.int (cI σ (b) 7) :: st) (wsC ad (xZ X) σ) o) : JO X M Qf pc lv (.ref (ad (b)) :: st) (wsC ad (xZ X) σ) o :=
  JO.get (q0 := b) (ci := 2) rfl inT4 (cC_he (o_R hb)) 7 rfl w (Or.inl rfl) rfl d k
theorem pR7 {b : Nat} (hb : isR b) {v : Int32} (w : Cond.fieldLink M.2.2.1 index "CommitPrefixes$Run" "still" "I" ∈ TT) (d : decode M.1 pc = .ok (.putfield index, 3)) (k : JO X M Qf (pc + 3) lv st (wsC ad (xZ X) (tI σ (b) 7 v)) o) : JO X M Qf pc lv (.int v :: .ref (ad (b)) :: st) (wsC ad (xZ X) σ) o :=
  JO.put (q0 := b) (ci := 2) (ty := .int) tyX4 tyX4_ok nmX4 rfl inT4 (cC_he (o_R hb)) 7 rfl w (Or.inl rfl) rfl rfl rfl rfl (Nat.le_of_ble_eq_true rfl) (wsC_set ((o_R hb)).1 (by rw [((o_R hb)).2, tI_s]; rfl) tI_o) d k
theorem gR8 {b : Nat} (hb : isR b) (w : Cond.fieldLink M.2.2.1 index "CommitPrefixes$Run" "count" "I" ∈ TT) (d : decode M.1 pc = .ok (.getfield index, 3)) (k : JO X M Qf (pc + 3) lv (.int (cI σ (b) 8) :: st) (wsC ad (xZ X) σ) o) : JO X M Qf pc lv (.ref (ad (b)) :: st) (wsC ad (xZ X) σ) o :=
  JO.get (q0 := b) (ci := 2) rfl inT4 (cC_he (o_R hb)) 8 rfl w (Or.inl rfl) rfl d k
theorem pR8 {b : Nat} (hb : isR b) {v : Int32} (w : Cond.fieldLink M.2.2.1 index "CommitPrefixes$Run" "count" "I" ∈ TT) (d : decode M.1 pc = .ok (.putfield index, 3)) (k : JO X M Qf (pc + 3) lv st (wsC ad (xZ X) (tI σ (b) 8 v)) o) : JO X M Qf pc lv (.int v :: .ref (ad (b)) :: st) (wsC ad (xZ X) σ) o :=
  JO.put (q0 := b) (ci := 2) (ty := .int) tyX4 tyX4_ok nmX4 rfl inT4 (cC_he (o_R hb)) 8 rfl w (Or.inl rfl) rfl rfl rfl rfl (Nat.le_of_ble_eq_true rfl) (wsC_set ((o_R hb)).1 (by rw [((o_R hb)).2, tI_s]; rfl) tI_o) d k
theorem gR9 {b : Nat} (hb : isR b) (w : Cond.fieldLink M.2.2.1 index "CommitPrefixes$Run" "which" "[I" ∈ TT) (d : decode M.1 pc = .ok (.getfield index, 3)) (k : JO X M Qf (pc + 3) lv (.ref (ad (b + 14)) :: st) (wsC ad (xZ X) σ) o) : JO X M Qf pc lv (.ref (ad (b)) :: st) (wsC ad (xZ X) σ) o :=
  JO.get (q0 := b) (ci := 2) rfl inT4 (cC_he (o_R hb)) 9 rfl w (Or.inl rfl) rfl d k
theorem gR10 {b : Nat} (hb : isR b) (w : Cond.fieldLink M.2.2.1 index "CommitPrefixes$Run" "from" "[I" ∈ TT) (d : decode M.1 pc = .ok (.getfield index, 3)) (k : JO X M Qf (pc + 3) lv (.ref (ad (b + 15)) :: st) (wsC ad (xZ X) σ) o) : JO X M Qf pc lv (.ref (ad (b)) :: st) (wsC ad (xZ X) σ) o :=
  JO.get (q0 := b) (ci := 2) rfl inT4 (cC_he (o_R hb)) 10 rfl w (Or.inl rfl) rfl d k
theorem gR11 {b : Nat} (hb : isR b) (w : Cond.fieldLink M.2.2.1 index "CommitPrefixes$Run" "to" "[I" ∈ TT) (d : decode M.1 pc = .ok (.getfield index, 3)) (k : JO X M Qf (pc + 3) lv (.ref (ad (b + 16)) :: st) (wsC ad (xZ X) σ) o) : JO X M Qf pc lv (.ref (ad (b)) :: st) (wsC ad (xZ X) σ) o :=
  JO.get (q0 := b) (ci := 2) rfl inT4 (cC_he (o_R hb)) 11 rfl w (Or.inl rfl) rfl d k
theorem gR12 {b : Nat} (hb : isR b) (w : Cond.fieldLink M.2.2.1 index "CommitPrefixes$Run" "at" "[I" ∈ TT) (d : decode M.1 pc = .ok (.getfield index, 3)) (k : JO X M Qf (pc + 3) lv (.ref (ad (b + 17)) :: st) (wsC ad (xZ X) σ) o) : JO X M Qf pc lv (.ref (ad (b)) :: st) (wsC ad (xZ X) σ) o :=
  JO.get (q0 := b) (ci := 2) rfl inT4 (cC_he (o_R hb)) 12 rfl w (Or.inl rfl) rfl d k
theorem gR13 {b : Nat} (hb : isR b) (w : Cond.fieldLink M.2.2.1 index "CommitPrefixes$Run" "fate" "[I" ∈ TT) (d : decode M.1 pc = .ok (.getfield index, 3)) (k : JO X M Qf (pc + 3) lv (.ref (ad (b + 18)) :: st) (wsC ad (xZ X) σ) o) : JO X M Qf pc lv (.ref (ad (b)) :: st) (wsC ad (xZ X) σ) o :=
  JO.get (q0 := b) (ci := 2) rfl inT4 (cC_he (o_R hb)) 13 rfl w (Or.inl rfl) rfl d k
theorem gR14 {b : Nat} (hb : isR b) (w : Cond.fieldLink M.2.2.1 index "CommitPrefixes$Run" "states" "[I" ∈ TT) (d : decode M.1 pc = .ok (.getfield index, 3)) (k : JO X M Qf (pc + 3) lv (.ref (ad (b + 19)) :: st) (wsC ad (xZ X) σ) o) : JO X M Qf pc lv (.ref (ad (b)) :: st) (wsC ad (xZ X) σ) o :=
  JO.get (q0 := b) (ci := 2) rfl inT4 (cC_he (o_R hb)) 14 rfl w (Or.inl rfl) rfl d k
theorem gR15 {b : Nat} (hb : isR b) (w : Cond.fieldLink M.2.2.1 index "CommitPrefixes$Run" "lengths" "[I" ∈ TT) (d : decode M.1 pc = .ok (.getfield index, 3)) (k : JO X M Qf (pc + 3) lv (.ref (ad (b + 20)) :: st) (wsC ad (xZ X) σ) o) : JO X M Qf pc lv (.ref (ad (b)) :: st) (wsC ad (xZ X) σ) o :=
  JO.get (q0 := b) (ci := 2) rfl inT4 (cC_he (o_R hb)) 15 rfl w (Or.inl rfl) rfl d k
theorem gR16 {b : Nat} (hb : isR b) (w : Cond.fieldLink M.2.2.1 index "CommitPrefixes$Run" "sentBehind" "[I" ∈ TT) (d : decode M.1 pc = .ok (.getfield index, 3)) (k : JO X M Qf (pc + 3) lv (.ref (ad (b + 21)) :: st) (wsC ad (xZ X) σ) o) : JO X M Qf pc lv (.ref (ad (b)) :: st) (wsC ad (xZ X) σ) o :=
  JO.get (q0 := b) (ci := 2) rfl inT4 (cC_he (o_R hb)) 16 rfl w (Or.inl rfl) rfl d k
theorem gH0 {i : Nat} (hi : i < 8) (w : Cond.fieldLink M.2.2.1 index "CommitPrefixes$Shelf" "content" "I" ∈ TT) (d : decode M.1 pc = .ok (.getfield index, 3)) (k : JO X M Qf (pc + 3) lv (.int (cI σ (58 + i) 0) :: st) (wsC ad (xZ X) σ) o) : JO X M Qf pc lv (.ref (ad (58 + i)) :: st) (wsC ad (xZ X) σ) o :=
  JO.get (q0 := 58 + i) (ci := 4) rfl inT6 (cC_he (o_H hi)) 0 rfl w (Or.inl rfl) rfl d k
theorem pH0 {i : Nat} (hi : i < 8) {v : Int32} (w : Cond.fieldLink M.2.2.1 index "CommitPrefixes$Shelf" "content" "I" ∈ TT) (d : decode M.1 pc = .ok (.putfield index, 3)) (k : JO X M Qf (pc + 3) lv st (wsC ad (xZ X) (tI σ (58 + i) 0 v)) o) : JO X M Qf pc lv (.int v :: .ref (ad (58 + i)) :: st) (wsC ad (xZ X) σ) o :=
  JO.put (q0 := 58 + i) (ci := 4) (ty := .int) tyX6 tyX6_ok nmX6 rfl inT6 (cC_he (o_H hi)) 0 rfl w (Or.inl rfl) rfl rfl rfl rfl (Nat.le_of_ble_eq_true rfl) (wsC_set ((o_H hi)).1 (by rw [((o_H hi)).2, tI_s]; rfl) tI_o) d k
theorem gH1 {i : Nat} (hi : i < 8) (w : Cond.fieldLink M.2.2.1 index "CommitPrefixes$Shelf" "sort" "I" ∈ TT) (d : decode M.1 pc = .ok (.getfield index, 3)) (k : JO X M Qf (pc + 3) lv (.int (cI σ (58 + i) 1) :: st) (wsC ad (xZ X) σ) o) : JO X M Qf pc lv (.ref (ad (58 + i)) :: st) (wsC ad (xZ X) σ) o :=
  JO.get (q0 := 58 + i) (ci := 4) rfl inT6 (cC_he (o_H hi)) 1 rfl w (Or.inl rfl) rfl d k
theorem pH1 {i : Nat} (hi : i < 8) {v : Int32} (w : Cond.fieldLink M.2.2.1 index "CommitPrefixes$Shelf" "sort" "I" ∈ TT) (d : decode M.1 pc = .ok (.putfield index, 3)) (k : JO X M Qf (pc + 3) lv st (wsC ad (xZ X) (tI σ (58 + i) 1 v)) o) : JO X M Qf pc lv (.int v :: .ref (ad (58 + i)) :: st) (wsC ad (xZ X) σ) o :=
  JO.put (q0 := 58 + i) (ci := 4) (ty := .int) tyX6 tyX6_ok nmX6 rfl inT6 (cC_he (o_H hi)) 1 rfl w (Or.inl rfl) rfl rfl rfl rfl (Nat.le_of_ble_eq_true rfl) (wsC_set ((o_H hi)).1 (by rw [((o_H hi)).2, tI_s]; rfl) tI_o) d k
theorem gH2 {i : Nat} (hi : i < 8) (w : Cond.fieldLink M.2.2.1 index "CommitPrefixes$Shelf" "size" "I" ∈ TT) (d : decode M.1 pc = .ok (.getfield index, 3)) (k : JO X M Qf (pc + 3) lv (.int (cI σ (58 + i) 2) :: st) (wsC ad (xZ X) σ) o) : JO X M Qf pc lv (.ref (ad (58 + i)) :: st) (wsC ad (xZ X) σ) o :=
  JO.get (q0 := 58 + i) (ci := 4) rfl inT6 (cC_he (o_H hi)) 2 rfl w (Or.inl rfl) rfl d k
theorem pH2 {i : Nat} (hi : i < 8) {v : Int32} (w : Cond.fieldLink M.2.2.1 index "CommitPrefixes$Shelf" "size" "I" ∈ TT) (d : decode M.1 pc = .ok (.putfield index, 3)) (k : JO X M Qf (pc + 3) lv st (wsC ad (xZ X) (tI σ (58 + i) 2 v)) o) : JO X M Qf pc lv (.int v :: .ref (ad (58 + i)) :: st) (wsC ad (xZ X) σ) o :=
  JO.put (q0 := 58 + i) (ci := 4) (ty := .int) tyX6 tyX6_ok nmX6 rfl inT6 (cC_he (o_H hi)) 2 rfl w (Or.inl rfl) rfl rfl rfl rfl (Nat.le_of_ble_eq_true rfl) (wsC_set ((o_H hi)).1 (by rw [((o_H hi)).2, tI_s]; rfl) tI_o) d k
theorem gH3 {i : Nat} (hi : i < 8) (w : Cond.fieldLink M.2.2.1 index "CommitPrefixes$Shelf" "elements" "[J" ∈ TT) (d : decode M.1 pc = .ok (.getfield index, 3)) (k : JO X M Qf (pc + 3) lv (.ref (ad (66 + i)) :: st) (wsC ad (xZ X) σ) o) : JO X M Qf pc lv (.ref (ad (58 + i)) :: st) (wsC ad (xZ X) σ) o :=
  JO.get (q0 := 58 + i) (ci := 4) rfl inT6 (cC_he (o_H hi)) 3 rfl w (Or.inl rfl) rfl d k
theorem gH4 {i : Nat} (hi : i < 8) (w : Cond.fieldLink M.2.2.1 index "CommitPrefixes$Shelf" "which" "I" ∈ TT) (d : decode M.1 pc = .ok (.getfield index, 3)) (k : JO X M Qf (pc + 3) lv (.int (cI σ (58 + i) 4) :: st) (wsC ad (xZ X) σ) o) : JO X M Qf pc lv (.ref (ad (58 + i)) :: st) (wsC ad (xZ X) σ) o :=
  JO.get (q0 := 58 + i) (ci := 4) rfl inT6 (cC_he (o_H hi)) 4 rfl w (Or.inl rfl) rfl d k
theorem pH4 {i : Nat} (hi : i < 8) {v : Int32} (w : Cond.fieldLink M.2.2.1 index "CommitPrefixes$Shelf" "which" "I" ∈ TT) (d : decode M.1 pc = .ok (.putfield index, 3)) (k : JO X M Qf (pc + 3) lv st (wsC ad (xZ X) (tI σ (58 + i) 4 v)) o) : JO X M Qf pc lv (.int v :: .ref (ad (58 + i)) :: st) (wsC ad (xZ X) σ) o :=
  JO.put (q0 := 58 + i) (ci := 4) (ty := .int) tyX6 tyX6_ok nmX6 rfl inT6 (cC_he (o_H hi)) 4 rfl w (Or.inl rfl) rfl rfl rfl rfl (Nat.le_of_ble_eq_true rfl) (wsC_set ((o_H hi)).1 (by rw [((o_H hi)).2, tI_s]; rfl) tI_o) d k
theorem gH5 {i : Nat} (hi : i < 8) (w : Cond.fieldLink M.2.2.1 index "CommitPrefixes$Shelf" "from" "I" ∈ TT) (d : decode M.1 pc = .ok (.getfield index, 3)) (k : JO X M Qf (pc + 3) lv (.int (cI σ (58 + i) 5) :: st) (wsC ad (xZ X) σ) o) : JO X M Qf pc lv (.ref (ad (58 + i)) :: st) (wsC ad (xZ X) σ) o :=
  JO.get (q0 := 58 + i) (ci := 4) rfl inT6 (cC_he (o_H hi)) 5 rfl w (Or.inl rfl) rfl d k
theorem pH5 {i : Nat} (hi : i < 8) {v : Int32} (w : Cond.fieldLink M.2.2.1 index "CommitPrefixes$Shelf" "from" "I" ∈ TT) (d : decode M.1 pc = .ok (.putfield index, 3)) (k : JO X M Qf (pc + 3) lv st (wsC ad (xZ X) (tI σ (58 + i) 5 v)) o) : JO X M Qf pc lv (.int v :: .ref (ad (58 + i)) :: st) (wsC ad (xZ X) σ) o :=
  JO.put (q0 := 58 + i) (ci := 4) (ty := .int) tyX6 tyX6_ok nmX6 rfl inT6 (cC_he (o_H hi)) 5 rfl w (Or.inl rfl) rfl rfl rfl rfl (Nat.le_of_ble_eq_true rfl) (wsC_set ((o_H hi)).1 (by rw [((o_H hi)).2, tI_s]; rfl) tI_o) d k
theorem gH6 {i : Nat} (hi : i < 8) (w : Cond.fieldLink M.2.2.1 index "CommitPrefixes$Shelf" "to" "I" ∈ TT) (d : decode M.1 pc = .ok (.getfield index, 3)) (k : JO X M Qf (pc + 3) lv (.int (cI σ (58 + i) 6) :: st) (wsC ad (xZ X) σ) o) : JO X M Qf pc lv (.ref (ad (58 + i)) :: st) (wsC ad (xZ X) σ) o :=
  JO.get (q0 := 58 + i) (ci := 4) rfl inT6 (cC_he (o_H hi)) 6 rfl w (Or.inl rfl) rfl d k
theorem pH6 {i : Nat} (hi : i < 8) {v : Int32} (w : Cond.fieldLink M.2.2.1 index "CommitPrefixes$Shelf" "to" "I" ∈ TT) (d : decode M.1 pc = .ok (.putfield index, 3)) (k : JO X M Qf (pc + 3) lv st (wsC ad (xZ X) (tI σ (58 + i) 6 v)) o) : JO X M Qf pc lv (.int v :: .ref (ad (58 + i)) :: st) (wsC ad (xZ X) σ) o :=
  JO.put (q0 := 58 + i) (ci := 4) (ty := .int) tyX6 tyX6_ok nmX6 rfl inT6 (cC_he (o_H hi)) 6 rfl w (Or.inl rfl) rfl rfl rfl rfl (Nat.le_of_ble_eq_true rfl) (wsC_set ((o_H hi)).1 (by rw [((o_H hi)).2, tI_s]; rfl) tI_o) d k
theorem gH7 {i : Nat} (hi : i < 8) (w : Cond.fieldLink M.2.2.1 index "CommitPrefixes$Shelf" "tick" "I" ∈ TT) (d : decode M.1 pc = .ok (.getfield index, 3)) (k : JO X M Qf (pc + 3) lv (.int (cI σ (58 + i) 7) :: st) (wsC ad (xZ X) σ) o) : JO X M Qf pc lv (.ref (ad (58 + i)) :: st) (wsC ad (xZ X) σ) o :=
  JO.get (q0 := 58 + i) (ci := 4) rfl inT6 (cC_he (o_H hi)) 7 rfl w (Or.inl rfl) rfl d k
theorem pH7 {i : Nat} (hi : i < 8) {v : Int32} (w : Cond.fieldLink M.2.2.1 index "CommitPrefixes$Shelf" "tick" "I" ∈ TT) (d : decode M.1 pc = .ok (.putfield index, 3)) (k : JO X M Qf (pc + 3) lv st (wsC ad (xZ X) (tI σ (58 + i) 7 v)) o) : JO X M Qf pc lv (.int v :: .ref (ad (58 + i)) :: st) (wsC ad (xZ X) σ) o :=
  JO.put (q0 := 58 + i) (ci := 4) (ty := .int) tyX6 tyX6_ok nmX6 rfl inT6 (cC_he (o_H hi)) 7 rfl w (Or.inl rfl) rfl rfl rfl rfl (Nat.le_of_ble_eq_true rfl) (wsC_set ((o_H hi)).1 (by rw [((o_H hi)).2, tI_s]; rfl) tI_o) d k
theorem gT0 {b j : Nat} {ref : String} (hb : isR b) (hj : j < 6) (hs : "CommitPrefixes$Site" = ref ∨ Cond.sameField ref "CommitPrefixes$Site" "number" "I" ∈ TT) (w : Cond.fieldLink M.2.2.1 index ref "number" "I" ∈ TT) (d : decode M.1 pc = .ok (.getfield index, 3)) (k : JO X M Qf (pc + 3) lv (.int (Int32.ofNat j) :: st) (wsC ad (xZ X) σ) o) : JO X M Qf pc lv (.ref (ad (b + 2 + j)) :: st) (wsC ad (xZ X) σ) o := by
  rcases Nat.eq_zero_or_pos j with rfl | h0
  · exact JO.get (q0 := b + 2) (ci := 0) rfl inT1 (cC_he (o_T0 hb)) 0 rfl w hs rfl d k
  · exact JO.get (q0 := b + 2 + j) (ci := 1) rfl inT3 (cC_he (o_T hb h0 hj)) 0 rfl w hs rfl d k
theorem gT1 {b j : Nat} {ref : String} (hb : isR b) (hj : j < 6) (hs : "CommitPrefixes$Site" = ref ∨ Cond.sameField ref "CommitPrefixes$Site" "log" "[I" ∈ TT) (w : Cond.fieldLink M.2.2.1 index ref "log" "[I" ∈ TT) (d : decode M.1 pc = .ok (.getfield index, 3)) (k : JO X M Qf (pc + 3) lv (.ref (ad (b + 8 + j)) :: st) (wsC ad (xZ X) σ) o) : JO X M Qf pc lv (.ref (ad (b + 2 + j)) :: st) (wsC ad (xZ X) σ) o := by
  rcases Nat.eq_zero_or_pos j with rfl | h0
  · exact JO.get (q0 := b + 2) (ci := 0) rfl inT1 (cC_he (o_T0 hb)) 1 rfl w hs rfl d k
  · exact JO.get (q0 := b + 2 + j) (ci := 1) rfl inT3 (cC_he (o_T hb h0 hj)) 1 rfl w hs rfl d k
theorem gT2 {b j : Nat} {ref : String} (hb : isR b) (hj : j < 6) (hs : "CommitPrefixes$Site" = ref ∨ Cond.sameField ref "CommitPrefixes$Site" "length" "I" ∈ TT) (w : Cond.fieldLink M.2.2.1 index ref "length" "I" ∈ TT) (d : decode M.1 pc = .ok (.getfield index, 3)) (k : JO X M Qf (pc + 3) lv (.int (cI σ (b + 2 + j) 2) :: st) (wsC ad (xZ X) σ) o) : JO X M Qf pc lv (.ref (ad (b + 2 + j)) :: st) (wsC ad (xZ X) σ) o := by
  rcases Nat.eq_zero_or_pos j with rfl | h0
  · exact JO.get (q0 := b + 2) (ci := 0) rfl inT1 (cC_he (o_T0 hb)) 2 rfl w hs rfl d k
  · exact JO.get (q0 := b + 2 + j) (ci := 1) rfl inT3 (cC_he (o_T hb h0 hj)) 2 rfl w hs rfl d k
theorem pT2 {b j : Nat} {ref : String} (hb : isR b) (hj : j < 6) (hs : "CommitPrefixes$Site" = ref ∨ Cond.sameField ref "CommitPrefixes$Site" "length" "I" ∈ TT) {v : Int32} (w : Cond.fieldLink M.2.2.1 index ref "length" "I" ∈ TT) (d : decode M.1 pc = .ok (.putfield index, 3)) (k : JO X M Qf (pc + 3) lv st (wsC ad (xZ X) (tI σ (b + 2 + j) 2 v)) o) : JO X M Qf pc lv (.int v :: .ref (ad (b + 2 + j)) :: st) (wsC ad (xZ X) σ) o := by
  rcases Nat.eq_zero_or_pos j with rfl | h0
  · exact JO.put (q0 := b + 2) (ci := 0) (ty := .int) tyX1 tyX1_ok nmX1 rfl inT1 (cC_he (o_T0 hb)) 2 rfl w hs rfl rfl rfl rfl (Nat.le_of_ble_eq_true rfl) (wsC_set (σ' := tI σ (b + 2) 2 v) (o_T0 hb).1 (by rw [(o_T0 hb).2, tI_s]; rfl) tI_o) d k
  · exact JO.put (q0 := b + 2 + j) (ci := 1) (ty := .int) tyX3 tyX3_ok nmX3 rfl inT3 (cC_he (o_T hb h0 hj)) 2 rfl w hs rfl rfl rfl rfl (Nat.le_of_ble_eq_true rfl) (wsC_set (o_T hb h0 hj).1 (by rw [(o_T hb h0 hj).2, tI_s]; rfl) tI_o) d k
theorem gT3 {b j : Nat} {ref : String} (hb : isR b) (hj : j < 6) (hs : "CommitPrefixes$Site" = ref ∨ Cond.sameField ref "CommitPrefixes$Site" "up" "Z" ∈ TT) (w : Cond.fieldLink M.2.2.1 index ref "up" "Z" ∈ TT) (d : decode M.1 pc = .ok (.getfield index, 3)) (k : JO X M Qf (pc + 3) lv (.int (bI (cZ σ (b + 2 + j) 3)) :: st) (wsC ad (xZ X) σ) o) : JO X M Qf pc lv (.ref (ad (b + 2 + j)) :: st) (wsC ad (xZ X) σ) o := by
  rcases Nat.eq_zero_or_pos j with rfl | h0
  · exact JO.get (q0 := b + 2) (ci := 0) rfl inT1 (cC_he (o_T0 hb)) 3 rfl w hs rfl d k
  · exact JO.get (q0 := b + 2 + j) (ci := 1) rfl inT3 (cC_he (o_T hb h0 hj)) 3 rfl w hs rfl d k
theorem pT3 {b j : Nat} {ref : String} (hb : isR b) (hj : j < 6) (hs : "CommitPrefixes$Site" = ref ∨ Cond.sameField ref "CommitPrefixes$Site" "up" "Z" ∈ TT) {v : Bool} (w : Cond.fieldLink M.2.2.1 index ref "up" "Z" ∈ TT) (d : decode M.1 pc = .ok (.putfield index, 3)) (k : JO X M Qf (pc + 3) lv st (wsC ad (xZ X) (tZ σ (b + 2 + j) 3 v)) o) : JO X M Qf pc lv (.int (bI v) :: .ref (ad (b + 2 + j)) :: st) (wsC ad (xZ X) σ) o := by
  rcases Nat.eq_zero_or_pos j with rfl | h0
  · exact JO.put (q0 := b + 2) (ci := 0) (ty := .boolean) tyX1 tyX1_ok nmX1 rfl inT1 (cC_he (o_T0 hb)) 3 rfl w hs rfl rfl (by cases v <;> rfl) (by cases v <;> rfl) (Nat.le_of_ble_eq_true rfl) (wsC_set (σ' := tZ σ (b + 2) 3 v) (o_T0 hb).1 (by rw [(o_T0 hb).2, tZ_s]; rfl) tZ_o) d k
  · exact JO.put (q0 := b + 2 + j) (ci := 1) (ty := .boolean) tyX3 tyX3_ok nmX3 rfl inT3 (cC_he (o_T hb h0 hj)) 3 rfl w hs rfl rfl (by cases v <;> rfl) (by cases v <;> rfl) (Nat.le_of_ble_eq_true rfl) (wsC_set (o_T hb h0 hj).1 (by rw [(o_T hb h0 hj).2, tZ_s]; rfl) tZ_o) d k
theorem gT4 {b j : Nat} {ref : String} (hb : isR b) (hj : j < 6) (hs : "CommitPrefixes$Site" = ref ∨ Cond.sameField ref "CommitPrefixes$Site" "state" "I" ∈ TT) (w : Cond.fieldLink M.2.2.1 index ref "state" "I" ∈ TT) (d : decode M.1 pc = .ok (.getfield index, 3)) (k : JO X M Qf (pc + 3) lv (.int (cI σ (b + 2 + j) 4) :: st) (wsC ad (xZ X) σ) o) : JO X M Qf pc lv (.ref (ad (b + 2 + j)) :: st) (wsC ad (xZ X) σ) o := by
  rcases Nat.eq_zero_or_pos j with rfl | h0
  · exact JO.get (q0 := b + 2) (ci := 0) rfl inT1 (cC_he (o_T0 hb)) 4 rfl w hs rfl d k
  · exact JO.get (q0 := b + 2 + j) (ci := 1) rfl inT3 (cC_he (o_T hb h0 hj)) 4 rfl w hs rfl d k
theorem pT4 {b j : Nat} {ref : String} (hb : isR b) (hj : j < 6) (hs : "CommitPrefixes$Site" = ref ∨ Cond.sameField ref "CommitPrefixes$Site" "state" "I" ∈ TT) {v : Int32} (w : Cond.fieldLink M.2.2.1 index ref "state" "I" ∈ TT) (d : decode M.1 pc = .ok (.putfield index, 3)) (k : JO X M Qf (pc + 3) lv st (wsC ad (xZ X) (tI σ (b + 2 + j) 4 v)) o) : JO X M Qf pc lv (.int v :: .ref (ad (b + 2 + j)) :: st) (wsC ad (xZ X) σ) o := by
  rcases Nat.eq_zero_or_pos j with rfl | h0
  · exact JO.put (q0 := b + 2) (ci := 0) (ty := .int) tyX1 tyX1_ok nmX1 rfl inT1 (cC_he (o_T0 hb)) 4 rfl w hs rfl rfl rfl rfl (Nat.le_of_ble_eq_true rfl) (wsC_set (σ' := tI σ (b + 2) 4 v) (o_T0 hb).1 (by rw [(o_T0 hb).2, tI_s]; rfl) tI_o) d k
  · exact JO.put (q0 := b + 2 + j) (ci := 1) (ty := .int) tyX3 tyX3_ok nmX3 rfl inT3 (cC_he (o_T hb h0 hj)) 4 rfl w hs rfl rfl rfl rfl (Nat.le_of_ble_eq_true rfl) (wsC_set (o_T hb h0 hj).1 (by rw [(o_T hb h0 hj).2, tI_s]; rfl) tI_o) d k
theorem gT5 {b j : Nat} {ref : String} (hb : isR b) (hj : j < 6) (hs : "CommitPrefixes$Site" = ref ∨ Cond.sameField ref "CommitPrefixes$Site" "timer" "I" ∈ TT) (w : Cond.fieldLink M.2.2.1 index ref "timer" "I" ∈ TT) (d : decode M.1 pc = .ok (.getfield index, 3)) (k : JO X M Qf (pc + 3) lv (.int (cI σ (b + 2 + j) 5) :: st) (wsC ad (xZ X) σ) o) : JO X M Qf pc lv (.ref (ad (b + 2 + j)) :: st) (wsC ad (xZ X) σ) o := by
  rcases Nat.eq_zero_or_pos j with rfl | h0
  · exact JO.get (q0 := b + 2) (ci := 0) rfl inT1 (cC_he (o_T0 hb)) 5 rfl w hs rfl d k
  · exact JO.get (q0 := b + 2 + j) (ci := 1) rfl inT3 (cC_he (o_T hb h0 hj)) 5 rfl w hs rfl d k
theorem pT5 {b j : Nat} {ref : String} (hb : isR b) (hj : j < 6) (hs : "CommitPrefixes$Site" = ref ∨ Cond.sameField ref "CommitPrefixes$Site" "timer" "I" ∈ TT) {v : Int32} (w : Cond.fieldLink M.2.2.1 index ref "timer" "I" ∈ TT) (d : decode M.1 pc = .ok (.putfield index, 3)) (k : JO X M Qf (pc + 3) lv st (wsC ad (xZ X) (tI σ (b + 2 + j) 5 v)) o) : JO X M Qf pc lv (.int v :: .ref (ad (b + 2 + j)) :: st) (wsC ad (xZ X) σ) o := by
  rcases Nat.eq_zero_or_pos j with rfl | h0
  · exact JO.put (q0 := b + 2) (ci := 0) (ty := .int) tyX1 tyX1_ok nmX1 rfl inT1 (cC_he (o_T0 hb)) 5 rfl w hs rfl rfl rfl rfl (Nat.le_of_ble_eq_true rfl) (wsC_set (σ' := tI σ (b + 2) 5 v) (o_T0 hb).1 (by rw [(o_T0 hb).2, tI_s]; rfl) tI_o) d k
  · exact JO.put (q0 := b + 2 + j) (ci := 1) (ty := .int) tyX3 tyX3_ok nmX3 rfl inT3 (cC_he (o_T hb h0 hj)) 5 rfl w hs rfl rfl rfl rfl (Nat.le_of_ble_eq_true rfl) (wsC_set (o_T hb h0 hj).1 (by rw [(o_T hb h0 hj).2, tI_s]; rfl) tI_o) d k
theorem gT6 {b : Nat} (hb : isR b) (w : Cond.fieldLink M.2.2.1 index "CommitPrefixes$Coordinator" "counted" "I" ∈ TT) (d : decode M.1 pc = .ok (.getfield index, 3)) (k : JO X M Qf (pc + 3) lv (.int (cI σ (b + 2) 6) :: st) (wsC ad (xZ X) σ) o) : JO X M Qf pc lv (.ref (ad (b + 2)) :: st) (wsC ad (xZ X) σ) o :=
  JO.get (q0 := b + 2) (ci := 0) rfl inT1 (cC_he (o_T0 hb)) 6 rfl w (Or.inl rfl) rfl d k
theorem pT6 {b : Nat} (hb : isR b) {v : Int32} (w : Cond.fieldLink M.2.2.1 index "CommitPrefixes$Coordinator" "counted" "I" ∈ TT) (d : decode M.1 pc = .ok (.putfield index, 3)) (k : JO X M Qf (pc + 3) lv st (wsC ad (xZ X) (tI σ (b + 2) 6 v)) o) : JO X M Qf pc lv (.int v :: .ref (ad (b + 2)) :: st) (wsC ad (xZ X) σ) o :=
  JO.put (q0 := b + 2) (ci := 0) (ty := .int) tyX1 tyX1_ok nmX1 rfl inT1 (cC_he (o_T0 hb)) 6 rfl w (Or.inl rfl) rfl rfl rfl rfl (Nat.le_of_ble_eq_true rfl) (wsC_set (o_T0 hb).1 (by rw [(o_T0 hb).2, tI_s]; rfl) tI_o) d k
end CR
abbrev wC (ad : Nat → Nat) (Z : ZT) {ρ : Type} : ρ × CS → va_W := fun a => wsC ad Z a.2
