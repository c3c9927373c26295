/-! rows for what nobody writes: statics, static rows, constant objects -/
section JK
variable {α : Type} {X : JX} {M : JM} {Qf : α → State → Prop} {pc : Nat} {lv : List (Option Value)} {st : List Value} {ws : va_W} {o : Option α}
theorem OKX.cw (ok : OKX X M) : CWh (xZ X) (xA X) (xs X) (xs X).heap := ok.2.2.2.2.2.2.2.2.2.2.2.1.1
theorem OKX.nw (ok : OKX X M) : NWs (xs X) := ok.2.2.2.2.2.2.2.2.2.2.2.1.2
theorem OKX.hts (ok : OKX X M) : ∀ w ∈ TT, w.before (xargs X) (xs X) = true := ok.2.2.2.2.2.2.2.1
theorem OKX.hK (ok : OKX X M) : va_K (xD X) vwCl (xtys X) (xs X) := ok.2.2.2.2.2.2.2.2.2.1
theorem JO.gets {n dd ref : String} {v : Value} {index : Nat} (hZ : CWh (xZ X) (xA X) (xs X) (xs X).heap → va_Z ref n dd v (xA X) (xs X) (xs X).heap) (w : Cond.fieldLink M.2.2.1 index ref n dd ∈ TT) (d : decode M.1 pc = .ok (.getstatic index, 3)) (k : JO X M Qf (pc + 3) lv (v :: st) ws o) : JO X M Qf pc lv st ws o :=
  fun a h ok ls H locs hl hP hD hS => va_gets ok.1 ok.2.1 (hZ ok.cw) hS ok.2.2.2.1 (ok.hts _ w) (fun _ q => q) d (k a h ok ls H locs hl hP hD hS)
theorem JO.ti {t N : Nat} {f : Nat → Int32} {i : Int32} (hT : CWh (xZ X) (xA X) (xs X) (xs X).heap → va_T .int t N (fun j => .int (f j)) (xA X) (xs X) (xs X).heap) (d : decode M.1 pc = .ok (.iaload, 1)) (k : JO X M Qf (pc + 1) lv (.int (f (ix i)) :: st) ws o) : JO X M Qf pc lv (.int i :: .ref t :: st) ws (if inB i N = true then o else none) := by
  intro a h ok ls H locs hl hP hD hS
  by_cases hi : inB i N = true
  · rw [if_pos hi] at h
    exact va_ti ok.1 ok.2.1 (hT ok.cw) hS (inB_in hi) rfl d (k a h ok ls H locs hl hP hD hS)
  · rw [if_neg hi] at h; cases h
theorem JO.tb {t N : Nat} {f : Nat → Int32} {i : Int32} (hT : CWh (xZ X) (xA X) (xs X) (xs X).heap → va_T .byte t N (fun j => .int (f j)) (xA X) (xs X) (xs X).heap) (d : decode M.1 pc = .ok (.baload, 1)) (k : JO X M Qf (pc + 1) lv (.int (f (ix i)) :: st) ws o) : JO X M Qf pc lv (.int i :: .ref t :: st) ws (if inB i N = true then o else none) := by
  intro a h ok ls H locs hl hP hD hS
  by_cases hi : inB i N = true
  · rw [if_pos hi] at h
    exact va_tb ok.1 ok.2.1 (hT ok.cw) hS (inB_in hi) rfl d (k a h ok ls H locs hl hP hD hS)
  · rw [if_neg hi] at h; cases h
theorem JO.tq {t N : Nat} {C : String} {f : Nat → Nat} {i : Int32} (hT : CWh (xZ X) (xA X) (xs X) (xs X).heap → va_T (.object C) t N (fun j => .ref (f j)) (xA X) (xs X) (xs X).heap) (d : decode M.1 pc = .ok (.aaload, 1)) (k : JO X M Qf (pc + 1) lv (.ref (f (ix i)) :: st) ws o) : JO X M Qf pc lv (.int i :: .ref t :: st) ws (if inB i N = true then o else none) := by
  intro a h ok ls H locs hl hP hD hS
  by_cases hi : inB i N = true
  · rw [if_pos hi] at h
    exact vb_tq ok.1 ok.2.1 (hT ok.cw) hS (inB_in hi) rfl d (k a h ok ls H locs hl hP hD hS)
  · rw [if_neg hi] at h; cases h
theorem JO.tlen {t N : Nat} {ty : FieldType} {f : Nat → Value} (v : Int32) (hT : CWh (xZ X) (xA X) (xs X) (xs X).heap → va_T ty t N f (xA X) (xs X) (xs X).heap) (hv : Int32.ofNat N = v) (d : decode M.1 pc = .ok (.arraylength, 1)) (k : JO X M Qf (pc + 1) lv (.int v :: st) ws o) : JO X M Qf pc lv (.ref t :: st) ws o :=
  fun a h ok ls H locs hl hP hD hS => va_tlen ok.1 ok.2.1 (hT ok.cw) hS hv d (k a h ok ls H locs hl hP hD hS)
theorem JO.getO {t index : Nat} {o1 n dd : String} {v : Value} (hT : CWh (xZ X) (xA X) (xs X) (xs X).heap → va_OF o1 n dd v t (xA X) (xs X) (xs X).heap) (w : Cond.fieldLink M.2.2.1 index o1 n dd ∈ TT) (d : decode M.1 pc = .ok (.getfield index, 3)) (k : JO X M Qf (pc + 3) lv (v :: st) ws o) : JO X M Qf pc lv (.ref t :: st) ws o :=
  fun a h ok ls H locs hl hP hD hS => vk_getf ok.1 ok.2.1 (hT ok.cw) hS ok.2.2.2.1 (ok.hts _ w) (fun _ q => q) d (k a h ok ls H locs hl hP hD hS)
theorem JO.ldcw {index : Nat} {v : Int32} (w : Cond.constant M.2.2.1 index v ∈ TT) (d : decode M.1 pc = .ok (.ldc_w index, 3)) (k : JO X M Qf (pc + 3) lv (.int v :: st) ws o) : JO X M Qf pc lv st ws o :=
  fun a h ok ls H locs hl hP hD hS => lv_ldcw ok.1 ok.2.1 ok.2.2.2.1 (ok.hts _ w) d (k a h ok ls H locs hl hP hD hS)
/-- the copy of a row of ints, of longs -/
theorem JO.math {y : MethodName} {b : ByteArray} {index : Nat} {x z : Int32} (hy : y = Lib.Math.min.name) (hb : b = Lib.Math.min.code) (w1 : Cond.methodLink M.2.2.1 index y ∈ TT) (w2 : Cond.static y ∈ TT) (w3 : Cond.initialized "java/lang/Math" ∈ TT) (w4 : Cond.code y b 2 (some .int) ∈ TT) (hroom : decide (1 ≤ M.2.2.2.2.1) && decide ((st.map fun v => v.category).sum + 13 ≤ M.2.2.2.2.2) = true) (d : decode M.1 pc = .ok (.invokestatic index, 3)) (k : JO X M Qf (pc + 3) lv (.int (if z < x then z else x) :: st) ws o) : JO X M Qf pc lv (.int z :: .int x :: st) ws o := by
  subst hy; subst hb
  intro a h ok ls H locs hl hP hD hS
  simp only [Bool.and_eq_true, decide_eq_true_eq] at hroom
  exact va_mmin ok.1 ok.2.1 (ok.2.2.1.trans hl.1.symm) ok.2.2.2.1 (ok.hts _ w1) (ok.hts _ w2) (ok.hts _ w3) (ok.hts _ w4) (Nat.le_trans hroom.1 ok.2.2.2.2.2.1) (Nat.le_trans hroom.2 ok.2.2.2.2.2.2.1) ok.2.2.2.2.2.2.2.2.2.2.2.2.1 ok.2.2.2.2.2.2.2.2.2.2.2.2.2 d (k a h ok ls H locs hl hP hD hS)
theorem JO.mathX {y : MethodName} {b : ByteArray} {index : Nat} {x z : Int32} (hy : y = Lib.Math.max.name) (hb : b = Lib.Math.max.code) (w1 : Cond.methodLink M.2.2.1 index y ∈ TT) (w2 : Cond.static y ∈ TT) (w3 : Cond.initialized "java/lang/Math" ∈ TT) (w4 : Cond.code y b 2 (some .int) ∈ TT) (hroom : decide (1 ≤ M.2.2.2.2.1) && decide ((st.map fun v => v.category).sum + 13 ≤ M.2.2.2.2.2) = true) (d : decode M.1 pc = .ok (.invokestatic index, 3)) (k : JO X M Qf (pc + 3) lv (.int (if x < z then z else x) :: st) ws o) : JO X M Qf pc lv (.int z :: .int x :: st) ws o := by
  subst hy; subst hb
  intro a h ok ls H locs hl hP hD hS
  simp only [Bool.and_eq_true, decide_eq_true_eq] at hroom
  exact va_mmax ok.1 ok.2.1 (ok.2.2.1.trans hl.1.symm) ok.2.2.2.1 (ok.hts _ w1) (ok.hts _ w2) (ok.hts _ w3) (ok.hts _ w4) (Nat.le_trans hroom.1 ok.2.2.2.2.2.1) (Nat.le_trans hroom.2 ok.2.2.2.2.2.2.1) ok.2.2.2.2.2.2.2.2.2.2.2.2.1 ok.2.2.2.2.2.2.2.2.2.2.2.2.2 d (k a h ok ls H locs hl hP hD hS)
end JK
