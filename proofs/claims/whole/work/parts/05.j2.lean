section JR
variable {α : Type} {X : JX} {M : JM} {Qf : α → State → Prop} {pc : Nat} {lv : List (Option Value)} {st : List Value} {ws : va_W} {o o1 o2 : Option α}
theorem JO.iadd {x y : Int32} (d : decode M.1 pc = .ok (.iadd, 1)) (k : JO X M Qf (pc + 1) lv (.int (x + y) :: st) ws o) : JO X M Qf pc lv (.int y :: .int x :: st) ws o :=
  fun a h ok ls H locs hl hP hD hS => lv_iadd ok.1 ok.2.1 d (k a h ok ls H locs hl hP hD hS)
theorem JO.isub {x y : Int32} (d : decode M.1 pc = .ok (.isub, 1)) (k : JO X M Qf (pc + 1) lv (.int (x - y) :: st) ws o) : JO X M Qf pc lv (.int y :: .int x :: st) ws o :=
  fun a h ok ls H locs hl hP hD hS => lv_isub ok.1 ok.2.1 d (k a h ok ls H locs hl hP hD hS)
theorem JO.imul {x y : Int32} (d : decode M.1 pc = .ok (.imul, 1)) (k : JO X M Qf (pc + 1) lv (.int (x * y) :: st) ws o) : JO X M Qf pc lv (.int y :: .int x :: st) ws o :=
  fun a h ok ls H locs hl hP hD hS => lv_imul ok.1 ok.2.1 d (k a h ok ls H locs hl hP hD hS)
theorem JO.iand {x y : Int32} (d : decode M.1 pc = .ok (.iand, 1)) (k : JO X M Qf (pc + 1) lv (.int (x &&& y) :: st) ws o) : JO X M Qf pc lv (.int y :: .int x :: st) ws o :=
  fun a h ok ls H locs hl hP hD hS => lv_iand ok.1 ok.2.1 d (k a h ok ls H locs hl hP hD hS)
theorem JO.ior {x y : Int32} (d : decode M.1 pc = .ok (.ior, 1)) (k : JO X M Qf (pc + 1) lv (.int (x ||| y) :: st) ws o) : JO X M Qf pc lv (.int y :: .int x :: st) ws o :=
  fun a h ok ls H locs hl hP hD hS => lv_ior ok.1 ok.2.1 d (k a h ok ls H locs hl hP hD hS)
theorem JO.ixor {x y : Int32} (d : decode M.1 pc = .ok (.ixor, 1)) (k : JO X M Qf (pc + 1) lv (.int (x ^^^ y) :: st) ws o) : JO X M Qf pc lv (.int y :: .int x :: st) ws o :=
  fun a h ok ls H locs hl hP hD hS => lv_ixor ok.1 ok.2.1 d (k a h ok ls H locs hl hP hD hS)
theorem JO.ishl {x y : Int32} (d : decode M.1 pc = .ok (.ishl, 1)) (k : JO X M Qf (pc + 1) lv (.int (x <<< (y &&& 31)) :: st) ws o) : JO X M Qf pc lv (.int y :: .int x :: st) ws o :=
  fun a h ok ls H locs hl hP hD hS => lv_ishl ok.1 ok.2.1 d (k a h ok ls H locs hl hP hD hS)
theorem JO.ishr {x y : Int32} (d : decode M.1 pc = .ok (.ishr, 1)) (k : JO X M Qf (pc + 1) lv (.int (x >>> (y &&& 31)) :: st) ws o) : JO X M Qf pc lv (.int y :: .int x :: st) ws o :=
  fun a h ok ls H locs hl hP hD hS => lv_ishr ok.1 ok.2.1 d (k a h ok ls H locs hl hP hD hS)
theorem JO.ladd {x y : Int64} (d : decode M.1 pc = .ok (.ladd, 1)) (k : JO X M Qf (pc + 1) lv (.long (x + y) :: st) ws o) : JO X M Qf pc lv (.long y :: .long x :: st) ws o :=
  fun a h ok ls H locs hl hP hD hS => lv_ladd ok.1 ok.2.1 d (k a h ok ls H locs hl hP hD hS)
theorem JO.lsub {x y : Int64} (d : decode M.1 pc = .ok (.lsub, 1)) (k : JO X M Qf (pc + 1) lv (.long (x - y) :: st) ws o) : JO X M Qf pc lv (.long y :: .long x :: st) ws o :=
  fun a h ok ls H locs hl hP hD hS => lv_lsub ok.1 ok.2.1 d (k a h ok ls H locs hl hP hD hS)
theorem JO.land {x y : Int64} (d : decode M.1 pc = .ok (.land, 1)) (k : JO X M Qf (pc + 1) lv (.long (x &&& y) :: st) ws o) : JO X M Qf pc lv (.long y :: .long x :: st) ws o :=
  fun a h ok ls H locs hl hP hD hS => lv_land ok.1 ok.2.1 d (k a h ok ls H locs hl hP hD hS)
theorem JO.lor {x y : Int64} (d : decode M.1 pc = .ok (.lor, 1)) (k : JO X M Qf (pc + 1) lv (.long (x ||| y) :: st) ws o) : JO X M Qf pc lv (.long y :: .long x :: st) ws o :=
  fun a h ok ls H locs hl hP hD hS => lv_lor ok.1 ok.2.1 d (k a h ok ls H locs hl hP hD hS)
theorem JO.lxor {x y : Int64} (d : decode M.1 pc = .ok (.lxor, 1)) (k : JO X M Qf (pc + 1) lv (.long (x ^^^ y) :: st) ws o) : JO X M Qf pc lv (.long y :: .long x :: st) ws o :=
  fun a h ok ls H locs hl hP hD hS => lv_lxor ok.1 ok.2.1 d (k a h ok ls H locs hl hP hD hS)
theorem JO.irem {x y : Int32} (d : decode M.1 pc = .ok (.irem, 1)) (k : JO X M Qf (pc + 1) lv (.int (x - x / y * y) :: st) ws o) : JO X M Qf pc lv (.int y :: .int x :: st) ws (if y = 0 then none else o) := by
  intro a h ok ls H locs hl hP hD hS
  by_cases hy : y = 0
  · rw [if_pos hy] at h; cases h
  · rw [if_neg hy] at h; exact lv_irem ok.1 ok.2.1 d hy (k a h ok ls H locs hl hP hD hS)
theorem JO.iushr {x y : Int32} (d : decode M.1 pc = .ok (.iushr, 1)) (k : JO X M Qf (pc + 1) lv (.int (x.toUInt32 >>> (y.toUInt32 &&& Int32.toUInt32 31)).toInt32 :: st) ws o) : JO X M Qf pc lv (.int y :: .int x :: st) ws o :=
  fun a h ok ls H locs hl hP hD hS => lv_iushr ok.1 ok.2.1 d rfl (k a h ok ls H locs hl hP hD hS)
theorem JO.lushr {x : Int64} {y : Int32} (d : decode M.1 pc = .ok (.lushr, 1)) (k : JO X M Qf (pc + 1) lv (.long (x.toUInt64 >>> (y.toInt64.toUInt64 &&& Int64.toUInt64 63)).toInt64 :: st) ws o) : JO X M Qf pc lv (.int y :: .long x :: st) ws o :=
  fun a h ok ls H locs hl hP hD hS => lv_lushr ok.1 ok.2.1 d rfl (k a h ok ls H locs hl hP hD hS)
theorem JO.lshl {x : Int64} {y : Int32} (d : decode M.1 pc = .ok (.lshl, 1)) (k : JO X M Qf (pc + 1) lv (.long (x <<< (y.toInt64 &&& 63)) :: st) ws o) : JO X M Qf pc lv (.int y :: .long x :: st) ws o :=
  fun a h ok ls H locs hl hP hD hS => lv_lshl ok.1 ok.2.1 d rfl (k a h ok ls H locs hl hP hD hS)
theorem JO.lcmp {x y : Int64} (d : decode M.1 pc = .ok (.lcmp, 1)) (k : JO X M Qf (pc + 1) lv (.int (lg_cmp x y) :: st) ws o) : JO X M Qf pc lv (.long y :: .long x :: st) ws o :=
  fun a h ok ls H locs hl hP hD hS => W.lcmp ok.1 ok.2.1 d (k a h ok ls H locs hl hP hD hS)
theorem JO.ineg {x : Int32} (d : decode M.1 pc = .ok (.ineg, 1)) (k : JO X M Qf (pc + 1) lv (.int (-x) :: st) ws o) : JO X M Qf pc lv (.int x :: st) ws o :=
  fun a h ok ls H locs hl hP hD hS => lv_ineg ok.1 ok.2.1 d (k a h ok ls H locs hl hP hD hS)
theorem JO.i2l {x : Int32} (d : decode M.1 pc = .ok (.i2l, 1)) (k : JO X M Qf (pc + 1) lv (.long x.toInt64 :: st) ws o) : JO X M Qf pc lv (.int x :: st) ws o :=
  fun a h ok ls H locs hl hP hD hS => lv_i2l ok.1 ok.2.1 d rfl (k a h ok ls H locs hl hP hD hS)
theorem JO.l2i {x : Int64} (d : decode M.1 pc = .ok (.l2i, 1)) (k : JO X M Qf (pc + 1) lv (.int x.toInt32 :: st) ws o) : JO X M Qf pc lv (.long x :: st) ws o :=
  fun a h ok ls H locs hl hP hD hS => lv_l2i ok.1 ok.2.1 d rfl (k a h ok ls H locs hl hP hD hS)
theorem JO.i2b {x : Int32} (d : decode M.1 pc = .ok (.i2b, 1)) (k : JO X M Qf (pc + 1) lv (.int x.toInt8.toInt32 :: st) ws o) : JO X M Qf pc lv (.int x :: st) ws o :=
  fun a h ok ls H locs hl hP hD hS => lv_i2b ok.1 ok.2.1 d rfl (k a h ok ls H locs hl hP hD hS)
theorem JO.i2s {x : Int32} (d : decode M.1 pc = .ok (.i2s, 1)) (k : JO X M Qf (pc + 1) lv (.int x.toInt16.toInt32 :: st) ws o) : JO X M Qf pc lv (.int x :: st) ws o :=
  fun a h ok ls H locs hl hP hD hS => lv_i2s ok.1 ok.2.1 d rfl (k a h ok ls H locs hl hP hD hS)
theorem JO.dup {va : Value} (d : decode M.1 pc = .ok (.dup, 1)) (hva : va.category = 1) (k : JO X M Qf (pc + 1) lv (va :: va :: st) ws o) : JO X M Qf pc lv (va :: st) ws o :=
  fun a h ok ls H locs hl hP hD hS => lv_dup ok.1 ok.2.1 d hva (k a h ok ls H locs hl hP hD hS)
theorem JO.pop {va : Value} (d : decode M.1 pc = .ok (.pop, 1)) (hva : va.category = 1) (k : JO X M Qf (pc + 1) lv st ws o) : JO X M Qf pc lv (va :: st) ws o :=
  fun a h ok ls H locs hl hP hD hS => lv_pop ok.1 ok.2.1 d hva (k a h ok ls H locs hl hP hD hS)
theorem JO.dup_x1 {va vb : Value} (d : decode M.1 pc = .ok (.dup_x1, 1)) (hva : va.category = 1) (hvb : vb.category = 1) (k : JO X M Qf (pc + 1) lv (va :: vb :: va :: st) ws o) : JO X M Qf pc lv (va :: vb :: st) ws o :=
  fun a h ok ls H locs hl hP hD hS => lv_dup_x1 ok.1 ok.2.1 d hva hvb (k a h ok ls H locs hl hP hD hS)
theorem JO.dup2 {va vb : Value} (d : decode M.1 pc = .ok (.dup2, 1)) (hva : va.category = 1) (hvb : vb.category = 1) (k : JO X M Qf (pc + 1) lv (va :: vb :: va :: vb :: st) ws o) : JO X M Qf pc lv (va :: vb :: st) ws o :=
  fun a h ok ls H locs hl hP hD hS => lv_dup2_11 ok.1 ok.2.1 d hva hvb (k a h ok ls H locs hl hP hD hS)
theorem JO.goto {off : Int} (tgt : Nat) (d : decode M.1 pc = .ok (.goto off, 3)) (ht : (pc : Int) + off = (tgt : Int)) (k : JO X M Qf tgt lv st ws o) : JO X M Qf pc lv st ws o :=
  fun a h ok ls H locs hl hP hD hS => lv_goto ok.1 ok.2.1 d ht (k a h ok ls H locs hl hP hD hS)
theorem JO.icmp_eq {x y : Int32} {off : Int} (tgt : Nat) (d : decode M.1 pc = .ok (.if_icmp .eq off, 3)) (ht : (pc : Int) + off = (tgt : Int)) (kt : JO X M Qf tgt lv st ws o1) (kf : JO X M Qf (pc + 3) lv st ws o2) : JO X M Qf pc lv (.int y :: .int x :: st) ws (if x = y then o1 else o2) :=
  fun a h ok ls H locs hl hP hD hS => lv_icmp_eq ok.1 ok.2.1 d ht (fun c => kt a (by rw [if_pos c] at h; exact h) ok ls H locs hl hP hD hS) (fun c => kf a (by rw [if_neg c] at h; exact h) ok ls H locs hl hP hD hS)
theorem JO.if_eq {x : Int32} {off : Int} (tgt : Nat) (d : decode M.1 pc = .ok (.ifCond .eq off, 3)) (ht : (pc : Int) + off = (tgt : Int)) (kt : JO X M Qf tgt lv st ws o1) (kf : JO X M Qf (pc + 3) lv st ws o2) : JO X M Qf pc lv (.int x :: st) ws (if x = 0 then o1 else o2) :=
  fun a h ok ls H locs hl hP hD hS => lv_if_eq ok.1 ok.2.1 d ht (fun c => kt a (by rw [if_pos c] at h; exact h) ok ls H locs hl hP hD hS) (fun c => kf a (by rw [if_neg c] at h; exact h) ok ls H locs hl hP hD hS)
theorem JO.icmp_ne {x y : Int32} {off : Int} (tgt : Nat) (d : decode M.1 pc = .ok (.if_icmp .ne off, 3)) (ht : (pc : Int) + off = (tgt : Int)) (kt : JO X M Qf tgt lv st ws o1) (kf : JO X M Qf (pc + 3) lv st ws o2) : JO X M Qf pc lv (.int y :: .int x :: st) ws (if x = y then o2 else o1) :=
  fun a h ok ls H locs hl hP hD hS => lv_icmp_ne ok.1 ok.2.1 d ht (fun c => kt a (by rw [if_neg c] at h; exact h) ok ls H locs hl hP hD hS) (fun c => kf a (by rw [if_pos c] at h; exact h) ok ls H locs hl hP hD hS)
theorem JO.if_ne {x : Int32} {off : Int} (tgt : Nat) (d : decode M.1 pc = .ok (.ifCond .ne off, 3)) (ht : (pc : Int) + off = (tgt : Int)) (kt : JO X M Qf tgt lv st ws o1) (kf : JO X M Qf (pc + 3) lv st ws o2) : JO X M Qf pc lv (.int x :: st) ws (if x = 0 then o2 else o1) :=
  fun a h ok ls H locs hl hP hD hS => lv_if_ne ok.1 ok.2.1 d ht (fun c => kt a (by rw [if_neg c] at h; exact h) ok ls H locs hl hP hD hS) (fun c => kf a (by rw [if_pos c] at h; exact h) ok ls H locs hl hP hD hS)
theorem JO.icmp_lt {x y : Int32} {off : Int} (tgt : Nat) (d : decode M.1 pc = .ok (.if_icmp .lt off, 3)) (ht : (pc : Int) + off = (tgt : Int)) (kt : JO X M Qf tgt lv st ws o1) (kf : JO X M Qf (pc + 3) lv st ws o2) : JO X M Qf pc lv (.int y :: .int x :: st) ws (if x < y then o1 else o2) :=
  fun a h ok ls H locs hl hP hD hS => lv_icmp_lt ok.1 ok.2.1 d ht (fun c => kt a (by rw [if_pos c] at h; exact h) ok ls H locs hl hP hD hS) (fun c => kf a (by rw [if_neg c] at h; exact h) ok ls H locs hl hP hD hS)
theorem JO.if_lt {x : Int32} {off : Int} (tgt : Nat) (d : decode M.1 pc = .ok (.ifCond .lt off, 3)) (ht : (pc : Int) + off = (tgt : Int)) (kt : JO X M Qf tgt lv st ws o1) (kf : JO X M Qf (pc + 3) lv st ws o2) : JO X M Qf pc lv (.int x :: st) ws (if x < 0 then o1 else o2) :=
  fun a h ok ls H locs hl hP hD hS => lv_if_lt ok.1 ok.2.1 d ht (fun c => kt a (by rw [if_pos c] at h; exact h) ok ls H locs hl hP hD hS) (fun c => kf a (by rw [if_neg c] at h; exact h) ok ls H locs hl hP hD hS)
theorem JO.icmp_ge {x y : Int32} {off : Int} (tgt : Nat) (d : decode M.1 pc = .ok (.if_icmp .ge off, 3)) (ht : (pc : Int) + off = (tgt : Int)) (kt : JO X M Qf tgt lv st ws o1) (kf : JO X M Qf (pc + 3) lv st ws o2) : JO X M Qf pc lv (.int y :: .int x :: st) ws (if y ≤ x then o1 else o2) :=
  fun a h ok ls H locs hl hP hD hS => lv_icmp_ge ok.1 ok.2.1 d ht (fun c => kt a (by rw [if_pos c] at h; exact h) ok ls H locs hl hP hD hS) (fun c => kf a (by rw [if_neg c] at h; exact h) ok ls H locs hl hP hD hS)
theorem JO.if_ge {x : Int32} {off : Int} (tgt : Nat) (d : decode M.1 pc = .ok (.ifCond .ge off, 3)) (ht : (pc : Int) + off = (tgt : Int)) (kt : JO X M Qf tgt lv st ws o1) (kf : JO X M Qf (pc + 3) lv st ws o2) : JO X M Qf pc lv (.int x :: st) ws (if 0 ≤ x then o1 else o2) :=
  fun a h ok ls H locs hl hP hD hS => lv_if_ge ok.1 ok.2.1 d ht (fun c => kt a (by rw [if_pos c] at h; exact h) ok ls H locs hl hP hD hS) (fun c => kf a (by rw [if_neg c] at h; exact h) ok ls H locs hl hP hD hS)
theorem JO.icmp_gt {x y : Int32} {off : Int} (tgt : Nat) (d : decode M.1 pc = .ok (.if_icmp .gt off, 3)) (ht : (pc : Int) + off = (tgt : Int)) (kt : JO X M Qf tgt lv st ws o1) (kf : JO X M Qf (pc + 3) lv st ws o2) : JO X M Qf pc lv (.int y :: .int x :: st) ws (if y < x then o1 else o2) :=
  fun a h ok ls H locs hl hP hD hS => lv_icmp_gt ok.1 ok.2.1 d ht (fun c => kt a (by rw [if_pos c] at h; exact h) ok ls H locs hl hP hD hS) (fun c => kf a (by rw [if_neg c] at h; exact h) ok ls H locs hl hP hD hS)
theorem JO.if_gt {x : Int32} {off : Int} (tgt : Nat) (d : decode M.1 pc = .ok (.ifCond .gt off, 3)) (ht : (pc : Int) + off = (tgt : Int)) (kt : JO X M Qf tgt lv st ws o1) (kf : JO X M Qf (pc + 3) lv st ws o2) : JO X M Qf pc lv (.int x :: st) ws (if 0 < x then o1 else o2) :=
  fun a h ok ls H locs hl hP hD hS => lv_if_gt ok.1 ok.2.1 d ht (fun c => kt a (by rw [if_pos c] at h; exact h) ok ls H locs hl hP hD hS) (fun c => kf a (by rw [if_neg c] at h; exact h) ok ls H locs hl hP hD hS)
theorem JO.icmp_le {x y : Int32} {off : Int} (tgt : Nat) (d : decode M.1 pc = .ok (.if_icmp .le off, 3)) (ht : (pc : Int) + off = (tgt : Int)) (kt : JO X M Qf tgt lv st ws o1) (kf : JO X M Qf (pc + 3) lv st ws o2) : JO X M Qf pc lv (.int y :: .int x :: st) ws (if x ≤ y then o1 else o2) :=
  fun a h ok ls H locs hl hP hD hS => lv_icmp_le ok.1 ok.2.1 d ht (fun c => kt a (by rw [if_pos c] at h; exact h) ok ls H locs hl hP hD hS) (fun c => kf a (by rw [if_neg c] at h; exact h) ok ls H locs hl hP hD hS)
theorem JO.if_le {x : Int32} {off : Int} (tgt : Nat) (d : decode M.1 pc = .ok (.ifCond .le off, 3)) (ht : (pc : Int) + off = (tgt : Int)) (kt : JO X M Qf tgt lv st ws o1) (kf : JO X M Qf (pc + 3) lv st ws o2) : JO X M Qf pc lv (.int x :: st) ws (if x ≤ 0 then o1 else o2) :=
  fun a h ok ls H locs hl hP hD hS => lv_if_le ok.1 ok.2.1 d ht (fun c => kt a (by rw [if_pos c] at h; exact h) ok ls H locs hl hP hD hS) (fun c => kf a (by rw [if_neg c] at h; exact h) ok ls H locs hl hP hD hS)
theorem bI_0 {b : Bool} : bI b = 0 ↔ ¬ b = true := by cases b <;> simp [bI]
theorem JO.zeq {b : Bool} {off : Int} (tgt : Nat) (d : decode M.1 pc = .ok (.ifCond .eq off, 3)) (ht : (pc : Int) + off = (tgt : Int)) (kt : JO X M Qf tgt lv st ws o1) (kf : JO X M Qf (pc + 3) lv st ws o2) : JO X M Qf pc lv (.int (bI b) :: st) ws (if b = true then o2 else o1) :=
  fun a h ok ls H locs hl hP hD hS => lv_if_eq ok.1 ok.2.1 d ht (fun c => kt a (by rw [if_neg (bI_0.mp c)] at h; exact h) ok ls H locs hl hP hD hS) (fun c => kf a (by rw [if_pos (Decidable.not_not.mp (fun q => c (bI_0.mpr q)))] at h; exact h) ok ls H locs hl hP hD hS)
theorem JO.zne {b : Bool} {off : Int} (tgt : Nat) (d : decode M.1 pc = .ok (.ifCond .ne off, 3)) (ht : (pc : Int) + off = (tgt : Int)) (kt : JO X M Qf tgt lv st ws o1) (kf : JO X M Qf (pc + 3) lv st ws o2) : JO X M Qf pc lv (.int (bI b) :: st) ws (if b = true then o1 else o2) :=
  fun a h ok ls H locs hl hP hD hS => lv_if_ne ok.1 ok.2.1 d ht (fun c => kt a (by rw [if_pos (Decidable.not_not.mp (fun q => c (bI_0.mpr q)))] at h; exact h) ok ls H locs hl hP hD hS) (fun c => kf a (by rw [if_neg (bI_0.mp c)] at h; exact h) ok ls H locs hl hP hD hS)
/-- a constant 0 or 1, read as a truth value -/
theorem JO.zc {n : Int} (b : Bool) (d : decode M.1 pc = .ok (.iconst n, 1)) (hv : Int32.ofInt n = bI b) (k : JO X M Qf (pc + 1) lv (.int (bI b) :: st) ws o) : JO X M Qf pc lv st ws o :=
  fun a h ok ls H locs hl hP hD hS => lv_iconst ok.1 ok.2.1 d hv (k a h ok ls H locs hl hP hD hS)
/-- a field read -/
theorem JO.get {q0 ci N index b : Nat} {fs : List Value} {C ref : String} {T : u_T} {v : Value} (hc : vwCl[ci]? = some (C, T, N)) (hin : ∀ w ∈ u_ws C T N, w ∈ TT) (he : ws[q0]? = some (b, .inr (ci, fs))) (k : Nat) (hk : decide (k < N) = true) (w : Cond.fieldLink M.2.2.1 index ref (T k).2.1 (T k).2.2.1 ∈ TT) (hs : (T k).1 = ref ∨ Cond.sameField ref (T k).1 (T k).2.1 (T k).2.2.1 ∈ TT) (hv : fs[k]? = some v) (d : decode M.1 pc = .ok (.getfield index, 3)) (kk : JO X M Qf (pc + 3) lv (v :: st) ws o) : JO X M Qf pc lv (.ref b :: st) ws o :=
  fun a h ok ls H locs hl hP hD hS => va_get ok.1 ok.2.1 ok.2.2.2.2.2.2.2.1 hin ok.2.2.2.1 ok.2.2.2.2.2.2.2.2.2.1 hP q0 he hc k (of_decide_eq_true hk) (ok.2.2.2.2.2.2.2.1 _ w) (hs.elim (fun e x q => by rw [← e]; exact q) (fun m => u_same (ok.2.2.2.2.2.2.2.1 _ m))) hv d (kk a h ok ls H locs hl hP hD hS)
/-- a field written -/
theorem JO.put {q0 ci N index b : Nat} {fs : List Value} {C ref : String} {T : u_T} {v : Value} {ws' : va_W} {ty : FieldType} (tys : Nat → FieldType) (hty : ∀ k, k < N → parseFieldDescriptor (T k).2.2.1 = some (tys k)) (hnm : ∀ a, a < N → ∀ b, b < N → a ≠ b → (T a).2.1 ≠ (T b).2.1) (hc : vwCl[ci]? = some (C, T, N)) (hin : ∀ w ∈ u_ws C T N, w ∈ TT) (he : ws[q0]? = some (b, .inr (ci, fs))) (k : Nat) (hk : decide (k < N) = true) (w : Cond.fieldLink M.2.2.1 index ref (T k).2.1 (T k).2.2.1 ∈ TT) (hs : (T k).1 = ref ∨ Cond.sameField ref (T k).1 (T k).2.1 (T k).2.2.1 ∈ TT) (hf : (T k).2.2.2 = false) (hd : parseFieldDescriptor (T k).2.2.1 = some ty) (hn : narrow ty v = v) (hfit : fits ty v = true) (hl2 : k < fs.length) (hw : ws.set q0 (b, .inr (ci, fs.set k v)) = ws') (d : decode M.1 pc = .ok (.putfield index, 3)) (kk : JO X M Qf (pc + 3) lv st ws' o) : JO X M Qf pc lv (v :: .ref b :: st) ws o :=
  fun a h ok ls H locs hl hP hD hS => va_put ok.1 ok.2.1 ok.2.2.2.2.2.2.2.1 hin tys hty hnm ok.2.2.2.1 ok.2.2.2.2.2.2.2.2.2.1 hP hD hS q0 he hc k (of_decide_eq_true hk) (ok.2.2.2.2.2.2.2.1 _ w) (hs.elim (fun e x q => by rw [← e]; exact q) (fun m => u_same (ok.2.2.2.2.2.2.2.1 _ m))) hf hd hn hfit hl2 d (fun H1 locs1 hP1 hD1 hS1 => kk a h ok ls H1 locs1 hl (hw ▸ hP1) (hw ▸ hD1) hS1)
/-- an element read -/
theorem JO.iald {q0 n b : Nat} {f : Nat → Int32} {i : Int32} (he : ws[q0]? = some (b, .inl ((xZ X).1, n, .inl f))) (d : decode M.1 pc = .ok (.iaload, 1)) (kk : JO X M Qf (pc + 1) lv (.int (f (ix i)) :: st) ws o) : JO X M Qf pc lv (.int i :: .ref b :: st) ws (if inB i n = true then o else none) := by
  intro a h ok ls H locs hl hP hD hS
  by_cases hi : inB i n = true
  · rw [if_pos hi] at h
    exact va_iald ok.1 ok.2.1 ok.2.2.2.2.2.2.2.2.2.1 hP q0 0 he rfl (inB_in hi) d (kk a h ok ls H locs hl hP hD hS)
  · rw [if_neg hi] at h; cases h
theorem JO.lald {q0 n b : Nat} {f : Nat → Int64} {i : Int32} (he : ws[q0]? = some (b, .inl ((xZ X).2.1, n, .inr (.inl f)))) (d : decode M.1 pc = .ok (.laload, 1)) (kk : JO X M Qf (pc + 1) lv (.long (f (ix i)) :: st) ws o) : JO X M Qf pc lv (.int i :: .ref b :: st) ws (if inB i n = true then o else none) := by
  intro a h ok ls H locs hl hP hD hS
  by_cases hi : inB i n = true
  · rw [if_pos hi] at h
    exact va_lald ok.1 ok.2.1 ok.2.2.2.2.2.2.2.2.2.1 hP q0 1 he rfl (inB_in hi) d (kk a h ok ls H locs hl hP hD hS)
  · rw [if_neg hi] at h; cases h
theorem JO.iast {q0 n b : Nat} {f : Nat → Int32} {i x : Int32} {ws' : va_W} (he : ws[q0]? = some (b, .inl ((xZ X).1, n, .inl f))) (hw : ws.set q0 (b, .inl ((xZ X).1, n, .inl (upd f (ix i) x))) = ws') (d : decode M.1 pc = .ok (.iastore, 1)) (kk : JO X M Qf (pc + 1) lv st ws' o) : JO X M Qf pc lv (.int x :: .int i :: .ref b :: st) ws (if inB i n = true then o else none) := by
  intro a h ok ls H locs hl hP hD hS
  by_cases hi : inB i n = true
  · rw [if_pos hi] at h
    exact va_iast ok.1 ok.2.1 ok.2.2.2.2.2.2.2.2.2.1 hP hD hS q0 0 he rfl (inB_in hi) d (fun H1 locs1 hP1 hD1 hS1 => kk a h ok ls H1 locs1 hl (hw ▸ hP1) (hw ▸ hD1) hS1)
  · rw [if_neg hi] at h; cases h
theorem JO.last {q0 n b : Nat} {f : Nat → Int64} {i : Int32} {x : Int64} {ws' : va_W} (he : ws[q0]? = some (b, .inl ((xZ X).2.1, n, .inr (.inl f)))) (hw : ws.set q0 (b, .inl ((xZ X).2.1, n, .inr (.inl (vp_updL f (ix i) x)))) = ws') (d : decode M.1 pc = .ok (.lastore, 1)) (kk : JO X M Qf (pc + 1) lv st ws' o) : JO X M Qf pc lv (.long x :: .int i :: .ref b :: st) ws (if inB i n = true then o else none) := by
  intro a h ok ls H locs hl hP hD hS
  by_cases hi : inB i n = true
  · rw [if_pos hi] at h
    exact va_last ok.1 ok.2.1 ok.2.2.2.2.2.2.2.2.2.1 hP hD hS q0 1 he rfl (inB_in hi) d (fun H1 locs1 hP1 hD1 hS1 => kk a h ok ls H1 locs1 hl (hw ▸ hP1) (hw ▸ hD1) hS1)
  · rw [if_neg hi] at h; cases h
theorem JO.alen {q0 b : Nat} {cA : ClassId} {x : vp_A} (t0 : Nat) {ty : FieldType} (he : ws[q0]? = some (b, .inl (cA, x))) (ht : (xtys X)[t0]? = some (cA, ty)) (v : Int32) (hv : Int32.ofNat x.1 = v) (d : decode M.1 pc = .ok (.arraylength, 1)) (kk : JO X M Qf (pc + 1) lv (.int v :: st) ws o) : JO X M Qf pc lv (.ref b :: st) ws o :=
  fun a h ok ls H locs hl hP hD hS => va_alen ok.1 ok.2.1 ok.2.2.2.2.2.2.2.2.2.1 hP q0 t0 he ht hv d (kk a h ok ls H locs hl hP hD hS)
/-- a switch, as a row of tests -/
def sw (x : Int32) : List (Int32 × Nat × Option α) → Option α → Option α
  | [], d => d
  | e :: r, d => if x = e.1 then e.2.2 else sw x r d
theorem sw_in {x : Int32} {od : Option α} : ∀ (L : List (Int32 × Nat × Option α)), (∃ e ∈ L, x = e.1 ∧ sw x L od = e.2.2) ∨ ((∀ e ∈ L, x ≠ e.1) ∧ sw x L od = od)
  | [] => Or.inr ⟨fun _ h => absurd h List.not_mem_nil, rfl⟩
  | e :: r => by
    by_cases hx : x = e.1
    · exact Or.inl ⟨e, List.mem_cons_self, hx, by unfold sw; rw [if_pos hx]⟩
    · rcases sw_in r (x := x) (od := od) with ⟨e', h1, h2, h3⟩ | ⟨h1, h2⟩
      · exact Or.inl ⟨e', List.mem_cons_of_mem _ h1, h2, by unfold sw; rw [if_neg hx]; exact h3⟩
      · exact Or.inr ⟨fun e' h => by rcases List.mem_cons.mp h with rfl | h; exact hx; exact h1 e' h, by unfold sw; rw [if_neg hx]; exact h2⟩
theorem JO.swNil : ∀ e ∈ ([] : List (Int32 × Nat × Option α)), JO X M Qf e.2.1 lv st ws e.2.2 := fun _ h => absurd h List.not_mem_nil
theorem JO.swCons {k : Int32} {t : Nat} {L : List (Int32 × Nat × Option α)} (h : JO X M Qf t lv st ws o) (r : ∀ e ∈ L, JO X M Qf e.2.1 lv st ws e.2.2) : ∀ e ∈ (k, t, o) :: L, JO X M Qf e.2.1 lv st ws e.2.2 := List.forall_mem_cons.mpr ⟨h, r⟩
theorem JO.tsw {dflt lo hi : Int} {offs : Array Int} {len : Nat} {x : Int32} {od : Option α} (L : List (Int32 × Nat × Option α)) (td : Nat) (ks : List (Int32 × Nat)) (d : decode M.1 pc = .ok (.tableswitch dflt lo hi offs, len)) (hks : L.map (fun e => (e.1, e.2.1)) = ks)
    (hL : (ks.all fun e => decide (lo ≤ e.1.toInt) && decide (e.1.toInt ≤ hi) && (offs[(e.1.toInt - lo).toNat]? == some ((e.2 : Int) - pc))) = true) (htd : (pc : Int) + dflt = td)
    (hR : ((List.range (hi - lo + 1).toNat).all fun i => (offs[i]? == some ((td : Int) - pc)) || ks.any fun e => e.1.toInt == lo + i) = true)
    (k : ∀ e ∈ L, JO X M Qf e.2.1 lv st ws e.2.2) (kd : JO X M Qf td lv st ws od) : JO X M Qf pc lv (.int x :: st) ws (sw x L od) := by
  intro a h ok ls H locs hl hP hD hS
  subst hks
  rcases sw_in L (x := x) (od := od) with ⟨e, h1, h2, h3⟩ | ⟨h1, h2⟩
  · have hc := List.all_eq_true.mp hL (e.1, e.2.1) (List.mem_map.mpr ⟨e, h1, rfl⟩)
    simp only [Bool.and_eq_true, decide_eq_true_eq, beq_iff_eq] at hc
    rw [h3] at h
    rw [← h2] at hc
    exact lv_tableIn ok.1 ok.2.1 d (by omega) (by omega) hc.2 (tgt := e.2.1) (by omega) (k e h1 a h ok ls H locs hl hP hD hS)
  · rw [h2] at h
    by_cases hb : x.toInt < lo ∨ hi < x.toInt
    · exact lv_tableOut ok.1 ok.2.1 d hb htd (kd a h ok ls H locs hl hP hD hS)
    · have hlt : (x.toInt - lo).toNat < (hi - lo + 1).toNat := by omega
      have hc := List.all_eq_true.mp hR _ (List.mem_range.mpr hlt)
      rcases Bool.or_eq_true _ _ ▸ hc with hc | hc
      · exact lv_tableIn ok.1 ok.2.1 d (by omega) (by omega) (by simpa using hc) (tgt := td) (by omega) (kd a h ok ls H locs hl hP hD hS)
      · exfalso
        obtain ⟨e, he, hx⟩ := List.any_eq_true.mp hc
        obtain ⟨e', he', rfl⟩ := List.mem_map.mp he
        refine h1 e' he' (Int32.toInt_inj.mp ?_)
        simp only [beq_iff_eq] at hx
        omega
end JR
/-- the end of a method whose answer and cells are those of a -/
def QF {α : Type} (X : JX) (enc : α → Option Value) (wo : α → va_W) (a : α) : State → Prop :=
  MQ (xbelow X) (fun _ st oc t => (oc = .returned (enc a) ∧ va_P (xD X) vwCl (wo a) t.heap ∧ va_K (xD X) vwCl (xtys X) t) ∧ va_F (xA X) st t) (xargs X) (xs X) (xk X).1 (xk X).2 (xA X)
section JE
variable {α : Type} {X : JX} {M : JM} {pc : Nat} {lv : List (Option Value)} {ws : va_W} {enc : α → Option Value} {wo : α → va_W} {a : α}
theorem JO.iret {v : Int32} (d : decode M.1 pc = .ok (.ireturn, 1)) (hr : M.2.2.2.1 = some .int) (he : enc a = some (.int v)) (hw : wo a = ws) : JO X M (QF X enc wo) pc lv [.int v] ws (some a) := by
  intro a' h ok ls H locs hl hP hD hS
  cases h
  exact W.iret ok.1 ok.2.1 (ok.2.2.2.2.1.trans hr) (fun t ht hW => ⟨⟨by rw [he], by rw [ht, hw]; exact hP, va_K.moved hW.alike ok.2.2.2.2.2.2.2.2.2.1⟩, hS.F ht⟩) hS.2.2 d (hlocks := ok.2.2.2.2.2.2.2.2.1)
theorem JO.zret {b : Bool} (d : decode M.1 pc = .ok (.ireturn, 1)) (hr : M.2.2.2.1 = some .boolean) (he : enc a = some (.int (bI b))) (hw : wo a = ws) : JO X M (QF X enc wo) pc lv [.int (bI b)] ws (some a) := by
  intro a' h ok ls H locs hl hP hD hS
  cases h
  exact W.zret ok.1 ok.2.1 (ok.2.2.2.2.1.trans hr) (by cases b <;> decide) (fun t ht hW => ⟨⟨by rw [he], by rw [ht, hw]; exact hP, va_K.moved hW.alike ok.2.2.2.2.2.2.2.2.2.1⟩, hS.F ht⟩) hS.2.2 d (hlocks := ok.2.2.2.2.2.2.2.2.1)
theorem JO.lret {v : Int64} (d : decode M.1 pc = .ok (.lreturn, 1)) (hr : M.2.2.2.1 = some .long) (he : enc a = some (.long v)) (hw : wo a = ws) : JO X M (QF X enc wo) pc lv [.long v] ws (some a) := by
  intro a' h ok ls H locs hl hP hD hS
  cases h
  exact W.lret ok.1 ok.2.1 (ok.2.2.2.2.1.trans hr) (fun t ht hW => ⟨⟨by rw [he], by rw [ht, hw]; exact hP, va_K.moved hW.alike ok.2.2.2.2.2.2.2.2.2.1⟩, hS.F ht⟩) hS.2.2 d (hlocks := ok.2.2.2.2.2.2.2.2.1)
theorem JO.vret (d : decode M.1 pc = .ok (.return_, 1)) (hr : M.2.2.2.1 = Option.none) (he : enc a = Option.none) (hw : wo a = ws) : JO X M (QF X enc wo) pc lv [] ws (some a) := by
  intro a' h ok ls H locs hl hP hD hS
  cases h
  exact W.vret ok.1 ok.2.1 (ok.2.2.2.2.1.trans hr) (fun t ht hW => ⟨⟨by rw [he], by rw [ht, hw]; exact hP, va_K.moved hW.alike ok.2.2.2.2.2.2.2.2.2.1⟩, hS.F ht⟩) hS.2.2 d (hlocks := ok.2.2.2.2.2.2.2.2.1)
theorem JO.aret {v : Value} {rt : FieldType} (d : decode M.1 pc = .ok (.areturn, 1)) (hr : M.2.2.2.1 = some rt) (hrt : (∃ n, rt = .object n) ∨ ∃ t, rt = .array t) (hv : v = .null ∨ ∃ q, v = .ref q) (he : enc a = some v) (hw : wo a = ws) : JO X M (QF X enc wo) pc lv [v] ws (some a) := by
  intro a' h ok ls H locs hl hP hD hS
  cases h
  exact W.aret ok.1 ok.2.1 (ok.2.2.2.2.1.trans hr) hrt hv (fun t ht hW => ⟨⟨by rw [he], by rw [ht, hw]; exact hP, va_K.moved hW.alike ok.2.2.2.2.2.2.2.2.2.1⟩, hS.F ht⟩) hS.2.2 d (hlocks := ok.2.2.2.2.2.2.2.2.1)
end JE
