/-! BITS (the first rows pasted from kit/laws/BITS.to-paste) -/
def bt (x : Int32) (i : Nat) : Bool := x.toBitVec.getLsbD i
theorem b_ext {x y : Int32} (h : ∀ i, i < 32 → bt x i = bt y i) : x = y := Int32.toBitVec_inj.mp (BitVec.eq_of_getLsbD_eq (fun i hi => h i hi))
theorem b_or (x y : Int32) (i : Nat) : bt (x ||| y) i = (bt x i || bt y i) := by unfold bt; rw [Int32.toBitVec_or, BitVec.getLsbD_or]
theorem b_and (x y : Int32) (i : Nat) : bt (x &&& y) i = (bt x i && bt y i) := by unfold bt; rw [Int32.toBitVec_and, BitVec.getLsbD_and]
theorem b_xor (x y : Int32) (i : Nat) : bt (x ^^^ y) i = (bt x i ^^ bt y i) := by unfold bt; rw [Int32.toBitVec_xor, BitVec.getLsbD_xor]
theorem b_big {x : Int32} {i : Nat} (h : 32 ≤ i) : bt x i = false := BitVec.getLsbD_of_ge _ _ h
theorem b_m1 : ∀ i, i < 32 → bt (-1) i = true := by decide +kernel
theorem b_0 (i : Nat) : bt 0 i = false := BitVec.getLsbD_zero
theorem s_l : ∀ n, n < 32 → ((nI n &&& 31).toBitVec.smod 32).toNat = n := by decide +kernel
theorem s_u : ∀ n, n < 32 → (((nI n).toUInt32 &&& Int32.toUInt32 31).toBitVec % 32).toNat = n := by decide +kernel
theorem b_shl (n : Nat) (hn : n < 32) (x : Int32) {i : Nat} (hi : i < 32) : bt (x <<< (nI n &&& 31)) i = (decide (n ≤ i) && bt x (i - n)) := by
  unfold bt
  rw [Int32.toBitVec_shiftLeft]
  show (x.toBitVec <<< ((nI n &&& 31).toBitVec.smod 32).toNat).getLsbD i = _
  rw [s_l n hn, BitVec.getLsbD_shiftLeft]
  rcases Nat.lt_or_ge i n with h | h
  · simp [h, Nat.not_le.mpr h]
  · simp [hi, h, Nat.not_lt.mpr h]
theorem b_sshr (n : Nat) (hn : n < 32) (x : Int32) {i : Nat} (hi : i < 32) : bt (x >>> (nI n &&& 31)) i = if n + i < 32 then bt x (n + i) else bt x 31 := by
  unfold bt
  rw [Int32.toBitVec_shiftRight]
  show (x.toBitVec.sshiftRight ((nI n &&& 31).toBitVec.smod 32).toNat).getLsbD i = _
  rw [s_l n hn, BitVec.getLsbD_sshiftRight, BitVec.msb_eq_getLsbD_last]
  simp [hi]
theorem ts_nf {x : Bool} (h : ¬ x = false) : x = true := by cases x <;> first | rfl | exact absurd rfl h
theorem ts_nt {x : Bool} (h : ¬ x = true) : x = false := by cases x <;> first | rfl | exact absurd rfl h
theorem ts_bit {w : Int64} {s : UInt64} {j : Nat} (hj : j < 64) (hs : s.toNat = j) : ((w.toUInt64 >>> s).toInt64 &&& 1) = 0 ↔ w.toBitVec.getLsbD j = false := by
  have e : (w.toUInt64 >>> s).toInt64.toBitVec = w.toBitVec >>> j := by
    apply BitVec.eq_of_toNat_eq
    show (w.toUInt64 >>> s).toNat = _
    rw [UInt64.toNat_shiftRight, hs, Nat.mod_eq_of_lt hj, BitVec.toNat_ushiftRight]
    rfl
  rw [← Int64.toBitVec_inj, Int64.toBitVec_and, e]
  show w.toBitVec >>> j &&& 1#64 = 0#64 ↔ _
  constructor
  · intro h
    have t := congrArg (fun x => x.getLsbD 0) h
    simpa using t
  · intro h
    apply BitVec.eq_of_getLsbD_eq
    intro i hi
    cases i with
    | zero => simp [h]
    | succ i => simp
theorem one_bit (x : Int32) : (x &&& 1) = 0 ↔ bt x 0 = false := by
  constructor
  · intro h
    have q := congrArg (fun z => bt z 0) h
    simp only [b_and, b_0] at q
    rw [show bt 1 0 = true from by decide, Bool.and_true] at q
    exact q
  · intro h
    apply b_ext
    intro i hi
    rw [b_and, b_0]
    by_cases e : i = 0
    · rw [e, h, Bool.false_and]
    · rw [(by decide +kernel : ∀ i, i < 32 → i ≠ 0 → bt 1 i = false) i hi e, Bool.and_false]
theorem sbit_bt (c : Int32) {s : Nat} (hs : s < 32) : sbit c s = bt c s := by
  unfold sbit
  have h := one_bit (c >>> (nI s &&& 31))
  rw [b_sshr s hs c (by omega), if_pos (by omega), Nat.add_zero] at h
  cases e : bt c s
  · rw [decide_eq_true (h.mpr e)]; rfl
  · rw [decide_eq_false (fun q => by rw [h.mp q] at e; cases e)]; rfl
theorem lcmp0 (x : Int64) : lg_cmp x 0 = 0 ↔ x = 0 := by
  unfold lg_cmp
  constructor
  · intro h
    split at h
    · exact absurd h (by decide)
    · split at h
      · assumption
      · exact absurd h (by decide)
  · rintro rfl; rfl
theorem lbit_get (g : Int64) {m : Nat} (hm : m < 64) : lbit g m = g.toBitVec.getLsbD m := by
  unfold lbit
  have hs : ∀ k, k < 64 → ((Int32.toInt64 (nI k)).toUInt64 &&& Int64.toUInt64 63).toNat = k := by decide +kernel
  have h := ts_bit (w := g) hm (hs m hm)
  cases e : g.toBitVec.getLsbD m
  · rw [decide_eq_true ((lcmp0 _).mpr (h.mpr e))]; rfl
  · rw [decide_eq_false (fun q => by rw [h.mp ((lcmp0 _).mp q)] at e; cases e)]; rfl
/-- whom a set of sites names -/
def xTo (mask : Int32) (L : List Nat) : List Nat := L.filter (fun s => sbit mask s)
theorem to_ev' : ∀ n, n < 6 → 1 ≤ n → xTo (((1 : Int32) <<< ((nI n + 1) &&& 31)) - 2) (List.range' 0 (n + 1)) = List.range' 1 n := by decide +kernel
theorem to_1 : ∀ n, n < 6 → xTo 1 (List.range' 0 (n + 1)) = [0] := by decide +kernel
theorem to_one : ∀ n, n < 6 → ∀ p, p < 6 → p ≤ n → xTo ((1 : Int32) <<< (nI p &&& 31)) (List.range' 0 (n + 1)) = [p] := by decide +kernel
theorem to_ask' : ∀ n, n < 6 → ∀ p, p < 6 → 1 ≤ p → p ≤ n → xTo (((((1 : Int32) <<< ((nI n + 1) &&& 31)) - 2) ||| 1) &&& (((1 : Int32) <<< (nI p &&& 31)) ^^^ (-1))) (List.range' 0 (n + 1)) = 0 :: (List.range' 1 n).filter (fun q => decide (q ≠ p)) := by decide +kernel
theorem ev_bit : ∀ n, n < 6 → ∀ s, s < 6 → sbit (((1 : Int32) <<< ((nI n + 1) &&& 31)) - 2) s = (decide (1 ≤ s) && decide (s ≤ n)) := by decide +kernel
theorem ev_two : ∀ n, n < 6 → (((2 : Int32) <<< (nI n &&& 31)) - 2) = ((1 : Int32) <<< ((nI n + 1) &&& 31)) - 2 := by decide +kernel
theorem to_late {n : Nat} (hn : n < 6) (c : Int32) : xTo ((((1 : Int32) <<< ((nI n + 1) &&& 31)) - 2) &&& (c ^^^ (-1))) (List.range' 0 (n + 1)) = xLate c (List.range' 1 n) := by
  have key : ∀ s, s ≤ n → sbit ((((1 : Int32) <<< ((nI n + 1) &&& 31)) - 2) &&& (c ^^^ (-1))) s = (decide (1 ≤ s) && !sbit c s) := by
    intro s hs
    rw [sbit_bt _ (by omega), b_and, b_xor, b_m1 s (by omega), ← sbit_bt _ (by omega), ← sbit_bt _ (by omega), ev_bit n hn s (by omega), decide_eq_true hs, Bool.and_true, Bool.xor_true]
  unfold xTo xLate
  rw [show List.range' 0 (n + 1) = 0 :: List.range' 1 n from List.range'_succ, List.filter_cons_of_neg (by rw [key 0 (Nat.zero_le n)]; simp)]
  apply List.filter_congr
  intro s hs
  rw [List.mem_range'_1] at hs
  rw [key s (by omega), decide_eq_true hs.1, Bool.true_and]
  unfold sbit
  rw [Bool.not_not]
