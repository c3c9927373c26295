/-! HOW MANY BITS -/
def cntB (f : Nat → Bool) : Nat → Nat
  | 0 => 0
  | n + 1 => cntB f n + (if f n = true then 1 else 0)
def rep8 : Nat → Nat
  | 0 => 0
  | k + 1 => 1 + 256 * rep8 k
theorem and_256 {u v m w : Nat} (hu : u < 256) (hm : m < 256) : (u + 256 * v) &&& (m + 256 * w) = (u &&& m) + 256 * (v &&& w) := by
  apply Nat.eq_of_testBit_eq
  intro i
  have e : ∀ a b : Nat, a < 256 → (a + 256 * b).testBit i = if i < 8 then a.testBit i else b.testBit (i - 8) := fun a b ha => by
    rw [Nat.add_comm, show (256 : Nat) = 2 ^ 8 from rfl, Nat.testBit_two_pow_mul_add b (by simpa using ha)]
  have hum : u &&& m < 256 := Nat.lt_of_le_of_lt Nat.and_le_left hu
  rw [Nat.testBit_and, e u v hu, e m w hm, e _ _ hum]
  split
  · rw [Nat.testBit_and]
  · rw [Nat.testBit_and]
def s1 (k x : Nat) : Nat := x - ((x / 2) &&& (85 * rep8 k))
def s2 (k z : Nat) : Nat := (z &&& (51 * rep8 k)) + ((z / 4) &&& (51 * rep8 k))
def s3 (k w : Nat) : Nat := (w + w / 16) &&& (15 * rep8 k)
def g1 (b : Nat) : Nat := b - ((b / 2) &&& 85)
def g2 (c : Nat) : Nat := (c &&& 51) + ((c / 4) &&& 51)
theorem t1a : ∀ b, b < 256 → ∀ y, y < 2 → (b / 2 + 128 * y) &&& 85 = (b / 2) &&& 85 := by decide +kernel
theorem t1b : ∀ b, b < 256 → ((b / 2) &&& 85) ≤ b := by decide +kernel
theorem t2a : ∀ c, c < 256 → ∀ z, z < 4 → (c / 4 + 64 * z) &&& 51 = (c / 4) &&& 51 := by decide +kernel
theorem t3 : ∀ b, b < 256 → (g2 (g1 b) + g2 (g1 b) / 16) % 16 = cntB (fun m => b.testBit m) 8 ∧ g2 (g1 b) ≤ 68 ∧ g2 (g1 b) % 16 ≤ 4 ∧ cntB (fun m => b.testBit m) 8 ≤ 8 := by decide +kernel
theorem s1_step {k b y : Nat} (hb : b < 256) : s1 (k + 1) (b + 256 * y) = g1 b + 256 * s1 k y := by
  unfold s1 g1
  rw [show rep8 (k + 1) = 1 + 256 * rep8 k from rfl, show 85 * (1 + 256 * rep8 k) = 85 + 256 * (85 * rep8 k) by omega, show (b + 256 * y) / 2 = (b / 2 + 128 * (y % 2)) + 256 * (y / 2) by omega, and_256 (by omega) (by omega), t1a b hb (y % 2) (by omega)]
  have h1 := t1b b hb
  have h2 : ((y / 2) &&& (85 * rep8 k)) ≤ y / 2 := Nat.and_le_left
  omega
theorem g1_lt {b : Nat} (hb : b < 256) : g1 b < 256 := by unfold g1; omega
theorem s2_step {k c z : Nat} (hc : c < 256) : s2 (k + 1) (c + 256 * z) = g2 c + 256 * s2 k z := by
  unfold s2 g2
  rw [show rep8 (k + 1) = 1 + 256 * rep8 k from rfl, show 51 * (1 + 256 * rep8 k) = 51 + 256 * (51 * rep8 k) by omega, and_256 hc (by omega), show (c + 256 * z) / 4 = (c / 4 + 64 * (z % 4)) + 256 * (z / 4) by omega, and_256 (by omega) (by omega), t2a c hc (z % 4) (by omega)]
  omega
theorem s3_step {k d w : Nat} (hd : d ≤ 68) (hw : w % 16 ≤ 4) : s3 (k + 1) (d + 256 * w) = (d + d / 16) % 16 + 256 * s3 k w := by
  unfold s3
  rw [show rep8 (k + 1) = 1 + 256 * rep8 k from rfl, show 15 * (1 + 256 * rep8 k) = 15 + 256 * (15 * rep8 k) by omega, show d + 256 * w + (d + 256 * w) / 16 = (d + d / 16 + 16 * (w % 16)) + 256 * (w + w / 16) by omega, and_256 (by omega) (by omega)]
  have e : (d + d / 16 + 16 * (w % 16)) &&& 15 = (d + d / 16 + 16 * (w % 16)) % 16 := Nat.and_two_pow_sub_one_eq_mod _ 4
  rw [e]
  omega
def byt : List Nat → Nat
  | [] => 0
  | b :: L => b + 256 * byt L
theorem s_low : ∀ (L : List Nat), (∀ b ∈ L, b < 256) → s2 L.length (s1 L.length (byt L)) % 16 ≤ 4
  | [], _ => by decide
  | b :: L, h => by
    have hb := h b List.mem_cons_self
    show s2 (L.length + 1) (s1 (L.length + 1) (b + 256 * byt L)) % 16 ≤ 4
    rw [s1_step hb, s2_step (g1_lt hb)]
    have := (t3 b hb).2.2.1
    omega
theorem s_all : ∀ (L : List Nat), (∀ b ∈ L, b < 256) → s3 L.length (s2 L.length (s1 L.length (byt L))) = byt (L.map (fun b => cntB (fun m => b.testBit m) 8))
  | [], _ => by decide
  | b :: L, h => by
    have hb := h b List.mem_cons_self
    have hL : ∀ b ∈ L, b < 256 := fun q hq => h q (List.mem_cons_of_mem _ hq)
    show s3 (L.length + 1) (s2 (L.length + 1) (s1 (L.length + 1) (b + 256 * byt L))) = cntB (fun m => b.testBit m) 8 + 256 * byt (L.map (fun b => cntB (fun m => b.testBit m) 8))
    rw [s1_step hb, s2_step (g1_lt hb), s3_step (t3 b hb).2.1 (s_low L hL), s_all L hL, (t3 b hb).1]
theorem cntB_congr {f g : Nat → Bool} : ∀ (n : Nat), (∀ i, i < n → f i = g i) → cntB f n = cntB g n
  | 0, _ => rfl
  | n + 1, h => by
    show cntB f n + _ = cntB g n + _
    rw [cntB_congr n (fun i hi => h i (by omega)), h n (Nat.lt_succ_self n)]
theorem cntB_add (f : Nat → Bool) (a : Nat) : ∀ n, cntB f (a + n) = cntB f a + cntB (fun m => f (a + m)) n
  | 0 => rfl
  | n + 1 => by
    show cntB f (a + n) + (if f (a + n) = true then 1 else 0) = cntB f a + (cntB (fun m => f (a + m)) n + (if f (a + n) = true then 1 else 0))
    rw [cntB_add f a n, Nat.add_assoc]
theorem cnt_byte {b y : Nat} (hb : b < 256) (n : Nat) : cntB (fun m => (b + 256 * y).testBit m) (8 + n) = cntB (fun m => b.testBit m) 8 + cntB (fun m => y.testBit m) n := by
  have e : ∀ i, (b + 256 * y).testBit i = if i < 8 then b.testBit i else y.testBit (i - 8) := fun i => by
    rw [Nat.add_comm, show (256 : Nat) = 2 ^ 8 from rfl, Nat.testBit_two_pow_mul_add y (by simpa using hb)]
  rw [cntB_add]
  congr 1
  · exact cntB_congr 8 (fun i hi => by rw [e i, if_pos hi])
  · exact cntB_congr n (fun i hi => by rw [e (8 + i), if_neg (by omega), Nat.add_sub_cancel_left])
theorem cnt_8 {b0 b1 b2 b3 b4 b5 b6 b7 : Nat} (h0 : b0 < 256) (h1 : b1 < 256) (h2 : b2 < 256) (h3 : b3 < 256) (h4 : b4 < 256) (h5 : b5 < 256) (h6 : b6 < 256) (h7 : b7 < 256) :
    cntB (fun m => (byt [b0, b1, b2, b3, b4, b5, b6, b7]).testBit m) 64 = cntB (fun m => b0.testBit m) 8 + (cntB (fun m => b1.testBit m) 8 + (cntB (fun m => b2.testBit m) 8 + (cntB (fun m => b3.testBit m) 8 + (cntB (fun m => b4.testBit m) 8 + (cntB (fun m => b5.testBit m) 8 + (cntB (fun m => b6.testBit m) 8 + cntB (fun m => b7.testBit m) 8)))))) := by
  unfold byt
  rw [show (64 : Nat) = 8 + (8 + (8 + (8 + (8 + (8 + (8 + (8 + 0))))))) from rfl, cnt_byte h0]
  unfold byt
  rw [cnt_byte h1]
  unfold byt
  rw [cnt_byte h2]
  unfold byt
  rw [cnt_byte h3]
  unfold byt
  rw [cnt_byte h4]
  unfold byt
  rw [cnt_byte h5]
  unfold byt
  rw [cnt_byte h6]
  unfold byt
  rw [cnt_byte h7]
  show _ = _
  simp [cntB]
/-- the whole sum, as numbers -/
def t4 (i : Nat) : Nat := i + i / 256
def t5 (i : Nat) : Nat := i + i / 65536
def t6 (i : Nat) : Nat := i + i / 4294967296
theorem d1 {p v : Nat} (h : p ≤ 8) : (p + 256 * v) / 256 = v := by omega
theorem d2 {p0 p1 p2 v2 v3 : Nat} (h0 : p0 ≤ 8) (h1 : p1 ≤ 8) (h2 : p2 ≤ 8) : ((p0 + 256 * (p1 + 256 * v2)) + (p1 + 256 * (p2 + 256 * v3))) / 65536 = v2 + v3 := by omega
theorem d4 {q0 q1 q2 q3 v4 v5 v6 v7 : Nat} (h0 : q0 < 1073741824) (h1 : q1 < 1073741824) (h2 : q2 < 1073741824) (h3 : q3 < 1073741824) : ((q0 + 4294967296 * v4) + (q1 + 4294967296 * v5) + ((q2 + 4294967296 * v6) + (q3 + 4294967296 * v7))) / 4294967296 = v4 + v5 + (v6 + v7) := by omega
theorem dq {a b c d v : Nat} (ha : a ≤ 8) (hb : b ≤ 8) (hc : c ≤ 8) (hd : d ≤ 8) : ∃ q, q < 1073741824 ∧ a + 256 * (b + 256 * (c + 256 * (d + 256 * v))) = q + 4294967296 * v := ⟨a + 256 * b + 65536 * c + 16777216 * d, by omega, by omega⟩
theorem dm {a b c d : Nat} : (256 * a + (256 * b + (256 * c + 256 * d))) % 128 = 0 := by omega
theorem sum_bytes {p0 p1 p2 p3 p4 p5 p6 p7 : Nat} (h0 : p0 ≤ 8) (h1 : p1 ≤ 8) (h2 : p2 ≤ 8) (h3 : p3 ≤ 8) (h4 : p4 ≤ 8) (h5 : p5 ≤ 8) (h6 : p6 ≤ 8) (h7 : p7 ≤ 8) : t6 (t5 (t4 (byt [p0, p1, p2, p3, p4, p5, p6, p7]))) % 128 = p0 + (p1 + (p2 + (p3 + (p4 + (p5 + (p6 + p7)))))) ∧ byt [p0, p1, p2, p3, p4, p5, p6, p7] < 1152921504606846976 := by
  have hv : ∀ (a : Nat) (L : List Nat), byt (a :: L) = a + 256 * byt L := fun _ _ => rfl
  have e8 : byt [] = 0 := rfl
  have e7 := hv p7 []
  have e6 := hv p6 [p7]
  have e5 := hv p5 [p6, p7]
  have e4 := hv p4 [p5, p6, p7]
  have e3 := hv p3 [p4, p5, p6, p7]
  have e2 := hv p2 [p3, p4, p5, p6, p7]
  have e1 := hv p1 [p2, p3, p4, p5, p6, p7]
  have e0 := hv p0 [p1, p2, p3, p4, p5, p6, p7]
  generalize byt [p0, p1, p2, p3, p4, p5, p6, p7] = v0 at *
  generalize byt [p1, p2, p3, p4, p5, p6, p7] = v1 at *
  generalize byt [p2, p3, p4, p5, p6, p7] = v2 at *
  generalize byt [p3, p4, p5, p6, p7] = v3 at *
  generalize byt [p4, p5, p6, p7] = v4 at *
  generalize byt [p5, p6, p7] = v5 at *
  generalize byt [p6, p7] = v6 at *
  generalize byt [p7] = v7 at *
  generalize byt [] = v8 at *
  clear hv
  refine ⟨?_, by omega⟩
  have a4 : t4 v0 = v0 + v1 := by unfold t4; rw [show v0 / 256 = v1 by rw [e0]; exact d1 h0]
  have a5 : t5 (v0 + v1) = v0 + v1 + (v2 + v3) := by
    unfold t5
    have := d2 (v2 := v2) (v3 := v3) h0 h1 h2
    rw [← e2, ← e1, ← e0] at this
    rw [this]
  have a6 : t6 (v0 + v1 + (v2 + v3)) = v0 + v1 + (v2 + v3) + (v4 + v5 + (v6 + v7)) := by
    unfold t6
    obtain ⟨q0, g0, k0⟩ := dq (v := v4) h0 h1 h2 h3
    obtain ⟨q1, g1, k1⟩ := dq (v := v5) h1 h2 h3 h4
    obtain ⟨q2, g2, k2⟩ := dq (v := v6) h2 h3 h4 h5
    obtain ⟨q3, g3, k3⟩ := dq (v := v7) h3 h4 h5 h6
    rw [← e3, ← e2, ← e1, ← e0] at k0
    rw [← e4, ← e3, ← e2, ← e1] at k1
    rw [← e5, ← e4, ← e3, ← e2] at k2
    rw [← e6, ← e5, ← e4, ← e3] at k3
    have := d4 (v4 := v4) (v5 := v5) (v6 := v6) (v7 := v7) g0 g1 g2 g3
    rw [← k0, ← k1, ← k2, ← k3] at this
    rw [this]
  rw [a4, a5, a6]
  omega
theorem swar_cnt {x : Nat} (hx : x < 18446744073709551616) : t6 (t5 (t4 (s3 8 (s2 8 (s1 8 x))))) % 128 = cntB (fun m => x.testBit m) 64 ∧ s3 8 (s2 8 (s1 8 x)) < 1152921504606846976 := by
  have hm : ∀ y : Nat, y % 256 < 256 := fun y => Nat.mod_lt _ (by decide)
  have e : x = byt [x % 256, x / 256 % 256, x / 65536 % 256, x / 16777216 % 256, x / 4294967296 % 256, x / 1099511627776 % 256, x / 281474976710656 % 256, x / 72057594037927936 % 256] := by
    simp only [byt]
    omega
  have k := s_all [x % 256, x / 256 % 256, x / 65536 % 256, x / 16777216 % 256, x / 4294967296 % 256, x / 1099511627776 % 256, x / 281474976710656 % 256, x / 72057594037927936 % 256] (by
    intro b hb
    simp only [List.mem_cons, List.not_mem_nil, or_false] at hb
    rcases hb with rfl | rfl | rfl | rfl | rfl | rfl | rfl | rfl <;> exact hm _)
  have k2 := cnt_8 (hm x) (hm (x / 256)) (hm (x / 65536)) (hm (x / 16777216)) (hm (x / 4294967296)) (hm (x / 1099511627776)) (hm (x / 281474976710656)) (hm (x / 72057594037927936))
  rw [← e] at k k2
  rw [k2, show s3 8 (s2 8 (s1 8 x)) = _ from k]
  exact sum_bytes (t3 _ (hm _)).2.2.2 (t3 _ (hm _)).2.2.2 (t3 _ (hm _)).2.2.2 (t3 _ (hm _)).2.2.2 (t3 _ (hm _)).2.2.2 (t3 _ (hm _)).2.2.2 (t3 _ (hm _)).2.2.2 (t3 _ (hm _)).2.2.2
