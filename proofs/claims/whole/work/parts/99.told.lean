/-! STEPS: told, drawn (the first rows pasted from kit/laws/BITS.to-paste) -/
theorem wb_tb (n : Nat) : (lN n).toBitVec = BitVec.ofNat 64 n := rfl
theorem wb_inj {a b : Int64} (h : a.toBitVec = b.toBitVec) : a = b := Int64.toBitVec_inj.mp h
theorem wb_tn {n : Nat} (h : n < 2 ^ 64) : (lN n).toBitVec.toNat = n := by rw [wb_tb, BitVec.toNat_ofNat, Nat.mod_eq_of_lt h]
theorem wb_of (x : Int64) : ∃ n, n < 2 ^ 64 ∧ x = lN n := ⟨x.toBitVec.toNat, x.toBitVec.isLt, wb_inj (by rw [wb_tb]; simp)⟩
theorem wb_cu : ∀ k, k < 64 → ((nI k).toInt64.toUInt64 &&& Int64.toUInt64 63) = UInt64.ofNat k := by decide +kernel
theorem wb_shr {n k : Nat} (hn : n < 2 ^ 64) (hk : k < 64) : ((lN n).toUInt64 >>> ((nI k).toInt64.toUInt64 &&& Int64.toUInt64 63)).toInt64 = lN (n / 2 ^ k) := by
  rw [wb_cu k hk]
  apply wb_inj
  apply BitVec.eq_of_toNat_eq
  show ((lN n).toUInt64 >>> UInt64.ofNat k).toNat = (BitVec.ofNat 64 _).toNat
  have h1 : (UInt64.ofNat k).toNat = k := by
    show (BitVec.ofNat 64 k).toNat = k
    rw [BitVec.toNat_ofNat, Nat.mod_eq_of_lt (by omega)]
  have h2 : (lN n).toUInt64.toNat = n := wb_tn hn
  rw [UInt64.toNat_shiftRight, h1, h2, Nat.mod_eq_of_lt hk, Nat.shiftRight_eq_div_pow, BitVec.toNat_ofNat, Nat.mod_eq_of_lt (Nat.lt_of_le_of_lt (Nat.div_le_self _ _) hn)]
theorem wb_and {a b : Nat} (ha : a < 2 ^ 64) (hb : b < 2 ^ 64) : lN a &&& lN b = lN (a &&& b) := by
  apply wb_inj
  rw [Int64.toBitVec_and, wb_tb, wb_tb, wb_tb]
  apply BitVec.eq_of_toNat_eq
  rw [BitVec.toNat_and, BitVec.toNat_ofNat, BitVec.toNat_ofNat, BitVec.toNat_ofNat, Nat.mod_eq_of_lt ha, Nat.mod_eq_of_lt hb, Nat.mod_eq_of_lt (Nat.and_lt_two_pow _ hb)]
theorem bA {x : Nat} (hx : x < 2 ^ 64) : lN x - ((Int64.toUInt64 (lN x) >>> ((Int32.toInt64 1).toUInt64 &&& Int64.toUInt64 63)).toInt64 &&& 6148914691236517205) = lN (s1 8 x) := by
  rw [show (Int64.toUInt64 (lN x) >>> ((Int32.toInt64 1).toUInt64 &&& Int64.toUInt64 63)).toInt64 = lN (x / 2 ^ 1) from wb_shr (k := 1) hx (by decide), show (6148914691236517205 : Int64) = lN 6148914691236517205 from rfl, wb_and (by omega) (by decide), lN_sub (Nat.le_trans Nat.and_le_left (by omega))]
  rfl
theorem bB {x : Nat} (hx : x < 2 ^ 64) : (lN x &&& 3689348814741910323) + ((Int64.toUInt64 (lN x) >>> ((Int32.toInt64 2).toUInt64 &&& Int64.toUInt64 63)).toInt64 &&& 3689348814741910323) = lN (s2 8 x) := by
  rw [show (Int64.toUInt64 (lN x) >>> ((Int32.toInt64 2).toUInt64 &&& Int64.toUInt64 63)).toInt64 = lN (x / 2 ^ 2) from wb_shr (k := 2) hx (by decide), show (3689348814741910323 : Int64) = lN 3689348814741910323 from rfl, wb_and hx (by decide), wb_and (by omega) (by decide), lN_add]
  rfl
theorem bC {x : Nat} (hx : x < 2 ^ 63) : (lN x + (Int64.toUInt64 (lN x) >>> ((Int32.toInt64 4).toUInt64 &&& Int64.toUInt64 63)).toInt64) &&& 1085102592571150095 = lN (s3 8 x) := by
  rw [show (Int64.toUInt64 (lN x) >>> ((Int32.toInt64 4).toUInt64 &&& Int64.toUInt64 63)).toInt64 = lN (x / 2 ^ 4) from wb_shr (k := 4) (by omega) (by decide), show (1085102592571150095 : Int64) = lN 1085102592571150095 from rfl, lN_add, wb_and (by omega) (by decide)]
  rfl
theorem bD {x : Nat} (hx : x < 2 ^ 64) : lN x + (Int64.toUInt64 (lN x) >>> ((Int32.toInt64 8).toUInt64 &&& Int64.toUInt64 63)).toInt64 = lN (t4 x) := by
  rw [show (Int64.toUInt64 (lN x) >>> ((Int32.toInt64 8).toUInt64 &&& Int64.toUInt64 63)).toInt64 = lN (x / 2 ^ 8) from wb_shr (k := 8) hx (by decide), lN_add]
  rfl
theorem bE {x : Nat} (hx : x < 2 ^ 64) : lN x + (Int64.toUInt64 (lN x) >>> ((Int32.toInt64 16).toUInt64 &&& Int64.toUInt64 63)).toInt64 = lN (t5 x) := by
  rw [show (Int64.toUInt64 (lN x) >>> ((Int32.toInt64 16).toUInt64 &&& Int64.toUInt64 63)).toInt64 = lN (x / 2 ^ 16) from wb_shr (k := 16) hx (by decide), lN_add]
  rfl
theorem bF {x : Nat} (hx : x < 2 ^ 64) : lN x + (Int64.toUInt64 (lN x) >>> ((Int32.toInt64 32).toUInt64 &&& Int64.toUInt64 63)).toInt64 = lN (t6 x) := by
  rw [show (Int64.toUInt64 (lN x) >>> ((Int32.toInt64 32).toUInt64 &&& Int64.toUInt64 63)).toInt64 = lN (x / 2 ^ 32) from wb_shr (k := 32) hx (by decide), lN_add]
  rfl
theorem s2_lt {z : Nat} : s2 8 z < 2 ^ 63 := by
  unfold s2
  have h1 : (z &&& (51 * rep8 8)) ≤ 51 * rep8 8 := Nat.and_le_right
  have h2 : ((z / 4) &&& (51 * rep8 8)) ≤ 51 * rep8 8 := Nat.and_le_right
  have h3 : 51 * rep8 8 = 3689348814741910323 := rfl
  omega
theorem count_C (g : Int64) (σ : CS) : cJ_bitCount g σ = some (nI (cntB (fun m => g.toBitVec.getLsbD m) 64), σ) := by
  obtain ⟨x, hx, rfl⟩ := wb_of g
  have h1 : s1 8 x < 2 ^ 64 := Nat.lt_of_le_of_lt (Nat.sub_le _ _) hx
  obtain ⟨c1, c2⟩ := swar_cnt (x := x) hx
  have h4 : t4 (s3 8 (s2 8 (s1 8 x))) < 2 ^ 61 := by unfold t4; omega
  have h5 : t5 (t4 (s3 8 (s2 8 (s1 8 x)))) < 2 ^ 62 := by unfold t5; omega
  unfold cJ_bitCount
  rw [bA hx, bB h1, bC s2_lt, bD (by omega), bE (by omega), bF (by omega), lN_i, pk_and (nI _) (m := 127) 7 (by decide)]
  have e : ((nI (t6 (t5 (t4 (s3 8 (s2 8 (s1 8 x))))))).toBitVec.toNat % 2 ^ 7) = cntB (fun m => (lN x).toBitVec.getLsbD m) 64 := by
    show (t6 (t5 (t4 (s3 8 (s2 8 (s1 8 x))))) % 2 ^ 32) % 2 ^ 7 = _
    rw [Nat.mod_mod_of_dvd _ (by decide), show (2 : Nat) ^ 7 = 128 from rfl, c1]
    refine cntB_congr 64 (fun i hi => ?_)
    show x.testBit i = (BitVec.ofNat 64 x).getLsbD i
    rw [BitVec.getLsbD_ofNat, decide_eq_true hi, Bool.true_and]
  rw [e]
theorem LosF.cnt {g : Int64} {l : Nat → Bool} (h : LosF g l) : cntB (fun m => g.toBitVec.getLsbD m) 64 = cntB l 60 := by
  rw [cntB_congr 64 (g := fun m => decide (m < 60) && l m) (fun i hi => h i hi), show (64 : Nat) = 60 + 4 from rfl, cntB_add]
  rw [cntB_congr 60 (g := l) (fun i hi => by rw [decide_eq_true hi, Bool.true_and])]
  have : cntB (fun m => decide (60 + m < 60) && l (60 + m)) 4 = cntB (fun _ => false) 4 := cntB_congr 4 (fun i hi => by rw [decide_eq_false (by omega), Bool.false_and])
  rw [this]; rfl
theorem many_M {P : ZP} {τ : MS} (h : SetM P τ) : ∀ (r i fu : Nat), i + r = 60 → r < fu → m_manyLosses_l4 fu (nI (cntB (pl P) i)) (nI i) τ = some (nI (cntB (pl P) 60), τ)
  | r, i, 0, _, h3 => by omega
  | 0, i, fu + 1, h2, _ => by
    rw [m_manyLosses_l4, if_pos (show 60 ≤ nI i from (P_le (a := 60) (by omega) (by omega)).mpr (by omega)), show i = 60 by omega]
  | r + 1, i, fu + 1, h2, h3 => by
    rw [m_manyLosses_l4, if_neg (show ¬ 60 ≤ nI i from fun q => absurd ((P_le (a := 60) (by omega) (by omega)).mp q) (by omega)), P_in (show i < 60 by omega) (by decide), if_pos rfl, P_ix (show i < 2 ^ 31 by omega), h.2.2.2.2.2.1 i (by omega), nI_1]
    have e : nI (cntB (pl P) i) + bI (pl P i) = nI (cntB (pl P) (i + 1)) := by
      show _ = nI (cntB (pl P) i + (if pl P i = true then 1 else 0))
      cases pl P i
      · exact nI_add _ 0
      · exact nI_add _ 1
    rw [e]
    exact many_M h r (i + 1) fu (by omega) (by omega)
theorem manyAll_M {P : ZP} {τ : MS} (h : SetM P τ) : m_manyLosses τ = some (nI (cntB (pl P) 60), τ) := by
  have k := many_M h 60 0 4096 (by omega) (by omega)
  have z00 : nI 0 = 0 := rfl
  rw [show cntB (pl P) 0 = 0 from rfl, z00] at k
  exact k
theorem setV_M {P : ZP} {τ : MS} (hn : pn P ≤ 5) (h : SetM P τ) : ∀ (r a fu : Nat) (x : Int32), 1 ≤ a → a + r = pn P + 1 → r < fu → (∀ i, i < 32 → bt x i = (decide (1 ≤ i ∧ i < a) && pv P i)) → ∃ x', m_setOf_l12 fu true x (nI a) τ = some (x', τ) ∧ ∀ i, i < 32 → bt x' i = (decide (1 ≤ i ∧ i < pn P + 1) && pv P i)
  | r, a, 0, x, _, _, h3, _ => by omega
  | 0, a, fu + 1, x, h1, h2, _, hx => by
    refine ⟨x, ?_, ?_⟩
    · rw [m_setOf_l12, h.1, if_pos ((P_lt (by omega) (by omega)).mpr (by omega))]
    · rw [show pn P + 1 = a by omega]; exact hx
  | r + 1, a, fu + 1, x, h1, h2, h3, hx => by
    have hlt : ∀ i, i ≠ a → decide (1 ≤ i ∧ i < a + 1) = decide (1 ≤ i ∧ i < a) := fun i q => by
      by_cases c : 1 ≤ i ∧ i < a
      · rw [decide_eq_true c, decide_eq_true (by omega)]
      · rw [decide_eq_false c, decide_eq_false (by omega)]
    rw [m_setOf_l12, h.1, if_neg (fun q => absurd ((P_lt (by omega) (by omega)).mp q) (by omega)), if_pos rfl, P_in (show a < 6 by omega) (by decide), if_pos rfl, P_ix (show a < 2 ^ 31 by omega), h.2.2.2.2.1 a h1 (by omega), nI_1, or_0]
    cases e : pv P a
    · rw [if_neg (show ¬ bI false = 1 by decide)]
      refine setV_M hn h r (a + 1) fu x (by omega) (by omega) (by omega) (fun i hi => ?_)
      rw [hx i hi]
      by_cases q : i = a
      · subst q; rw [e, Bool.and_false, Bool.and_false]
      · rw [hlt i q]
    · rw [if_pos (show bI true = 1 from rfl)]
      refine setV_M hn h r (a + 1) fu _ (by omega) (by omega) (by omega) (fun i hi => ?_)
      rw [or32 x (by omega) hi, hx i hi]
      by_cases q : i = a
      · subst q; rw [e, decide_eq_true rfl, decide_eq_true (show 1 ≤ i ∧ i < i + 1 by omega), Bool.or_true]; rfl
      · rw [hlt i q, decide_eq_false q, Bool.or_false]
theorem setD_M {P : ZP} {τ : MS} (hw : PW P) (h : SetM P τ) : ∀ (r a fu : Nat) (x : Int32), a + r = pn P + 1 → r < fu → (∀ i, i < 32 → bt x i = (decide (i < a) && (pd P i).isSome)) → ∃ x', m_setOf_l12 fu false x (nI a) τ = some (x', τ) ∧ ∀ i, i < 32 → bt x' i = (decide (i < pn P + 1) && (pd P i).isSome)
  | r, a, 0, x, _, h3, _ => by omega
  | 0, a, fu + 1, x, h2, _, hx => by
    have hn := hw.2.1
    refine ⟨x, ?_, ?_⟩
    · rw [m_setOf_l12, h.1, if_pos ((P_lt (by omega) (by omega)).mpr (by omega))]
    · rw [show pn P + 1 = a by omega]; exact hx
  | r + 1, a, fu + 1, x, h2, h3, hx => by
    have hn := hw.2.1
    have hlt : ∀ i, i ≠ a → decide (i < a + 1) = decide (i < a) := fun i q => by
      by_cases c : i < a
      · rw [decide_eq_true c, decide_eq_true (by omega)]
      · rw [decide_eq_false c, decide_eq_false (by omega)]
    rw [m_setOf_l12, h.1, if_neg (fun q => absurd ((P_lt (by omega) (by omega)).mp q) (by omega)), if_neg (by decide), P_in (show a < 6 by omega) (by decide), if_pos rfl, P_ix (show a < 2 ^ 31 by omega), nI_1, or_0]
    rcases h.dn (show a < 6 by omega) with ⟨e1, e2⟩ | ⟨d, u, e1, e2, e3⟩
    · rw [e2, if_pos rfl]
      refine setD_M hw h r (a + 1) fu x (by omega) (by omega) (fun i hi => ?_)
      rw [hx i hi]
      by_cases q : i = a
      · subst q; rw [e1, Option.isSome_none, Bool.and_false, Bool.and_false]
      · rw [hlt i q]
    · have hd := hw.2.2.2.2.2 a d u e1
      rw [e2, if_neg (qneg_ne (by omega))]
      refine setD_M hw h r (a + 1) fu _ (by omega) (by omega) (fun i hi => ?_)
      rw [or32 x (by omega) hi, hx i hi]
      by_cases q : i = a
      · subst q; rw [e1, decide_eq_true rfl, decide_eq_true (Nat.lt_succ_self i), Bool.or_true]; rfl
      · rw [hlt i q, decide_eq_false q, Bool.or_false]
theorem setD_C {P : ZP} {σ : CS} (hw : PW P) (h : SetR 3 P σ) : ∀ (r a fu : Nat) (x : Int32), a + r = pn P + 1 → r < fu → (∀ i, i < 32 → bt x i = (decide (i < a) && (pd P i).isSome)) → ∃ x', cS_sitesWithDown_l4 3 fu x (nI a) σ = some (x', σ) ∧ ∀ i, i < 32 → bt x' i = (decide (i < pn P + 1) && (pd P i).isSome)
  | r, a, 0, x, _, h3, _ => by omega
  | 0, a, fu + 1, x, h2, _, hx => by
    have hn := hw.2.1
    refine ⟨x, ?_, ?_⟩
    · rw [cS_sitesWithDown_l4, h.1, if_pos ((P_lt (by omega) (by omega)).mpr (by omega))]
    · rw [show pn P + 1 = a by omega]; exact hx
  | r + 1, a, fu + 1, x, h2, h3, hx => by
    have hn := hw.2.1
    have hlt : ∀ i, i ≠ a → decide (i < a + 1) = decide (i < a) := fun i q => by
      by_cases c : i < a
      · rw [decide_eq_true c, decide_eq_true (by omega)]
      · rw [decide_eq_false c, decide_eq_false (by omega)]
    rw [cS_sitesWithDown_l4, h.1, if_neg (fun q => absurd ((P_lt (by omega) (by omega)).mp q) (by omega)), P_in (show a < 6 by omega) (by decide), if_pos rfl, P_ix (show a < 2 ^ 31 by omega), nI_1]
    rcases h.dn (show a < 6 by omega) with ⟨e1, e2, e3⟩ | ⟨d, u, e1, e2, e3⟩
    · rw [e2, if_pos rfl]
      refine setD_C hw h r (a + 1) fu x (by omega) (by omega) (fun i hi => ?_)
      rw [hx i hi]
      by_cases q : i = a
      · subst q; rw [e1, Option.isSome_none, Bool.and_false, Bool.and_false]
      · rw [hlt i q]
    · have hd := hw.2.2.2.2.2 a d u e1
      rw [e2, if_neg (qneg_ne (by omega))]
      refine setD_C hw h r (a + 1) fu _ (by omega) (by omega) (fun i hi => ?_)
      rw [or32 x (by omega) hi, hx i hi]
      by_cases q : i = a
      · subst q; rw [e1, decide_eq_true rfl, decide_eq_true (Nat.lt_succ_self i), Bool.or_true]; rfl
      · rw [hlt i q, decide_eq_false q, Bool.or_false]
theorem ev_all : ∀ n, n < 6 → ∀ i, i < 32 → bt (((2 : Int32) <<< (nI n &&& 31)) - 2) i = decide (1 ≤ i ∧ i < n + 1) := by decide +kernel
theorem st13 : St13 Rel := by
  rintro p1 σ τ ⟨P, sd, h⟩
  have h' := h
  obtain ⟨hw, hSH, hRF, hF, hM, h9, hI, h6, h8, h10⟩ := h'
  have hn := hw.2.1
  have z00 : nI 0 = 0 := rfl
  have z01 : nI 1 = 1 := rfl
  have T4 : ∃ v, (cI σ 3 4 &&& (((2 : Int32) <<< (cI σ 3 0 &&& 31)) - 2)) = v ∧ m_setOf true τ = some (v, τ) := by
    obtain ⟨x, a1, a2⟩ := setV_M hn hM (pn P) 1 4096 0 (by omega) (by omega) (by omega) (fun i hi => by rw [b_0, decide_eq_false (by omega)]; rfl)
    rw [z01] at a1
    refine ⟨x, ?_, ?_⟩
    · rw [hF.1.1]
      apply b_ext
      intro i hi
      rw [b_and, ev_all (pn P) (by omega) i hi, a2 i hi]
      by_cases q : 1 ≤ i ∧ i < pn P + 1
      · rw [decide_eq_true q, Bool.true_and, Bool.and_true, ← sbit_bt _ hi]; exact hF.1.2.2.2.1 i q.1 (by omega)
      · rw [decide_eq_false q, Bool.false_and, Bool.and_false]
    · unfold m_setOf
      rw [if_pos rfl]; exact a1
  have T6 : ∃ v, cS_sitesWithDown 3 σ = some (v, σ) ∧ m_setOf false τ = some (v, τ) := by
    obtain ⟨x, a1, a2⟩ := setD_M hw hM (pn P + 1) 0 4096 0 (by omega) (by omega) (fun i hi => by rw [b_0, decide_eq_false (Nat.not_lt_zero i)]; rfl)
    obtain ⟨y, b1, b2⟩ := setD_C hw hF.1 (pn P + 1) 0 4096 0 (by omega) (by omega) (fun i hi => by rw [b_0, decide_eq_false (Nat.not_lt_zero i)]; rfl)
    rw [z00] at a1 b1
    have e : y = x := b_ext (fun i hi => by rw [a2 i hi, b2 i hi])
    subst e
    refine ⟨y, b1, ?_⟩
    unfold m_setOf
    rw [if_neg (by decide)]; exact a1
  rcases pk_ix p1 (n := 8) (by omega) with g | g | ⟨j, hj, rfl⟩
  · have hz : ∀ k : Nat, k < 8 → ¬ p1 = nI k := fun k hk q => by rw [q] at g; exact absurd g (Int32.not_lt.mpr (nI_pos' (by omega)))
    unfold cP_told m_told
    simp only [sw]
    rw [if_neg (show ¬ p1 = 0 from hz 0 (by omega)), if_neg (show ¬ p1 = 1 from hz 1 (by omega)), if_neg (show ¬ p1 = 2 from hz 2 (by omega)), if_neg (show ¬ p1 = 3 from hz 3 (by omega)), if_neg (show ¬ p1 = 4 from hz 4 (by omega)), if_neg (show ¬ p1 = 5 from hz 5 (by omega)), if_neg (show ¬ p1 = 6 from hz 6 (by omega)), if_neg (show ¬ p1 = 7 from hz 7 (by omega)), if_neg (show ¬ p1 = 0 from hz 0 (by omega)), if_neg (show ¬ p1 = 1 from hz 1 (by omega)), if_neg (show ¬ p1 = 2 from hz 2 (by omega)), if_neg (show ¬ p1 = 3 from hz 3 (by omega)), if_neg (show ¬ p1 = 4 from hz 4 (by omega)), if_neg (show ¬ p1 = 5 from hz 5 (by omega)), if_neg (show ¬ p1 = 6 from hz 6 (by omega)), if_neg (show ¬ p1 = 7 from hz 7 (by omega))]
    exact h.no' (-5) (by decide)
  · have hz : ∀ k : Nat, k < 8 → ¬ p1 = nI k := fun k hk q => by rw [q] at g; exact absurd ((P_le (by omega) (by omega)).mp g) (by omega)
    unfold cP_told m_told
    simp only [sw]
    rw [if_neg (show ¬ p1 = 0 from hz 0 (by omega)), if_neg (show ¬ p1 = 1 from hz 1 (by omega)), if_neg (show ¬ p1 = 2 from hz 2 (by omega)), if_neg (show ¬ p1 = 3 from hz 3 (by omega)), if_neg (show ¬ p1 = 4 from hz 4 (by omega)), if_neg (show ¬ p1 = 5 from hz 5 (by omega)), if_neg (show ¬ p1 = 6 from hz 6 (by omega)), if_neg (show ¬ p1 = 7 from hz 7 (by omega)), if_neg (show ¬ p1 = 0 from hz 0 (by omega)), if_neg (show ¬ p1 = 1 from hz 1 (by omega)), if_neg (show ¬ p1 = 2 from hz 2 (by omega)), if_neg (show ¬ p1 = 3 from hz 3 (by omega)), if_neg (show ¬ p1 = 4 from hz 4 (by omega)), if_neg (show ¬ p1 = 5 from hz 5 (by omega)), if_neg (show ¬ p1 = 6 from hz 6 (by omega)), if_neg (show ¬ p1 = 7 from hz 7 (by omega))]
    exact h.no' (-5) (by decide)
  · have hj8 := lt8 hj
    rcases hj8 with rfl | rfl | rfl | rfl | rfl | rfl | rfl | rfl
    · exact ⟨nI (pn P), σ, τ, congrArg (fun z => some (z, σ)) hF.1.1, congrArg (fun z => some (z, τ)) hM.1, P, sd, h⟩
    · exact ⟨pp P, σ, τ, congrArg (fun z => some (z, σ)) hF.1.2.1, congrArg (fun z => some (z, τ)) hM.2.1, P, sd, h⟩
    · exact ⟨nI (pw P), σ, τ, congrArg (fun z => some (z, σ)) hF.1.2.2.1, congrArg (fun z => some (z, τ)) hM.2.2.1, P, sd, h⟩
    · refine ⟨bI (pz P), σ, τ, ?_, congrArg (fun z => some (z, τ)) hM.2.2.2.1, P, sd, h⟩
      have e : cP_told (nI 3) σ = if cZ σ 3 3 = true then some (1, σ) else some (0, σ) := by
        show ((if cZ σ 3 3 = true then some ((1 : Int32), σ) else some (0, σ)).bind fun a1 => some (a1.1, a1.2)) = _
        cases cZ σ 3 3 <;> rfl
      rw [e, hF.2.1]
      cases pz P <;> rfl
    · obtain ⟨v, v1, v2⟩ := T4
      refine ⟨v, σ, τ, congrArg (fun z => some (z, σ)) v1, ?_, P, sd, h⟩
      show ((m_setOf true τ).bind fun a1 => some (a1.1, a1.2)) = _
      rw [v2]; rfl
    · refine ⟨nI (cntB (pl P) 60), σ, τ, ?_, ?_, P, sd, h⟩
      · show ((cJ_bitCount (cG σ 3 5) σ).bind fun a2 => some (a2.1, a2.2)) = _
        rw [count_C, hF.2.2.1.cnt]; rfl
      · show ((m_manyLosses τ).bind fun a2 => some (a2.1, a2.2)) = _
        rw [manyAll_M hM]; rfl
    · obtain ⟨v, v1, v2⟩ := T6
      refine ⟨v, σ, τ, ?_, ?_, P, sd, h⟩
      · show ((cS_sitesWithDown 3 σ).bind fun a3 => some (a3.1, a3.2)) = _
        rw [v1]; rfl
      · show ((m_setOf false τ).bind fun a3 => some (a3.1, a3.2)) = _
        rw [v2]; rfl
    · exact ⟨sd, σ, τ, congrArg (fun z => some (z, σ)) hF.2.2.2, congrArg (fun z => some (z, τ)) h9, P, sd, h⟩
