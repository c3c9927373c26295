/-! STEPS: which losses harm, which block: the reference; both calls -/
theorem SetM.fr {P : ZP} {τ τ' : MS} (h : SetM P τ) (k : FrR τ τ') : SetM P τ' := by
  obtain ⟨k1, k2, k3, k4⟩ := k
  have A : ∀ j, j < 10 → mA τ' j = mA τ j := fun j hj => k4 j (by omega) (by omega) (by omega) (by omega)
  unfold SetM
  rw [k3 5 (by omega), k3 6 (by omega), k3 7 (by omega), k3 8 (by omega), A 1 (by omega), A 2 (by omega), A 3 (by omega), A 4 (by omega)]
  exact h
theorem or32 (x : Int32) {k : Nat} (hk : k < 32) {i : Nat} (hi : i < 32) : bt (x ||| ((1 : Int32) <<< (nI k &&& 31))) i = (bt x i || decide (i = k)) := by
  rw [b_or, b_shl k hk 1 hi]
  by_cases e : i = k
  · subst e; rw [Nat.sub_self]; simp [show bt 1 0 = true from by decide]
  · by_cases h : k ≤ i
    · rw [decide_eq_true h, Bool.true_and, (by decide +kernel : ∀ j, j < 32 → j ≠ 0 → bt 1 j = false) (i - k) (by omega) (by omega), decide_eq_false e]
    · rw [decide_eq_false h, Bool.false_and, decide_eq_false e]
noncomputable def bbit (P : ZP) (blk : Bool) (m : Nat) : Bool := if blk = true then kbit P m else hbit P m
section Los
variable {P : ZP} {τ : MS} {part : Nat} {blk : Bool}
theorem losses_L (hw : PW P) (hM : SetM P τ) (hp : part ≤ 1) : ∀ (r k fu : Nat) (x : Int32) (τ' : MS), FrR τ τ' → (∀ i, i < 32 → bt x i = (decide (i < k) && bbit P blk (30 * part + i))) → k + r = 30 → r < fu →
    ∃ x' τ'', m_lossesThat_l15 fu (nI part) blk (nI (zn (xRun P 60).1)) x (nI k) τ' = some (x', τ'') ∧ FrR τ τ'' ∧ (∀ i, i < 32 → bt x' i = (decide (i < 30) && bbit P blk (30 * part + i)))
  | r, k, 0, x, τ', _, _, _, h3 => by omega
  | 0, k, fu + 1, x, τ', h, hx, h2, _ => by
    refine ⟨x, τ', ?_, h, ?_⟩
    · rw [m_lossesThat_l15, if_pos (show 30 ≤ nI k from (P_le (a := 30) (by omega) (by omega)).mpr (by omega))]
    · intro i hi
      rw [hx i hi, show k = 30 by omega]
  | r + 1, k, fu + 1, x, τ', h, hx, h2, h3 => by
    have hn := hw.2.1
    have h200 := (Inv.run (P := P) hw (t := 60) (by omega)).1.1
    have hM' := hM.fr h
    have e7 : (30 * nI part) + nI k = nI (30 * part + k) := by rw [show (30 : Int32) = nI 30 from rfl, pk_mul, nI_add]
    have hlt : ∀ i, i ≠ k → decide (i < k + 1) = decide (i < k) := fun i q => by
      by_cases c : i < k
      · rw [decide_eq_true c, decide_eq_true (by omega)]
      · rw [decide_eq_false c, decide_eq_false (by omega)]
    have skip : bbit P blk (30 * part + k) = false → ∀ i, i < 32 → bt x i = (decide (i < k + 1) && bbit P blk (30 * part + i)) := fun hb i hi => by
      rw [hx i hi]
      by_cases q : i = k
      · subst q; rw [hb, Bool.and_false, Bool.and_false]
      · rw [hlt i q]
    have take : bbit P blk (30 * part + k) = true → ∀ i, i < 32 → bt (x ||| ((1 : Int32) <<< (nI k &&& 31))) i = (decide (i < k + 1) && bbit P blk (30 * part + i)) := fun hb i hi => by
      rw [or32 x (by omega) hi, hx i hi]
      by_cases q : i = k
      · subst q; rw [hb, decide_eq_true rfl, decide_eq_true (Nat.lt_succ_self i), Bool.or_true]; rfl
      · rw [hlt i q, decide_eq_false q, Bool.or_false]
    rw [m_lossesThat_l15, if_neg (show ¬ 30 ≤ nI k from fun q => absurd ((P_le (a := 30) (by omega) (by omega)).mp q) (by omega)), e7, nI_1, or_0]
    by_cases c0 : zn (xRun P 60).1 ≤ 30 * part + k
    · rw [if_pos ((P_le (by omega) (by omega)).mpr c0)]
      refine losses_L hw hM hp r (k + 1) fu x τ' h (skip ?_) (by omega) (by omega)
      unfold bbit hbit kbit
      rw [decide_eq_false (by omega)]; split <;> rfl
    · rw [if_neg (fun q => c0 ((P_le (by omega) (by omega)).mp q)), P_in (show 30 * part + k < 60 by omega) (by decide), P_ix (show 30 * part + k < 2 ^ 31 by omega), hM'.2.2.2.2.2.1 (30 * part + k) (by omega)]
      simp only [if_true]
      cases e : pl P (30 * part + k)
      · rw [if_neg (show ¬ bI false = 1 by decide)]
        have hMx : SetM (xLose P (30 * part + k)) (sA τ' 2 (30 * part + k) 1) := by
          refine ⟨hM'.1, hM'.2.1, hM'.2.2.1, hM'.2.2.2.1, hM'.2.2.2.2.1, fun m hm => ?_, hM'.2.2.2.2.2.2⟩
          show upd (mA τ' 2) (30 * part + k) 1 m = bI (va_up (pl P) (30 * part + k) true m)
          unfold upd va_up
          by_cases q : m = 30 * part + k
          · rw [if_pos q, if_pos q]; rfl
          · rw [if_neg q, if_neg q]; exact hM'.2.2.2.2.2.1 m hm
        obtain ⟨τ1, r1, r2, r3⟩ := runs_M (P := xLose P (30 * part + k)) hw hMx
        have hq : QM (xLose P (30 * part + k)) (sA τ1 2 (30 * part + k) 0) := r2.q
        have hFr : FrR τ (sA τ1 2 (30 * part + k) 0) := by
          refine h.tr ⟨r3.1, r3.2.1, r3.2.2.1, fun j hj h1 h2 h3 => ?_⟩
          by_cases q : j = 2
          · subst q
            show upd (mA τ1 2) (30 * part + k) 0 = mA τ' 2
            rw [show mA τ1 2 = upd (mA τ' 2) (30 * part + k) 1 from r3.2.2.2 2 (by omega) (by omega) (by omega) (by omega)]
            funext i
            unfold upd
            by_cases z : i = 30 * part + k
            · rw [if_pos z, z, hM'.2.2.2.2.2.1 (30 * part + k) (by omega), e]; rfl
            · rw [if_neg z, if_neg z]
          · exact (va_up_n _ _ q).trans ((r3.2.2.2 j hj h1 h2 h3).trans (va_up_n _ _ q))
        have c1 : m_areAlike 60 (sA τ1 2 (30 * part + k) 0) = some (xAlike (xLose P (30 * part + k)) 60, sA τ1 2 (30 * part + k) 0) := alike_M (P := xLose P (30 * part + k)) (t := 60) (w := false) (u := false) (v := false) hw hq (by omega) (fun s _ => run_le (by omega) s) (pn P + 1) 0 4096 (by show 0 + (pn P + 1) = pn P + 1; omega) (by omega)
        have c2 : m_blockedNow (sA τ1 2 (30 * part + k) 0) = some (xBlk (xLose P (30 * part + k)), sA τ1 2 (30 * part + k) 0) := blocked_M (P := xLose P (30 * part + k)) hw hq (pn P) 1 4096 0 (by show 1 + pn P = pn P + 1; omega) (by omega)
        rw [r1, Option.bind_some]
        cases hb : blk
        · rw [if_neg (by decide), c1, Option.bind_some]
          have hh : bbit P blk (30 * part + k) = !xAlike (xLose P (30 * part + k)) 60 := by
            unfold bbit hbit; rw [hb, e, decide_eq_true (show 30 * part + k < zn (xRun P 60).1 by omega), if_neg (by decide)]; rfl
          cases al : xAlike (xLose P (30 * part + k)) 60
          · rw [if_neg (show ¬ false = true by decide)]
            rw [al] at hh
            have := losses_L hw hM hp r (k + 1) fu _ _ hFr (take hh) (by omega) (by omega)
            rw [hb] at this; exact this
          · rw [if_pos rfl]
            rw [al] at hh
            have := losses_L hw hM hp r (k + 1) fu _ _ hFr (skip hh) (by omega) (by omega)
            rw [hb] at this; exact this
        · rw [if_pos rfl, c2, Option.bind_some]
          have hh : bbit P blk (30 * part + k) = !decide (xBlk (xLose P (30 * part + k)) = 0) := by
            unfold bbit kbit; rw [hb, e, decide_eq_true (show 30 * part + k < zn (xRun P 60).1 by omega), if_pos rfl]; rfl
          by_cases z : xBlk (xLose P (30 * part + k)) = 0
          · rw [if_pos z]
            rw [decide_eq_true z] at hh
            have := losses_L hw hM hp r (k + 1) fu _ _ hFr (skip hh) (by omega) (by omega)
            rw [hb] at this; exact this
          · rw [if_neg z]
            rw [decide_eq_false z] at hh
            have := losses_L hw hM hp r (k + 1) fu _ _ hFr (take hh) (by omega) (by omega)
            rw [hb] at this; exact this
      · rw [if_pos (show bI true = 1 from rfl)]
        refine losses_L hw hM hp r (k + 1) fu x τ' h (skip ?_) (by omega) (by omega)
        unfold bbit hbit kbit
        rw [e]; split <;> simp
end Los
theorem b_30 : ∀ i, i < 32 → bt 1073741823 i = decide (i < 30) := by decide +kernel
theorem part_bits (g : Int64) {part : Nat} (hp : part ≤ 1) {i : Nat} (hi : i < 32) : bt ((Int64.toInt32 ((Int64.toUInt64 g >>> ((Int32.toInt64 (nI part * 30)).toUInt64 &&& Int64.toUInt64 63)).toInt64)) &&& 1073741823) i = (decide (i < 30) && g.toBitVec.getLsbD (30 * part + i)) := by
  have hs : ((Int32.toInt64 (nI part * 30)).toUInt64 &&& Int64.toUInt64 63).toNat = 30 * part := (by decide +kernel : ∀ p, p < 2 → ((Int32.toInt64 (nI p * 30)).toUInt64 &&& Int64.toUInt64 63).toNat = 30 * p) part (by omega)
  have e : (Int64.toUInt64 g >>> ((Int32.toInt64 (nI part * 30)).toUInt64 &&& Int64.toUInt64 63)).toInt64.toBitVec = g.toBitVec >>> (30 * part) := by
    apply BitVec.eq_of_toNat_eq
    show (Int64.toUInt64 g >>> ((Int32.toInt64 (nI part * 30)).toUInt64 &&& Int64.toUInt64 63)).toNat = _
    rw [UInt64.toNat_shiftRight, hs, Nat.mod_eq_of_lt (by omega), BitVec.toNat_ushiftRight]
    rfl
  rw [b_and, b_30 i hi, Bool.and_comm]
  congr 1
  unfold bt
  rw [Int64.toBitVec_toInt32, e, BitVec.getLsbD_signExtend, BitVec.getLsbD_ushiftRight]
  simp [hi]; omega
theorem RelP.losses {P : ZP} {sd : Int32} {σ : CS} {τ : MS} (h : RelP P sd σ τ) {part : Nat} (hp : part ≤ 1) (blk : Bool) : ∃ v σ1 σ2 τ', cP_current σ = some ((), σ1) ∧ cP_tryLosses σ1 = some ((), σ2) ∧ cP_partOf (if blk = true then cG σ2 0 12 else cG σ2 0 11) (nI part) σ2 = some (v, σ2) ∧ m_lossesThat (nI part) blk τ = some (v, τ') ∧ RelP P sd σ2 τ' := by
  obtain ⟨σ1, a1, a2, a3, a4, -⟩ := h.cur
  obtain ⟨σ2, b1, b2, b3⟩ := a2.try a3 a4
  obtain ⟨τ1, c1, c2, c3, c4⟩ := b2.runs
  obtain ⟨x, τ2, d1, d2, d3⟩ := losses_L (P := P) (τ := τ1) (part := part) (blk := blk) h.1 c2.2.2.2.2.1 hp 30 0 4096 0 τ1 FrR.rf (fun i hi => by rw [b_0, decide_eq_false (Nat.not_lt_zero i)]; rfl) (by omega) (by omega)
  have z00 : nI 0 = 0 := rfl
  rw [z00] at d1
  refine ⟨x, σ1, σ2, τ2, a1, b1, ?_, ?_, c2.fr d2⟩
  · unfold cP_partOf
    refine congrArg (fun z => some (z, σ2)) (b_ext (fun i hi => ?_))
    rw [part_bits _ hp hi, d3 i hi]
    by_cases q : i < 30
    · rw [decide_eq_true q, Bool.true_and, Bool.true_and]
      unfold bbit
      split
      · exact (b3 _ (by omega)).2
      · exact (b3 _ (by omega)).1
    · rw [decide_eq_false q, Bool.false_and, Bool.false_and]
  · unfold m_lossesThat
    rw [c1, Option.bind_some, show mI τ1 21 = nI (zn (xRun P 60).1) from c3.2.2.1.2.2.2]
    exact d1
theorem st23 : St23 Rel := by
  rintro p1 σ τ ⟨P, sd, h⟩
  unfold cP_harm m_harm cP_harm_b9
  rw [isIn_M, Option.bind_some, show (decide (0 ≤ p1) && decide (p1 ≤ 1)) = inB p1 2 from le_in (n := 1) (by omega) p1]
  rcases pk_ix p1 (n := 2) (by omega) with g | g | ⟨j, hj, rfl⟩
  · rw [P_neg g, if_pos g, if_neg (show ¬ false = true by decide)]; exact h.no' (-5) (by decide)
  · rw [P_big (by omega) g, if_neg (Int32.not_lt.mpr (Int32.le_trans (by decide) g)), if_neg (show ¬ p1 ≤ 1 from fun q => absurd (Int32.le_trans g q) (by decide)), if_neg (show ¬ false = true by decide)]; exact h.no' (-5) (by decide)
  · obtain ⟨v, σ1, σ2, τ', a1, a2, a3, a4, a5⟩ := h.losses (part := j) (by omega) false
    rw [P_in hj (by omega), if_neg (Int32.not_lt.mpr (nI_pos' (by omega))), if_pos (show nI j ≤ 1 from (P_le (b := 1) (by omega) (by omega)).mpr (by omega)), if_pos rfl, a1, Option.bind_some, a2, Option.bind_some, a4, Option.bind_some]
    rw [show cP_partOf (cG σ2 0 11) (nI j) σ2 = some (v, σ2) from a3, Option.bind_some]
    exact ⟨v, σ2, τ', rfl, rfl, P, sd, a5⟩
theorem st24 : St24 Rel := by
  rintro p1 σ τ ⟨P, sd, h⟩
  unfold cP_block m_block cP_block_b9
  rw [isIn_M, Option.bind_some, show (decide (0 ≤ p1) && decide (p1 ≤ 1)) = inB p1 2 from le_in (n := 1) (by omega) p1]
  rcases pk_ix p1 (n := 2) (by omega) with g | g | ⟨j, hj, rfl⟩
  · rw [P_neg g, if_pos g, if_neg (show ¬ false = true by decide)]; exact h.no' (-5) (by decide)
  · rw [P_big (by omega) g, if_neg (Int32.not_lt.mpr (Int32.le_trans (by decide) g)), if_neg (show ¬ p1 ≤ 1 from fun q => absurd (Int32.le_trans g q) (by decide)), if_neg (show ¬ false = true by decide)]; exact h.no' (-5) (by decide)
  · obtain ⟨v, σ1, σ2, τ', a1, a2, a3, a4, a5⟩ := h.losses (part := j) (by omega) true
    rw [P_in hj (by omega), if_neg (Int32.not_lt.mpr (nI_pos' (by omega))), if_pos (show nI j ≤ 1 from (P_le (b := 1) (by omega) (by omega)).mpr (by omega)), if_pos rfl, a1, Option.bind_some, a2, Option.bind_some, a4, Option.bind_some]
    rw [show cP_partOf (cG σ2 0 12) (nI j) σ2 = some (v, σ2) from a3, Option.bind_some]
    exact ⟨v, σ2, τ', rfl, rfl, P, sd, a5⟩
