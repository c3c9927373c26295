/-! STEPS: which losses harm, which block -/
theorem one64 : ∀ m, m < 64 → ((1 : Int64) <<< (Int32.toInt64 (nI m) &&& 63)).toBitVec = BitVec.twoPow 64 m := by decide +kernel
theorem or64 (g : Int64) {m : Nat} (hm : m < 64) {i : Nat} (hi : i < 64) : (g ||| ((1 : Int64) <<< (Int32.toInt64 (nI m) &&& 63))).toBitVec.getLsbD i = (g.toBitVec.getLsbD i || decide (i = m)) := by
  rw [Int64.toBitVec_or, one64 m hm, BitVec.getLsbD_or, BitVec.getLsbD_twoPow]
  by_cases e : i = m
  · subst e; simp [hi]
  · have e2 : ¬ m = i := fun q => e q.symm
    simp [e, e2]
theorem LosF.or {g : Int64} {l : Nat → Bool} (h : LosF g l) {m : Nat} (hm : m < 60) : LosF (g ||| ((1 : Int64) <<< (Int32.toInt64 (nI m) &&& 63))) (va_up l m true) := fun i hi => by
  rw [or64 g (by omega) hi, h i hi]
  unfold va_up
  by_cases e : i = m
  · subst e; simp [hm]
  · simp [e]
/-- the trials so far -/
def TB (P : ZP) (σ0 : CS) (m : Nat) (σ : CS) : Prop := (∀ c, c ≠ 0 → c < 36 ∨ 58 ≤ c → sl σ c = sl σ0 c) ∧ (∀ k, cI σ 0 k = cI σ0 0 k) ∧ (∀ k, cZ σ 0 k = cZ σ0 0 k) ∧
  (∀ i, i < 64 → (cG σ 0 11).toBitVec.getLsbD i = (decide (i < m) && hbit P i)) ∧ (∀ i, i < 64 → (cG σ 0 12).toBitVec.getLsbD i = (decide (i < m) && kbit P i))
theorem cG_s {σ : CS} {c k : Nat} {v : Int64} : cG (tG σ c k v) c k = v := (congrFun (va_up_s _ _ _) k).trans (va_up_s _ _ _)
theorem cG_k {σ : CS} {c k : Nat} {v : Int64} {c' k' : Nat} (h : k' ≠ k) : cG (tG σ c k v) c' k' = cG σ c' k' := by
  show va_up σ.2.2.1 c (va_up (σ.2.2.1 c) k v) c' k' = σ.2.2.1 c' k'
  unfold va_up
  by_cases e : c' = c
  · rw [if_pos e, if_neg h, e]
  · rw [if_neg e]
section Try
variable {P : ZP} {sd : Int32} {σ0 : CS} {N : Nat}
theorem try_L (hw : PW P) (hF : SetF 3 P sd σ0) (hN : N ≤ 60) (hN2 : N ≤ zn (xRun P 60).1) : ∀ (r m fu : Nat) (σ : CS), TB P σ0 m σ → m + r = N → r < fu → ∃ σ', cP_tryLosses_l30 fu (nI N) (nI m) σ = some ((), tZ σ' 0 10 true) ∧ TB P σ0 N σ'
  | r, m, 0, σ, _, _, h3 => by omega
  | 0, m, fu + 1, σ, h, h2, _ => by
    refine ⟨σ, ?_, ?_⟩
    · rw [cP_tryLosses_l30, if_pos ((P_le (by omega) (by omega)).mpr (by omega))]
    · rw [show N = m by omega]; exact h
  | r + 1, m, fu + 1, σ, h, h2, h3 => by
    have hn := hw.2.1
    obtain ⟨t1, t2, t3, t4, t5⟩ := h
    have F : SetF 3 P sd σ := hF.cong (t1 3 (by omega) (by omega)) (t1 4 (by omega) (by omega)) (t1 5 (by omega) (by omega))
    have hbit_m : lbit (cG σ 3 5) m = pl P m := F.2.2.1.b m (by omega)
    have e0 : cP_tryLosses_l30 (fu + 1) (nI N) (nI m) σ = if pl P m = true then cP_tryLosses_l30 fu (nI N) (nI (m + 1)) σ else (cR_play 36 (cG σ 3 5 ||| ((1 : Int64) <<< (Int32.toInt64 (nI m) &&& 63))) (cZ σ 3 3) σ).bind fun a2 => (cR_isAlikeAt 36 60 a2.2).bind fun a3 => if a3.1 = true then cP_tryLosses_b104 (fun x2 x3 σ => cP_tryLosses_l30 fu x2 x3 σ) (nI N) (nI m) ((1 : Int64) <<< (Int32.toInt64 (nI m) &&& 63)) a3.2 else cP_tryLosses_b104 (fun x2 x3 σ => cP_tryLosses_l30 fu x2 x3 σ) (nI N) (nI m) ((1 : Int64) <<< (Int32.toInt64 (nI m) &&& 63)) (tG a3.2 0 11 (cG a3.2 0 11 ||| ((1 : Int64) <<< (Int32.toInt64 (nI m) &&& 63)))) := by
      rw [cP_tryLosses_l30, if_neg (fun q => absurd ((P_le (by omega) (by omega)).mp q) (by omega)), isIn_C (by omega), Option.bind_some, nI_1, hbit_m, decide_eq_true (show m < 60 by omega), Bool.true_and]
    rw [e0]
    by_cases e : pl P m = true
    · rw [if_pos e]
      refine try_L hw hF hN hN2 r (m + 1) fu σ ⟨t1, t2, t3, fun i hi => ?_, fun i hi => ?_⟩ (by omega) (by omega)
      · rw [t4 i hi]
        by_cases q : i = m
        · subst q
          have hb : hbit P i = false := by unfold hbit; rw [e]; simp
          rw [hb, Bool.and_false, Bool.and_false]
        · rw [show decide (i < m + 1) = decide (i < m) from by by_cases c : i < m; rw [decide_eq_true c, decide_eq_true (by omega)]; rw [decide_eq_false c, decide_eq_false (by omega)]]
      · rw [t5 i hi]
        by_cases q : i = m
        · subst q
          have hb : kbit P i = false := by unfold kbit; rw [e]; simp
          rw [hb, Bool.and_false, Bool.and_false]
        · rw [show decide (i < m + 1) = decide (i < m) from by by_cases c : i < m; rw [decide_eq_true c, decide_eq_true (by omega)]; rw [decide_eq_false c, decide_eq_false (by omega)]]
    · rw [if_neg e]
      have ef : pl P m = false := by simpa using e
      obtain ⟨σ1, p1, p2, p3⟩ := play_C (b := 36) (P := xLose P m) hw (by omega) (σ := σ) F.1 (F.2.2.1.or (show m < 60 by omega)).b F.2.1
      have Q : ∀ σ', (∀ c, 3 ≤ c → c < 58 → sl σ' c = sl σ1 c) → QC 36 (xLose P m) σ' := fun σ' hs => ⟨p2.cong (fun c h1 h2 => hs c (by omega) (by omega)), (sl_I (hs 3 (by omega) (by omega)) 0).trans ((sl_I (p3 3 (by omega)) 0).trans F.1.1)⟩
      have c1 : cR_isAlikeAt 36 60 σ1 = some (xAlike (xLose P m) 60, σ1) := alike_C (P := xLose P m) (t := 60) (u := false) (v := false) hw (Q σ1 (fun _ _ _ => rfl)) (by omega) (fun s _ => run_le (by omega) s) (pn P + 1) 0 4096 (by show 0 + (pn P + 1) = pn P + 1; omega) (by omega)
      have c2 : ∀ σ', (∀ c, 3 ≤ c → c < 58 → sl σ' c = sl σ1 c) → cR_whoIsBlocked 36 σ' = some (xBlk (xLose P m), σ') := fun σ' hs => blocked_C (P := xLose P m) hw (Q σ' hs) (pn P) 1 4096 0 (by show 1 + pn P = pn P + 1; omega) (by omega)
      have B : ∀ (σ2 : CS), (∀ c, c ≠ 0 → sl σ2 c = sl σ1 c) → cP_tryLosses_b104 (fun x2 x3 σ => cP_tryLosses_l30 fu x2 x3 σ) (nI N) (nI m) ((1 : Int64) <<< (Int32.toInt64 (nI m) &&& 63)) σ2 = cP_tryLosses_l30 fu (nI N) (nI (m + 1)) (if xBlk (xLose P m) = 0 then σ2 else tG σ2 0 12 (cG σ2 0 12 ||| ((1 : Int64) <<< (Int32.toInt64 (nI m) &&& 63)))) := fun σ2 hs => by
        unfold cP_tryLosses_b104
        rw [c2 σ2 (fun c h1 _ => hs c (by omega)), Option.bind_some, nI_1]
        by_cases q : xBlk (xLose P m) = 0
        · rw [if_pos q, if_pos q]
        · rw [if_neg q, if_neg q]
      let σ2 : CS := if xAlike (xLose P m) 60 = true then σ1 else tG σ1 0 11 (cG σ1 0 11 ||| ((1 : Int64) <<< (Int32.toInt64 (nI m) &&& 63)))
      let σ3 : CS := if xBlk (xLose P m) = 0 then σ2 else tG σ2 0 12 (cG σ2 0 12 ||| ((1 : Int64) <<< (Int32.toInt64 (nI m) &&& 63)))
      have s2 : ∀ c, c ≠ 0 → sl σ2 c = sl σ1 c := fun c hc => by
        show sl (if xAlike (xLose P m) 60 = true then σ1 else tG σ1 0 11 (cG σ1 0 11 ||| ((1 : Int64) <<< (Int32.toInt64 (nI m) &&& 63)))) c = _
        split
        · rfl
        · exact tG_o c hc
      have s3 : ∀ c, c ≠ 0 → sl σ3 c = sl σ1 c := fun c hc => by
        show sl (if xBlk (xLose P m) = 0 then σ2 else tG σ2 0 12 (cG σ2 0 12 ||| ((1 : Int64) <<< (Int32.toInt64 (nI m) &&& 63)))) c = _
        split
        · exact s2 c hc
        · exact (tG_o c hc).trans (s2 c hc)
      have i3 : ∀ k, cI σ3 0 k = cI σ1 0 k := fun k => by
        show cI (if xBlk (xLose P m) = 0 then σ2 else tG σ2 0 12 (cG σ2 0 12 ||| ((1 : Int64) <<< (Int32.toInt64 (nI m) &&& 63)))) 0 k = _
        have : cI σ2 0 k = cI σ1 0 k := by
          show cI (if xAlike (xLose P m) 60 = true then σ1 else tG σ1 0 11 (cG σ1 0 11 ||| ((1 : Int64) <<< (Int32.toInt64 (nI m) &&& 63)))) 0 k = _
          split <;> rfl
        split
        · exact this
        · exact this
      have z3 : ∀ k, cZ σ3 0 k = cZ σ1 0 k := fun k => by
        show cZ (if xBlk (xLose P m) = 0 then σ2 else tG σ2 0 12 (cG σ2 0 12 ||| ((1 : Int64) <<< (Int32.toInt64 (nI m) &&& 63)))) 0 k = _
        have : cZ σ2 0 k = cZ σ1 0 k := by
          show cZ (if xAlike (xLose P m) 60 = true then σ1 else tG σ1 0 11 (cG σ1 0 11 ||| ((1 : Int64) <<< (Int32.toInt64 (nI m) &&& 63)))) 0 k = _
          split <;> rfl
        split
        · exact this
        · exact this
      have g11 : cG σ3 0 11 = if xAlike (xLose P m) 60 = true then cG σ 0 11 else cG σ 0 11 ||| ((1 : Int64) <<< (Int32.toInt64 (nI m) &&& 63)) := by
        have q0 : cG σ1 0 11 = cG σ 0 11 := sl_G (p3 0 (by omega)) 11
        have q1 : cG σ3 0 11 = cG σ2 0 11 := by
          show cG (if xBlk (xLose P m) = 0 then σ2 else tG σ2 0 12 (cG σ2 0 12 ||| ((1 : Int64) <<< (Int32.toInt64 (nI m) &&& 63)))) 0 11 = _
          split
          · rfl
          · exact cG_k (by decide)
        rw [q1, ← q0]
        show cG (if xAlike (xLose P m) 60 = true then σ1 else tG σ1 0 11 (cG σ1 0 11 ||| ((1 : Int64) <<< (Int32.toInt64 (nI m) &&& 63)))) 0 11 = _
        split
        · rfl
        · exact cG_s
      have g12 : cG σ3 0 12 = if xBlk (xLose P m) = 0 then cG σ 0 12 else cG σ 0 12 ||| ((1 : Int64) <<< (Int32.toInt64 (nI m) &&& 63)) := by
        have q0 : cG σ1 0 12 = cG σ 0 12 := sl_G (p3 0 (by omega)) 12
        have q1 : cG σ2 0 12 = cG σ1 0 12 := by
          show cG (if xAlike (xLose P m) 60 = true then σ1 else tG σ1 0 11 (cG σ1 0 11 ||| ((1 : Int64) <<< (Int32.toInt64 (nI m) &&& 63)))) 0 12 = _
          split
          · rfl
          · exact cG_k (by decide)
        show cG (if xBlk (xLose P m) = 0 then σ2 else tG σ2 0 12 (cG σ2 0 12 ||| ((1 : Int64) <<< (Int32.toInt64 (nI m) &&& 63)))) 0 12 = _
        split
        · exact q1.trans q0
        · exact cG_s.trans (by rw [q1, q0])
      have hh : hbit P m = !xAlike (xLose P m) 60 := by unfold hbit; rw [ef, decide_eq_true (show m < zn (xRun P 60).1 by omega)]; rfl
      have hk : kbit P m = !decide (xBlk (xLose P m) = 0) := by unfold kbit; rw [ef, decide_eq_true (show m < zn (xRun P 60).1 by omega)]; rfl
      have hlt : ∀ i, i ≠ m → decide (i < m + 1) = decide (i < m) := fun i q => by
        by_cases c : i < m
        · rw [decide_eq_true c, decide_eq_true (by omega)]
        · rw [decide_eq_false c, decide_eq_false (by omega)]
      have hTB : TB P σ0 (m + 1) σ3 := by
        refine ⟨fun c h1 h2 => (s3 c h1).trans ((p3 c (by omega)).trans (t1 c h1 h2)), fun k => (i3 k).trans ((sl_I (p3 0 (by omega)) k).trans (t2 k)), fun k => (z3 k).trans ((sl_Z (p3 0 (by omega)) k).trans (t3 k)), fun i hi => ?_, fun i hi => ?_⟩
        · rw [g11]
          by_cases q : i = m
          · subst q
            rw [decide_eq_true (Nat.lt_succ_self i), Bool.true_and, hh]
            cases xAlike (xLose P i) 60
            · rw [if_neg (by decide), or64 _ hi hi, decide_eq_true rfl, Bool.or_true]; rfl
            · rw [if_pos rfl, t4 i hi, decide_eq_false (Nat.lt_irrefl i)]; rfl
          · rw [hlt i q]
            split
            · exact t4 i hi
            · rw [or64 _ (by omega) hi, decide_eq_false q, Bool.or_false]; exact t4 i hi
        · rw [g12]
          by_cases q : i = m
          · subst q
            rw [decide_eq_true (Nat.lt_succ_self i), Bool.true_and, hk]
            by_cases z : xBlk (xLose P i) = 0
            · rw [if_pos z, decide_eq_true z, t5 i hi, decide_eq_false (Nat.lt_irrefl i)]; rfl
            · rw [if_neg z, decide_eq_false z, or64 _ hi hi, decide_eq_true rfl, Bool.or_true]; rfl
          · rw [hlt i q]
            split
            · exact t5 i hi
            · rw [or64 _ (by omega) hi, decide_eq_false q, Bool.or_false]; exact t5 i hi
      have fin : (cR_play 36 (cG σ 3 5 ||| ((1 : Int64) <<< (Int32.toInt64 (nI m) &&& 63))) (cZ σ 3 3) σ).bind (fun a2 => (cR_isAlikeAt 36 60 a2.2).bind fun a3 => if a3.1 = true then cP_tryLosses_b104 (fun x2 x3 σ => cP_tryLosses_l30 fu x2 x3 σ) (nI N) (nI m) ((1 : Int64) <<< (Int32.toInt64 (nI m) &&& 63)) a3.2 else cP_tryLosses_b104 (fun x2 x3 σ => cP_tryLosses_l30 fu x2 x3 σ) (nI N) (nI m) ((1 : Int64) <<< (Int32.toInt64 (nI m) &&& 63)) (tG a3.2 0 11 (cG a3.2 0 11 ||| ((1 : Int64) <<< (Int32.toInt64 (nI m) &&& 63))))) = cP_tryLosses_l30 fu (nI N) (nI (m + 1)) σ3 := by
        rw [p1, Option.bind_some]
        rw [c1, Option.bind_some]
        show _ = cP_tryLosses_l30 fu (nI N) (nI (m + 1)) (if xBlk (xLose P m) = 0 then (if xAlike (xLose P m) 60 = true then σ1 else tG σ1 0 11 (cG σ1 0 11 ||| ((1 : Int64) <<< (Int32.toInt64 (nI m) &&& 63)))) else tG (if xAlike (xLose P m) 60 = true then σ1 else tG σ1 0 11 (cG σ1 0 11 ||| ((1 : Int64) <<< (Int32.toInt64 (nI m) &&& 63)))) 0 12 (cG (if xAlike (xLose P m) 60 = true then σ1 else tG σ1 0 11 (cG σ1 0 11 ||| ((1 : Int64) <<< (Int32.toInt64 (nI m) &&& 63)))) 0 12 ||| ((1 : Int64) <<< (Int32.toInt64 (nI m) &&& 63))))
        by_cases al : xAlike (xLose P m) 60 = true
        · rw [if_pos al, if_pos al]; exact B σ1 (fun _ _ => rfl)
        · rw [if_neg al, if_neg al]; exact B _ (fun c hc => tG_o c hc)
      rw [fin]
      exact try_L hw hF hN hN2 r (m + 1) fu σ3 hTB (by omega) (by omega)
theorem RelP.try {σ : CS} {τ : MS} (h : RelP P sd σ τ) (hQ : QC 14 P σ) (hz8 : cZ σ 0 8 = true) : ∃ σ', cP_tryLosses σ = some ((), σ') ∧ RelP P sd σ' τ ∧ TriC P σ' := by
  have h10 := h.2.2.2.2.2.2.2.2.2
  by_cases e : cZ σ 0 10 = true
  · refine ⟨σ, ?_, h, h10 e⟩
    unfold cP_tryLosses
    rw [if_pos e]
  · have m1 : zn (xRun P 60).1 ≤ 200 ∧ cI σ 14 8 = nI (zn (xRun P 60).1) := by
      obtain ⟨T, -, -, -, -, -, -, q1, q2, -⟩ := hQ.1
      exact ⟨q1, q2⟩
    have hmin : (if 60 < cI σ 14 8 then 60 else cI σ 14 8) = nI (min 60 (zn (xRun P 60).1)) := by
      rw [m1.2]
      by_cases q : 60 < zn (xRun P 60).1
      · rw [if_pos (show 60 < nI (zn (xRun P 60).1) from (P_lt (a := 60) (by omega) (by omega)).mpr q), Nat.min_eq_left (by omega)]; rfl
      · rw [if_neg (show ¬ 60 < nI (zn (xRun P 60).1) from fun z => q ((P_lt (a := 60) (by omega) (by omega)).mp z)), Nat.min_eq_right (by omega)]
    have hTB : TB P σ 0 (tG (tG σ 0 11 0) 0 12 0) := by
      refine ⟨fun c h1 _ => (tG_o c h1).trans (tG_o c h1), fun _ => rfl, fun _ => rfl, fun i hi => ?_, fun i hi => ?_⟩
      · rw [show cG (tG (tG σ 0 11 0) 0 12 0) 0 11 = 0 from (cG_k (by decide)).trans cG_s]
        show BitVec.getLsbD 0#64 i = _
        simp
      · rw [show cG (tG (tG σ 0 11 0) 0 12 0) 0 12 = 0 from cG_s]
        show BitVec.getLsbD 0#64 i = _
        simp
    obtain ⟨σ1, g1, t1, t2, t3, t4, t5⟩ := try_L (N := min 60 (zn (xRun P 60).1)) h.1 h.2.2.2.1 (Nat.min_le_left _ _) (Nat.min_le_right _ _) (min 60 (zn (xRun P 60).1)) 0 4096 _ hTB (by omega) (by have := Nat.min_le_left 60 (zn (xRun P 60).1); omega)
    have z00 : nI 0 = 0 := rfl
    rw [z00] at g1
    have hT : TriC P (tZ σ1 0 10 true) := fun m hm => by
      show (cG σ1 0 11).toBitVec.getLsbD m = hbit P m ∧ (cG σ1 0 12).toBitVec.getLsbD m = kbit P m
      rw [t4 m (by omega), t5 m (by omega)]
      by_cases q : m < zn (xRun P 60).1
      · rw [decide_eq_true (show m < min 60 (zn (xRun P 60).1) by omega)]; exact ⟨rfl, rfl⟩
      · rw [decide_eq_false (show ¬ m < min 60 (zn (xRun P 60).1) by omega)]
        unfold hbit kbit
        rw [decide_eq_false q]; exact ⟨rfl, rfl⟩
    refine ⟨tZ σ1 0 10 true, ?_, ?_, hT⟩
    · unfold cP_tryLosses
      rw [if_neg e, hmin]; exact g1
    · refine h.cells (fun c h1 h2 => (tZ_o c h1).trans (t1 c h1 (by omega))) (t2 6) ((cZ_k (by decide)).trans (t3 4)) (fun _ => hQ.1.cong (fun c h1 h2 => (tZ_o c (by omega)).trans (t1 c (by omega) (by omega)))) (fun _ => hT)
end Try
