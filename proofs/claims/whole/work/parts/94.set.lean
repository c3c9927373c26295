/-! STEPS: the set-up changes -/
def FrS (τ τ' : MS) : Prop := τ'.2.1 = τ.2.1 ∧ τ'.2.2.2 = τ.2.2.2 ∧ (∀ k, k < 5 ∨ 9 < k → k < 35 ∨ 38 < k → mI τ' k = mI τ k) ∧ ∀ k, k < 1 ∨ 4 < k → k < 31 ∨ 34 < k → mA τ' k = mA τ k
theorem FrS.rf {τ : MS} : FrS τ τ := ⟨rfl, rfl, fun _ _ _ => rfl, fun _ _ _ => rfl⟩
theorem FrS.tr {a b c : MS} (h : FrS a b) (k : FrS b c) : FrS a c := ⟨k.1.trans h.1, k.2.1.trans h.2.1, fun i h1 h2 => (k.2.2.1 i h1 h2).trans (h.2.2.1 i h1 h2), fun i h1 h2 => (k.2.2.2 i h1 h2).trans (h.2.2.2 i h1 h2)⟩
theorem FrS.sI {τ0 τ : MS} (h : FrS τ0 τ) {k : Nat} (v : Int32) (hk : (5 ≤ k ∧ k ≤ 9) ∨ (35 ≤ k ∧ k ≤ 38)) : FrS τ0 (sI τ k v) := ⟨h.1, h.2.1, fun i h1 h2 => (va_up_n _ _ (by omega)).trans (h.2.2.1 i h1 h2), h.2.2.2⟩
theorem FrS.sA {τ0 τ : MS} (h : FrS τ0 τ) {k : Nat} (i : Nat) (v : Int32) (hk : (1 ≤ k ∧ k ≤ 4) ∨ (31 ≤ k ∧ k ≤ 34)) : FrS τ0 (sA τ k i v) := ⟨h.1, h.2.1, h.2.2.1, fun j h1 h2 => (va_up_n _ _ (by omega)).trans (h.2.2.2 j h1 h2)⟩
section Set
variable {P P' : ZP} {sd sd' : Int32} {σ σ1 : CS} {τ τ' : MS}
theorem RelP.set (h : RelP P sd σ τ) (hw : PW P') (hs : ∀ c, c ≠ 0 → (c < 3 ∨ 5 < c) → (c < 9 ∨ 13 < c) → sl σ1 c = sl σ c) (hZ : cZ σ1 0 4 = cZ σ 0 4) (h6 : cI σ1 0 6 = mI τ' 36) (hF : SetF 3 P' sd' σ1) (hM : SetM P' τ') (h9 : mI τ' 9 = sd') (fr : FrS τ τ') : RelP P' sd' (tZ (tZ σ1 0 8 false) 0 10 false) τ' := by
  obtain ⟨-, hSH, hRF, -, -, -, ⟨i1, i2⟩, -, -, -⟩ := h
  obtain ⟨f1, f2, f3, f4⟩ := fr
  have hs' : ∀ c, c ≠ 0 → (c < 3 ∨ 5 < c) → (c < 9 ∨ 13 < c) → sl (tZ (tZ σ1 0 8 false) 0 10 false) c = sl σ c := fun c h1 h2 h3 => (tZ_o c h1).trans ((tZ_o c h1).trans (hs c h1 h2 h3))
  have hz : cZ (tZ (tZ σ1 0 8 false) 0 10 false) 0 4 = cZ σ 0 4 := (cZ_k (by decide)).trans ((cZ_k (by decide)).trans hZ)
  refine ⟨hw, (hSH.cells (fun c hc => hs' c (by omega) (by omega) (by omega))).rows (f4 28 (by omega) (by omega)) (f4 29 (by omega) (by omega)) f2, ?_, hF.cong ((tZ_o 3 (by omega)).trans (tZ_o 3 (by omega))) ((tZ_o 4 (by omega)).trans (tZ_o 4 (by omega))) ((tZ_o 5 (by omega)).trans (tZ_o 5 (by omega))), hM, h9, ⟨hz.trans (i1.trans (congrFun f1 40).symm), fun q => ?_⟩, h6, fun q => ?_, fun q => ?_⟩
  · unfold RF
    rw [sl_A (hs' 2 (by omega) (by omega) (by omega)), f4 0 (by omega) (by omega)]; exact hRF
  · rw [hz] at q
    obtain ⟨P2, sd2, a1, a2, a3⟩ := i2 q
    refine ⟨P2, sd2, a1, a2.cong (hs' 6 (by omega) (by omega) (by omega)) (hs' 7 (by omega) (by omega) (by omega)) (hs' 8 (by omega) (by omega) (by omega)), ?_⟩
    unfold KeptM
    rw [f4 39 (by omega) (by omega)]; exact a3
  · rw [show cZ (tZ (tZ σ1 0 8 false) 0 10 false) 0 8 = false from (cZ_k (by decide)).trans cZ_s] at q; cases q
  · rw [show cZ (tZ (tZ σ1 0 8 false) 0 10 false) 0 10 = false from cZ_s] at q; cases q
end Set
theorem andn32 (x : Int32) {k : Nat} (hk : k < 32) {i : Nat} (hi : i < 32) : bt (x &&& (((1 : Int32) <<< (nI k &&& 31)) ^^^ (-1))) i = (bt x i && !decide (i = k)) := by
  rw [b_and, b_xor, b_m1 i hi, Bool.xor_true]
  congr 2
  have h := or32 0 hk hi
  rw [b_or, b_0, Bool.false_or, Bool.false_or] at h
  exact h
def xVote (P : ZP) (p : Nat) (y : Bool) : ZP := (pn P, pp P, pw P, pz P, va_up (pv P) p y, pl P, pd P)
def xLoss (P : ZP) (m : Nat) (y : Bool) : ZP := (pn P, pp P, pw P, pz P, pv P, va_up (pl P) m y, pd P)
def xDown (P : ZP) (s : Nat) (q : Option (Nat × Nat)) : ZP := (pn P, pp P, pw P, pz P, pv P, pl P, va_up (pd P) s q)
/-- the class's set-up at q takes a vote, a loss, a down -/
theorem SetF.vote {q : Nat} {P : ZP} {sd : Int32} {σ : CS} (h : SetF q P sd σ) {p : Nat} (h1 : 1 ≤ p) (h5 : p ≤ 5) (y : Bool) : ∃ σ', cS_giveVote q (nI p) y σ = some ((), σ') ∧ SetF q (xVote P p y) sd σ' ∧ (∀ c, c ≠ q → sl σ' c = sl σ c) := by
  obtain ⟨⟨a1, a2, a3, a4, a5⟩, b1, b2, b3⟩ := h
  have K : ∀ v : Int32, (∀ p', 1 ≤ p' → p' ≤ 5 → sbit v p' = va_up (pv P) p y p') → SetF q (xVote P p y) sd (tI σ q 4 v) ∧ (∀ c, c ≠ q → sl (tI σ q 4 v) c = sl σ c) := fun v hv => by
    refine ⟨⟨⟨(cI_k (by decide)).trans a1, (cI_k (by decide)).trans a2, (cI_k (by decide)).trans a3, ?_, a5⟩, b1, b2, (cI_k (by decide)).trans b3⟩, fun c hc => tI_o c hc⟩
    rw [cI_s]; exact hv
  unfold cS_giveVote
  cases y
  · rw [if_neg (by decide)]
    refine ⟨_, rfl, K _ (fun p' q1 q2 => ?_)⟩
    rw [sbit_bt _ (by omega), andn32 _ (by omega) (by omega), ← sbit_bt _ (by omega), a4 p' q1 q2]
    unfold va_up
    by_cases e : p' = p
    · rw [if_pos e, decide_eq_true e]; simp
    · rw [if_neg e, decide_eq_false e]; simp
  · rw [if_pos rfl]
    refine ⟨_, rfl, K _ (fun p' q1 q2 => ?_)⟩
    rw [sbit_bt _ (by omega), or32 _ (by omega) (by omega), ← sbit_bt _ (by omega), a4 p' q1 q2]
    unfold va_up
    by_cases e : p' = p
    · rw [if_pos e, decide_eq_true e]; simp
    · rw [if_neg e, decide_eq_false e]; simp
theorem LosF.andn {g : Int64} {l : Nat → Bool} (h : LosF g l) {m : Nat} (hm : m < 60) : LosF (g &&& (((1 : Int64) <<< (Int32.toInt64 (nI m) &&& 63)) ^^^ (-1))) (va_up l m false) := fun i hi => by
  have ha : (-1 : Int64).toBitVec = BitVec.allOnes 64 := by decide
  rw [Int64.toBitVec_and, Int64.toBitVec_xor, one64 m (by omega), ha, BitVec.getLsbD_and, BitVec.getLsbD_xor, BitVec.getLsbD_twoPow, BitVec.getLsbD_allOnes, h i hi]
  unfold va_up
  by_cases e : i = m
  · subst e; simp [hi]
  · have e2 : ¬ m = i := fun q => e q.symm
    simp [e, e2, hi]
theorem SetF.loss {q : Nat} {P : ZP} {sd : Int32} {σ : CS} (h : SetF q P sd σ) {m : Nat} (hm : m < 60) (y : Bool) : ∃ σ', cS_giveLoss q (nI m) y σ = some ((), σ') ∧ SetF q (xLoss P m y) sd σ' ∧ (∀ c, c ≠ q → sl σ' c = sl σ c) := by
  obtain ⟨a, b1, b2, b3⟩ := h
  unfold cS_giveLoss
  cases y
  · rw [if_neg (by decide)]
    refine ⟨_, rfl, ⟨a, b1, ?_, b3⟩, fun c hc => tG_o c hc⟩
    rw [cG_s]; exact b2.andn hm
  · rw [if_pos rfl]
    refine ⟨_, rfl, ⟨a, b1, ?_, b3⟩, fun c hc => tG_o c hc⟩
    rw [cG_s]; exact b2.or hm
theorem SetF.down {q : Nat} {P : ZP} {sd : Int32} {σ : CS} (h : SetF q P sd σ) {s : Nat} (hs : s < 6) (o : Option (Nat × Nat)) {x y : Int32} (hn : o = none → x = -1 ∧ y = -1) (ho : ∀ d u, o = some (d, u) → x = nI d ∧ y = nI u) : ∃ σ', cS_giveDown q (nI s) x y σ = some ((), σ') ∧ SetF q (xDown P s o) sd σ' ∧ (∀ c, c ≠ q + 1 → c ≠ q + 2 → sl σ' c = sl σ c) := by
  obtain ⟨⟨a1, a2, a3, a4, a5⟩, b1, b2, b3⟩ := h
  unfold cS_giveDown
  rw [if_neg (Int32.not_lt.mpr (nI_pos' (by omega))), if_neg (show ¬ 6 ≤ nI s from fun z => absurd ((P_le (a := 6) (by omega) (by omega)).mp z) (by omega)), P_in hs (by decide), if_pos rfl, if_pos rfl, P_ix (show s < 2 ^ 31 by omega)]
  refine ⟨_, rfl, ⟨⟨a1, a2, a3, a4, fun j hj => ?_⟩, b1, b2, b3⟩, fun c h1 h2 => (qA_o c h2).trans (qA_o c h1)⟩
  have e1 : cA (tA (tA σ (q + 1) s x) (q + 2) s y) (q + 1) = upd (cA σ (q + 1)) s x := (cA_c (by omega)).trans cA_s
  have e2 : cA (tA (tA σ (q + 1) s x) (q + 2) s y) (q + 2) = upd (cA σ (q + 2)) s y := cA_s.trans (by rw [cA_c (by omega)])
  rw [e1, e2]
  show (va_up (pd P) s o j = none → upd (cA σ (q + 1)) s x j = -1 ∧ upd (cA σ (q + 2)) s y j = -1) ∧ ∀ d u, va_up (pd P) s o j = some (d, u) → upd (cA σ (q + 1)) s x j = nI d ∧ upd (cA σ (q + 2)) s y j = nI u
  unfold va_up upd
  by_cases e : j = s
  · simp only [if_pos e]; exact ⟨hn, ho⟩
  · simp only [if_neg e]; exact a5 j hj
theorem SetM.vote {P : ZP} {τ : MS} (h : SetM P τ) (p : Nat) (y : Bool) : SetM (xVote P p y) (sA τ 1 p (bI y)) := by
  obtain ⟨a1, a2, a3, a4, a5, a6, a7⟩ := h
  refine ⟨a1, a2, a3, a4, fun j h1 h2 => ?_, a6, a7⟩
  show upd (mA τ 1) p (bI y) j = bI (va_up (pv P) p y j)
  unfold upd va_up
  by_cases e : j = p
  · rw [if_pos e, if_pos e]
  · rw [if_neg e, if_neg e]; exact a5 j h1 h2
theorem SetM.loss {P : ZP} {τ : MS} (h : SetM P τ) (m : Nat) (y : Bool) : SetM (xLoss P m y) (sA τ 2 m (bI y)) := by
  obtain ⟨a1, a2, a3, a4, a5, a6, a7⟩ := h
  refine ⟨a1, a2, a3, a4, a5, fun j h1 => ?_, a7⟩
  show upd (mA τ 2) m (bI y) j = bI (va_up (pl P) m y j)
  unfold upd va_up
  by_cases e : j = m
  · rw [if_pos e, if_pos e]
  · rw [if_neg e, if_neg e]; exact a6 j h1
theorem SetM.down {P : ZP} {τ : MS} (h : SetM P τ) (s : Nat) (o : Option (Nat × Nat)) {x y : Int32} (hn : o = none → x = -1) (ho : ∀ d u, o = some (d, u) → x = nI d ∧ y = nI u) : SetM (xDown P s o) (sA (sA τ 3 s x) 4 s y) := by
  obtain ⟨a1, a2, a3, a4, a5, a6, a7⟩ := h
  refine ⟨a1, a2, a3, a4, a5, a6, fun j hj => ?_⟩
  show (va_up (pd P) s o j = none → upd (mA τ 3) s x j = -1) ∧ ∀ d u, va_up (pd P) s o j = some (d, u) → upd (mA τ 3) s x j = nI d ∧ upd (mA τ 4) s y j = nI u
  unfold va_up upd
  by_cases e : j = s
  · simp only [if_pos e]; exact ⟨hn, ho⟩
  · simp only [if_neg e]; exact a7 j hj
theorem PW.down {P : ZP} (h : PW P) (s : Nat) (o : Option (Nat × Nat)) (ho : ∀ d u, o = some (d, u) → d < u ∧ u ≤ 60) : PW (xDown P s o) := by
  obtain ⟨a1, a2, a3, a4, a5, a6⟩ := h
  refine ⟨a1, a2, a3, a4, a5, fun j d u e => ?_⟩
  have e' : va_up (pd P) s o j = some (d, u) := e
  unfold va_up at e'
  by_cases q : j = s
  · rw [if_pos q] at e'; exact ho d u e'
  · rw [if_neg q] at e'; exact a6 j d u e'
theorem st10 : St10 Rel := by
  rintro p1 y σ τ ⟨P, sd, h⟩
  unfold cP_vote m_vote cP_vote_b11
  rw [isIn_M, Option.bind_some]
  have h' := h
  obtain ⟨hw, hSH, hRF, hF, hM, h9, hI, h6, h8, h10⟩ := h'
  by_cases g1 : p1 < 1
  · rw [if_pos g1, decide_eq_false (Int32.not_le.mpr g1), Bool.false_and, if_neg (show ¬ false = true by decide)]; exact h.no' (-1) (by decide)
  · have g0 : ¬ p1 < 0 := fun q => g1 (Int32.lt_trans q (by decide))
    obtain ⟨p, hp, rfl⟩ := nI_of g0
    have hp1 : 1 ≤ p := by
      rcases Nat.lt_or_ge p 1 with q | q
      · exact absurd ((P_lt (b := 1) hp (by omega)).mpr q) g1
      · exact q
    by_cases g6 : nI p < 6
    · have hp6 : p < 6 := (P_lt (b := 6) hp (by omega)).mp g6
      obtain ⟨σ1, v1, v2, v3⟩ := hF.vote hp1 (by omega) y
      have w5 : nI p ≤ 5 := (P_le (b := 5) hp (by omega)).mpr (by omega)
      have hv : cS_votesYes 3 (nI p) σ = some (pv P p, σ) := by
        unfold cS_votesYes
        have k := hF.1.2.2.2.1 p hp1 (by omega)
        unfold sbit at k
        by_cases e : ((cI σ 3 4 >>> (nI p &&& 31)) &&& 1) = 0
        · rw [decide_eq_true e] at k
          rw [if_pos e, ← k]; rfl
        · rw [decide_eq_false e] at k
          rw [if_neg e, ← k]; rfl
      have hb : ∀ t0 : Bool, cP_vote_b33 (nI p) y t0 σ = some (bI t0, tZ (tZ σ1 0 8 false) 0 10 false) := fun t0 => by
        unfold cP_vote_b33 cP_forgetRuns
        rw [v1, Option.bind_some, Option.bind_some]
      have hR : RelP (xVote P p y) sd (tZ (tZ σ1 0 8 false) 0 10 false) (sA τ 1 p (bI y)) := by
        refine h.set (P' := xVote P p y) hw (fun c h1 h2 _ => v3 c (by omega)) (sl_Z (v3 0 (by omega)) 4) ((sl_I (v3 0 (by omega)) 6).trans h6) v2 (hM.vote p y) h9 (FrS.rf.sA _ _ (by omega))
      rw [if_neg g1, if_pos g6, hv, Option.bind_some, decide_eq_true (show (1 : Int32) ≤ nI p from Int32.not_lt.mp g1), decide_eq_true w5, if_pos (show (true && true) = true from rfl), P_in hp6 (by decide), P_ix hp, hM.2.2.2.2.1 p hp1 (by omega)]
      simp only [if_true]
      refine ⟨bI (pv P p), _, sA τ 1 p (bI y), ?_, ?_, _, _, hR⟩
      · cases pv P p
        · exact hb false
        · exact hb true
      · cases y
        · rfl
        · rfl
    · have w5 : ¬ nI p ≤ 5 := fun q => g6 (Int32.lt_of_le_of_lt q (by decide))
      rw [if_neg g1, if_neg g6, decide_eq_false w5, Bool.and_false, if_neg (show ¬ false = true by decide)]; exact h.no' (-1) (by decide)
theorem st11 : St11 Rel := by
  rintro p1 y σ τ ⟨P, sd, h⟩
  unfold cP_lose m_lose cP_lose_b10
  rw [isIn_M, Option.bind_some, show (decide (0 ≤ p1) && decide (p1 ≤ 59)) = inB p1 60 from le_in (n := 59) (by omega) p1]
  have h' := h
  obtain ⟨hw, hSH, hRF, hF, hM, h9, hI, h6, h8, h10⟩ := h'
  rcases pk_ix p1 (n := 60) (by omega) with g | g | ⟨m, hm, rfl⟩
  · rw [P_neg g, if_pos g, if_neg (show ¬ false = true by decide)]; exact h.no' (-1) (by decide)
  · rw [P_big (by omega) g, if_neg (Int32.not_lt.mpr (Int32.le_trans (by decide) g)), if_neg (show ¬ p1 < 60 from Int32.not_lt.mpr g), if_neg (show ¬ false = true by decide)]; exact h.no' (-1) (by decide)
  · obtain ⟨σ1, v1, v2, v3⟩ := hF.loss hm y
    have hb : ∀ t0 : Bool, cP_lose_b35 (nI m) y t0 σ = some (bI t0, tZ (tZ σ1 0 8 false) 0 10 false) := fun t0 => by
      unfold cP_lose_b35 cP_forgetRuns
      rw [v1, Option.bind_some, Option.bind_some]
    have hR : RelP (xLoss P m y) sd (tZ (tZ σ1 0 8 false) 0 10 false) (sA τ 2 m (bI y)) := by
      refine h.set (P' := xLoss P m y) hw (fun c h1 h2 _ => v3 c (by omega)) (sl_Z (v3 0 (by omega)) 4) ((sl_I (v3 0 (by omega)) 6).trans h6) v2 (hM.loss m y) h9 (FrS.rf.sA _ _ (by omega))
    rw [P_in hm (by omega), if_neg (Int32.not_lt.mpr (nI_pos' (by omega))), if_pos (show nI m < 60 from (P_lt (b := 60) (by omega) (by omega)).mpr hm), isIn_C (by omega), Option.bind_some, hF.2.2.1.b m hm, decide_eq_true hm, Bool.true_and, P_ix (show m < 2 ^ 31 by omega), hM.2.2.2.2.2.1 m hm]
    simp only [if_true]
    refine ⟨bI (pl P m), _, sA τ 2 m (bI y), ?_, ?_, _, _, hR⟩
    · cases pl P m
      · exact hb false
      · exact hb true
    · cases y
      · rfl
      · rfl
theorem st12 : St12 Rel := by
  rintro p1 p2 p3 σ τ ⟨P, sd, h⟩
  unfold cP_down m_down cP_down_b10
  rw [isIn_M, Option.bind_some, show (decide (0 ≤ p1) && decide (p1 ≤ 5)) = inB p1 6 from le_in (n := 5) (by omega) p1]
  have h' := h
  obtain ⟨hw, hSH, hRF, hF, hM, h9, hI, h6, h8, h10⟩ := h'
  have nob : ∀ (x1 x2 x3 t0 : Int32), ¬ t0 = 0 → m_down_b27 x1 x2 x3 t0 τ = (m_no t0 τ).bind fun a1 => some (a1.1, a1.2) := fun x1 x2 x3 t0 ht => by unfold m_down_b27; rw [if_neg ht]
  rcases pk_ix p1 (n := 6) (by omega) with g | g | ⟨s, hs, rfl⟩
  · rw [P_neg g, if_pos g, if_neg (show ¬ false = true by decide), nob _ _ _ _ (by decide)]; exact h.no' (-1) (by decide)
  · rw [P_big (by omega) g, if_neg (Int32.not_lt.mpr (Int32.le_trans (by decide) g)), if_neg (show ¬ p1 < 6 from Int32.not_lt.mpr g), if_neg (show ¬ false = true by decide), nob _ _ _ _ (by decide)]; exact h.no' (-1) (by decide)
  · rw [P_in hs (by omega), if_neg (Int32.not_lt.mpr (nI_pos' (by omega))), if_pos (show nI s < 6 from (P_lt (b := 6) (by omega) (by omega)).mpr hs), if_pos rfl]
    have DO : ∀ (o : Option (Nat × Nat)) (x y : Int32), (o = none → x = -1 ∧ y = -1) → (∀ d u, o = some (d, u) → x = nI d ∧ y = nI u) → (∀ d u, o = some (d, u) → d < u ∧ u ≤ 60) → ∀ z : Int32, (∀ d u, o = some (d, u) → z = nI u) → ∃ r σ' τ', ((cS_giveDown 3 (nI s) x y σ).bind fun a4 => cP_down_b73 a4.2) = some (r, σ') ∧ m_down_b27 (nI s) x z 0 τ = some (r, τ') ∧ Rel σ' τ' := fun o x y hn ho hd z hz => by
      obtain ⟨σ1, v1, v2, v3⟩ := hF.down hs o hn ho
      refine ⟨1, tZ (tZ σ1 0 8 false) 0 10 false, sA (sA τ 3 s x) 4 s z, ?_, ?_, xDown P s o, sd, ?_⟩
      · rw [v1, Option.bind_some]; rfl
      · unfold m_down_b27
        rw [if_pos rfl, P_in hs (by decide), if_pos rfl, if_pos rfl, P_ix (show s < 2 ^ 31 by omega)]
      · exact h.set (hw.down s o hd) (fun c h1 h2 _ => v3 c (by omega) (by omega)) (sl_Z (v3 0 (by omega) (by omega)) 4) ((sl_I (v3 0 (by omega) (by omega)) 6).trans h6) v2 (hM.down s o (fun q => (hn q).1) (fun d u q => ⟨(ho d u q).1, hz d u q⟩)) h9 ((FrS.rf.sA _ _ (by omega)).sA _ _ (by omega))
    unfold m_isDown
    by_cases e : p2 = -1
    · rw [if_pos e, if_pos e, Option.bind_some, if_pos rfl, e]
      exact DO none (-1) (-1) (fun _ => ⟨rfl, rfl⟩) (fun d u q => by cases q) (fun d u q => by cases q) p3 (fun d u q => by cases q)
    · have hno : ∃ r σ' τ', cP_down_b66 σ = some (r, σ') ∧ m_down_b27 (nI s) p2 p3 (-6) τ = some (r, τ') ∧ Rel σ' τ' := by
        unfold cP_down_b66
        rw [nob _ _ _ _ (by decide)]; exact h.no' (-6) (by decide)
      rw [if_neg e, if_neg e, tick_Cq, Option.bind_some, isIn_M, Option.bind_some, show (decide (0 ≤ p2) && decide (p2 ≤ 60)) = inB p2 61 from le_in (n := 60) (by omega) p2]
      cases e2 : inB p2 61
      · rw [if_neg (show ¬ false = true by decide), if_neg (show ¬ false = true by decide)]; exact hno
      · rw [if_pos rfl, if_pos rfl, tick_Cq, Option.bind_some, isIn_M, Option.bind_some, show (decide (0 ≤ p3) && decide (p3 ≤ 60)) = inB p3 61 from le_in (n := 60) (by omega) p3]
        cases e3 : inB p3 61
        · rw [if_neg (show ¬ false = true by decide), if_neg (show ¬ false = true by decide)]; exact hno
        · obtain ⟨d, hd, rfl⟩ := inB_of (by omega) e2
          obtain ⟨u, hu, rfl⟩ := inB_of (by omega) e3
          rw [if_pos rfl, if_pos rfl]
          by_cases c : nI u ≤ nI d
          · rw [if_pos c, if_pos c]; exact hno
          · rw [if_neg c, if_neg c, Option.bind_some, if_pos rfl]
            have hdu : d < u := by
              rcases Nat.lt_or_ge d u with q | q
              · exact q
              · exact absurd ((P_le (by omega) (by omega)).mpr q) c
            exact DO (some (d, u)) (nI d) (nI u) (fun q => by cases q) (fun d' u' q => by cases q; exact ⟨rfl, rfl⟩) (fun d' u' q => by cases q; exact ⟨hdu, by omega⟩) (nI u) (fun d' u' q => by cases q; rfl)
