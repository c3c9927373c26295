/-! STEPS: put -/
theorem out_in {lo hi : Int32} {p : Int32} (h : p < lo ∨ hi < p) : (decide (lo ≤ p) && decide (p ≤ hi)) = false := by
  rcases h with g | g
  · rw [decide_eq_false (Int32.not_le.mpr g), Bool.false_and]
  · rw [decide_eq_false (Int32.not_le.mpr g), Bool.and_false]
theorem put_num {a b : Nat} (ha : 0 < a) (hb : b < 2 ^ 30) {v : Int32} (h1 : ¬ v < nI a) (h2 : ¬ nI b < v) (hab : a ≤ b) : ∃ j, a ≤ j ∧ j ≤ b ∧ v = nI j := by
  have g0 : ¬ v < 0 := fun q => h1 (Int32.lt_of_lt_of_le q (nI_pos' (by omega)))
  obtain ⟨j, hj, rfl⟩ := nI_of g0
  refine ⟨j, ?_, ?_, rfl⟩
  · rcases Nat.lt_or_ge j a with q | q
    · exact absurd ((P_lt hj (by omega)).mpr q) h1
    · exact q
  · exact (P_le hj (by omega)).mp (Int32.not_lt.mp h2)
section Put
variable {P : ZP} {sd : Int32} {σ : CS} {τ : MS}
theorem put_forget {k v : Int32} {σ1 : CS} {r : Int32} (h0 : ¬ k < 0) (h3 : k ≤ 3) (hm : cS_mayBe k v σ = some (true, σ)) (hn : cS_number 3 k σ = some (r, σ)) (hg : cS_giveNumber 3 k v σ = some ((), σ1)) : cP_put k v σ = some (r, tZ (tZ σ1 0 8 false) 0 10 false) := by
  unfold cP_put cP_forgetRuns
  rw [if_neg h0, if_pos h3, hm, Option.bind_some, if_pos rfl, hn, Option.bind_some, hg, Option.bind_some, Option.bind_some]
theorem put_wrong (h : RelP P sd σ τ) {k v : Int32} (h0 : ¬ k < 0) (h3 : k ≤ 3) (hm : cS_mayBe k v σ = some (false, σ)) (hM : m_put k v τ = (m_no (-6) τ).bind fun a => some (a.1, a.2)) : ∃ r σ' τ', cP_put k v σ = some (r, σ') ∧ m_put k v τ = some (r, τ') ∧ Rel σ' τ' := by
  unfold cP_put
  rw [hM, if_neg h0, if_pos h3, hm, Option.bind_some, if_neg (show ¬ false = true by decide)]
  exact h.no' (-6) (by decide)
theorem put_0 (h : RelP P sd σ τ) (v : Int32) : ∃ r σ' τ', cP_put 0 v σ = some (r, σ') ∧ m_put 0 v τ = some (r, τ') ∧ Rel σ' τ' := by
  have h' := h
  obtain ⟨hw, hSH, hRF, hF, hM, h9, hI, h6, h8, h10⟩ := h'
  have hMv : ∀ t, (decide ((1 : Int32) ≤ v) && decide (v ≤ 5)) = t → m_put 0 v τ = if t = true then some (mI τ 5, sI τ 5 v) else (m_no (-6) τ).bind fun a => some (a.1, a.2) := fun t ht => by
    unfold m_put
    rw [if_pos rfl, isIn_M, Option.bind_some, ht]
    cases t <;> rfl
  by_cases g1 : v < 1
  · exact put_wrong h (by decide) (by decide) (by unfold cS_mayBe; simp only [sw]; rw [if_pos trivial, if_pos (show v < itemLow.getD 0 0 from g1)]) (hMv false (out_in (Or.inl g1)))
  · by_cases g2 : 5 < v
    · exact put_wrong h (by decide) (by decide) (by unfold cS_mayBe; simp only [sw]; rw [if_pos trivial, if_neg (show ¬ v < itemLow.getD 0 0 from g1), if_pos (show itemHigh.getD 0 0 < v from g2)]) (hMv false (out_in (Or.inr g2)))
    · obtain ⟨j, j1, j2, rfl⟩ := put_num (a := 1) (b := 5) (by omega) (by omega) g1 g2 (by omega)
      have ht : (decide ((1 : Int32) ≤ nI j) && decide (nI j ≤ 5)) = true := by rw [decide_eq_true (Int32.not_lt.mp g1), decide_eq_true (Int32.not_lt.mp g2)]; rfl
      refine ⟨cI σ 3 0, _, sI τ 5 (nI j), put_forget (σ1 := tI σ 3 0 (nI j)) (by decide) (by decide) (by unfold cS_mayBe; simp only [sw]; rw [if_pos trivial, if_neg (show ¬ nI j < itemLow.getD 0 0 from g1), if_neg (show ¬ itemHigh.getD 0 0 < nI j from g2)]) rfl rfl, ?_, (j, pp P, pw P, pz P, pv P, pl P, pd P), sd, ?_⟩
      · rw [hMv true ht, if_pos rfl, hM.1, hF.1.1]
      · obtain ⟨⟨a1, a2, a3, a4, a5⟩, b1, b2, b3⟩ := hF
        refine h.set (P' := (j, pp P, pw P, pz P, pv P, pl P, pd P)) ⟨j1, j2, hw.2.2⟩ (fun c h1 h2 _ => tI_o c (by omega)) rfl h6 ⟨⟨cI_s, (cI_k (by decide)).trans a2, (cI_k (by decide)).trans a3, ?_, a5⟩, b1, b2, (cI_k (by decide)).trans b3⟩ ⟨rfl, hM.2⟩ h9 (FrS.rf.sI _ (by omega))
        rw [cI_k (show (4 : Nat) ≠ 0 by decide)]; exact a4
theorem put_1 (h : RelP P sd σ τ) (v : Int32) : ∃ r σ' τ', cP_put 1 v σ = some (r, σ') ∧ m_put 1 v τ = some (r, τ') ∧ Rel σ' τ' := by
  have h' := h
  obtain ⟨hw, hSH, hRF, hF, hM, h9, hI, h6, h8, h10⟩ := h'
  have hMv : ∀ t, (decide ((2 : Int32) ≤ v) && decide (v ≤ 3)) = t → m_put 1 v τ = if t = true then some (mI τ 6, sI τ 6 v) else (m_no (-6) τ).bind fun a => some (a.1, a.2) := fun t ht => by
    unfold m_put
    rw [if_neg (by decide), if_pos rfl, isIn_M, Option.bind_some, ht]
    cases t <;> rfl
  by_cases g1 : v < 2
  · exact put_wrong h (by decide) (by decide) (by unfold cS_mayBe; simp only [sw]; rw [if_neg (by decide), if_pos trivial, if_pos (show v < itemLow.getD 1 0 from g1)]) (hMv false (out_in (Or.inl g1)))
  · by_cases g2 : 3 < v
    · exact put_wrong h (by decide) (by decide) (by unfold cS_mayBe; simp only [sw]; rw [if_neg (by decide), if_pos trivial, if_neg (show ¬ v < itemLow.getD 1 0 from g1), if_pos (show itemHigh.getD 1 0 < v from g2)]) (hMv false (out_in (Or.inr g2)))
    · obtain ⟨j, j1, j2, rfl⟩ := put_num (a := 2) (b := 3) (by omega) (by omega) g1 g2 (by omega)
      have ht : (decide ((2 : Int32) ≤ nI j) && decide (nI j ≤ 3)) = true := by rw [decide_eq_true (Int32.not_lt.mp g1), decide_eq_true (Int32.not_lt.mp g2)]; rfl
      have hj : nI j = 2 ∨ nI j = 3 := by
        have : j = 2 ∨ j = 3 := by omega
        rcases this with rfl | rfl
        · exact Or.inl rfl
        · exact Or.inr rfl
      refine ⟨cI σ 3 1, _, sI τ 6 (nI j), put_forget (σ1 := tI σ 3 1 (nI j)) (by decide) (by decide) (by unfold cS_mayBe; simp only [sw]; rw [if_neg (by decide), if_pos trivial, if_neg (show ¬ nI j < itemLow.getD 1 0 from g1), if_neg (show ¬ itemHigh.getD 1 0 < nI j from g2)]) rfl rfl, ?_, (pn P, nI j, pw P, pz P, pv P, pl P, pd P), sd, ?_⟩
      · rw [hMv true ht, if_pos rfl, hM.2.1, hF.1.2.1]
      · obtain ⟨⟨a1, a2, a3, a4, a5⟩, b1, b2, b3⟩ := hF
        refine h.set (P' := (pn P, nI j, pw P, pz P, pv P, pl P, pd P)) ⟨hw.1, hw.2.1, hj, hw.2.2.2⟩ (fun c h1 h2 _ => tI_o c (by omega)) rfl h6 ⟨⟨(cI_k (by decide)).trans a1, cI_s, (cI_k (by decide)).trans a3, ?_, a5⟩, b1, b2, (cI_k (by decide)).trans b3⟩ ⟨hM.1, rfl, hM.2.2⟩ h9 (FrS.rf.sI _ (by omega))
        rw [cI_k (show (4 : Nat) ≠ 1 by decide)]; exact a4
theorem put_2 (h : RelP P sd σ τ) (v : Int32) : ∃ r σ' τ', cP_put 2 v σ = some (r, σ') ∧ m_put 2 v τ = some (r, τ') ∧ Rel σ' τ' := by
  have h' := h
  obtain ⟨hw, hSH, hRF, hF, hM, h9, hI, h6, h8, h10⟩ := h'
  have hMv : ∀ t, (decide ((2 : Int32) ≤ v) && decide (v ≤ 9)) = t → m_put 2 v τ = if t = true then some (mI τ 7, sI τ 7 v) else (m_no (-6) τ).bind fun a => some (a.1, a.2) := fun t ht => by
    unfold m_put
    rw [if_neg (by decide), if_neg (by decide), if_pos rfl, isIn_M, Option.bind_some, ht]
    cases t <;> rfl
  by_cases g1 : v < 2
  · exact put_wrong h (by decide) (by decide) (by unfold cS_mayBe; simp only [sw]; rw [if_neg (by decide), if_neg (by decide), if_pos trivial, if_pos (show v < itemLow.getD 2 0 from g1)]) (hMv false (out_in (Or.inl g1)))
  · by_cases g2 : 9 < v
    · exact put_wrong h (by decide) (by decide) (by unfold cS_mayBe; simp only [sw]; rw [if_neg (by decide), if_neg (by decide), if_pos trivial, if_neg (show ¬ v < itemLow.getD 2 0 from g1), if_pos (show itemHigh.getD 2 0 < v from g2)]) (hMv false (out_in (Or.inr g2)))
    · obtain ⟨j, j1, j2, rfl⟩ := put_num (a := 2) (b := 9) (by omega) (by omega) g1 g2 (by omega)
      have ht : (decide ((2 : Int32) ≤ nI j) && decide (nI j ≤ 9)) = true := by rw [decide_eq_true (Int32.not_lt.mp g1), decide_eq_true (Int32.not_lt.mp g2)]; rfl
      refine ⟨cI σ 3 2, _, sI τ 7 (nI j), put_forget (σ1 := tI σ 3 2 (nI j)) (by decide) (by decide) (by unfold cS_mayBe; simp only [sw]; rw [if_neg (by decide), if_neg (by decide), if_pos trivial, if_neg (show ¬ nI j < itemLow.getD 2 0 from g1), if_neg (show ¬ itemHigh.getD 2 0 < nI j from g2)]) rfl rfl, ?_, (pn P, pp P, j, pz P, pv P, pl P, pd P), sd, ?_⟩
      · rw [hMv true ht, if_pos rfl, hM.2.2.1, hF.1.2.2.1]
      · obtain ⟨⟨a1, a2, a3, a4, a5⟩, b1, b2, b3⟩ := hF
        refine h.set (P' := (pn P, pp P, j, pz P, pv P, pl P, pd P)) ⟨hw.1, hw.2.1, hw.2.2.1, j1, j2, hw.2.2.2.2.2⟩ (fun c h1 h2 _ => tI_o c (by omega)) rfl h6 ⟨⟨(cI_k (by decide)).trans a1, (cI_k (by decide)).trans a2, cI_s, ?_, a5⟩, b1, b2, (cI_k (by decide)).trans b3⟩ ⟨hM.1, hM.2.1, rfl, hM.2.2.2⟩ h9 (FrS.rf.sI _ (by omega))
        rw [cI_k (show (4 : Nat) ≠ 2 by decide)]; exact a4
theorem put_3 (h : RelP P sd σ τ) (v : Int32) : ∃ r σ' τ', cP_put 3 v σ = some (r, σ') ∧ m_put 3 v τ = some (r, τ') ∧ Rel σ' τ' := by
  have h' := h
  obtain ⟨hw, hSH, hRF, hF, hM, h9, hI, h6, h8, h10⟩ := h'
  have hMv : ∀ t, (decide ((0 : Int32) ≤ v) && decide (v ≤ 1)) = t → m_put 3 v τ = if t = true then some (mI τ 8, sI τ 8 v) else (m_no (-6) τ).bind fun a => some (a.1, a.2) := fun t ht => by
    unfold m_put
    rw [if_neg (by decide), if_neg (by decide), if_neg (by decide), isIn_M, Option.bind_some, ht]
    cases t <;> rfl
  have go : ∀ y : Bool, v = bI y → ∃ r σ' τ', cP_put 3 v σ = some (r, σ') ∧ m_put 3 v τ = some (r, τ') ∧ Rel σ' τ' := fun y hy => by
    subst hy
    have ht : (decide ((0 : Int32) ≤ bI y) && decide (bI y ≤ 1)) = true := by cases y <;> decide
    refine ⟨bI (pz P), _, sI τ 8 (bI y), put_forget (σ1 := tZ σ 3 3 y) (by decide) (by decide) (by cases y <;> rfl) ?_ (by cases y <;> rfl), ?_, (pn P, pp P, pw P, y, pv P, pl P, pd P), sd, ?_⟩
    · unfold cS_number
      simp only [sw]
      rw [if_neg (by decide), if_neg (by decide), if_neg (by decide), hF.2.1]
      cases pz P <;> rfl
    · rw [hMv true ht, if_pos rfl, hM.2.2.2.1]
    · obtain ⟨⟨a1, a2, a3, a4, a5⟩, b1, b2, b3⟩ := hF
      exact h.set (P' := (pn P, pp P, pw P, y, pv P, pl P, pd P)) hw (fun c h1 h2 _ => tZ_o c (by omega)) (cZ_c (by decide)) h6 ⟨⟨a1, a2, a3, a4, a5⟩, cZ_s, b2, b3⟩ ⟨hM.1, hM.2.1, hM.2.2.1, rfl, hM.2.2.2.2⟩ h9 (FrS.rf.sI _ (by omega))
  by_cases e0 : v = 0
  · exact go false e0
  · by_cases e1 : v = 1
    · exact go true e1
    · refine put_wrong h (by decide) (by decide) (by unfold cS_mayBe; simp only [sw]; rw [if_neg (by decide), if_neg (by decide), if_neg (by decide), if_neg e0, if_neg e1]) (hMv false ?_)
      rw [show (decide (0 ≤ v) && decide (v ≤ 1)) = inB v 2 from le_in (n := 1) (by omega) v]
      cases q : inB v 2
      · rfl
      · obtain ⟨j, hj, rfl⟩ := inB_of (by omega) q
        have : j = 0 ∨ j = 1 := by omega
        rcases this with rfl | rfl
        · exact absurd rfl e0
        · exact absurd rfl e1
end Put
theorem st9 : St9 Rel := by
  rintro p1 p2 σ τ ⟨P, sd, h⟩
  have OUT : inB p1 4 = false → m_put p1 p2 τ = (m_no (-5) τ).bind fun a => some (a.1, a.2) := fun e => by
    have b48 : ∀ t0, m_put_b48 p1 p2 t0 τ = (m_no (-5) τ).bind fun a => some (a.1, a.2) := fun t0 => by
      unfold m_put_b48 m_put_b73
      rw [isIn_M, Option.bind_some, show (decide (0 ≤ p1) && decide (p1 ≤ 3)) = inB p1 4 from le_in (n := 3) (by omega) p1, e, if_neg (show ¬ false = true by decide), if_neg (by decide)]
    unfold m_put
    rw [isIn_M, isIn_M, isIn_M, isIn_M, Option.bind_some, Option.bind_some, Option.bind_some, Option.bind_some]
    simp only [b48]
    by_cases e0 : p1 = 0
    · rw [if_pos e0]
    · rw [if_neg e0]
      by_cases e1 : p1 = 1
      · rw [if_pos e1]
      · rw [if_neg e1]
        by_cases e2 : p1 = 2
        · rw [if_pos e2]
        · rw [if_neg e2]
  rcases pk_ix p1 (n := 4) (by omega) with g | g | ⟨j, hj, rfl⟩
  · rw [OUT (P_neg g)]
    unfold cP_put cP_put_b9
    rw [if_pos g]; exact h.no' (-5) (by decide)
  · rw [OUT (P_big (by omega) g)]
    unfold cP_put cP_put_b9
    rw [if_neg (Int32.not_lt.mpr (Int32.le_trans (by decide) g)), if_neg (show ¬ p1 ≤ 3 from fun q => absurd (Int32.le_trans g q) (by decide))]; exact h.no' (-5) (by decide)
  · have : j = 0 ∨ j = 1 ∨ j = 2 ∨ j = 3 := by omega
    rcases this with rfl | rfl | rfl | rfl
    · exact put_0 h p2
    · exact put_1 h p2
    · exact put_2 h p2
    · exact put_3 h p2
