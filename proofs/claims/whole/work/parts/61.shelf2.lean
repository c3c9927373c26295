/-! PURE: what a shelf holds -/
theorem isRow_C (i : Nat) (σ : CS) : cH_isRow i σ = some (decide (cI σ (58 + i) 0 = 1), σ) := by
  unfold cH_isRow; by_cases h : cI σ (58 + i) 0 = 1
  · rw [if_pos h, decide_eq_true h]
  · rw [if_neg h, decide_eq_false h]
theorem P_ne {a b : Nat} (ha : a < 2 ^ 31) (hb : b < 2 ^ 31) (h : a ≠ b) : ¬ nI a = nI b := fun e => h ((P_eq ha hb).mp e)
theorem holds_sim {σ : CS} {τ : MS} (h : SH σ τ) (r : RF σ τ) (p : Int32) : SmI σ τ (cP_holds p σ) (m_holds p τ) := by
  unfold cP_holds m_holds
  rw [isShelf_C, isShelf_M]
  rcases pk_ix p (n := 8) (by decide) with g | g | ⟨j, hj, rfl⟩
  · rw [P_neg g]; exact ⟨-1, σ, τ, rfl, rfl, Sm.rf h r⟩
  · rw [P_big (by decide) g]; exact ⟨-1, σ, τ, rfl, rfl, Sm.rf h r⟩
  · rw [P_in hj (by decide), P_ix (show j < 2 ^ 31 by omega)]
    simp only [Option.bind_some, if_true, isEmpty_C, isRow_C]
    rcases h j hj with ⟨e1, e2⟩ | ⟨e1, t, n, ht, hn, e2, e3, -⟩ | ⟨e1, k, f, t, d, hk1, hk, -, -, -, e2, -, -, -, e3, -⟩
    · refine ⟨-1, σ, τ, ?_, ?_, Sm.rf h r⟩
      · rw [e1]; rfl
      · rw [e2]; rfl
    · refine ⟨nI (100 + t), σ, τ, ?_, ?_, Sm.rf h r⟩
      · rw [e1, e2]; exact congrArg (fun z => some (z, σ)) (nI_add 100 t)
      · rw [e3, if_neg (show ¬ nI (100 + t) = 0 from P_ne (b := 0) (by omega) (by omega) (by omega))]
    · refine ⟨nI (200 + k), σ, τ, ?_, ?_, Sm.rf h r⟩
      · rw [e1, e2]; exact congrArg (fun z => some (z, σ)) (nI_add 200 k)
      · rw [e3, if_neg (show ¬ nI (200 + k) = 0 from P_ne (b := 0) (by omega) (by omega) (by omega))]
/-- what keeps a shelf from being a row, on both sides; a row's facts -/
def RowAt (σ : CS) (τ : MS) (j t n : Nat) : Prop := t ≤ 3 ∧ n ≤ 160 ∧ cI σ (58 + j) 0 = 1 ∧ cI σ (58 + j) 1 = nI t ∧ mA τ 28 j = nI (100 + t) ∧ cI σ (58 + j) 2 = nI n ∧ mA τ 29 j = nI n ∧ ∀ i, i < n → mE τ (160 * j + i) = cB σ (66 + j) i
theorem lack {σ : CS} {τ : MS} (h : SH σ τ) (p : Int32) : ∃ v, cP_rowLack p σ = some (v, σ) ∧ m_notRow p τ = some (v, τ) ∧
    ((v = -1 ∧ inB p 8 = false) ∨ ∃ j, j < 8 ∧ p = nI j ∧ ((v = -2 ∧ cI σ (58 + j) 0 = 2 ∧ ∃ k, 1 ≤ k ∧ k ≤ 9 ∧ mA τ 28 j = nI (200 + k)) ∨ (v = -3 ∧ cI σ (58 + j) 0 = 0 ∧ mA τ 28 j = 0) ∨ (v = 0 ∧ ∃ t n, RowAt σ τ j t n))) := by
  unfold cP_rowLack m_notRow
  rw [isShelf_C, isShelf_M]
  rcases pk_ix p (n := 8) (by decide) with g | g | ⟨j, hj, rfl⟩
  · rw [P_neg g]; exact ⟨-1, rfl, rfl, Or.inl ⟨rfl, rfl⟩⟩
  · rw [P_big (by decide) g]; exact ⟨-1, rfl, rfl, Or.inl ⟨rfl, rfl⟩⟩
  · rw [P_in hj (by decide), P_ix (show j < 2 ^ 31 by omega)]
    simp only [Option.bind_some, if_true, isEmpty_C, isMessage_C]
    rcases h j hj with ⟨e1, e2⟩ | ⟨e1, t, n, ht, hn, e2, e3, e4, e5, e6⟩ | ⟨e1, k, f, t, d, hk1, hk, -, -, -, e2, -, -, -, e3, -⟩
    · refine ⟨-3, ?_, ?_, Or.inr ⟨j, hj, rfl, Or.inr (Or.inl ⟨rfl, e1, e2⟩)⟩⟩
      · rw [e1]; rfl
      · rw [e2]; rfl
    · refine ⟨0, ?_, ?_, Or.inr ⟨j, hj, rfl, Or.inr (Or.inr ⟨rfl, t, n, ht, hn, e1, e2, e3, e4, e5, e6⟩)⟩⟩
      · rw [e1]; rfl
      · rw [e3, if_pos (show nI (100 + t) < 200 from (P_lt (b := 200) (by omega) (by omega)).mpr (by omega)), if_neg (show ¬ nI (100 + t) = 0 from P_ne (b := 0) (by omega) (by omega) (by omega))]
    · refine ⟨-2, ?_, ?_, Or.inr ⟨j, hj, rfl, Or.inl ⟨rfl, e1, k, hk1, hk, e3⟩⟩⟩
      · rw [e1]; rfl
      · rw [e3, if_neg (show ¬ nI (200 + k) < 200 from fun q => absurd ((P_lt (b := 200) (by omega) (by omega)).mp q) (by omega))]
/-- a place in a row of n elements -/
theorem has_C {σ : CS} {i n : Nat} (hn : n ≤ 160) (e : cI σ (58 + i) 2 = nI n) (p : Int32) : cH_has i p σ = some (inB p n, σ) := by
  unfold cH_has
  rw [e]
  rcases pk_ix p (n := n) (by omega) with g | g | ⟨j, hj, rfl⟩
  · rw [P_neg g, if_pos g]
  · rw [P_big (by omega) g, if_neg (Int32.not_lt.mpr (Int32.le_trans (nI_pos' (by omega)) g)), if_pos g]
  · rw [P_in hj (by omega), if_neg (Int32.not_lt.mpr (nI_pos' (by omega))), if_neg (fun q => absurd ((P_le (by omega) (by omega)).mp q) (by omega))]
theorem has_M {n : Nat} (hn : n ≤ 160) (τ : MS) (p : Int32) : m_isIn p 0 (nI n - 1) τ = some (inB p n, τ) := by
  rw [isIn_M]
  have e : (nI n - 1).toInt = (n : Int) - 1 := pk_sub_toInt (a := n) (b := 1) (by omega) (by omega)
  rcases pk_ix p (n := n) (by omega) with g | g | ⟨j, hj, rfl⟩
  · rw [P_neg g, decide_eq_false (Int32.not_le.mpr g)]; rfl
  · rw [P_big (by omega) g, decide_eq_false (show ¬ p ≤ nI n - 1 from fun q => by
      rw [Int32.le_iff_toInt_le, e] at q
      rw [Int32.le_iff_toInt_le, nI_toInt (by omega)] at g
      omega), Bool.and_false]
  · rw [P_in hj (by omega), decide_eq_true (nI_pos' (by omega)), decide_eq_true (show nI j ≤ nI n - 1 from by
      rw [Int32.le_iff_toInt_le, e, nI_toInt (by omega)]
      omega)]; rfl
theorem element_sim {σ : CS} {τ : MS} (h : SH σ τ) (r : RF σ τ) (p q : Int32) : SmL σ τ (cP_element p q σ) (m_element p q τ) := by
  obtain ⟨v, h1, -, h3⟩ := lack h p
  unfold cP_element m_element
  rw [h1, isShelf_M]
  rcases h3 with ⟨rfl, h4⟩ | ⟨j, hj, rfl, h4⟩
  · rw [h4]; exact ⟨0, σ, τ, rfl, rfl, Sm.rf h r⟩
  · unfold m_isRow
    rw [P_in hj (by decide), P_ix (show j < 2 ^ 31 by omega)]
    simp only [Option.bind_some, if_true]
    rcases h4 with ⟨rfl, -, k, k1, k2, e⟩ | ⟨rfl, -, e⟩ | ⟨rfl, t, n, ht, hn, -, -, e3, e4, e5, e6⟩
    · refine ⟨0, σ, τ, rfl, ?_, Sm.rf h r⟩
      rw [e, if_neg (show ¬ nI (200 + k) < 100 from fun q => absurd ((P_lt (b := 100) (by omega) (by omega)).mp q) (by omega)), if_pos (show 200 ≤ nI (200 + k) from (P_le (a := 200) (by omega) (by omega)).mpr (by omega))]; rfl
    · refine ⟨0, σ, τ, rfl, ?_, Sm.rf h r⟩
      rw [e]; rfl
    · rw [e3, if_neg (show ¬ nI (100 + t) < 100 from fun q => absurd ((P_lt (b := 100) (by omega) (by omega)).mp q) (by omega)), if_neg (show ¬ 200 ≤ nI (100 + t) from fun q => absurd ((P_le (a := 200) (by omega) (by omega)).mp q) (by omega))]
      simp only [Option.bind_some, if_true, e5, has_C hn e4, has_M hn]
      rcases pk_ix q (n := n) (by omega) with g | g | ⟨i, hi, rfl⟩
      · rw [P_neg g]; exact ⟨0, σ, τ, rfl, rfl, Sm.rf h r⟩
      · rw [P_big (by omega) g]; exact ⟨0, σ, τ, rfl, rfl, Sm.rf h r⟩
      · have e7 : (160 * nI j) + nI i = nI (160 * j + i) := by rw [show (160 : Int32) = nI 160 from rfl, pk_mul, nI_add]
        rw [e7, P_in hi (by omega), P_in (show i < 160 by omega) (by decide), P_in (show 160 * j + i < 1280 by omega) (by decide), P_ix (show i < 2 ^ 31 by omega), P_ix (show 160 * j + i < 2 ^ 31 by omega)]
        exact ⟨cB σ (66 + j) i, σ, τ, rfl, congrArg (fun z => some (z, τ)) (e6 i hi), Sm.rf h r⟩
