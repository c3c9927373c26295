/-! PURE: says -/
theorem says_b78_no {x1 x2 t0 : Int32} {τ : MS} (h : ¬ t0 = 0) : m_says_b78 x1 x2 t0 τ = (m_no t0 τ).bind fun a => some (a.1, a.2) := by unfold m_says_b78; rw [if_neg h]
theorem says_sim {σ : CS} {τ : MS} (h : SH σ τ) (r : RF σ τ) (p q : Int32) : SmI σ τ (cP_says p q σ) (m_says p q τ) := by
  unfold cP_says m_says cP_says_b16 cP_says_b66
  rw [isShelf_C, isShelf_M]
  rcases pk_ix p (n := 8) (by decide) with g | g | ⟨j, hj, rfl⟩
  · rw [P_neg g]
    show SmI σ τ _ (m_says_b78 p q (-1) τ)
    rw [says_b78_no (by decide)]; exact refuse_sim h r (-1) (by decide)
  · rw [P_big (by decide) g]
    show SmI σ τ _ (m_says_b78 p q (-1) τ)
    rw [says_b78_no (by decide)]; exact refuse_sim h r (-1) (by decide)
  · rw [P_in hj (by decide), P_ix (show j < 2 ^ 31 by omega)]
    simp only [Option.bind_some, if_true]
    rw [isIn_M]
    simp only [Option.bind_some]
    rcases pk_ix q (n := 4) (by decide) with g | g | ⟨s, hs, rfl⟩
    · rw [if_pos g, decide_eq_false (Int32.not_le.mpr g), Bool.false_and, if_neg (by decide), says_b78_no (by decide)]
      exact refuse_sim h r (-1) (by decide)
    · have v1 : ¬ q < 0 := Int32.not_lt.mpr (Int32.le_trans (by decide) g)
      have v2 : ¬ q ≤ 3 := fun z => absurd (Int32.le_trans g z) (by decide)
      rw [if_neg v1, if_neg v2, decide_eq_false v2, Bool.and_false, if_neg (by decide), says_b78_no (by decide)]
      exact refuse_sim h r (-1) (by decide)
    · have v1 : (0 : Int32) ≤ nI s := nI_pos' (by omega)
      have v2 : nI s ≤ 3 := (P_le (b := 3) (by omega) (by omega)).mpr (by omega)
      rw [if_neg (Int32.not_lt.mpr v1), if_pos v2, decide_eq_true v1, decide_eq_true v2, if_pos (show (true && true) = true from rfl)]
      unfold m_isRow m_says_b63
      rw [P_in hj (by decide), P_ix (show j < 2 ^ 31 by omega)]
      simp only [Option.bind_some, if_true, isEmpty_C, isRow_C]
      rcases h j hj with ⟨e1, e2⟩ | ⟨e1, t, n, ht, hn, e2, e3, -⟩ | ⟨e1, k, f, t, d, hk1, hk, hf, ht, hd, e2, e4, e5, e6, e3, e7, e8⟩
      · rw [e1, e2, if_pos (show (0 : Int32) < 100 by decide)]
        simp only [Option.bind_some]
        rw [e2]
        show SmI σ τ _ (m_says_b78 (nI j) (nI s) (-3) τ)
        rw [says_b78_no (by decide)]; exact refuse_sim h r (-3) (by decide)
      · rw [e1, e3, if_neg (show ¬ nI (100 + t) < 100 from fun z => absurd ((P_lt (b := 100) (by omega) (by omega)).mp z) (by omega)), if_neg (show ¬ 200 ≤ nI (100 + t) from fun z => absurd ((P_le (a := 200) (by omega) (by omega)).mp z) (by omega))]
        show SmI σ τ _ (m_says_b78 (nI j) (nI s) (-2) τ)
        rw [says_b78_no (by decide)]; exact refuse_sim h r (-2) (by decide)
      · have x0 : (160 * nI j) = nI (160 * j) := by rw [show (160 : Int32) = nI 160 from rfl, pk_mul]
        have x1 : nI (160 * j) + 1 = nI (160 * j + 1) := nI_add (160 * j) 1
        have y0 : (10 * nI f) + nI t = nI (10 * f + t) := by rw [show (10 : Int32) = nI 10 from rfl, pk_mul, nI_add]
        have z2 := says_b78_no (x1 := nI j) (x2 := nI s) (t0 := -2) (τ := τ) (by decide)
        have z0 : m_says_b78 (nI j) (nI s) 0 τ = sw (nI s) [(0, 128, some (nI (10 * f + t), τ)), (1, 140, if nI (200 + k) - 200 = 2 then some (1, τ) else some (0, τ)), (2, 152, if nI (200 + k) - 200 = 6 then some (1, τ) else some (2, τ))] (some (nI d, τ)) := by
          unfold m_says_b78
          rw [if_pos rfl, P_in hj (by decide), P_ix (show j < 2 ^ 31 by omega), x0, x1, P_in (show 160 * j < 1280 by omega) (by decide), P_in (show 160 * j + 1 < 1280 by omega) (by decide), P_ix (show 160 * j < 2 ^ 31 by omega), P_ix (show 160 * j + 1 < 2 ^ 31 by omega), e7, e8, lg_l2i_i2l, lg_l2i_i2l, e3, if_pos rfl, if_pos rfl, if_pos rfl]
        unfold cH_isOfSort
        rw [e1, e3, e2, if_neg (show ¬ nI (200 + k) < 100 from fun z => absurd ((P_lt (b := 100) (by omega) (by omega)).mp z) (by omega)), if_pos (show 200 ≤ nI (200 + k) from (P_le (a := 200) (by omega) (by omega)).mpr (by omega))]
        simp only [Option.bind_some]
        rw [e3, if_neg (show ¬ nI (200 + k) = 0 from P_ne (b := 0) (by omega) (by omega) (by omega)), z0]
        unfold m_kindOf
        have ws : cH_saysAs j (nI s) σ = sw (nI s) [(1, 28, if nI k = 2 then some (1, σ) else some (0, σ)), (2, 42, if nI k = 6 then some (1, σ) else some (2, σ)), (3, 57, some (nI d, σ))] (some (nI (10 * f + t), σ)) := by
          unfold cH_saysAs
          rw [e2, e6, e4, e5, y0]
        have nzk : ¬ nI (200 + k) = 0 := P_ne (b := 0) (by omega) (by omega) (by omega)
        rcases (show s = 0 ∨ s = 1 ∨ s = 2 ∨ s = 3 by omega) with rfl | rfl | rfl | rfl
        · rw [if_pos (show nI 0 ≤ 0 by decide)]
          show SmI σ τ ((cH_saysAs j (nI 0) σ).bind fun a => some (a.1, a.2)) _
          rw [ws]
          refine ⟨nI (10 * f + t), σ, τ, rfl, ?_, Sm.rf h r⟩
          rw [if_neg (show ¬ false = true by decide), if_neg nzk]
          rfl
        · rw [if_neg (show ¬ nI 1 ≤ 0 by decide)]
          rcases (show k = 1 ∨ k = 2 ∨ k = 3 ∨ k = 4 ∨ k = 5 ∨ k = 6 ∨ k = 7 ∨ k = 8 ∨ k = 9 by omega) with rfl | rfl | rfl | rfl | rfl | rfl | rfl | rfl | rfl <;> first
            | (show SmI σ τ ((cH_saysAs j (nI 1) σ).bind fun a => some (a.1, a.2)) (if mA τ 28 j = 0 then m_says_b78 (nI j) (nI 1) (-3) τ else m_says_b78 (nI j) (nI 1) 0 τ)
               rw [ws, e3, if_neg nzk, z0]
               exact ⟨_, σ, τ, rfl, rfl, Sm.rf h r⟩)
            | (show SmI σ τ _ (m_says_b78 (nI j) (nI 1) (-2) τ)
               rw [z2]
               exact refuse_sim h r (-2) (by decide))
        · rw [if_neg (show ¬ nI 2 ≤ 0 by decide)]
          rcases (show k = 1 ∨ k = 2 ∨ k = 3 ∨ k = 4 ∨ k = 5 ∨ k = 6 ∨ k = 7 ∨ k = 8 ∨ k = 9 by omega) with rfl | rfl | rfl | rfl | rfl | rfl | rfl | rfl | rfl <;> first
            | (show SmI σ τ ((cH_saysAs j (nI 2) σ).bind fun a => some (a.1, a.2)) (if mA τ 28 j = 0 then m_says_b78 (nI j) (nI 2) (-3) τ else m_says_b78 (nI j) (nI 2) 0 τ)
               rw [ws, e3, if_neg nzk, z0]
               exact ⟨_, σ, τ, rfl, rfl, Sm.rf h r⟩)
            | (show SmI σ τ _ (m_says_b78 (nI j) (nI 2) (-2) τ)
               rw [z2]
               exact refuse_sim h r (-2) (by decide))
        · rw [if_neg (show ¬ nI 3 ≤ 0 by decide)]
          rcases (show k = 1 ∨ k = 2 ∨ k = 3 ∨ k = 4 ∨ k = 5 ∨ k = 6 ∨ k = 7 ∨ k = 8 ∨ k = 9 by omega) with rfl | rfl | rfl | rfl | rfl | rfl | rfl | rfl | rfl <;> first
            | (show SmI σ τ ((cH_saysAs j (nI 3) σ).bind fun a => some (a.1, a.2)) (if mA τ 28 j = 0 then m_says_b78 (nI j) (nI 3) (-3) τ else m_says_b78 (nI j) (nI 3) 0 τ)
               rw [ws, e3, if_neg nzk, z0]
               exact ⟨_, σ, τ, rfl, rfl, Sm.rf h r⟩)
            | (show SmI σ τ _ (m_says_b78 (nI j) (nI 3) (-2) τ)
               rw [z2]
               exact refuse_sim h r (-2) (by decide))
