/-! PURE: a row is made -/
theorem sl_I {σ σ' : CS} {c : Nat} (h : sl σ' c = sl σ c) (k : Nat) : cI σ' c k = cI σ c k := congrArg (fun d : CL => d.1 k) h
theorem sl_B {σ σ' : CS} {c : Nat} (h : sl σ' c = sl σ c) : cB σ' c = cB σ c := congrArg (fun d : CL => d.2.2.2.2) h
theorem qI_s (σ : CS) (c k : Nat) (v : Int32) : cI (tI σ c k v) c = va_up (cI σ c) k v := va_up_s _ _ _
theorem fill_C {i : Nat} : ∀ (n a : Nat) (σ : CS), a ≤ 160 → 160 < a + n → ∃ σ', cJ_fill_l6 i n 0 (nI a) 160 σ = some ((), σ') ∧ (∀ c, c ≠ 66 + i → sl σ' c = sl σ c) ∧ (∀ k, k < a → cB σ' (66 + i) k = cB σ (66 + i) k) ∧ (∀ k, a ≤ k → k < 160 → cB σ' (66 + i) k = 0) := by
  intro n
  induction n with
  | zero => intro a σ h1 h2; omega
  | succ n ih =>
    intro a σ h1 h2
    unfold cJ_fill_l6
    by_cases e : a = 160
    · subst e
      exact ⟨σ, rfl, fun _ _ => rfl, fun _ _ => rfl, fun k q1 q2 => by omega⟩
    · rw [if_neg (show ¬ (160 : Int32) ≤ nI a from fun q => absurd ((P_le (a := 160) (by omega) (by omega)).mp q) (by omega)), P_in (show a < 160 by omega) (by decide), if_pos rfl, P_ix (show a < 2 ^ 31 by omega), show nI a + 1 = nI (a + 1) from nI_add a 1]
      obtain ⟨σ', g1, g2, g3, g4⟩ := ih (a + 1) (tB σ (66 + i) a 0) (by omega) (by omega)
      have hB : cB (tB σ (66 + i) a 0) (66 + i) = vp_updL (cB σ (66 + i)) a 0 := va_up_s _ _ _
      refine ⟨σ', g1, fun c hc => (g2 c hc).trans (qB_o c hc), fun k hk => ?_, fun k hk1 hk2 => ?_⟩
      · rw [g3 k (by omega), hB, pk_uLn (by omega)]
      · by_cases ek : k = a
        · rw [ek, g3 a (by omega), hB, pk_uLs]
        · exact g4 k (by omega) hk2
theorem rowz_M {j m : Nat} (hj : j < 8) (hm : m ≤ 160) : ∀ (n a : Nat) (τ : MS), a ≤ m → m < a + n → ∃ τ', m_row_l81 n (nI j) (nI m) (nI a) τ = some (1, τ') ∧ τ'.1 = τ.1 ∧ τ'.2.1 = τ.2.1 ∧ τ'.2.2.1 = τ.2.2.1 ∧ (∀ k, k < 160 * j + a ∨ 160 * j + m ≤ k → mE τ' k = mE τ k) ∧ (∀ k, a ≤ k → k < m → mE τ' (160 * j + k) = 0) := by
  intro n
  induction n with
  | zero => intro a τ h1 h2; omega
  | succ n ih =>
    intro a τ h1 h2
    unfold m_row_l81
    by_cases e : a = m
    · subst e
      rw [if_pos ((P_le (by omega) (by omega)).mpr (Nat.le_refl a))]
      exact ⟨τ, rfl, rfl, rfl, rfl, fun _ _ => rfl, fun k q1 q2 => by omega⟩
    · have e7 : (160 * nI j) + nI a = nI (160 * j + a) := by rw [show (160 : Int32) = nI 160 from rfl, pk_mul, nI_add]
      rw [if_neg (fun q => absurd ((P_le (by omega) (by omega)).mp q) (by omega)), e7, P_in (show 160 * j + a < 1280 by omega) (by decide), if_pos rfl, P_ix (show 160 * j + a < 2 ^ 31 by omega), show nI a + 1 = nI (a + 1) from nI_add a 1]
      obtain ⟨τ', g1, g2, g3, g4, g5, g6⟩ := ih (a + 1) (sE τ (160 * j + a) 0) (by omega) (by omega)
      refine ⟨τ', g1, g2, g3, g4, fun k hk => ?_, fun k hk1 hk2 => ?_⟩
      · rw [g5 k (by omega)]; exact pk_uLn (by omega)
      · by_cases ek : k = a
        · rw [ek, g5 _ (by omega)]; exact pk_uLs
        · exact g6 k (by omega) hk2
theorem row_b47_no {x1 x2 x3 t0 : Int32} {τ : MS} (h : ¬ t0 = 0) : m_row_b47 x1 x2 x3 t0 τ = (m_no t0 τ).bind fun a => some (a.1, a.2) := by unfold m_row_b47; rw [if_neg h]
theorem row_do {σ : CS} {τ : MS} (h : SH σ τ) (r : RF σ τ) {j t m : Nat} (hj : j < 8) (ht : t ≤ 3) (hm : m ≤ 160) : SmI σ τ ((cH_holdRow j (nI t) (nI m) σ).bind fun a2 => some (1, a2.2)) (m_row_b47 (nI j) (nI t) (nI m) 0 τ) := by
  unfold cH_holdRow cJ_fill m_row_b47
  rw [if_pos rfl, P_in hj (by decide), P_ix (show j < 2 ^ 31 by omega)]
  obtain ⟨σ', a1, a2, -, a4⟩ := fill_C (i := j) 4096 0 (tI (tI (tI σ (58 + j) 0 1) (58 + j) 1 (nI t)) (58 + j) 2 (nI m)) (by omega) (by omega)
  obtain ⟨τ', b1, b2, b3, b4, b5, b6⟩ := rowz_M (m := m) hj hm 4096 0 (sA (sA τ 28 j (100 + nI t)) 29 j (nI m)) (by omega) (by omega)
  have a1' : cJ_fill_l6 j 4096 0 0 160 (tI (tI (tI σ (58 + j) 0 1) (58 + j) 1 (nI t)) (58 + j) 2 (nI m)) = some ((), σ') := a1
  have b1' : m_row_l81 4096 (nI j) (nI m) 0 (sA (sA τ 28 j (100 + nI t)) 29 j (nI m)) = some (1, τ') := b1
  rw [a1', if_pos rfl, if_pos rfl, b1']
  have m28 : mA τ' 28 = upd (mA τ 28) j (100 + nI t) := congrFun b4 28
  have m29 : mA τ' 29 = upd (mA τ 29) j (nI m) := congrFun b4 29
  refine ⟨1, σ', τ', rfl, rfl, fun k hk => ?_, fun i hi => ?_, fun c h1 h2 => ?_, b2, b3, fun k h1 h2 h3 => ?_⟩
  · have hI : ∀ q, cI σ' (58 + k) q = cI (tI (tI (tI σ (58 + j) 0 1) (58 + j) 1 (nI t)) (58 + j) 2 (nI m)) (58 + k) q := sl_I (a2 (58 + k) (by omega))
    by_cases ek : k = j
    · subst ek
      have hJ : ∀ q, cI σ' (58 + k) q = va_up (va_up (va_up (cI σ (58 + k)) 0 1) 1 (nI t)) 2 (nI m) q := fun q => by
        rw [hI q]
        exact congrFun (((qI_s _ _ _ _).trans (congrArg (fun z => va_up z 2 (nI m)) ((qI_s _ _ _ _).trans (congrArg (fun z => va_up z 1 (nI t)) (qI_s _ _ _ _)))))) q
      refine Or.inr (Or.inl ⟨hJ 0, t, m, ht, hm, hJ 1, ?_, hJ 2, ?_, fun i hi => ?_⟩)
      · rw [m28, pk_us]; exact nI_add 100 t
      · rw [m29, pk_us]
      · rw [b6 i (Nat.zero_le i) hi, a4 i (Nat.zero_le i) (by omega)]
    · have hS : sl (tI (tI (tI σ (58 + j) 0 1) (58 + j) 1 (nI t)) (58 + j) 2 (nI m)) (58 + k) = sl σ (58 + k) := ((tI_o _ (by omega)).trans (tI_o _ (by omega))).trans (tI_o _ (by omega))
      have hJ : ∀ q, cI σ' (58 + k) q = cI σ (58 + k) q := fun q => (hI q).trans (sl_I hS q)
      have hB : cB σ' (66 + k) = cB σ (66 + k) := (sl_B (a2 (66 + k) (by omega))).trans (sl_B (((tI_o _ (by omega)).trans (tI_o _ (by omega))).trans (tI_o _ (by omega))))
      have hE : ∀ a, a < 160 → mE τ' (160 * k + a) = mE τ (160 * k + a) := fun a ha => b5 _ (by omega)
      have h8 : mA τ' 28 k = mA τ 28 k := by rw [m28, pk_un ek]
      have h9 : mA τ' 29 k = mA τ 29 k := by rw [m29, pk_un ek]
      rcases h k hk with ⟨g1, g2⟩ | ⟨g1, t', n', g2, g3, g4, g5, g6, g7, g8⟩ | ⟨g1, k', f', t', d', g2, g3, g4, g5, g6, g7, g8, g9, g10, g11, g12, g13⟩
      · exact Or.inl ⟨(hJ 0).trans g1, h8.trans g2⟩
      · exact Or.inr (Or.inl ⟨(hJ 0).trans g1, t', n', g2, g3, (hJ 1).trans g4, h8.trans g5, (hJ 2).trans g6, h9.trans g7, fun a ha => by rw [hE a (by omega), hB]; exact g8 a ha⟩)
      · exact Or.inr (Or.inr ⟨(hJ 0).trans g1, k', f', t', d', g2, g3, g4, g5, g6, (hJ 4).trans g7, (hJ 5).trans g8, (hJ 6).trans g9, (hJ 7).trans g10, h8.trans g11, (hE 0 (by omega)).trans g12, (hE 1 (by omega)).trans g13⟩)
  · have m0 : mA τ' 0 = mA τ 0 := congrFun b4 0
    have c2 : cA σ' 2 = cA σ 2 := congrArg (fun d : CL => d.2.2.2.1) (a2 2 (by omega))
    rw [m0, c2]; exact r i hi
  · exact (a2 c (by omega)).trans (((tI_o _ (by omega)).trans (tI_o _ (by omega))).trans (tI_o _ (by omega)))
  · rw [b4]
    exact (va_up_n _ _ h3).trans (va_up_n _ _ h2)
theorem row_sim {σ : CS} {τ : MS} (h : SH σ τ) (r : RF σ τ) (p1 p2 p3 : Int32) : SmI σ τ (cP_row p1 p2 p3 σ) (m_row p1 p2 p3 τ) := by
  unfold cP_row m_row
  rw [isShelf_C, isShelf_M]
  rcases pk_ix p1 (n := 8) (by decide) with g | g | ⟨j, hj, rfl⟩
  · rw [P_neg g]; exact (row_b47_no (x1 := p1) (x2 := p2) (x3 := p3) (t0 := -1) (τ := τ) (by decide)) ▸ refuse_sim h r (-1) (by decide)
  · rw [P_big (by decide) g]; exact (row_b47_no (x1 := p1) (x2 := p2) (x3 := p3) (t0 := -1) (τ := τ) (by decide)) ▸ refuse_sim h r (-1) (by decide)
  · rw [P_in hj (by decide), P_ix (show j < 2 ^ 31 by omega)]
    simp only [Option.bind_some, if_true]
    rcases pk_ix p3 (n := 161) (by decide) with g3 | g3 | ⟨m, hm, rfl⟩
    · rw [if_neg (Int32.not_le.mpr g3), if_neg (Int32.not_le.mpr g3), row_b47_no (by decide)]; exact refuse_sim h r (-4) (by decide)
    · have w1 : (0 : Int32) ≤ p3 := Int32.le_trans (by decide) g3
      have w2 : ¬ p3 ≤ 160 := fun q => absurd (Int32.le_trans g3 q) (by decide)
      rw [if_pos w1, if_pos w1, isIn_M]
      simp only [Option.bind_some]
      rcases pk_ix p2 (n := 4) (by decide) with g | g | ⟨t, ht, rfl⟩
      · rw [if_pos g, decide_eq_false (Int32.not_le.mpr g), Bool.false_and, if_neg (by decide), row_b47_no (by decide)]
        unfold cP_row_b33; exact refuse_sim h r (-6) (by decide)
      · have v1 : ¬ p2 < 0 := Int32.not_lt.mpr (Int32.le_trans (by decide) g)
        have v2 : ¬ p2 ≤ 3 := fun q => absurd (Int32.le_trans g q) (by decide)
        rw [if_neg v1, if_neg v2, decide_eq_false v2, Bool.and_false, if_neg (by decide), row_b47_no (by decide)]
        unfold cP_row_b33; exact refuse_sim h r (-6) (by decide)
      · have v1 : (0 : Int32) ≤ nI t := nI_pos' (by omega)
        have v2 : nI t ≤ 3 := (P_le (b := 3) (by omega) (by omega)).mpr (by omega)
        rw [if_neg (Int32.not_lt.mpr v1), if_pos v2, decide_eq_true v1, decide_eq_true v2, if_neg w2, if_neg w2, if_pos (show (true && true) = true from rfl), row_b47_no (by decide)]
        exact refuse_sim h r (-7) (by decide)
    · have w1 : (0 : Int32) ≤ nI m := nI_pos' (by omega)
      have w2 : nI m ≤ 160 := (P_le (b := 160) (by omega) (by omega)).mpr (by omega)
      rw [if_pos w1, if_pos w1, isIn_M]
      simp only [Option.bind_some]
      rcases pk_ix p2 (n := 4) (by decide) with g | g | ⟨t, ht, rfl⟩
      · rw [if_pos g, decide_eq_false (Int32.not_le.mpr g), Bool.false_and, if_neg (by decide), row_b47_no (by decide)]
        unfold cP_row_b33; exact refuse_sim h r (-6) (by decide)
      · have v1 : ¬ p2 < 0 := Int32.not_lt.mpr (Int32.le_trans (by decide) g)
        have v2 : ¬ p2 ≤ 3 := fun q => absurd (Int32.le_trans g q) (by decide)
        rw [if_neg v1, if_neg v2, decide_eq_false v2, Bool.and_false, if_neg (by decide), row_b47_no (by decide)]
        unfold cP_row_b33; exact refuse_sim h r (-6) (by decide)
      · have v1 : (0 : Int32) ≤ nI t := nI_pos' (by omega)
        have v2 : nI t ≤ 3 := (P_le (b := 3) (by omega) (by omega)).mpr (by omega)
        rw [if_neg (Int32.not_lt.mpr v1), if_pos v2, decide_eq_true v1, decide_eq_true v2, if_pos w2, if_pos w2, if_pos (show (true && true) = true from rfl)]
        exact row_do h r hj (by omega) (by omega)
