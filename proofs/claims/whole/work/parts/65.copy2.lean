/-! PURE: copy -/
theorem copy_S {σ : CS} {τ τ' : MS} (h : SH σ τ) (r : RF σ τ) {j1 j2 t1 t2 n1 n2 a b c : Nat} (hj2 : j2 < 8) (R1 : RowAt σ τ j1 t1 n1) (R2 : RowAt σ τ j2 t2 n2) (ha : a + c ≤ n1) (hb : b + c ≤ n2) (q1 : τ'.1 = τ.1) (q2 : τ'.2.1 = τ.2.1) (q3 : τ'.2.2.1 = τ.2.2.1) (q4 : mE τ' = va_cpy (mE τ) (mE τ) (160 * j1 + a) (160 * j2 + b) c) :
    Sm σ τ (tBr σ (66 + j2) (va_cpy (cB σ (66 + j1)) (cB σ (66 + j2)) a b c)) τ' := by
  have h8 : mA τ' 28 = mA τ 28 := congrFun q3 28
  have h9 : mA τ' 29 = mA τ 29 := congrFun q3 29
  have h0 : mA τ' 0 = mA τ 0 := congrFun q3 0
  have R1n := R1.2.1
  obtain ⟨g2, g3, g1, g4, g5, g6, g7, g8⟩ := R2
  refine ⟨fun k hk => ?_, fun i hi => ?_, fun x h1 h2 => tBr_o x (by omega), q1, q2, fun k _ _ _ => congrFun q3 k⟩
  · by_cases ek : k = j2
    · subst ek
      refine Or.inr (Or.inl ⟨g1, t2, n2, g2, g3, g4, by rw [h8]; exact g5, g6, by rw [h9]; exact g7, fun i hi => ?_⟩)
      have hB : cB (tBr σ (66 + k) (va_cpy (cB σ (66 + j1)) (cB σ (66 + k)) a b c)) (66 + k) = va_cpy (cB σ (66 + j1)) (cB σ (66 + k)) a b c := va_up_s _ _ _
      rw [q4, hB]
      by_cases q : b ≤ i ∧ i < b + c
      · rw [pk_cpy_in (by omega) (by omega), pk_cpy_in q.1 q.2, ← R1.2.2.2.2.2.2.2 (a + (i - b)) (by omega)]
        congr 1; omega
      · rw [pk_cpy_out (by omega), pk_cpy_out (by omega)]
        exact g8 i hi
    · have hB : cB (tBr σ (66 + j2) (va_cpy (cB σ (66 + j1)) (cB σ (66 + j2)) a b c)) (66 + k) = cB σ (66 + k) := va_up_n _ _ (by omega)
      have hE : ∀ i, i < 160 → mE τ' (160 * k + i) = mE τ (160 * k + i) := fun i hi => by rw [q4, pk_cpy_out (by omega)]
      rcases h k hk with ⟨f1, f2⟩ | ⟨f1, t', n', f2, f3, f4, f5, f6, f7, f8⟩ | ⟨f1, k', f', t', d', f2, f3, f4, f5, f6, f7, f8, f9, f10, f11, f12, f13⟩
      · exact Or.inl ⟨f1, by rw [h8]; exact f2⟩
      · exact Or.inr (Or.inl ⟨f1, t', n', f2, f3, f4, by rw [h8]; exact f5, f6, by rw [h9]; exact f7, fun i hi => by rw [hE i (by omega), hB]; exact f8 i hi⟩)
      · exact Or.inr (Or.inr ⟨f1, k', f', t', d', f2, f3, f4, f5, f6, f7, f8, f9, f10, by rw [h8]; exact f11, (hE 0 (by omega)).trans f12, (hE 1 (by omega)).trans f13⟩)
  · rw [h0]; exact r i hi
/-- both are shelves: the reference asks whether they are of two kinds first -/
theorem notCopied_M {j1 j2 : Nat} (h1 : j1 < 8) (h2 : j2 < 8) (p3 p4 p5 : Int32) (τ : MS) : m_notCopied (nI j1) (nI j2) p3 p4 p5 τ = m_notCopied_b54 (nI j1) (nI j2) p3 p4 p5 (decide (¬ mA τ 28 j1 = 0 ∧ ¬ mA τ 28 j2 = 0 ∧ ¬ mA τ 28 j1 = mA τ 28 j2)) τ := by
  unfold m_notCopied
  rw [isShelf_M, P_in h1 (by decide)]
  simp only [Option.bind_some, if_true]
  rw [isShelf_M, P_in h2 (by decide)]
  simp only [Option.bind_some, if_true]
  rw [P_ix (show j1 < 2 ^ 31 by omega), P_ix (show j2 < 2 ^ 31 by omega)]
  by_cases a : mA τ 28 j1 = 0
  · rw [if_pos a, decide_eq_false (fun q => q.1 a)]
  · rw [if_neg a]
    by_cases b : mA τ 28 j2 = 0
    · rw [if_pos b, decide_eq_false (fun q => q.2.1 b)]
    · rw [if_neg b]
      by_cases c : mA τ 28 j1 = mA τ 28 j2
      · rw [if_pos c, decide_eq_false (fun q => q.2.2 c)]
      · rw [if_neg c, decide_eq_true ⟨a, b, c⟩]
theorem copy_lack {σ : CS} {τ : MS} (h : SH σ τ) (p1 p2 p3 p4 p5 : Int32) : ∃ w, cP_copyLack p1 p2 σ = some (w, σ) ∧ ((¬ w = 0 ∧ inB (-w) 8 = true ∧ m_notCopied p1 p2 p3 p4 p5 τ = some (w, τ)) ∨ (w = 0 ∧ ∃ j1 j2 t n1 n2, j1 < 8 ∧ j2 < 8 ∧ p1 = nI j1 ∧ p2 = nI j2 ∧ RowAt σ τ j1 t n1 ∧ RowAt σ τ j2 t n2)) := by
  obtain ⟨v1, c1, -, d1⟩ := lack h p1
  obtain ⟨v2, c2, -, d2⟩ := lack h p2
  unfold cP_copyLack
  rw [c1]
  simp only [Option.bind_some]
  rw [c2]
  simp only [Option.bind_some]
  rcases d1 with ⟨rfl, d1⟩ | ⟨j1, hj1, rfl, d1⟩
  · refine ⟨-1, rfl, Or.inl ⟨by decide, by decide, ?_⟩⟩
    unfold m_notCopied; rw [isShelf_M, d1]; rfl
  rcases d2 with ⟨rfl, d2⟩ | ⟨j2, hj2, rfl, d2⟩
  · refine ⟨-1, ?_, Or.inl ⟨by decide, by decide, ?_⟩⟩
    · rcases d1 with ⟨rfl, -⟩ | ⟨rfl, -⟩ | ⟨rfl, -⟩ <;> rfl
    · unfold m_notCopied; rw [isShelf_M, P_in hj1 (by decide)]
      simp only [Option.bind_some, if_true]
      rw [isShelf_M, d2]; rfl
  rw [notCopied_M hj1 hj2]
  unfold m_notCopied_b54
  rw [P_in hj1 (by decide), P_in hj2 (by decide), P_ix (show j1 < 2 ^ 31 by omega), P_ix (show j2 < 2 ^ 31 by omega)]
  simp only [if_true]
  have big : ∀ k, 1 ≤ k → k ≤ 9 → (200 : Int32) ≤ nI (200 + k) := fun k a b => (P_le (a := 200) (by omega) (by omega)).mpr (by omega)
  have small : ∀ t, t ≤ 3 → ¬ (200 : Int32) ≤ nI (100 + t) := fun t a q => absurd ((P_le (a := 200) (by omega) (by omega)).mp q) (by omega)
  have nz : ∀ t, t ≤ 3 → ¬ nI (100 + t) = 0 := fun t a => P_ne (b := 0) (by omega) (by omega) (by omega)
  rcases d1 with ⟨rfl, -, k, k1, k2, e⟩ | ⟨rfl, -, e⟩ | ⟨rfl, t, n, R⟩
  · refine ⟨-2, ?_, Or.inl ⟨by decide, by decide, ?_⟩⟩
    · rcases d2 with ⟨rfl, -⟩ | ⟨rfl, -⟩ | ⟨rfl, -⟩ <;> rfl
    · rw [e, if_pos (big k k1 k2)]
  · rcases d2 with ⟨rfl, -, k, k1, k2, f⟩ | ⟨rfl, -, f⟩ | ⟨rfl, t', n', R'⟩
    · refine ⟨-2, rfl, Or.inl ⟨by decide, by decide, ?_⟩⟩
      rw [e, f, if_neg (by decide), if_pos (big k k1 k2)]
    · refine ⟨-3, rfl, Or.inl ⟨by decide, by decide, ?_⟩⟩
      rw [e, f]; rfl
    · refine ⟨-3, rfl, Or.inl ⟨by decide, by decide, ?_⟩⟩
      rw [e, R'.2.2.2.2.1, if_neg (by decide), if_neg (small t' R'.1), decide_eq_false (fun q => q.1 rfl)]; rfl
  · have e := R.2.2.2.2.1
    rcases d2 with ⟨rfl, -, k, k1, k2, f⟩ | ⟨rfl, -, f⟩ | ⟨rfl, t', n', R'⟩
    · refine ⟨-2, rfl, Or.inl ⟨by decide, by decide, ?_⟩⟩
      rw [e, f, if_neg (small t R.1), if_pos (big k k1 k2)]
    · refine ⟨-3, rfl, Or.inl ⟨by decide, by decide, ?_⟩⟩
      rw [e, f, if_neg (small t R.1), if_neg (by decide), decide_eq_false (fun q => q.2.1 rfl), if_neg (by decide), if_neg (nz t R.1), if_pos rfl]
    · have f := R'.2.2.2.2.1
      by_cases tt : t = t'
      · subst tt
        refine ⟨0, ?_, Or.inr ⟨rfl, j1, j2, t, n, n', hj1, hj2, rfl, rfl, R, R'⟩⟩
        rw [R.2.2.2.1, R'.2.2.2.1]
        simp
      · refine ⟨-2, ?_, Or.inl ⟨by decide, by decide, ?_⟩⟩
        · rw [R.2.2.2.1, R'.2.2.2.1]
          have tl := R.1
          have tl' := R'.1
          simp [P_ne (show t < 2 ^ 31 by omega) (show t' < 2 ^ 31 by omega) tt]
        · have tl := R.1
          have tl' := R'.1
          rw [e, f, if_neg (small t R.1), if_neg (small t' R'.1), decide_eq_true ⟨nz t R.1, nz t' R'.1, P_ne (by omega) (by omega) (by omega)⟩, if_pos rfl]
