/-! PURE: the copy of a stretch -/
theorem stretch_C {σ : CS} {i n c : Nat} (hn : n ≤ 160) (hc : c < 2 ^ 31) (e : cI σ (58 + i) 2 = nI n) (p : Int32) : cH_hasStretch i p (nI c) σ = some (decide (0 ≤ p.toInt ∧ p.toInt + c ≤ n), σ) := by
  unfold cH_hasStretch
  by_cases g : p < 0
  · rw [if_pos g, decide_eq_false (fun q => by
      rw [Int32.lt_iff_toInt_lt] at g
      have : (0 : Int32).toInt = 0 := rfl
      omega)]
  · have g0 : 0 ≤ p.toInt := by
      have := Int32.not_lt.mp g
      rw [Int32.le_iff_toInt_le] at this
      exact this
    rw [if_neg g, e]
    have e1 : (0 < lg_cmp ((Int32.toInt64 p) + (Int32.toInt64 (nI c))) (Int32.toInt64 (nI n))) ↔ ¬ (p.toInt + c ≤ n) := by
      rw [lg_cmp_gt, Int64.lt_iff_toInt_lt, lg_i2l_add, Int32.toInt_toInt64, nI_toInt hc, nI_toInt (by omega)]
      omega
    by_cases q : p.toInt + c ≤ n
    · rw [if_neg (fun z => (e1.mp z) q), decide_eq_true ⟨g0, q⟩]
    · rw [if_pos (e1.mpr q), decide_eq_false (fun z => q z.2)]
theorem copy_fw {c u v : Nat} (h1 : u + c ≤ 1280) (h2 : v + c ≤ 1280) (huv : v ≤ u) (E0 : Nat → Int64) : ∀ (n a : Nat) (τ : MS), a ≤ c → c < a + n → mE τ = va_cpy E0 E0 u v a → ∃ τ', m_copy_l47 n (nI c) (nI u) (nI v) (nI a) τ = some (1, τ') ∧ τ'.1 = τ.1 ∧ τ'.2.1 = τ.2.1 ∧ τ'.2.2.1 = τ.2.2.1 ∧ mE τ' = va_cpy E0 E0 u v c := by
  intro n
  induction n with
  | zero => intro a τ g1 g2; omega
  | succ n ih =>
    intro a τ g1 g2 g3
    unfold m_copy_l47
    by_cases e : a = c
    · subst e
      rw [if_pos ((P_le (by omega) (by omega)).mpr (Nat.le_refl a))]
      exact ⟨τ, rfl, rfl, rfl, rfl, g3⟩
    · rw [if_neg (fun q => absurd ((P_le (by omega) (by omega)).mp q) (by omega)), if_pos ((P_le (by omega) (by omega)).mpr huv)]
      unfold m_copy_b73
      rw [nI_add u a, nI_add v a, P_in (show u + a < 1280 by omega) (by decide), P_in (show v + a < 1280 by omega) (by decide), if_pos rfl, if_pos rfl, P_ix (show u + a < 2 ^ 31 by omega), P_ix (show v + a < 2 ^ 31 by omega), show nI a + 1 = nI (a + 1) from nI_add a 1]
      obtain ⟨τ', k1, k2, k3, k4, k5⟩ := ih (a + 1) (sE τ (v + a) (mE τ (u + a))) (by omega) (by omega) (by
        show vp_updL (mE τ) (v + a) (mE τ (u + a)) = _
        rw [g3]
        funext k
        by_cases ek : k = v + a
        · rw [ek, pk_uLs, pk_cpy_out (by omega), pk_cpy_in (by omega) (by omega)]
          congr 1; omega
        · rw [pk_uLn ek]
          by_cases q : v ≤ k ∧ k < v + a
          · rw [pk_cpy_in q.1 q.2, pk_cpy_in q.1 (by omega)]
          · rw [pk_cpy_out (by omega), pk_cpy_out (by omega)])
      exact ⟨τ', k1, k2, k3, k4, k5⟩
theorem copy_bw {c u v : Nat} (h1 : u + c ≤ 1280) (h2 : v + c ≤ 1280) (huv : u < v) (E0 : Nat → Int64) : ∀ (n a : Nat) (τ : MS), a ≤ c → c < a + n → mE τ = va_cpy E0 E0 (u + (c - a)) (v + (c - a)) a → ∃ τ', m_copy_l47 n (nI c) (nI u) (nI v) (nI a) τ = some (1, τ') ∧ τ'.1 = τ.1 ∧ τ'.2.1 = τ.2.1 ∧ τ'.2.2.1 = τ.2.2.1 ∧ mE τ' = va_cpy E0 E0 u v c := by
  intro n
  induction n with
  | zero => intro a τ g1 g2; omega
  | succ n ih =>
    intro a τ g1 g2 g3
    unfold m_copy_l47
    by_cases e : a = c
    · subst e
      rw [if_pos ((P_le (by omega) (by omega)).mpr (Nat.le_refl a))]
      exact ⟨τ, rfl, rfl, rfl, rfl, by rw [g3, Nat.sub_self]; rfl⟩
    · rw [if_neg (fun q => absurd ((P_le (by omega) (by omega)).mp q) (by omega)), if_neg (fun q => absurd ((P_le (by omega) (by omega)).mp q) (by omega))]
      unfold m_copy_b73
      have e5 : (nI c - 1) - nI a = nI (c - 1 - a) := by rw [show (1 : Int32) = nI 1 from rfl, pk_sub (by omega), pk_sub (by omega)]
      rw [e5, nI_add u, nI_add v, P_in (show u + (c - 1 - a) < 1280 by omega) (by decide), P_in (show v + (c - 1 - a) < 1280 by omega) (by decide), if_pos rfl, if_pos rfl, P_ix (show u + (c - 1 - a) < 2 ^ 31 by omega), P_ix (show v + (c - 1 - a) < 2 ^ 31 by omega), show nI a + 1 = nI (a + 1) from nI_add a 1]
      obtain ⟨τ', k1, k2, k3, k4, k5⟩ := ih (a + 1) (sE τ (v + (c - 1 - a)) (mE τ (u + (c - 1 - a)))) (by omega) (by omega) (by
        show vp_updL (mE τ) (v + (c - 1 - a)) (mE τ (u + (c - 1 - a))) = _
        rw [g3]
        funext k
        by_cases ek : k = v + (c - 1 - a)
        · rw [ek, pk_uLs, pk_cpy_out (by omega), pk_cpy_in (by omega) (by omega)]
          congr 1; omega
        · rw [pk_uLn ek]
          by_cases q : v + (c - a) ≤ k ∧ k < v + (c - a) + a
          · rw [pk_cpy_in q.1 q.2, pk_cpy_in (by omega) (by omega)]
            congr 1; omega
          · rw [pk_cpy_out (by omega), pk_cpy_out (by omega)])
      exact ⟨τ', k1, k2, k3, k4, k5⟩
theorem copy_M {c u v : Nat} (h1 : u + c ≤ 1280) (h2 : v + c ≤ 1280) (τ : MS) : ∃ τ', m_copy_l47 4096 (nI c) (nI u) (nI v) 0 τ = some (1, τ') ∧ τ'.1 = τ.1 ∧ τ'.2.1 = τ.2.1 ∧ τ'.2.2.1 = τ.2.2.1 ∧ mE τ' = va_cpy (mE τ) (mE τ) u v c := by
  rcases Nat.lt_or_ge u v with q | q
  · exact copy_bw h1 h2 q (mE τ) 4096 0 τ (by omega) (by omega) (funext fun k => (pk_cpy_out (by omega)).symm)
  · exact copy_fw h1 h2 q (mE τ) 4096 0 τ (by omega) (by omega) (funext fun k => (pk_cpy_out (by omega)).symm)
