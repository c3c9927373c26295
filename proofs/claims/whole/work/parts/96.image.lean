/-! STEPS: image and restore -/
theorem keep_1 {c0 : Nat} (hc : c0 + 6 ≤ 90) : ∀ (r i fu : Nat) (τ : MS), i + r = 6 → r < fu → mZ τ 41 = true → mI τ 42 = nI (c0 + i) → ∃ τ', m_passes_1_l2 fu (nI i) τ = some ((), τ') ∧ τ'.2.1 = τ.2.1 ∧ τ'.2.2.2 = τ.2.2.2 ∧ (∀ j, j ≠ 42 → mI τ' j = mI τ j) ∧ mI τ' 42 = nI (c0 + 6) ∧ (∀ j, j ≠ 39 → mA τ' j = mA τ j) ∧ (∀ a, i ≤ a → a < 6 → mA τ' 39 (c0 + a) = mA τ 1 a) ∧ (∀ j, j < c0 + i ∨ c0 + 6 ≤ j → mA τ' 39 j = mA τ 39 j)
  | r, i, 0, τ, _, h3, _, _ => by omega
  | 0, i, fu + 1, τ, h2, _, hz, hi => by
    refine ⟨τ, ?_, rfl, rfl, fun _ _ => rfl, ?_, fun _ _ => rfl, fun a h1 h2 => by omega, fun _ _ => rfl⟩
    · rw [m_passes_1_l2, if_pos (show 6 ≤ nI i from (P_le (a := 6) (by omega) (by omega)).mpr (by omega))]
    · rw [hi, show i = 6 by omega]
  | r + 1, i, fu + 1, τ, h2, h3, hz, hi => by
    obtain ⟨τ', g1, g2, g3, g4, g5, g6, g7, g8⟩ := keep_1 hc r (i + 1) fu (sI (sA τ 39 (c0 + i) (mA τ 1 i)) 42 (nI (c0 + i + 1))) (by omega) (by omega) hz rfl
    refine ⟨τ', ?_, g2, g3, fun j hj => (g4 j hj).trans (va_up_n _ _ hj), g5, fun j hj => (g6 j hj).trans (va_up_n _ _ hj), fun a h1 h2 => ?_, fun j hj => ?_⟩
    · rw [m_passes_1_l2, if_neg (show ¬ 6 ≤ nI i from fun q => absurd ((P_le (a := 6) (by omega) (by omega)).mp q) (by omega)), if_pos hz, P_in (show i < 6 by omega) (by decide), if_pos rfl, hi, P_in (show c0 + i < 90 by omega) (by decide), if_pos rfl, P_ix (show i < 2 ^ 31 by omega), P_ix (show c0 + i < 2 ^ 31 by omega)]
      unfold m_passes_1_b42
      rw [show mI (sA τ 39 (c0 + i) (mA τ 1 i)) 42 = nI (c0 + i) from hi, nI_1, nI_1]
      exact g1
    · by_cases e : a = i
      · subst e
        rw [g8 (c0 + a) (by omega)]; exact pk_us
      · exact g7 a (by omega) h2
    · rw [g8 j (by omega)]; exact pk_un (by omega)
theorem back_1 {c0 : Nat} (hc : c0 + 6 ≤ 90) : ∀ (r i fu : Nat) (τ : MS), i + r = 6 → r < fu → mZ τ 41 = false → mI τ 42 = nI (c0 + i) → ∃ τ', m_passes_1_l2 fu (nI i) τ = some ((), τ') ∧ τ'.2.1 = τ.2.1 ∧ τ'.2.2.2 = τ.2.2.2 ∧ (∀ j, j ≠ 42 → mI τ' j = mI τ j) ∧ mI τ' 42 = nI (c0 + 6) ∧ (∀ j, j ≠ 1 → mA τ' j = mA τ j) ∧ (∀ a, i ≤ a → a < 6 → mA τ' 1 a = mA τ 39 (c0 + a)) ∧ (∀ j, j < i → mA τ' 1 j = mA τ 1 j)
  | r, i, 0, τ, _, h3, _, _ => by omega
  | 0, i, fu + 1, τ, h2, _, hz, hi => by
    refine ⟨τ, ?_, rfl, rfl, fun _ _ => rfl, ?_, fun _ _ => rfl, fun a h1 h2 => by omega, fun _ _ => rfl⟩
    · rw [m_passes_1_l2, if_pos (show 6 ≤ nI i from (P_le (a := 6) (by omega) (by omega)).mpr (by omega))]
    · rw [hi, show i = 6 by omega]
  | r + 1, i, fu + 1, τ, h2, h3, hz, hi => by
    obtain ⟨τ', g1, g2, g3, g4, g5, g6, g7, g8⟩ := back_1 hc r (i + 1) fu (sI (sA τ 1 i (mA τ 39 (c0 + i))) 42 (nI (c0 + i + 1))) (by omega) (by omega) hz rfl
    refine ⟨τ', ?_, g2, g3, fun j hj => (g4 j hj).trans (va_up_n _ _ hj), g5, fun j hj => (g6 j hj).trans (va_up_n _ _ hj), fun a h1 h2 => ?_, fun j hj => ?_⟩
    · rw [m_passes_1_l2, if_neg (show ¬ 6 ≤ nI i from fun q => absurd ((P_le (a := 6) (by omega) (by omega)).mp q) (by omega)), if_neg (by rw [hz]; decide), hi, P_in (show c0 + i < 90 by omega) (by decide), if_pos rfl, P_in (show i < 6 by omega) (by decide), if_pos rfl, P_ix (show i < 2 ^ 31 by omega), P_ix (show c0 + i < 2 ^ 31 by omega)]
      unfold m_passes_1_b42
      rw [show mI (sA τ 1 i (mA τ 39 (c0 + i))) 42 = nI (c0 + i) from hi, nI_1, nI_1]
      exact g1
    · by_cases e : a = i
      · subst e
        rw [g8 a (by omega)]; exact pk_us
      · exact g7 a (by omega) h2
    · rw [g8 j (by omega)]; exact pk_un (by omega)
theorem keep_2 {c0 : Nat} (hc : c0 + 60 ≤ 90) : ∀ (r i fu : Nat) (τ : MS), i + r = 60 → r < fu → mZ τ 41 = true → mI τ 42 = nI (c0 + i) → ∃ τ', m_passes_2_l2 fu (nI i) τ = some ((), τ') ∧ τ'.2.1 = τ.2.1 ∧ τ'.2.2.2 = τ.2.2.2 ∧ (∀ j, j ≠ 42 → mI τ' j = mI τ j) ∧ mI τ' 42 = nI (c0 + 60) ∧ (∀ j, j ≠ 39 → mA τ' j = mA τ j) ∧ (∀ a, i ≤ a → a < 60 → mA τ' 39 (c0 + a) = mA τ 2 a) ∧ (∀ j, j < c0 + i ∨ c0 + 60 ≤ j → mA τ' 39 j = mA τ 39 j)
  | r, i, 0, τ, _, h3, _, _ => by omega
  | 0, i, fu + 1, τ, h2, _, hz, hi => by
    refine ⟨τ, ?_, rfl, rfl, fun _ _ => rfl, ?_, fun _ _ => rfl, fun a h1 h2 => by omega, fun _ _ => rfl⟩
    · rw [m_passes_2_l2, if_pos (show 60 ≤ nI i from (P_le (a := 60) (by omega) (by omega)).mpr (by omega))]
    · rw [hi, show i = 60 by omega]
  | r + 1, i, fu + 1, τ, h2, h3, hz, hi => by
    obtain ⟨τ', g1, g2, g3, g4, g5, g6, g7, g8⟩ := keep_2 hc r (i + 1) fu (sI (sA τ 39 (c0 + i) (mA τ 2 i)) 42 (nI (c0 + i + 1))) (by omega) (by omega) hz rfl
    refine ⟨τ', ?_, g2, g3, fun j hj => (g4 j hj).trans (va_up_n _ _ hj), g5, fun j hj => (g6 j hj).trans (va_up_n _ _ hj), fun a h1 h2 => ?_, fun j hj => ?_⟩
    · rw [m_passes_2_l2, if_neg (show ¬ 60 ≤ nI i from fun q => absurd ((P_le (a := 60) (by omega) (by omega)).mp q) (by omega)), if_pos hz, P_in (show i < 60 by omega) (by decide), if_pos rfl, hi, P_in (show c0 + i < 90 by omega) (by decide), if_pos rfl, P_ix (show i < 2 ^ 31 by omega), P_ix (show c0 + i < 2 ^ 31 by omega)]
      unfold m_passes_2_b42
      rw [show mI (sA τ 39 (c0 + i) (mA τ 2 i)) 42 = nI (c0 + i) from hi, nI_1, nI_1]
      exact g1
    · by_cases e : a = i
      · subst e
        rw [g8 (c0 + a) (by omega)]; exact pk_us
      · exact g7 a (by omega) h2
    · rw [g8 j (by omega)]; exact pk_un (by omega)
theorem back_2 {c0 : Nat} (hc : c0 + 60 ≤ 90) : ∀ (r i fu : Nat) (τ : MS), i + r = 60 → r < fu → mZ τ 41 = false → mI τ 42 = nI (c0 + i) → ∃ τ', m_passes_2_l2 fu (nI i) τ = some ((), τ') ∧ τ'.2.1 = τ.2.1 ∧ τ'.2.2.2 = τ.2.2.2 ∧ (∀ j, j ≠ 42 → mI τ' j = mI τ j) ∧ mI τ' 42 = nI (c0 + 60) ∧ (∀ j, j ≠ 2 → mA τ' j = mA τ j) ∧ (∀ a, i ≤ a → a < 60 → mA τ' 2 a = mA τ 39 (c0 + a)) ∧ (∀ j, j < i → mA τ' 2 j = mA τ 2 j)
  | r, i, 0, τ, _, h3, _, _ => by omega
  | 0, i, fu + 1, τ, h2, _, hz, hi => by
    refine ⟨τ, ?_, rfl, rfl, fun _ _ => rfl, ?_, fun _ _ => rfl, fun a h1 h2 => by omega, fun _ _ => rfl⟩
    · rw [m_passes_2_l2, if_pos (show 60 ≤ nI i from (P_le (a := 60) (by omega) (by omega)).mpr (by omega))]
    · rw [hi, show i = 60 by omega]
  | r + 1, i, fu + 1, τ, h2, h3, hz, hi => by
    obtain ⟨τ', g1, g2, g3, g4, g5, g6, g7, g8⟩ := back_2 hc r (i + 1) fu (sI (sA τ 2 i (mA τ 39 (c0 + i))) 42 (nI (c0 + i + 1))) (by omega) (by omega) hz rfl
    refine ⟨τ', ?_, g2, g3, fun j hj => (g4 j hj).trans (va_up_n _ _ hj), g5, fun j hj => (g6 j hj).trans (va_up_n _ _ hj), fun a h1 h2 => ?_, fun j hj => ?_⟩
    · rw [m_passes_2_l2, if_neg (show ¬ 60 ≤ nI i from fun q => absurd ((P_le (a := 60) (by omega) (by omega)).mp q) (by omega)), if_neg (by rw [hz]; decide), hi, P_in (show c0 + i < 90 by omega) (by decide), if_pos rfl, P_in (show i < 60 by omega) (by decide), if_pos rfl, P_ix (show i < 2 ^ 31 by omega), P_ix (show c0 + i < 2 ^ 31 by omega)]
      unfold m_passes_2_b42
      rw [show mI (sA τ 2 i (mA τ 39 (c0 + i))) 42 = nI (c0 + i) from hi, nI_1, nI_1]
      exact g1
    · by_cases e : a = i
      · subst e
        rw [g8 a (by omega)]; exact pk_us
      · exact g7 a (by omega) h2
    · rw [g8 j (by omega)]; exact pk_un (by omega)
theorem keep_3 {c0 : Nat} (hc : c0 + 6 ≤ 90) : ∀ (r i fu : Nat) (τ : MS), i + r = 6 → r < fu → mZ τ 41 = true → mI τ 42 = nI (c0 + i) → ∃ τ', m_passes_3_l2 fu (nI i) τ = some ((), τ') ∧ τ'.2.1 = τ.2.1 ∧ τ'.2.2.2 = τ.2.2.2 ∧ (∀ j, j ≠ 42 → mI τ' j = mI τ j) ∧ mI τ' 42 = nI (c0 + 6) ∧ (∀ j, j ≠ 39 → mA τ' j = mA τ j) ∧ (∀ a, i ≤ a → a < 6 → mA τ' 39 (c0 + a) = mA τ 3 a) ∧ (∀ j, j < c0 + i ∨ c0 + 6 ≤ j → mA τ' 39 j = mA τ 39 j)
  | r, i, 0, τ, _, h3, _, _ => by omega
  | 0, i, fu + 1, τ, h2, _, hz, hi => by
    refine ⟨τ, ?_, rfl, rfl, fun _ _ => rfl, ?_, fun _ _ => rfl, fun a h1 h2 => by omega, fun _ _ => rfl⟩
    · rw [m_passes_3_l2, if_pos (show 6 ≤ nI i from (P_le (a := 6) (by omega) (by omega)).mpr (by omega))]
    · rw [hi, show i = 6 by omega]
  | r + 1, i, fu + 1, τ, h2, h3, hz, hi => by
    obtain ⟨τ', g1, g2, g3, g4, g5, g6, g7, g8⟩ := keep_3 hc r (i + 1) fu (sI (sA τ 39 (c0 + i) (mA τ 3 i)) 42 (nI (c0 + i + 1))) (by omega) (by omega) hz rfl
    refine ⟨τ', ?_, g2, g3, fun j hj => (g4 j hj).trans (va_up_n _ _ hj), g5, fun j hj => (g6 j hj).trans (va_up_n _ _ hj), fun a h1 h2 => ?_, fun j hj => ?_⟩
    · rw [m_passes_3_l2, if_neg (show ¬ 6 ≤ nI i from fun q => absurd ((P_le (a := 6) (by omega) (by omega)).mp q) (by omega)), if_pos hz, P_in (show i < 6 by omega) (by decide), if_pos rfl, hi, P_in (show c0 + i < 90 by omega) (by decide), if_pos rfl, P_ix (show i < 2 ^ 31 by omega), P_ix (show c0 + i < 2 ^ 31 by omega)]
      unfold m_passes_3_b42
      rw [show mI (sA τ 39 (c0 + i) (mA τ 3 i)) 42 = nI (c0 + i) from hi, nI_1, nI_1]
      exact g1
    · by_cases e : a = i
      · subst e
        rw [g8 (c0 + a) (by omega)]; exact pk_us
      · exact g7 a (by omega) h2
    · rw [g8 j (by omega)]; exact pk_un (by omega)
theorem back_3 {c0 : Nat} (hc : c0 + 6 ≤ 90) : ∀ (r i fu : Nat) (τ : MS), i + r = 6 → r < fu → mZ τ 41 = false → mI τ 42 = nI (c0 + i) → ∃ τ', m_passes_3_l2 fu (nI i) τ = some ((), τ') ∧ τ'.2.1 = τ.2.1 ∧ τ'.2.2.2 = τ.2.2.2 ∧ (∀ j, j ≠ 42 → mI τ' j = mI τ j) ∧ mI τ' 42 = nI (c0 + 6) ∧ (∀ j, j ≠ 3 → mA τ' j = mA τ j) ∧ (∀ a, i ≤ a → a < 6 → mA τ' 3 a = mA τ 39 (c0 + a)) ∧ (∀ j, j < i → mA τ' 3 j = mA τ 3 j)
  | r, i, 0, τ, _, h3, _, _ => by omega
  | 0, i, fu + 1, τ, h2, _, hz, hi => by
    refine ⟨τ, ?_, rfl, rfl, fun _ _ => rfl, ?_, fun _ _ => rfl, fun a h1 h2 => by omega, fun _ _ => rfl⟩
    · rw [m_passes_3_l2, if_pos (show 6 ≤ nI i from (P_le (a := 6) (by omega) (by omega)).mpr (by omega))]
    · rw [hi, show i = 6 by omega]
  | r + 1, i, fu + 1, τ, h2, h3, hz, hi => by
    obtain ⟨τ', g1, g2, g3, g4, g5, g6, g7, g8⟩ := back_3 hc r (i + 1) fu (sI (sA τ 3 i (mA τ 39 (c0 + i))) 42 (nI (c0 + i + 1))) (by omega) (by omega) hz rfl
    refine ⟨τ', ?_, g2, g3, fun j hj => (g4 j hj).trans (va_up_n _ _ hj), g5, fun j hj => (g6 j hj).trans (va_up_n _ _ hj), fun a h1 h2 => ?_, fun j hj => ?_⟩
    · rw [m_passes_3_l2, if_neg (show ¬ 6 ≤ nI i from fun q => absurd ((P_le (a := 6) (by omega) (by omega)).mp q) (by omega)), if_neg (by rw [hz]; decide), hi, P_in (show c0 + i < 90 by omega) (by decide), if_pos rfl, P_in (show i < 6 by omega) (by decide), if_pos rfl, P_ix (show i < 2 ^ 31 by omega), P_ix (show c0 + i < 2 ^ 31 by omega)]
      unfold m_passes_3_b42
      rw [show mI (sA τ 3 i (mA τ 39 (c0 + i))) 42 = nI (c0 + i) from hi, nI_1, nI_1]
      exact g1
    · by_cases e : a = i
      · subst e
        rw [g8 a (by omega)]; exact pk_us
      · exact g7 a (by omega) h2
    · rw [g8 j (by omega)]; exact pk_un (by omega)
theorem keep_4 {c0 : Nat} (hc : c0 + 6 ≤ 90) : ∀ (r i fu : Nat) (τ : MS), i + r = 6 → r < fu → mZ τ 41 = true → mI τ 42 = nI (c0 + i) → ∃ τ', m_passes_4_l2 fu (nI i) τ = some ((), τ') ∧ τ'.2.1 = τ.2.1 ∧ τ'.2.2.2 = τ.2.2.2 ∧ (∀ j, j ≠ 42 → mI τ' j = mI τ j) ∧ mI τ' 42 = nI (c0 + 6) ∧ (∀ j, j ≠ 39 → mA τ' j = mA τ j) ∧ (∀ a, i ≤ a → a < 6 → mA τ' 39 (c0 + a) = mA τ 4 a) ∧ (∀ j, j < c0 + i ∨ c0 + 6 ≤ j → mA τ' 39 j = mA τ 39 j)
  | r, i, 0, τ, _, h3, _, _ => by omega
  | 0, i, fu + 1, τ, h2, _, hz, hi => by
    refine ⟨τ, ?_, rfl, rfl, fun _ _ => rfl, ?_, fun _ _ => rfl, fun a h1 h2 => by omega, fun _ _ => rfl⟩
    · rw [m_passes_4_l2, if_pos (show 6 ≤ nI i from (P_le (a := 6) (by omega) (by omega)).mpr (by omega))]
    · rw [hi, show i = 6 by omega]
  | r + 1, i, fu + 1, τ, h2, h3, hz, hi => by
    obtain ⟨τ', g1, g2, g3, g4, g5, g6, g7, g8⟩ := keep_4 hc r (i + 1) fu (sI (sA τ 39 (c0 + i) (mA τ 4 i)) 42 (nI (c0 + i + 1))) (by omega) (by omega) hz rfl
    refine ⟨τ', ?_, g2, g3, fun j hj => (g4 j hj).trans (va_up_n _ _ hj), g5, fun j hj => (g6 j hj).trans (va_up_n _ _ hj), fun a h1 h2 => ?_, fun j hj => ?_⟩
    · rw [m_passes_4_l2, if_neg (show ¬ 6 ≤ nI i from fun q => absurd ((P_le (a := 6) (by omega) (by omega)).mp q) (by omega)), if_pos hz, P_in (show i < 6 by omega) (by decide), if_pos rfl, hi, P_in (show c0 + i < 90 by omega) (by decide), if_pos rfl, P_ix (show i < 2 ^ 31 by omega), P_ix (show c0 + i < 2 ^ 31 by omega)]
      unfold m_passes_4_b42
      rw [show mI (sA τ 39 (c0 + i) (mA τ 4 i)) 42 = nI (c0 + i) from hi, nI_1, nI_1]
      exact g1
    · by_cases e : a = i
      · subst e
        rw [g8 (c0 + a) (by omega)]; exact pk_us
      · exact g7 a (by omega) h2
    · rw [g8 j (by omega)]; exact pk_un (by omega)
theorem back_4 {c0 : Nat} (hc : c0 + 6 ≤ 90) : ∀ (r i fu : Nat) (τ : MS), i + r = 6 → r < fu → mZ τ 41 = false → mI τ 42 = nI (c0 + i) → ∃ τ', m_passes_4_l2 fu (nI i) τ = some ((), τ') ∧ τ'.2.1 = τ.2.1 ∧ τ'.2.2.2 = τ.2.2.2 ∧ (∀ j, j ≠ 42 → mI τ' j = mI τ j) ∧ mI τ' 42 = nI (c0 + 6) ∧ (∀ j, j ≠ 4 → mA τ' j = mA τ j) ∧ (∀ a, i ≤ a → a < 6 → mA τ' 4 a = mA τ 39 (c0 + a)) ∧ (∀ j, j < i → mA τ' 4 j = mA τ 4 j)
  | r, i, 0, τ, _, h3, _, _ => by omega
  | 0, i, fu + 1, τ, h2, _, hz, hi => by
    refine ⟨τ, ?_, rfl, rfl, fun _ _ => rfl, ?_, fun _ _ => rfl, fun a h1 h2 => by omega, fun _ _ => rfl⟩
    · rw [m_passes_4_l2, if_pos (show 6 ≤ nI i from (P_le (a := 6) (by omega) (by omega)).mpr (by omega))]
    · rw [hi, show i = 6 by omega]
  | r + 1, i, fu + 1, τ, h2, h3, hz, hi => by
    obtain ⟨τ', g1, g2, g3, g4, g5, g6, g7, g8⟩ := back_4 hc r (i + 1) fu (sI (sA τ 4 i (mA τ 39 (c0 + i))) 42 (nI (c0 + i + 1))) (by omega) (by omega) hz rfl
    refine ⟨τ', ?_, g2, g3, fun j hj => (g4 j hj).trans (va_up_n _ _ hj), g5, fun j hj => (g6 j hj).trans (va_up_n _ _ hj), fun a h1 h2 => ?_, fun j hj => ?_⟩
    · rw [m_passes_4_l2, if_neg (show ¬ 6 ≤ nI i from fun q => absurd ((P_le (a := 6) (by omega) (by omega)).mp q) (by omega)), if_neg (by rw [hz]; decide), hi, P_in (show c0 + i < 90 by omega) (by decide), if_pos rfl, P_in (show i < 6 by omega) (by decide), if_pos rfl, P_ix (show i < 2 ^ 31 by omega), P_ix (show c0 + i < 2 ^ 31 by omega)]
      unfold m_passes_4_b42
      rw [show mI (sA τ 4 i (mA τ 39 (c0 + i))) 42 = nI (c0 + i) from hi, nI_1, nI_1]
      exact g1
    · by_cases e : a = i
      · subst e
        rw [g8 a (by omega)]; exact pk_us
      · exact g7 a (by omega) h2
    · rw [g8 j (by omega)]; exact pk_un (by omega)
theorem one_keep {τ : MS} {c : Nat} (hc : c < 90) (hz : mZ τ 41 = true) (hi : mI τ 42 = nI c) (v : Int32) : m_passOne v τ = some (v, sI (sA τ 39 c v) 42 (nI (c + 1))) := by
  unfold m_passOne m_passOne_b20
  rw [if_pos hz, if_pos hz, hi, P_in hc (by decide), if_pos rfl, P_ix (show c < 2 ^ 31 by omega), nI_1]
theorem one_back {τ : MS} {c : Nat} (hc : c < 90) (hz : mZ τ 41 = false) (hi : mI τ 42 = nI c) (v : Int32) : m_passOne v τ = some (mA τ 39 c, sI τ 42 (nI (c + 1))) := by
  have hz' : ¬ mZ τ 41 = true := by rw [hz]; decide
  unfold m_passOne m_passOne_b20
  rw [if_neg hz', hi, P_in hc (by decide), if_pos rfl, if_neg hz', P_ix (show c < 2 ^ 31 by omega), nI_1]
/-- the reference keeps its set-up -/
theorem keep_M {P : ZP} {sd : Int32} {τ : MS} (hM : SetM P τ) (h9 : mI τ 9 = sd) : ∃ τ', m_passesAll true (sZ τ 40 true) = some ((), τ') ∧ KeptM P sd τ' ∧ mZ τ' 40 = true ∧ τ'.2.2.2 = τ.2.2.2 ∧ (∀ j, j ≠ 42 → mI τ' j = mI τ j) ∧ (∀ j, j ≠ 39 → mA τ' j = mA τ j) := by
  have z00 : nI 0 = 0 := rfl
  obtain ⟨τ1, a1, a2, a3, a4, a5, a6, a7, a8⟩ := keep_1 (c0 := 0) (by omega) 6 0 4096 (sZ (sI (sZ τ 40 true) 42 0) 41 true) (by omega) (by omega) rfl rfl
  obtain ⟨τ2, b1, b2, b3, b4, b5, b6, b7, b8⟩ := keep_2 (c0 := 6) (by omega) 60 0 4096 τ1 (by omega) (by omega) (congrFun a2 41) a5
  obtain ⟨τ3, c1, c2, c3, c4, c5, c6, c7, c8⟩ := keep_3 (c0 := 66) (by omega) 6 0 4096 τ2 (by omega) (by omega) ((congrFun b2 41).trans (congrFun a2 41)) b5
  obtain ⟨τ4, d1, d2, d3, d4, d5, d6, d7, d8⟩ := keep_4 (c0 := 72) (by omega) 6 0 4096 τ3 (by omega) (by omega) ((congrFun c2 41).trans ((congrFun b2 41).trans (congrFun a2 41))) c5
  rw [z00] at a1 b1 c1 d1
  have hz : mZ τ4 41 = true := (congrFun d2 41).trans ((congrFun c2 41).trans ((congrFun b2 41).trans (congrFun a2 41)))
  have hz40 : mZ τ4 40 = true := (congrFun d2 40).trans ((congrFun c2 40).trans ((congrFun b2 40).trans (congrFun a2 40)))
  have hI : ∀ j, j ≠ 42 → mI τ4 j = mI τ j := fun j hj => (d4 j hj).trans ((c4 j hj).trans ((b4 j hj).trans ((a4 j hj).trans (va_up_n _ _ hj))))
  have hA : ∀ j, j ≠ 39 → mA τ4 j = mA τ j := fun j hj => (d6 j hj).trans ((c6 j hj).trans ((b6 j hj).trans (a6 j hj)))
  have e5 := one_keep (τ := τ4) (c := 78) (by omega) hz d5 (mI τ4 5)
  have e6 := one_keep (τ := sI (sI (sA τ4 39 78 (mI τ4 5)) 42 (nI 79)) 5 (mI τ4 5)) (c := 79) (by omega) hz rfl (mI τ4 6)
  have e7 := one_keep (τ := sI (sI (sA (sI (sI (sA τ4 39 78 (mI τ4 5)) 42 (nI 79)) 5 (mI τ4 5)) 39 79 (mI τ4 6)) 42 (nI 80)) 6 (mI τ4 6)) (c := 80) (by omega) hz rfl (mI τ4 7)
  have e8 := one_keep (τ := sI (sI (sA (sI (sI (sA (sI (sI (sA τ4 39 78 (mI τ4 5)) 42 (nI 79)) 5 (mI τ4 5)) 39 79 (mI τ4 6)) 42 (nI 80)) 6 (mI τ4 6)) 39 80 (mI τ4 7)) 42 (nI 81)) 7 (mI τ4 7)) (c := 81) (by omega) hz rfl (mI τ4 8)
  have e9 := one_keep (τ := sI (sI (sA (sI (sI (sA (sI (sI (sA (sI (sI (sA τ4 39 78 (mI τ4 5)) 42 (nI 79)) 5 (mI τ4 5)) 39 79 (mI τ4 6)) 42 (nI 80)) 6 (mI τ4 6)) 39 80 (mI τ4 7)) 42 (nI 81)) 7 (mI τ4 7)) 39 81 (mI τ4 8)) 42 (nI 82)) 8 (mI τ4 8)) (c := 82) (by omega) hz rfl (mI τ4 9)
  refine ⟨sI (sI (sA (sI (sI (sA (sI (sI (sA (sI (sI (sA (sI (sI (sA τ4 39 78 (mI τ4 5)) 42 (nI 79)) 5 (mI τ4 5)) 39 79 (mI τ4 6)) 42 (nI 80)) 6 (mI τ4 6)) 39 80 (mI τ4 7)) 42 (nI 81)) 7 (mI τ4 7)) 39 81 (mI τ4 8)) 42 (nI 82)) 8 (mI τ4 8)) 39 82 (mI τ4 9)) 42 (nI 83)) 9 (mI τ4 9), ?_, ?_, hz40, ?_, ?_, ?_⟩
  · unfold m_passesAll m_passes_1 m_passes_2 m_passes_3 m_passes_4
    rw [a1, Option.bind_some, b1, Option.bind_some, c1, Option.bind_some, d1, Option.bind_some, e5, Option.bind_some, show mI (sI (sA τ4 39 78 (mI τ4 5)) 42 (nI (78 + 1))) 6 = mI τ4 6 from rfl, e6, Option.bind_some]
    rw [show ∀ X : MS, mI (sI (sA (sI X 5 (mI τ4 5)) 39 79 (mI τ4 6)) 42 (nI (79 + 1))) 7 = mI X 7 from fun _ => rfl, show mI (sI (sA τ4 39 78 (mI τ4 5)) 42 (nI (78 + 1))) 7 = mI τ4 7 from rfl, e7, Option.bind_some]
    rw [show ∀ X : MS, mI (sI (sA (sI X 6 (mI τ4 6)) 39 80 (mI τ4 7)) 42 (nI (80 + 1))) 8 = mI X 8 from fun _ => rfl, show ∀ X : MS, mI (sI (sA (sI X 5 (mI τ4 5)) 39 79 (mI τ4 6)) 42 (nI (79 + 1))) 8 = mI X 8 from fun _ => rfl, show mI (sI (sA τ4 39 78 (mI τ4 5)) 42 (nI (78 + 1))) 8 = mI τ4 8 from rfl, e8, Option.bind_some]
    rw [show ∀ X : MS, mI (sI (sA (sI X 7 (mI τ4 7)) 39 81 (mI τ4 8)) 42 (nI (81 + 1))) 9 = mI X 9 from fun _ => rfl, show ∀ X : MS, mI (sI (sA (sI X 6 (mI τ4 6)) 39 80 (mI τ4 7)) 42 (nI (80 + 1))) 9 = mI X 9 from fun _ => rfl, show ∀ X : MS, mI (sI (sA (sI X 5 (mI τ4 5)) 39 79 (mI τ4 6)) 42 (nI (79 + 1))) 9 = mI X 9 from fun _ => rfl, show mI (sI (sA τ4 39 78 (mI τ4 5)) 42 (nI (78 + 1))) 9 = mI τ4 9 from rfl, e9, Option.bind_some]
  · have K : ∀ j, j < 78 → mA (sI (sI (sA (sI (sI (sA (sI (sI (sA (sI (sI (sA (sI (sI (sA τ4 39 78 (mI τ4 5)) 42 (nI 79)) 5 (mI τ4 5)) 39 79 (mI τ4 6)) 42 (nI 80)) 6 (mI τ4 6)) 39 80 (mI τ4 7)) 42 (nI 81)) 7 (mI τ4 7)) 39 81 (mI τ4 8)) 42 (nI 82)) 8 (mI τ4 8)) 39 82 (mI τ4 9)) 42 (nI 83)) 9 (mI τ4 9)) 39 j = mA τ4 39 j := fun j hj => by
      show upd (upd (upd (upd (upd (mA τ4 39) 78 (mI τ4 5)) 79 (mI τ4 6)) 80 (mI τ4 7)) 81 (mI τ4 8)) 82 (mI τ4 9) j = _
      rw [pk_un (by omega), pk_un (by omega), pk_un (by omega), pk_un (by omega), pk_un (by omega)]
    refine ⟨fun p q1 q2 => ?_, fun m hm => ?_, fun s hs => ?_, ?_, ?_, ?_, ?_, ?_⟩
    · rw [K p (by omega), d8 p (by omega), c8 p (by omega), b8 p (by omega)]
      have := a7 p (by omega) (by omega)
      rw [Nat.zero_add] at this
      rw [this]; exact hM.2.2.2.2.1 p q1 q2
    · rw [K _ (by omega), d8 _ (by omega), c8 _ (by omega), b7 m (by omega) hm, a6 2 (by decide)]; exact hM.2.2.2.2.2.1 m hm
    · rw [K (66 + s) (by omega), d8 (66 + s) (by omega), c7 s (by omega) hs, b6 3 (by decide), a6 3 (by decide), K (72 + s) (by omega), d7 s (by omega) hs, c6 4 (by decide), b6 4 (by decide), a6 4 (by decide)]
      exact hM.2.2.2.2.2.2 s hs
    · exact (hI 5 (by decide)).trans hM.1
    · exact (hI 6 (by decide)).trans hM.2.1
    · exact (hI 7 (by decide)).trans hM.2.2.1
    · exact (hI 8 (by decide)).trans hM.2.2.2.1
    · exact (hI 9 (by decide)).trans h9
  · exact d3.trans (c3.trans (b3.trans a3))
  · intro j hj
    have K : mI (sI (sI (sA (sI (sI (sA (sI (sI (sA (sI (sI (sA (sI (sI (sA τ4 39 78 (mI τ4 5)) 42 (nI 79)) 5 (mI τ4 5)) 39 79 (mI τ4 6)) 42 (nI 80)) 6 (mI τ4 6)) 39 80 (mI τ4 7)) 42 (nI 81)) 7 (mI τ4 7)) 39 81 (mI τ4 8)) 42 (nI 82)) 8 (mI τ4 8)) 39 82 (mI τ4 9)) 42 (nI 83)) 9 (mI τ4 9)) j = va_up (va_up (va_up (va_up (va_up (va_up (va_up (va_up (va_up (va_up τ4.1 42 (nI 79)) 5 (mI τ4 5)) 42 (nI 80)) 6 (mI τ4 6)) 42 (nI 81)) 7 (mI τ4 7)) 42 (nI 82)) 8 (mI τ4 8)) 42 (nI 83)) 9 (mI τ4 9) j := rfl
    rw [K, ← hI j hj]
    unfold va_up
    by_cases e9 : j = 9
    · rw [if_pos e9, e9]
    · rw [if_neg e9, if_neg hj]
      by_cases e8 : j = 8
      · rw [if_pos e8, e8]
      · rw [if_neg e8, if_neg hj]
        by_cases e7 : j = 7
        · rw [if_pos e7, e7]
        · rw [if_neg e7, if_neg hj]
          by_cases e6 : j = 6
          · rw [if_pos e6, e6]
          · rw [if_neg e6, if_neg hj]
            by_cases e5 : j = 5
            · rw [if_pos e5, e5]
            · rw [if_neg e5, if_neg hj]
  · intro j hj
    exact (va_up_n _ _ hj).trans ((va_up_n _ _ hj).trans ((va_up_n _ _ hj).trans ((va_up_n _ _ hj).trans ((va_up_n _ _ hj).trans (hA j hj)))))
