/-! STEPS: a text is read: numbers -/
def KR (τ τ' : MS) : Prop := (∀ k, k ≠ 35 → mI τ' k = mI τ k) ∧ ∀ k, mA τ' k = mA τ k
theorem KR.rf {τ : MS} : KR τ τ := ⟨fun _ _ => rfl, fun _ => rfl⟩
theorem KR.p {τ τ' : MS} (h : KR τ τ') (v : Int32) : KR τ (sI τ' 35 v) := ⟨fun k hk => (va_up_n _ _ hk).trans (h.1 k hk), h.2⟩
theorem KR.tr {a b c : MS} (h : KR a b) (k : KR b c) : KR a c := ⟨fun i hi => (k.1 i hi).trans (h.1 i hi), fun i => (k.2 i).trans (h.2 i)⟩
section Nu
variable {j N : Nat} {σ0 : CS} {τ0 : MS}
theorem digit_C (hx : TX j N σ0 τ0) {σ : CS} (h : FQ σ0 σ) {q : Nat} (hq : q < 2 ^ 20) : cQ_isDigit j (nI q) σ = some (decide (q < N ∧ 48 ≤ tl j σ0 q ∧ tl j σ0 q ≤ 57), σ) := by
  unfold cQ_isDigit
  rw [has_T hx h (by omega), Option.bind_some]
  by_cases e : q < N
  · rw [decide_eq_true e, if_pos rfl, letter_T hx h e, Option.bind_some]
    by_cases e2 : tl j σ0 q < 48
    · rw [if_pos e2, decide_eq_false (fun z => Int32.not_lt.mpr z.2.1 e2)]
    · rw [if_neg e2, letter_T hx h e, Option.bind_some]
      by_cases e3 : 57 < tl j σ0 q
      · rw [if_pos e3, decide_eq_false (fun z => Int32.not_lt.mpr z.2.2 e3)]
      · rw [if_neg e3, decide_eq_true ⟨e, Int32.not_lt.mp e2, Int32.not_lt.mp e3⟩]
  · rw [decide_eq_false e, if_neg (show ¬ false = true by decide), decide_eq_false (fun z => e z.1)]
theorem digit_v {x : Int32} (h1 : 48 ≤ x) (h2 : x ≤ 57) : ∃ d, d ≤ 9 ∧ x = nI (48 + d) := by
  have g0 : ¬ x < 0 := fun z => absurd (Int32.lt_of_lt_of_le z (Int32.le_trans (by decide : (0 : Int32) ≤ 48) h1)) (fun y => absurd (Int32.lt_of_le_of_lt h1 z) (by decide))
  obtain ⟨k, hk, rfl⟩ := nI_of g0
  have a1 := (P_le (a := 48) (by omega) hk).mp h1
  have a2 := (P_le (b := 57) hk (by omega)).mp h2
  exact ⟨k - 48, by omega, by rw [show 48 + (k - 48) = k by omega]⟩
theorem end_B (hx : TX j N σ0 τ0) {σ : CS} {τ : MS} {a q0 k v lo hi : Nat} (h : RB σ0 τ0 N a σ τ) (hq : q0 ≤ a) (hk : k < 3) (hv : v < 1000) (hlo : lo < 100) (hhi : hi < 100) :
    (q0 < a ∧ lo ≤ v ∧ v ≤ hi ∧ cQ_readNumber_b64 j (nI k) (nI lo) (nI hi) (nI q0) (nI v) σ = some (true, tA σ 13 k (nI v)) ∧ m_readsNumber_b93 (nI lo) (nI hi) (nI q0) (nI v) τ = some (nI v, τ)) ∨
    (cQ_readNumber_b64 j (nI k) (nI lo) (nI hi) (nI q0) (nI v) σ = some (false, tI σ 9 1 (nI q0)) ∧ m_readsNumber_b93 (nI lo) (nI hi) (nI q0) (nI v) τ = some (-1, sI τ 35 (nI q0))) := by
  have hN := hx.2.1
  have ha := h.2.2.2.2.1
  unfold cQ_readNumber_b64 m_readsNumber_b93
  rw [h.2.2.1, h.2.2.2.1, isIn_M, Option.bind_some]
  by_cases e : a = q0
  · refine Or.inr ⟨?_, ?_⟩
    · rw [if_pos (by rw [e])]
    · rw [if_pos ((P_le (by omega) (by omega)).mpr (by omega))]
  · rw [if_neg (show ¬ nI a = nI q0 from P_ne (by omega) (by omega) e), if_neg (show ¬ nI a ≤ nI q0 from fun z => absurd ((P_le (by omega) (by omega)).mp z) (by omega))]
    by_cases e1 : lo ≤ v
    · by_cases e2 : v ≤ hi
      · refine Or.inl ⟨by omega, e1, e2, ?_, ?_⟩
        · rw [if_neg (fun z => absurd ((P_lt (by omega) (by omega)).mp z) (by omega)), if_pos ((P_le (by omega) (by omega)).mpr e2), P_in hk (by decide), if_pos rfl, P_ix (show k < 2 ^ 31 by omega)]
        · rw [decide_eq_true ((P_le (by omega) (by omega)).mpr e1), decide_eq_true ((P_le (by omega) (by omega)).mpr e2), if_pos (show (true && true) = true from rfl)]
      · refine Or.inr ⟨?_, ?_⟩
        · rw [if_neg (fun z => absurd ((P_lt (by omega) (by omega)).mp z) (by omega)), if_neg (fun z => e2 ((P_le (by omega) (by omega)).mp z))]
        · rw [decide_eq_false (fun z => e2 ((P_le (by omega) (by omega)).mp z)), Bool.and_false, if_neg (show ¬ false = true by decide)]
    · refine Or.inr ⟨?_, ?_⟩
      · rw [if_pos ((P_lt (by omega) (by omega)).mpr (by omega))]
      · rw [decide_eq_false (fun z => e1 ((P_le (by omega) (by omega)).mp z)), Bool.false_and, if_neg (show ¬ false = true by decide)]
/-- a number's outcome, from a given state on -/
def NumO (σ0 : CS) (τ0 : MS) (N q0 k lo hi : Nat) (σ : CS) (τ : MS) (c : Option (Bool × CS)) (m : Option (Int32 × MS)) : Prop :=
  (∃ v q σ' τ', lo ≤ v ∧ v ≤ hi ∧ q0 < q ∧ c = some (true, σ') ∧ m = some (nI v, τ') ∧ RB σ0 τ0 N q σ' τ' ∧ cA σ' 13 = upd (cA σ 13) k (nI v) ∧ (∀ i, 10 ≤ i → i ≤ 12 → sl σ' i = sl σ i) ∧ KR τ τ') ∨
  (∃ σ' τ', c = some (false, σ') ∧ m = some (-1, τ') ∧ cI σ' 9 1 = nI q0 ∧ mI τ' 35 = nI q0 ∧ FQ σ0 σ' ∧ FT τ0 τ' ∧ KR τ τ')
theorem NumO.mono {N q0 k lo hi : Nat} {σ σ1 : CS} {τ τ1 : MS} {c : Option (Bool × CS)} {m : Option (Int32 × MS)} (h : NumO σ0 τ0 N q0 k lo hi σ1 τ1 c m) (h1 : cA σ1 13 = cA σ 13) (h2 : ∀ i, 10 ≤ i → i ≤ 12 → sl σ1 i = sl σ i) (h3 : KR τ τ1) : NumO σ0 τ0 N q0 k lo hi σ τ c m := by
  rcases h with ⟨v, q, σ', τ', a1, a2, a3, a4, a5, a6, a7, a8, a9⟩ | ⟨σ', τ', a1, a2, a3, a4, a5, a6, a7⟩
  · exact Or.inl ⟨v, q, σ', τ', a1, a2, a3, a4, a5, a6, by rw [a7, h1], fun i q1 q2 => (a8 i q1 q2).trans (h2 i q1 q2), h3.tr a9⟩
  · exact Or.inr ⟨σ', τ', a1, a2, a3, a4, a5, a6, h3.tr a7⟩
theorem end_O (hx : TX j N σ0 τ0) {σ : CS} {τ : MS} {a q0 k v lo hi : Nat} (h : RB σ0 τ0 N a σ τ) (hq : q0 ≤ a) (hk : k < 3) (hv : v < 1000) (hlo : lo < 100) (hhi : hi < 100) : NumO σ0 τ0 N q0 k lo hi σ τ (cQ_readNumber_b64 j (nI k) (nI lo) (nI hi) (nI q0) (nI v) σ) (m_readsNumber_b93 (nI lo) (nI hi) (nI q0) (nI v) τ) := by
  rcases end_B hx h hq hk hv hlo hhi with ⟨b1, b2, b3, b4, b5⟩ | ⟨b1, b2⟩
  · refine Or.inl ⟨v, a, _, τ, b2, b3, b1, b4, b5, ⟨h.1.at qA_o (by omega) (by omega), h.2.1, h.2.2.1, h.2.2.2.1, h.2.2.2.2⟩, cA_s, fun i q1 q2 => qA_o i (by omega), KR.rf⟩
  · exact Or.inr ⟨_, _, b1, b2, cI_s, rfl, h.1.at tI_o (by omega) (by omega), h.2.1.p35 _, KR.rf.p _⟩
theorem digits_L (hx : TX j N σ0 τ0) {q0 k lo hi : Nat} (hk : k < 3) (hlo : lo < 100) (hhi : hi < 100) : ∀ (r a v fu : Nat) (σ : CS) (τ : MS), RB σ0 τ0 N a σ τ → q0 ≤ a → a + r = q0 + 2 → v * 10 ^ r < 100 → r < fu → NumO σ0 τ0 N q0 k lo hi σ τ (cQ_readNumber_l9 j fu (nI k) (nI lo) (nI hi) (nI q0) (nI v) σ) (m_readsNumber_l33 fu (nI lo) (nI hi) (nI q0) (nI v) τ)
  | r, a, v, 0, _, _, _, _, _, _, h3 => by omega
  | 0, a, v, fu + 1, σ, τ, h, hq, h2, hv, _ => by
    have hN := hx.2.1
    have ha := h.2.2.2.2.1
    have e2 : nI q0 + 2 = nI (q0 + 2) := nI_add q0 2
    rw [cQ_readNumber_l9, m_readsNumber_l33, e2, h.2.2.1, h.2.2.2.1, if_pos ((P_le (by omega) (by omega)).mpr (by omega)), if_pos ((P_le (by omega) (by omega)).mpr (by omega))]
    exact end_O hx h hq hk (by omega) hlo hhi
  | r + 1, a, v, fu + 1, σ, τ, h, hq, h2, hv, h3 => by
    have hN := hx.2.1
    have ha := h.2.2.2.2.1
    have e2 : nI q0 + 2 = nI (q0 + 2) := nI_add q0 2
    have nle : ¬ nI (q0 + 2) ≤ nI a := fun z => absurd ((P_le (by omega) (by omega)).mp z) (by omega)
    have hr : r = 0 ∨ r = 1 := by omega
    have hv' : v < 1000 := by
      rcases hr with rfl | rfl
      · simp only [Nat.zero_add, Nat.pow_one] at hv; omega
      · simp only [Nat.pow_succ, Nat.pow_zero] at hv; omega
    have hC : cQ_readNumber_l9 j (fu + 1) (nI k) (nI lo) (nI hi) (nI q0) (nI v) σ = if (a < N ∧ 48 ≤ tl j σ0 a ∧ tl j σ0 a ≤ 57) then ((cH_letter j (nI a) σ).bind fun a2 => cQ_readNumber_l9 j fu (nI k) (nI lo) (nI hi) (nI q0) (((nI v * 10) + a2.1) - 48) (tI a2.2 9 2 (cI a2.2 9 2 + 1))) else cQ_readNumber_b64 j (nI k) (nI lo) (nI hi) (nI q0) (nI v) σ := by
      rw [cQ_readNumber_l9, e2, h.2.2.1, if_neg nle, digit_C hx h.1 (by omega), Option.bind_some, h.2.2.1]
      by_cases e : a < N ∧ 48 ≤ tl j σ0 a ∧ tl j σ0 a ≤ 57
      · rw [decide_eq_true e, if_pos rfl, if_pos e]
      · rw [decide_eq_false e, if_neg (show ¬ false = true by decide), if_neg e]
    have hM : m_readsNumber_l33 (fu + 1) (nI lo) (nI hi) (nI q0) (nI v) τ = if (a < N ∧ 48 ≤ tl j σ0 a ∧ tl j σ0 a ≤ 57) then ((m_sign (nI a) τ).bind fun a3 => m_readsNumber_l33 fu (nI lo) (nI hi) (nI q0) (((10 * nI v) + a3.1) - 48) (sI a3.2 35 (mI a3.2 35 + 1))) else m_readsNumber_b93 (nI lo) (nI hi) (nI q0) (nI v) τ := by
      by_cases e : a < N
      · rw [m_readsNumber_l33, e2, h.2.2.2.1, if_neg nle, sign_T hx h.2.1 (by omega), Option.bind_some, isIn_M, Option.bind_some, h.2.2.2.1]
        rw [if_pos e]
        by_cases e1 : 48 ≤ tl j σ0 a
        · by_cases e3 : tl j σ0 a ≤ 57
          · rw [decide_eq_true e1, decide_eq_true e3, if_pos (show (true && true) = true from rfl), if_pos ⟨e, e1, e3⟩, sign_T hx h.2.1 (by omega), if_pos e]
          · rw [decide_eq_false e3, Bool.and_false, if_neg (show ¬ false = true by decide), if_neg (fun z => e3 z.2.2)]
        · rw [decide_eq_false e1, Bool.false_and, if_neg (show ¬ false = true by decide), if_neg (fun z => e1 z.2.1)]
      · have hs : m_sign (nI a) τ = some (-1, τ) := by rw [sign_T hx h.2.1 (by omega), if_neg e]
        rw [m_readsNumber_l33, e2, h.2.2.2.1, if_neg nle, hs, Option.bind_some]
        rw [show m_isIn ((-1 : Int32), τ).1 48 57 ((-1 : Int32), τ).2 = some (false, τ) from rfl, Option.bind_some, if_neg (show ¬ false = true by decide), if_neg (fun z => e z.1)]
    rw [hC, hM]
    by_cases e : a < N ∧ 48 ≤ tl j σ0 a ∧ tl j σ0 a ≤ 57
    · obtain ⟨d, hd, hd2⟩ := digit_v e.2.1 e.2.2
      have n1 : ((nI v * 10) + nI (48 + d)) - 48 = nI (10 * v + d) := by
        rw [show (10 : Int32) = nI 10 from rfl, pk_mul, nI_add, show (48 : Int32) = nI 48 from rfl, pk_sub (by omega), show v * 10 + (48 + d) - 48 = 10 * v + d by omega]
      have n2 : ((10 * nI v) + nI (48 + d)) - 48 = nI (10 * v + d) := by
        rw [show (10 : Int32) = nI 10 from rfl, pk_mul, nI_add, show (48 : Int32) = nI 48 from rfl, pk_sub (by omega), show 10 * v + (48 + d) - 48 = 10 * v + d by omega]
      have h' : RB σ0 τ0 N (a + 1) (tI σ 9 2 (nI (a + 1))) (sI τ 35 (nI (a + 1))) := ⟨h.1.at tI_o (by omega) (by omega), h.2.1.p35 _, cI_s, rfl, by omega, (cI_k (by decide)).trans h.2.2.2.2.2⟩
      have hw' : (10 * v + d) * 10 ^ r < 100 := by
        rcases hr with rfl | rfl
        · simp only [Nat.zero_add, Nat.pow_one, Nat.pow_zero, Nat.mul_one] at hv ⊢; omega
        · simp only [Nat.pow_succ, Nat.pow_zero] at hv ⊢; omega
      have kk := digits_L hx (q0 := q0) hk hlo hhi r (a + 1) (10 * v + d) fu _ _ h' (by omega) (by omega) hw' (by omega)
      rw [if_pos e, if_pos e, letter_T hx h.1 e.1, sign_T hx h.2.1 (by omega), if_pos e.1, Option.bind_some, Option.bind_some]
      rw [show (tl j σ0 a, σ).1 = nI (48 + d) from hd2, n1, n2, show cI (tl j σ0 a, σ).2 9 2 + 1 = nI (a + 1) from by rw [h.2.2.1, nI_1], show mI (tl j σ0 a, τ).2 35 + 1 = nI (a + 1) from by rw [h.2.2.2.1, nI_1]]
      exact kk.mono rfl (fun i q1 q2 => tI_o i (by omega)) (KR.rf.p _)
    · rw [if_neg e, if_neg e]
      exact end_O hx h hq hk hv' hlo hhi
/-- a blank, a number -/
theorem num_B (hx : TX j N σ0 τ0) {σ : CS} {τ : MS} {p k lo hi : Nat} (h : RB σ0 τ0 N p σ τ) (hk : k < 3) (hlo : lo < 100) (hhi : hi < 100) :
    (∃ σ', cQ_readSign j 32 σ = some (false, σ') ∧ m_readsNumber (nI lo) (nI hi) τ = some (-1, τ) ∧ cI σ' 9 1 = nI p ∧ mI τ 35 = nI p ∧ FQ σ0 σ') ∨
    (∃ σ1, cQ_readSign j 32 σ = some (true, σ1) ∧ cA σ1 13 = cA σ 13 ∧ (∀ i, 10 ≤ i → i ≤ 12 → sl σ1 i = sl σ i) ∧ NumO σ0 τ0 N (p + 1) k lo hi σ τ (cQ_readNumber j (nI k) (nI lo) (nI hi) σ1) (m_readsNumber (nI lo) (nI hi) τ)) := by
  have hN := hx.2.1
  have ha := h.2.2.2.2.1
  unfold cQ_readSign
  rw [h.2.2.1, stands_T hx h.1 (by omega), Option.bind_some]
  have hM : m_readsNumber (nI lo) (nI hi) τ = if (p < N ∧ tl j σ0 p = 32) then m_readsNumber_l33 4096 (nI lo) (nI hi) (nI (p + 1)) 0 (sI τ 35 (nI (p + 1))) else some (-1, τ) := by
    unfold m_readsNumber
    rw [h.2.2.2.1, sign_T hx h.2.1 (by omega), Option.bind_some]
    rw [show mI ((if p < N then tl j σ0 p else -1, τ) : Int32 × MS).2 35 + 1 = nI (p + 1) from by rw [h.2.2.2.1, nI_1]]
    by_cases e : p < N
    · rw [if_pos e]
      by_cases e1 : tl j σ0 p = 32
      · rw [if_pos e1, if_pos ⟨e, e1⟩]
      · rw [if_neg e1, if_neg (fun z => e1 z.2)]
    · rw [if_neg e, if_neg (show ¬ (-1 : Int32) = 32 by decide), if_neg (fun z => e z.1)]
  by_cases e : p < N ∧ tl j σ0 p = 32
  · refine Or.inr ⟨tI σ 9 2 (nI (p + 1)), ?_, rfl, fun i q1 q2 => tI_o i (by omega), ?_⟩
    · rw [decide_eq_true e, if_pos rfl, h.2.2.1, nI_1]
    · rw [hM, if_pos e]
      have h' : RB σ0 τ0 N (p + 1) (tI σ 9 2 (nI (p + 1))) (sI τ 35 (nI (p + 1))) := ⟨h.1.at tI_o (by omega) (by omega), h.2.1.p35 _, cI_s, rfl, by omega, (cI_k (by decide)).trans h.2.2.2.2.2⟩
      have k := digits_L hx (q0 := p + 1) hk hlo hhi 2 (p + 1) 0 4096 _ _ h' (Nat.le_refl _) (by omega) (by decide) (by omega)
      have z00 : nI 0 = 0 := rfl
      rw [z00] at k
      unfold cQ_readNumber
      rw [show cI (tI σ 9 2 (nI (p + 1))) 9 2 = nI (p + 1) from cI_s]
      exact k.mono rfl (fun i q1 q2 => tI_o i (by omega)) (KR.rf.p _)
  · refine Or.inl ⟨tI σ 9 1 (nI p), ?_, ?_, cI_s, h.2.2.2.1, h.1.at tI_o (by omega) (by omega)⟩
    · rw [decide_eq_false e, if_neg (show ¬ false = true by decide), h.2.2.1]
    · rw [hM, if_neg e]
end Nu
