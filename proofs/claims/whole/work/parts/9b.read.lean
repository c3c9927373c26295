/-! STEPS: a text is read: letters, words, numbers -/
/-- the text, in both -/
def TX (j N : Nat) (σ0 : CS) (τ0 : MS) : Prop := j < 8 ∧ N ≤ 160 ∧ cI σ0 (58 + j) 2 = nI N ∧ mI τ0 38 = nI j ∧ mA τ0 29 j = nI N ∧ ∀ i, i < N → mE τ0 (160 * j + i) = cB σ0 (66 + j) i
abbrev tl (j : Nat) (σ0 : CS) (i : Nat) : Int32 := Int64.toInt32 (cB σ0 (66 + j) i)
def FT (τ0 τ : MS) : Prop := τ.2.1 = τ0.2.1 ∧ τ.2.2.2 = τ0.2.2.2 ∧ (∀ k, k ≠ 35 → k ≠ 37 → mI τ k = mI τ0 k) ∧ ∀ k, k < 31 ∨ 34 < k → mA τ k = mA τ0 k
def FQ (σ0 σ : CS) : Prop := ∀ c, c < 9 ∨ 13 < c → sl σ c = sl σ0 c
theorem FT.rf {τ : MS} : FT τ τ := ⟨rfl, rfl, fun _ _ _ => rfl, fun _ _ => rfl⟩
theorem FT.p35 {τ0 τ : MS} (h : FT τ0 τ) (v : Int32) : FT τ0 (sI τ 35 v) := ⟨h.1, h.2.1, fun k h1 h2 => (va_up_n _ _ h1).trans (h.2.2.1 k h1 h2), h.2.2.2⟩
theorem FT.p37 {τ0 τ : MS} (h : FT τ0 τ) (v : Int32) : FT τ0 (sI τ 37 v) := ⟨h.1, h.2.1, fun k h1 h2 => (va_up_n _ _ h2).trans (h.2.2.1 k h1 h2), h.2.2.2⟩
theorem FT.row {τ0 τ : MS} (h : FT τ0 τ) {k : Nat} (i : Nat) (v : Int32) (h1 : 31 ≤ k) (h2 : k ≤ 34) : FT τ0 (sA τ k i v) := ⟨h.1, h.2.1, h.2.2.1, fun q hq => (va_up_n _ _ (by omega)).trans (h.2.2.2 q hq)⟩
theorem FQ.at {σ0 σ σ' : CS} (h : FQ σ0 σ) {c : Nat} (hs : ∀ c', c' ≠ c → sl σ' c' = sl σ c') (h1 : 9 ≤ c) (h2 : c ≤ 13) : FQ σ0 σ' := fun q hq => (hs q (by omega)).trans (h q hq)
/-- at a place of the text, in both -/
def RB (σ0 : CS) (τ0 : MS) (N p : Nat) (σ : CS) (τ : MS) : Prop := FQ σ0 σ ∧ FT τ0 τ ∧ cI σ 9 2 = nI p ∧ mI τ 35 = nI p ∧ p ≤ N ∧ cI σ 9 1 = -1
section Rd
variable {j N : Nat} {σ0 σ : CS} {τ0 τ : MS} {p : Nat}
theorem has_T (hx : TX j N σ0 τ0) (h : FQ σ0 σ) {q : Nat} (hq : q < 2 ^ 30) : cH_has j (nI q) σ = some (decide (q < N), σ) := by
  have e : cI σ (58 + j) 2 = nI N := (sl_I (h (58 + j) (by omega)) 2).trans hx.2.2.1
  have hN := hx.2.1
  rw [has_C hN e]
  by_cases c : q < N
  · rw [P_in c (by omega), decide_eq_true c]
  · rw [P_big (by omega) ((P_le (by omega) (by omega)).mpr (by omega)), decide_eq_false c]
theorem letter_T (hx : TX j N σ0 τ0) (h : FQ σ0 σ) {q : Nat} (hq : q < N) : cH_letter j (nI q) σ = some (tl j σ0 q, σ) := by
  have e : cI σ (58 + j) 2 = nI N := (sl_I (h (58 + j) (by omega)) 2).trans hx.2.2.1
  have hN := hx.2.1
  unfold cH_letter
  rw [if_neg (Int32.not_lt.mpr (nI_pos' (by omega))), e, if_neg (fun z => absurd ((P_le (by omega) (by omega)).mp z) (by omega)), P_in (show q < 160 by omega) (by decide), if_pos rfl, P_ix (show q < 2 ^ 31 by omega), sl_B (h (66 + j) (by omega))]
theorem stands_T (hx : TX j N σ0 τ0) (h : FQ σ0 σ) {q : Nat} (hq : q < 2 ^ 30) (c : Int32) : cQ_stands j (nI q) c σ = some (decide (q < N ∧ tl j σ0 q = c), σ) := by
  unfold cQ_stands
  rw [has_T hx h hq, Option.bind_some]
  by_cases e : q < N
  · rw [decide_eq_true e, if_pos rfl, letter_T hx h e, Option.bind_some]
    by_cases e2 : tl j σ0 q = c
    · rw [if_pos e2, decide_eq_true ⟨e, e2⟩]
    · rw [if_neg e2, decide_eq_false (fun z => e2 z.2)]
  · rw [decide_eq_false e, if_neg (show ¬ false = true by decide), decide_eq_false (fun z => e z.1)]
theorem sign_T (hx : TX j N σ0 τ0) (h : FT τ0 τ) {q : Nat} (hq : q < 2 ^ 20) : m_sign (nI q) τ = some (if q < N then tl j σ0 q else -1, τ) := by
  obtain ⟨hj, hN, -, a4, a5, a6⟩ := hx
  unfold m_sign
  rw [h.2.2.1 38 (by decide) (by decide), a4, P_in hj (by decide), if_pos rfl, P_ix (show j < 2 ^ 31 by omega), h.2.2.2 29 (by omega), a5]
  by_cases e : q < N
  · have e7 : (160 * nI j) + nI q = nI (160 * j + q) := by rw [show (160 : Int32) = nI 160 from rfl, pk_mul, nI_add]
    rw [if_neg (fun z => absurd ((P_le (by omega) (by omega)).mp z) (by omega)), e7, P_in (show 160 * j + q < 1280 by omega) (by decide), if_pos rfl, P_ix (show 160 * j + q < 2 ^ 31 by omega), if_pos e, show mE τ = mE τ0 from h.2.1, a6 q e]
  · rw [if_pos ((P_le (by omega) (by omega)).mpr (by omega)), if_neg e]
abbrev wl (w : Nat) : Nat := itemLens.getD w 0
abbrev wc (w k : Nat) : Int32 := wordsL.getD (8 * w + k) 0
theorem wl_le : ∀ w, w < 11 → 2 ≤ wl w ∧ wl w ≤ 7 := by decide
theorem len_T : ∀ w, w < 11 → (Int32.ofNat (itemLens.getD w 0) >>> ((0 : Int32) &&& 31)) = nI (wl w) := by decide +kernel
theorem length_T {w : Nat} (hw : w < 11) (σ : CS) : cJ_length w σ = some (nI (wl w), σ) := by
  unfold cJ_length cJ_coder
  rw [if_neg (by decide), Option.bind_some]
  exact congrArg (fun z => some (z, σ)) (len_T w hw)
theorem chr_T : ∀ w, w < 11 → ∀ k, k < 7 → k < wl w → (Int32.toUInt32 ((itemBytes.getD w []).getD k 0 &&& 255) % 65536).toInt32 = wc w k ∧ chOk (wc w k) = true ∧ ¬ wc w k = -1 := by decide +kernel
theorem charAt_T {w k : Nat} (hw : w < 11) (hk : k < wl w) (σ : CS) : cJ_charAt w (nI k) σ = some (wc w k, σ) := by
  have h7 := (wl_le w hw).2
  obtain ⟨e1, e2, -⟩ := chr_T w hw k (by omega) hk
  unfold cJ_charAt cJ_isLatin1 cJ_charAtL cJ_checkS cJ_checkP
  rw [if_neg (by decide), if_pos rfl, Option.bind_some, if_pos rfl, if_neg (Int32.not_lt.mpr (nI_pos' (by omega))), if_pos (show nI k < Int32.ofNat (itemLens.getD w 0) from (P_lt (b := wl w) (by omega) (by omega)).mpr hk), Option.bind_some, Option.bind_some, P_in hk (by omega), if_pos rfl, P_ix (show k < 2 ^ 31 by omega), Option.bind_some, e1, if_pos e2]
theorem letters_T {w : Nat} (hw : w < 11) (τ : MS) : m_lettersOf (nI w) τ = some (nI (wl w), τ) := by
  have : w = 0 ∨ w = 1 ∨ w = 2 ∨ w = 3 ∨ w = 4 ∨ w = 5 ∨ w = 6 ∨ w = 7 ∨ w = 8 ∨ w = 9 ∨ w = 10 := by omega
  rcases this with rfl | rfl | rfl | rfl | rfl | rfl | rfl | rfl | rfl | rfl | rfl <;> rfl
theorem letterOf_T {w k : Nat} (hw : w < 11) (hk : k < 8) (τ : MS) : m_letterOf (nI w) (nI k) τ = some (wc w k, τ) := by
  have e7 : (8 * nI w) + nI k = nI (8 * w + k) := by rw [show (8 : Int32) = nI 8 from rfl, pk_mul, nI_add]
  unfold m_letterOf
  rw [e7, P_in (show 8 * w + k < 88 by omega) (by decide), if_pos rfl, P_ix (show 8 * w + k < 2 ^ 31 by omega)]
theorem match_L (hx : TX j N σ0 τ0) (h : RB σ0 τ0 N p σ τ) {w : Nat} (hw : w < 11) : ∀ (r k fu : Nat), k + r = wl w → r < fu → p + k ≤ N → ∃ m, k ≤ m ∧ m ≤ wl w ∧ p + m ≤ N ∧ cQ_sameLetters_l2 j w fu (nI k) σ = some (nI m, σ) ∧ m_matches_l2 fu (nI w) (nI k) τ = some (nI m, τ)
  | r, k, 0, _, h3, _ => by omega
  | 0, k, fu + 1, h2, _, h4 => by
    have h7 := (wl_le w hw).2
    refine ⟨k, Nat.le_refl k, by omega, h4, ?_, ?_⟩
    · rw [cQ_sameLetters_l2, length_T hw, Option.bind_some, if_pos ((P_le (by omega) (by omega)).mpr (by omega))]
    · rw [m_matches_l2, letters_T hw, Option.bind_some, if_pos ((P_le (by omega) (by omega)).mpr (by omega))]
  | r + 1, k, fu + 1, h2, h3, h4 => by
    have h7 := (wl_le w hw).2
    have hN := hx.2.1
    obtain ⟨hq, ht, c2, m35, hp, hf⟩ := h
    obtain ⟨-, -, e3⟩ := chr_T w hw k (by omega) (by omega)
    have hC : cQ_sameLetters_l2 j w (fu + 1) (nI k) σ = if (p + k < N ∧ tl j σ0 (p + k) = wc w k) then cQ_sameLetters_l2 j w fu (nI (k + 1)) σ else some (nI k, σ) := by
      rw [cQ_sameLetters_l2, length_T hw, Option.bind_some, if_neg (fun z => absurd ((P_le (by omega) (by omega)).mp z) (by omega)), charAt_T hw (by omega), Option.bind_some, c2, nI_add, stands_T hx hq (by omega), Option.bind_some, nI_1]
      simp only [decide_eq_true_eq]
    have hM : m_matches_l2 (fu + 1) (nI w) (nI k) τ = if (p + k < N ∧ tl j σ0 (p + k) = wc w k) then m_matches_l2 fu (nI w) (nI (k + 1)) τ else some (nI k, τ) := by
      rw [m_matches_l2, letters_T hw, Option.bind_some, if_neg (fun z => absurd ((P_le (by omega) (by omega)).mp z) (by omega)), m35, nI_add, sign_T hx ht (by omega), Option.bind_some, letterOf_T hw (by omega), Option.bind_some, nI_1]
      by_cases e : p + k < N
      · rw [if_pos e]
        by_cases e2 : tl j σ0 (p + k) = wc w k
        · rw [if_pos e2, if_pos ⟨e, e2⟩]
        · rw [if_neg e2, if_neg (fun z => e2 z.2)]
      · rw [if_neg e, if_neg (show ¬ (-1 : Int32) = wc w k from fun z => e3 z.symm), if_neg (fun z => e z.1)]
    rw [hC, hM]
    by_cases e : p + k < N ∧ tl j σ0 (p + k) = wc w k
    · rw [if_pos e, if_pos e]
      obtain ⟨m, a1, a2, a3, a4, a5⟩ := match_L hx ⟨hq, ht, c2, m35, hp, hf⟩ hw r (k + 1) fu (by omega) (by omega) (by omega)
      exact ⟨m, by omega, a2, a3, a4, a5⟩
    · rw [if_neg e, if_neg e]
      exact ⟨k, Nat.le_refl k, by omega, h4, rfl, rfl⟩
theorem word_L (hx : TX j N σ0 τ0) (h : RB σ0 τ0 N p σ τ) : ∀ (r w fu most : Nat), w + r = 11 → r < fu → most ≤ 7 → p + most ≤ N →
    (∃ w', w' < 11 ∧ p + wl w' ≤ N ∧ cQ_readWord_l13 j fu (nI most) 11 (nI w) σ = some (some w', tI σ 9 2 (nI (p + wl w'))) ∧ m_readsWord_l4 fu (nI most) (nI w) τ = some (nI w', sI τ 35 (nI (p + wl w')))) ∨
    (∃ m, p + m ≤ N ∧ cQ_readWord_l13 j fu (nI most) 11 (nI w) σ = some (none, tI σ 9 1 (nI (p + m))) ∧ m_readsWord_l4 fu (nI most) (nI w) τ = some (-1, sI τ 35 (nI (p + m))))
  | r, w, 0, _, _, h3, _, _ => by omega
  | 0, w, fu + 1, most, h2, _, h4, h5 => by
    refine Or.inr ⟨most, h5, ?_, ?_⟩
    · rw [cQ_readWord_l13, if_pos (show (11 : Int32) ≤ nI w from (P_le (a := 11) (by omega) (by omega)).mpr (by omega)), h.2.2.1, nI_add]
    · rw [m_readsWord_l4, if_pos (show (11 : Int32) ≤ nI w from (P_le (a := 11) (by omega) (by omega)).mpr (by omega)), h.2.2.2.1, nI_add]
  | r + 1, w, fu + 1, most, h2, h3, h4, h5 => by
    have hw : w < 11 := by omega
    have h7 := (wl_le w hw).2
    have n11 : ¬ (11 : Int32) ≤ nI w := fun z => absurd ((P_le (a := 11) (by omega) (by omega)).mp z) (by omega)
    obtain ⟨m, a1, a2, a3, a4, a5⟩ := match_L hx h hw (wl w) 0 4096 (by omega) (by omega) (by have := h.2.2.2.2.1; omega)
    have z00 : nI 0 = 0 := rfl
    rw [z00] at a4 a5
    have hC : cQ_readWord_l13 j (fu + 1) (nI most) 11 (nI w) σ = if nI m = nI (wl w) then some (some w, tI σ 9 2 (nI (p + m))) else cQ_readWord_l13 j fu (if nI most < nI m then nI m else nI most) 11 (nI (w + 1)) σ := by
      rw [cQ_readWord_l13, if_neg n11, P_in hw (by decide), if_pos rfl, P_ix (show w < 2 ^ 31 by omega)]
      rw [show cQ_sameLetters j w σ = some (nI m, σ) from a4, Option.bind_some, length_T hw, Option.bind_some, h.2.2.1, nI_add, nI_1]
    have hM : m_readsWord_l4 (fu + 1) (nI most) (nI w) τ = if nI m = nI (wl w) then some (nI w, sI τ 35 (nI (p + m))) else (if nI m ≤ nI most then m_readsWord_l4 fu (nI most) (nI (w + 1)) τ else m_readsWord_l4 fu (nI m) (nI (w + 1)) τ) := by
      rw [m_readsWord_l4, if_neg n11]
      rw [show m_matches (nI w) τ = some (nI m, τ) from a5, Option.bind_some, letters_T hw, Option.bind_some, h.2.2.2.1, nI_add, nI_1]
    rw [hC, hM]
    by_cases e : m = wl w
    · rw [if_pos (by rw [e]), if_pos (by rw [e]), e]
      exact Or.inl ⟨w, hw, by omega, rfl, rfl⟩
    · have en : ¬ nI m = nI (wl w) := P_ne (by omega) (by omega) e
      rw [if_neg en, if_neg en]
      by_cases g : m ≤ most
      · rw [if_neg (fun z => absurd ((P_lt (by omega) (by omega)).mp z) (by omega)), if_pos ((P_le (by omega) (by omega)).mpr g)]
        exact word_L hx h r (w + 1) fu most (by omega) (by omega) h4 h5
      · rw [if_pos ((P_lt (by omega) (by omega)).mpr (by omega)), if_neg (fun z => g ((P_le (by omega) (by omega)).mp z))]
        exact word_L hx h r (w + 1) fu m (by omega) (by omega) (by omega) a3
end Rd
