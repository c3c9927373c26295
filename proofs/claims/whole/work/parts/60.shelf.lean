/-! PURE: numbers; what the shelves and the refusals of both sides have in common -/
theorem P_lt {a b : Nat} (ha : a < 2 ^ 31) (hb : b < 2 ^ 31) : nI a < nI b ↔ a < b := by
  rw [Int32.lt_iff_toInt_lt, nI_toInt ha, nI_toInt hb]; omega
theorem P_le {a b : Nat} (ha : a < 2 ^ 31) (hb : b < 2 ^ 31) : nI a ≤ nI b ↔ a ≤ b := by
  rw [Int32.le_iff_toInt_le, nI_toInt ha, nI_toInt hb]; omega
theorem P_eq {a b : Nat} (ha : a < 2 ^ 31) (hb : b < 2 ^ 31) : nI a = nI b ↔ a = b := by
  constructor
  · intro h
    have := congrArg Int32.toInt h
    rw [nI_toInt ha, nI_toInt hb] at this
    omega
  · intro h; rw [h]
theorem P_ix {a : Nat} (ha : a < 2 ^ 31) : ix (nI a) = a := pk_cl a
theorem P_in {a n : Nat} (h : a < n) (hn : n < 2 ^ 31) : inB (nI a) n = true := by
  have e : ix (nI a) = a := P_ix (by omega)
  simp only [inB, Bool.and_eq_true, decide_eq_true_eq]
  exact ⟨(P_le (a := 0) (by omega) (by omega)).mpr (Nat.zero_le a), by rw [show (nI a).toNatClampNeg = a from e]; exact h⟩
theorem P_neg {p : Int32} {n : Nat} (h : p < 0) : inB p n = false := by
  simp only [inB, Bool.and_eq_false_iff, decide_eq_false_iff_not]
  exact Or.inl (Int32.not_le.mpr h)
theorem P_big {p : Int32} {n : Nat} (hn : n < 2 ^ 31) (h : nI n ≤ p) : inB p n = false := by
  simp only [inB, Bool.and_eq_false_iff, decide_eq_false_iff_not]
  right
  rw [Int32.le_iff_toInt_le, nI_toInt hn] at h
  show ¬ p.toInt.toNat < n
  omega
theorem qA_o {σ : CS} {c k : Nat} {v : Int32} : ∀ c', c' ≠ c → sl (tA σ c k v) c' = sl σ c' := fun c' h => by simp [sl, tA, va_up_n _ _ h]
theorem qB_o {σ : CS} {c k : Nat} {v : Int64} : ∀ c', c' ≠ c → sl (tB σ c k v) c' = sl σ c' := fun c' h => by simp [sl, tB, va_up_n _ _ h]
/-- what a call on the shelves leaves alone -/
def AgC (σ σ' : CS) : Prop := ∀ c, c < 58 → c ≠ 2 → sl σ' c = sl σ c
def AgM (τ τ' : MS) : Prop := τ'.1 = τ.1 ∧ τ'.2.1 = τ.2.1 ∧ ∀ k, k ≠ 0 → k ≠ 28 → k ≠ 29 → τ'.2.2.1 k = τ.2.2.1 k
theorem AgC.rf {σ : CS} : AgC σ σ := fun _ _ _ => rfl
theorem AgM.rf {τ : MS} : AgM τ τ := ⟨rfl, rfl, fun _ _ _ _ => rfl⟩
theorem AgC.tr {σ1 σ2 σ3 : CS} (h : AgC σ1 σ2) (k : AgC σ2 σ3) : AgC σ1 σ3 := fun c h1 h2 => (k c h1 h2).trans (h c h1 h2)
theorem AgM.tr {τ1 τ2 τ3 : MS} (h : AgM τ1 τ2) (k : AgM τ2 τ3) : AgM τ1 τ3 := ⟨k.1.trans h.1, k.2.1.trans h.2.1, fun c h1 h2 h3 => (k.2.2 c h1 h2 h3).trans (h.2.2 c h1 h2 h3)⟩
def RF (σ : CS) (τ : MS) : Prop := ∀ i, i < 8 → mA τ 0 i = cA σ 2 i
def SHi (σ : CS) (τ : MS) (i : Nat) : Prop :=
  (cI σ (58 + i) 0 = 0 ∧ mA τ 28 i = 0) ∨
  (cI σ (58 + i) 0 = 1 ∧ ∃ t n : Nat, t ≤ 3 ∧ n ≤ 160 ∧ cI σ (58 + i) 1 = nI t ∧ mA τ 28 i = nI (100 + t) ∧ cI σ (58 + i) 2 = nI n ∧ mA τ 29 i = nI n ∧ ∀ j, j < n → mE τ (160 * i + j) = cB σ (66 + i) j) ∨
  (cI σ (58 + i) 0 = 2 ∧ ∃ k f t d : Nat, 1 ≤ k ∧ k ≤ 9 ∧ f ≤ 5 ∧ t ≤ 5 ∧ d ≤ 60 ∧ cI σ (58 + i) 4 = nI k ∧ cI σ (58 + i) 5 = nI f ∧ cI σ (58 + i) 6 = nI t ∧ cI σ (58 + i) 7 = nI d ∧ mA τ 28 i = nI (200 + k) ∧ mE τ (160 * i) = (nI (10 * f + t)).toInt64 ∧ mE τ (160 * i + 1) = (nI d).toInt64)
def SH (σ : CS) (τ : MS) : Prop := ∀ i, i < 8 → SHi σ τ i
/-- a step of both sides that touches shelves and refusals alone -/
def Sm (σ : CS) (τ : MS) (σ' : CS) (τ' : MS) : Prop := SH σ' τ' ∧ RF σ' τ' ∧ AgC σ σ' ∧ AgM τ τ'
theorem Sm.rf {σ : CS} {τ : MS} (h : SH σ τ) (r : RF σ τ) : Sm σ τ σ τ := ⟨h, r, AgC.rf, AgM.rf⟩
theorem isShelf_C (p : Int32) (σ : CS) : cP_isShelf p σ = some (inB p 8, σ) := by
  unfold cP_isShelf
  rcases pk_ix p (n := 8) (by decide) with h | h | ⟨j, hj, rfl⟩
  · rw [P_neg h, if_pos h]
  · rw [P_big (by decide) h, if_neg (Int32.not_lt.mpr (Int32.le_trans (by decide) h)), if_pos (show (8 : Int32) ≤ p from h)]
  · rw [P_in hj (by decide), if_neg (show ¬ nI j < 0 from fun q => Nat.not_lt_zero j ((P_lt (b := 0) (by omega) (by omega)).mp q)), if_neg (show ¬ 8 ≤ nI j from fun q => Nat.not_le.mpr hj ((P_le (a := 8) (by omega) (by omega)).mp q))]
theorem isIn_M (p lo hi : Int32) (τ : MS) : m_isIn p lo hi τ = some (decide (lo ≤ p) && decide (p ≤ hi), τ) := by
  unfold m_isIn
  by_cases h1 : p < lo
  · rw [if_pos h1, decide_eq_false (Int32.not_le.mpr h1)]; rfl
  · rw [if_neg h1, decide_eq_true (Int32.not_lt.mp h1)]
    by_cases h2 : hi < p
    · rw [if_pos h2, decide_eq_false (Int32.not_le.mpr h2)]; rfl
    · rw [if_neg h2, decide_eq_true (Int32.not_lt.mp h2)]; rfl
theorem isShelf_M (p : Int32) (τ : MS) : m_isShelf p τ = some (inB p 8, τ) := by
  unfold m_isShelf
  rw [isIn_M]
  show some (decide (0 ≤ p) && decide (p ≤ 7), τ) = _
  rcases pk_ix p (n := 8) (by decide) with h | h | ⟨j, hj, rfl⟩
  · rw [P_neg h, decide_eq_false (Int32.not_le.mpr h)]; rfl
  · rw [P_big (by decide) h, decide_eq_false (show ¬ p ≤ 7 from fun q => absurd (Int32.le_trans h q) (by decide)), Bool.and_false]
  · rw [P_in hj (by decide), decide_eq_true (show 0 ≤ nI j from (P_le (a := 0) (by omega) (by omega)).mpr (Nat.zero_le j)), decide_eq_true (show nI j ≤ 7 from (P_le (b := 7) (by omega) (by omega)).mpr (by omega))]; rfl
theorem refuse_C (p : Int32) (σ : CS) (hp : inB (-p) 8 = true) : cP_refuse p σ = some (p, tA σ 2 (ix (-p)) (cA σ 2 (ix (-p)) + 1)) := by
  unfold cP_refuse; rw [if_pos hp, if_pos hp]
theorem no_M (p : Int32) (τ : MS) (hp : inB (-p) 8 = true) : m_no p τ = some (p, sA τ 0 (ix (-p)) (mA τ 0 (ix (-p)) + 1)) := by
  unfold m_no; rw [if_pos hp, if_pos hp]
theorem refuse_S {σ : CS} {τ : MS} (h : SH σ τ) (r : RF σ τ) {i : Nat} (hi : i < 8) : Sm σ τ (tA σ 2 i (cA σ 2 i + 1)) (sA τ 0 i (mA τ 0 i + 1)) := by
  refine ⟨fun j hj => h j hj, fun j hj => ?_, fun c h1 h2 => qA_o c h2, rfl, rfl, fun k h1 h2 h3 => va_up_n _ _ h1⟩
  show upd (mA τ 0) i (mA τ 0 i + 1) j = upd (cA σ 2) i (cA σ 2 i + 1) j
  by_cases e : j = i
  · rw [e, pk_us, pk_us, r i hi]
  · rw [pk_un e, pk_un e, r j hj]
/-- both sides say the same and stay alike on the shelves -/
def SmI (σ : CS) (τ : MS) (f : Option (Int32 × CS)) (g : Option (Int32 × MS)) : Prop := ∃ r σ' τ', f = some (r, σ') ∧ g = some (r, τ') ∧ Sm σ τ σ' τ'
def SmL (σ : CS) (τ : MS) (f : Option (Int64 × CS)) (g : Option (Int64 × MS)) : Prop := ∃ r σ' τ', f = some (r, σ') ∧ g = some (r, τ') ∧ Sm σ τ σ' τ'
theorem refuse_sim {σ : CS} {τ : MS} (h : SH σ τ) (r : RF σ τ) (p : Int32) (hp : inB (-p) 8 = true) : SmI σ τ ((cP_refuse p σ).bind fun a => some (a.1, a.2)) ((m_no p τ).bind fun a => some (a.1, a.2)) := by
  rw [refuse_C p σ hp, no_M p τ hp]
  refine ⟨p, _, _, rfl, rfl, refuse_S h r ?_⟩
  simp only [inB, Bool.and_eq_true, decide_eq_true_eq] at hp
  exact hp.2
theorem isEmpty_C (i : Nat) (σ : CS) : cH_isEmpty i σ = some (decide (cI σ (58 + i) 0 = 0), σ) := by
  unfold cH_isEmpty; by_cases h : cI σ (58 + i) 0 = 0
  · rw [if_pos h, decide_eq_true h]
  · rw [if_neg h, decide_eq_false h]
theorem isMessage_C (i : Nat) (σ : CS) : cH_isMessage i σ = some (decide (cI σ (58 + i) 0 = 2), σ) := by
  unfold cH_isMessage; by_cases h : cI σ (58 + i) 0 = 2
  · rw [if_pos h, decide_eq_true h]
  · rw [if_neg h, decide_eq_false h]
