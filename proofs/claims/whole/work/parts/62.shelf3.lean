/-! PURE: an element is set; a row is made -/
def lowV (t : Nat) (x : Int64) : Int64 := if t = 0 then Int32.toInt64 ((Int32.toInt8 (Int64.toInt32 x)).toInt32) else if t = 1 then Int32.toInt64 ((Int32.toInt16 (Int64.toInt32 x)).toInt32) else if t = 2 then Int32.toInt64 (Int64.toInt32 x) else x
theorem low_C {σ : CS} {i t : Nat} (ht : t ≤ 3) (e : cI σ (58 + i) 1 = nI t) (x : Int64) : cH_lowestBits i x σ = some (lowV t x, σ) := by
  unfold cH_lowestBits
  rw [e]
  rcases (show t = 0 ∨ t = 1 ∨ t = 2 ∨ t = 3 by omega) with rfl | rfl | rfl | rfl <;> rfl
theorem low_M {t : Nat} (ht : t ≤ 3) (x : Int64) (τ : MS) : m_lowest (nI (100 + t) - 100) x τ = some (lowV t x, τ) := by
  unfold m_lowest
  rcases (show t = 0 ∨ t = 1 ∨ t = 2 ∨ t = 3 by omega) with rfl | rfl | rfl | rfl <;> rfl
theorem set_S {σ : CS} {τ : MS} (h : SH σ τ) (r : RF σ τ) {j i t n : Nat} (hj : j < 8) (R : RowAt σ τ j t n) (hi : i < n) (v : Int64) : Sm σ τ (tB σ (66 + j) i v) (sE τ (160 * j + i) v) := by
  obtain ⟨ht, hn, e1, e2, e3, e4, e5, e6⟩ := R
  refine ⟨fun k hk => ?_, r, fun c h1 h2 => qB_o c (by omega), rfl, rfl, fun k _ _ _ => rfl⟩
  by_cases ek : k = j
  · subst ek
    refine Or.inr (Or.inl ⟨e1, t, n, ht, hn, e2, e3, e4, e5, fun a ha => ?_⟩)
    show vp_updL (mE τ) (160 * k + i) v (160 * k + a) = va_up σ.2.2.2.2 (66 + k) (vp_updL (cB σ (66 + k)) i v) (66 + k) a
    rw [va_up_s]
    by_cases ea : a = i
    · rw [ea, pk_uLs, pk_uLs]
    · rw [pk_uLn (by omega), pk_uLn ea]; exact e6 a ha
  · have hB : cB (tB σ (66 + j) i v) (66 + k) = cB σ (66 + k) := va_up_n _ _ (by omega)
    have hE : ∀ a, a < 160 → mE (sE τ (160 * j + i) v) (160 * k + a) = mE τ (160 * k + a) := fun a ha => pk_uLn (by omega)
    rcases h k hk with g | ⟨g1, t', n', g2, g3, g4, g5, g6, g7, g8⟩ | ⟨g1, k', f', t', d', g2, g3, g4, g5, g6, g7, g8, g9, g10, g11, g12, g13⟩
    · exact Or.inl g
    · exact Or.inr (Or.inl ⟨g1, t', n', g2, g3, g4, g5, g6, g7, fun a ha => by rw [hE a (by omega), hB]; exact g8 a ha⟩)
    · exact Or.inr (Or.inr ⟨g1, k', f', t', d', g2, g3, g4, g5, g6, g7, g8, g9, g10, g11, (hE 0 (by omega)).trans g12, (hE 1 (by omega)).trans g13⟩)
theorem set_b32_no {x1 x2 : Int32} {x3 : Int64} {x5 : Int32} {τ : MS} (h : ¬ x5 = 0) : m_set_b32 x1 x2 x3 x5 τ = (m_no x5 τ).bind fun a => some (a.1, a.2) := by unfold m_set_b32; rw [if_neg h]
theorem set_sim {σ : CS} {τ : MS} (h : SH σ τ) (r : RF σ τ) (p q : Int32) (x : Int64) : SmI σ τ (cP_set p q x σ) (m_set p q x τ) := by
  obtain ⟨v, h1, h2, h3⟩ := lack h p
  unfold cP_set m_set
  rw [h1, h2]
  simp only [Option.bind_some]
  rcases h3 with ⟨rfl, h4⟩ | ⟨j, hj, rfl, h4⟩
  · rw [if_neg (by decide), if_neg (by decide), set_b32_no (by decide)]; exact refuse_sim h r (-1) (by decide)
  · rcases h4 with ⟨rfl, -⟩ | ⟨rfl, -⟩ | ⟨rfl, t, n, R⟩
    · rw [if_neg (by decide), if_neg (by decide), set_b32_no (by decide)]; exact refuse_sim h r (-2) (by decide)
    · rw [if_neg (by decide), if_neg (by decide), set_b32_no (by decide)]; exact refuse_sim h r (-3) (by decide)
    · have R' := R
      obtain ⟨ht, hn, e1, e2, e3, e4, e5, e6⟩ := R
      rw [P_in hj (by decide), P_ix (show j < 2 ^ 31 by omega)]
      simp only [if_true, e5, has_C hn e4, has_M hn, Option.bind_some]
      rcases pk_ix q (n := n) (by omega) with g | g | ⟨i, hi, rfl⟩
      · rw [P_neg g]; exact refuse_sim h r (-5) (by decide)
      · rw [P_big (by omega) g]; exact refuse_sim h r (-5) (by decide)
      · rw [P_in hi (by omega)]
        unfold m_set_b32 cH_keepAt
        have e7 : (160 * nI j) + nI i = nI (160 * j + i) := by rw [show (160 : Int32) = nI 160 from rfl, pk_mul, nI_add]
        rw [has_C hn e4, P_in hi (by omega), e7, P_in (show i < 160 by omega) (by decide), P_in (show 160 * j + i < 1280 by omega) (by decide), P_ix (show i < 2 ^ 31 by omega), P_ix (show 160 * j + i < 2 ^ 31 by omega), P_in hj (by decide), P_ix (show j < 2 ^ 31 by omega)]
        simp only [if_true, Option.bind_some, e3, low_C ht e2, low_M ht]
        exact ⟨1, _, _, rfl, rfl, set_S h r hj R' hi _⟩
