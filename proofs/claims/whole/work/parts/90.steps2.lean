/-! STEPS: quiet, recovery, shown messages, told rows, status, seed -/
def SmP (P : ZP) (t t' : Nat) : Prop := ∀ s, s ≤ pn P → xSee (xRun P t).1 s = xSee (xRun P t').1 s ∧ (zg (xRun P t).1 s).length = (zg (xRun P t').1 s).length
section Quiet
variable {b : Nat} {P : ZP} {σ : CS} {τ : MS}
theorem same_C (hw : PW P) (h : QC b P σ) {t : Nat} (ht : t + 1 ≤ 60) : ∀ (r a fu : Nat), a + r = pn P + 1 → r < fu → ∃ v, cR_isSameAsBefore_l2 b fu (nI (t + 1)) (nI a) σ = some (v, σ) ∧ (v = true ↔ ∀ s, a ≤ s → s ≤ pn P → xSee (xRun P (t + 1)).1 s = xSee (xRun P t).1 s ∧ (zg (xRun P (t + 1)).1 s).length = (zg (xRun P t).1 s).length)
  | r, a, 0, _, h3 => by omega
  | 0, a, fu + 1, h2, _ => by
    have hn := hw.2.1
    refine ⟨true, ?_, fun _ s h1 h2 => by omega, fun _ => rfl⟩
    rw [cR_isSameAsBefore_l2, h.2, if_pos ((P_lt (by omega) (by omega)).mpr (by omega))]
  | r + 1, a, fu + 1, h2, h3 => by
    have hn := hw.2.1
    have l1 := run_len hw (t := t + 1) (by omega) (show a ≤ pn P by omega)
    have l2 := run_len hw (t := t) (by omega) (show a ≤ pn P by omega)
    have e1 : nI (t + 1) - 1 = nI t := by rw [show (1 : Int32) = nI 1 from rfl, pk_sub (by omega), Nat.add_sub_cancel]
    have hv : cR_isSameAsBefore_l2 b (fu + 1) (nI (t + 1)) (nI a) σ = if xSee (xRun P (t + 1)).1 a = xSee (xRun P t).1 a then (if nI (zg (xRun P (t + 1)).1 a).length = nI (zg (xRun P t).1 a).length then cR_isSameAsBefore_l2 b fu (nI (t + 1)) (nI (a + 1)) σ else some (false, σ)) else some (false, σ) := by
      rw [cR_isSameAsBefore_l2, h.2, if_neg (fun q => absurd ((P_lt (by omega) (by omega)).mp q) (by omega)), e1, stateAt_C hw h.1 (by omega) (by omega), nI_1]
      simp only [Option.bind_some]
      rw [stateAt_C hw h.1 (by omega) (by omega)]
      simp only [Option.bind_some]
      rw [lengthAt_C hw h.1 (by omega) (by omega)]
      simp only [Option.bind_some]
      rw [lengthAt_C hw h.1 (by omega) (by omega)]
      simp only [Option.bind_some]
    rw [hv]
    by_cases c1 : xSee (xRun P (t + 1)).1 a = xSee (xRun P t).1 a
    · rw [if_pos c1]
      by_cases c2 : (zg (xRun P (t + 1)).1 a).length = (zg (xRun P t).1 a).length
      · rw [if_pos (by rw [c2])]
        obtain ⟨v, g1, g2⟩ := same_C hw h ht r (a + 1) fu (by omega) (by omega)
        refine ⟨v, g1, fun hv s h1 h2 => ?_, fun q => g2.mpr (fun s h1 h2 => q s (by omega) h2)⟩
        by_cases e : s = a
        · subst e; exact ⟨c1, c2⟩
        · exact g2.mp hv s (by omega) h2
      · rw [if_neg (P_ne (by omega) (by omega) c2)]
        exact ⟨false, rfl, fun q => (by cases q), fun q => absurd (q a (Nat.le_refl a) (by omega)).2 c2⟩
    · rw [if_neg c1]
      exact ⟨false, rfl, fun q => (by cases q), fun q => absurd (q a (Nat.le_refl a) (by omega)).1 c1⟩
theorem last_M (hw : PW P) (h : QM P τ) {t : Nat} (ht : t ≤ 60) : ∀ (r a fu : Nat), a + r = pn P + 1 → r < fu → ∃ v, m_isAsLast_l2 fu (nI t) (nI a) τ = some (v, τ) ∧ (v = true ↔ ∀ s, a ≤ s → s ≤ pn P → xSee (xRun P t).1 s = xSee (xRun P 60).1 s ∧ (zg (xRun P t).1 s).length = (zg (xRun P 60).1 s).length)
  | r, a, 0, _, h3 => by omega
  | 0, a, fu + 1, h2, _ => by
    have hn := hw.2.1
    refine ⟨true, ?_, fun _ s h1 h2 => by omega, fun _ => rfl⟩
    rw [m_isAsLast_l2, h.1, if_pos ((P_lt (by omega) (by omega)).mpr (by omega))]
  | r + 1, a, fu + 1, h2, h3 => by
    have hn := hw.2.1
    have l1 := run_len hw (t := t) (by omega) (show a ≤ pn P by omega)
    have l2 := run_len hw (t := 60) (by omega) (show a ≤ pn P by omega)
    have e7 : 360 + nI a = nI (6 * 60 + a) := nI_add 360 a
    have hv : m_isAsLast_l2 (fu + 1) (nI t) (nI a) τ = if xSee (xRun P t).1 a = xSee (xRun P 60).1 a then (if nI (zg (xRun P t).1 a).length = nI (zg (xRun P 60).1 a).length then m_isAsLast_l2 fu (nI t) (nI (a + 1)) τ else some (false, τ)) else some (false, τ) := by
      rw [m_isAsLast_l2, h.1, if_neg (fun q => absurd ((P_lt (by omega) (by omega)).mp q) (by omega)), i6, e7, P_in (show 6 * t + a < 366 by omega) (by decide), P_in (show 6 * 60 + a < 366 by omega) (by decide), P_in (show a < 6 by omega) (by decide), P_ix (show 6 * t + a < 2 ^ 31 by omega), P_ix (show 6 * 60 + a < 2 ^ 31 by omega), P_ix (show a < 2 ^ 31 by omega), nI_1, ((h.2.2.1 t (by omega)).1 a (by omega)).1, ((h.2.2.1 60 (by omega)).1 a (by omega)).1, ((h.2.2.1 t (by omega)).1 a (by omega)).2, (h.2.2.2 a (by omega)).1]
      simp only [if_true]
    rw [hv]
    by_cases c1 : xSee (xRun P t).1 a = xSee (xRun P 60).1 a
    · rw [if_pos c1]
      by_cases c2 : (zg (xRun P t).1 a).length = (zg (xRun P 60).1 a).length
      · rw [if_pos (by rw [c2])]
        obtain ⟨v, g1, g2⟩ := last_M hw h ht r (a + 1) fu (by omega) (by omega)
        refine ⟨v, g1, fun hv s h1 h2 => ?_, fun q => g2.mpr (fun s h1 h2 => q s (by omega) h2)⟩
        by_cases e : s = a
        · subst e; exact ⟨c1, c2⟩
        · exact g2.mp hv s (by omega) h2
      · rw [if_neg (P_ne (by omega) (by omega) c2)]
        exact ⟨false, rfl, fun q => (by cases q), fun q => absurd (q a (Nat.le_refl a) (by omega)).2 c2⟩
    · rw [if_neg c1]
      exact ⟨false, rfl, fun q => (by cases q), fun q => absurd (q a (Nat.le_refl a) (by omega)).1 c1⟩
theorem quiet_C (hw : PW P) (h : QC b P σ) : ∀ (t fu : Nat), t ≤ 60 → t < fu → ∃ q, cR_quietTick_l5 b fu (nI t) σ = some (nI q, σ) ∧ q ≤ t ∧ (∀ t', q ≤ t' → t' < t → SmP P (t' + 1) t') ∧ (q = 0 ∨ ∃ j, q = j + 1 ∧ ¬ SmP P (j + 1) j)
  | _, 0, _, h3 => by omega
  | 0, fu + 1, _, _ => by
    refine ⟨0, ?_, Nat.le_refl 0, fun t' h1 h2 => by omega, Or.inl rfl⟩
    rw [cR_quietTick_l5, if_pos (by decide)]
  | t + 1, fu + 1, h2, h3 => by
    have hn := hw.2.1
    obtain ⟨v, g1, g2⟩ := same_C hw h (t := t) h2 (pn P + 1) 0 4096 (by omega) (by omega)
    rw [cR_quietTick_l5, if_neg (show ¬ nI (t + 1) ≤ 0 from fun q => absurd ((P_le (b := 0) (by omega) (by omega)).mp q) (by omega))]
    unfold cR_isSameAsBefore
    rw [show cR_isSameAsBefore_l2 b 4096 (nI (t + 1)) 0 σ = _ from g1]
    simp only [Option.bind_some]
    cases v
    · rw [if_neg (by decide)]
      refine ⟨t + 1, rfl, Nat.le_refl _, fun t' h1 h2 => by omega, Or.inr ⟨t, rfl, fun q => ?_⟩⟩
      have := g2.mpr (fun s _ hs => q s hs)
      cases this
    · rw [if_pos rfl, pk_m1]
      obtain ⟨q, k1, k2, k3, k4⟩ := quiet_C hw h t fu (by omega) (by omega)
      refine ⟨q, k1, by omega, fun t' h1 h2 => ?_, k4⟩
      by_cases e : t' = t
      · subst e; exact fun s hs => g2.mp rfl s (Nat.zero_le s) hs
      · exact k3 t' h1 (by omega)
theorem quiet_M (hw : PW P) (h : QM P τ) : ∀ (t fu : Nat), t ≤ 60 → t < fu → ∃ q, m_quiet_l7 fu (nI t) τ = some (nI q, τ) ∧ q ≤ t ∧ (∀ t', q ≤ t' → t' < t → SmP P t' 60) ∧ (q = 0 ∨ ∃ j, q = j + 1 ∧ ¬ SmP P j 60)
  | _, 0, _, h3 => by omega
  | 0, fu + 1, _, _ => by
    refine ⟨0, ?_, Nat.le_refl 0, fun t' h1 h2 => by omega, Or.inl rfl⟩
    rw [m_quiet_l7, if_pos (by decide)]
  | t + 1, fu + 1, h2, h3 => by
    have hn := hw.2.1
    obtain ⟨v, g1, g2⟩ := last_M hw h (t := t) (by omega) (pn P + 1) 0 4096 (by omega) (by omega)
    have e1 : nI (t + 1) - 1 = nI t := by rw [show (1 : Int32) = nI 1 from rfl, pk_sub (by omega), Nat.add_sub_cancel]
    rw [m_quiet_l7, if_neg (show ¬ nI (t + 1) ≤ 0 from fun q => absurd ((P_le (b := 0) (by omega) (by omega)).mp q) (by omega)), e1]
    unfold m_isAsLast
    rw [show m_isAsLast_l2 4096 (nI t) 0 τ = _ from g1]
    simp only [Option.bind_some]
    cases v
    · rw [if_neg (by decide)]
      refine ⟨t + 1, rfl, Nat.le_refl _, fun t' h1 h2 => by omega, Or.inr ⟨t, rfl, fun q => ?_⟩⟩
      have := g2.mpr (fun s _ hs => q s hs)
      cases this
    · rw [if_pos rfl, pk_m1]
      obtain ⟨q, k1, k2, k3, k4⟩ := quiet_M hw h t fu (by omega) (by omega)
      refine ⟨q, k1, by omega, fun t' h1 h2 => ?_, k4⟩
      by_cases e : t' = t
      · subst e; exact fun s hs => g2.mp rfl s (Nat.zero_le s) hs
      · exact k3 t' h1 (by omega)
end Quiet
theorem st22 : St22 Rel := by
  rintro σ τ ⟨P, sd, h⟩
  obtain ⟨σ', τ', b1, b2, b3, b4, b5⟩ := h.both
  obtain ⟨T, hT, h7, he, -⟩ := b4.1
  obtain ⟨q, c1, c2, c3, c4⟩ := quiet_C h.1 b4 T 4096 hT (by omega)
  obtain ⟨r, d1, d2, d3, d4⟩ := quiet_M h.1 b5.q 60 4096 (by omega) (by omega)
  have up : ∀ k t', t' + k = 60 → q ≤ t' → SmP P t' 60 := by
    intro k
    induction k with
    | zero => intro t' h1 _ s _; rw [show t' = 60 by omega]; exact ⟨rfl, rfl⟩
    | succ k ih =>
      intro t' h1 h2
      have n1 := ih (t' + 1) (by omega) (by omega)
      by_cases e : t' < T
      · have n2 := c3 t' h2 e
        exact fun s hs => ⟨(n2 s hs).1.symm.trans (n1 s hs).1, (n2 s hs).2.symm.trans (n1 s hs).2⟩
      · intro s _
        rw [he t' (by omega) (by omega), he 60 (by omega) (by omega)]; exact ⟨rfl, rfl⟩
  have e : q = r := by
    rcases Nat.lt_trichotomy q r with g | g | g
    · rcases d4 with z | ⟨j, z1, z2⟩
      · omega
      · exact absurd (up (60 - j) j (by omega) (by omega)) z2
    · exact g
    · rcases c4 with z | ⟨j, z1, z2⟩
      · omega
      · exfalso
        apply z2
        have n1 := up (60 - q) q (by omega) (Nat.le_refl q)
        have n2 := d3 j (by omega) (by omega)
        rw [z1] at n1
        exact fun s hs => ⟨(n1 s hs).1.trans (n2 s hs).1.symm, (n1 s hs).2.trans (n2 s hs).2.symm⟩
  unfold cP_quiet m_quiet cR_quietTick
  rw [b1, b2]
  simp only [Option.bind_some]
  rw [h7, c1, show m_quiet_l7 4096 60 τ' = _ from d1, e]
  exact ⟨_, σ', τ', rfl, rfl, P, sd, b3⟩
theorem cl_no2 : ∀ x ∈ CLogL, ∀ i, i < 8 → ¬ x.2.getD i 0 = 2 := by decide
theorem pl_no6 : ∀ x ∈ PLogL, ∀ i, i < 8 → ¬ x.2.getD i 0 = 6 := by decide
theorem rec_same {P : ZP} {s : Nat} {l : Int32} {σ : CS} {τ : MS} (hs : s < 6) (hz : cZ σ 3 3 = pz P) (hz2 : mI τ 8 = bI (pz P)) (hl0 : s = 0 → ¬ l = 2) (hl1 : ¬ s = 0 → ¬ l = 6) : ∃ v, cP_recovery_b59 (nI s) l σ = some (v, σ) ∧ ((m_recoveredBy (nI s) l τ).bind fun a6 => some (a6.1, a6.2)) = some (v, τ) := by
  unfold cP_recovery_b59 m_recoveredBy cC_stateBehind cA_stateBehind
  simp only [sw]
  rw [hz, hz2]
  by_cases e : s = 0
  · subst e
    simp only [if_pos (show nI 0 = 0 from rfl)]
    rw [if_neg (hl0 rfl)]
    by_cases e3 : l = 3
    · simp only [if_pos e3]; exact ⟨2, rfl, rfl⟩
    · simp only [if_neg e3]
      by_cases e4 : l = 4
      · simp only [if_pos e4]; exact ⟨3, rfl, rfl⟩
      · simp only [if_neg e4]
        by_cases e5 : l = 5
        · simp only [if_pos e5]; exact ⟨4, rfl, rfl⟩
        · simp only [if_neg e5]
          by_cases e6 : l = 6
          · simp only [if_pos e6]; exact ⟨5, rfl, rfl⟩
          · simp only [if_neg e6]
            cases pz P
            · exact ⟨4, rfl, rfl⟩
            · exact ⟨5, rfl, rfl⟩
  · simp only [if_neg (qI_ne0 e (show s < 2 ^ 31 by omega))]
    by_cases e2 : l = 2
    · simp only [if_pos e2]; exact ⟨1, rfl, rfl⟩
    · simp only [if_neg e2]
      by_cases e3 : l = 3
      · simp only [if_pos e3]; exact ⟨2, rfl, rfl⟩
      · simp only [if_neg e3]
        by_cases e4 : l = 4
        · simp only [if_pos e4]; exact ⟨3, rfl, rfl⟩
        · simp only [if_neg e4]
          rw [if_neg (hl1 e)]
          by_cases e5 : l = 5
          · simp only [if_pos e5]; exact ⟨4, rfl, rfl⟩
          · simp only [if_neg e5]; exact ⟨4, rfl, rfl⟩
theorem st25 : St25 Rel := by
  rintro p1 p2 σ τ ⟨P, sd, h⟩
  have hn := h.1.2.1
  unfold cP_recovery m_recovery cP_recovery_b36
  rw [h.site_C, h.site_M]
  simp only [Option.bind_some]
  cases e : inB p1 (pn P + 1)
  · rw [if_neg (by decide), if_neg (by decide)]; exact h.no' (-1) (by decide)
  · obtain ⟨s, hs, rfl⟩ := inB_of (by omega) e
    obtain ⟨σ', τ', b1, b2, b3, b4, b5⟩ := h.both
    rw [if_pos rfl, if_pos rfl, b1, b2]
    simp only [Option.bind_some]
    have hl := run_len h.1 (t := 60) (by omega) (show s ≤ pn P by omega)
    have hi := Inv.run (P := P) h.1 (t := 60) (by omega)
    obtain ⟨T, -, -, -, -, -, hS, -⟩ := b4.1
    obtain ⟨-, q2, q3, q4⟩ := hS s (by omega)
    obtain ⟨g1, g2, g3⟩ := b5.q.2.2.2 s (by omega)
    rw [P_in (show s < 6 by omega) (by decide), P_ix (show s < 2 ^ 31 by omega), g1, isIn_M, le_in (by omega), q2]
    simp only [if_true, Option.bind_some]
    rcases pk_ix p2 (n := (zg (xRun P 60).1 s).length + 1) (by omega) with g | g | ⟨k, hk, rfl⟩
    · rw [P_neg (n := (zg (xRun P 60).1 s).length + 1) g, if_pos g, if_neg (by decide)]; exact b3.no' (-5) (by decide)
    · rw [P_big (n := (zg (xRun P 60).1 s).length + 1) (by omega) g, if_neg (Int32.not_lt.mpr (Int32.le_trans (nI_pos' (by omega)) g)), if_neg (show ¬ p2 ≤ nI (zg (xRun P 60).1 s).length from fun q => absurd ((P_le (by omega) (by omega)).mp (Int32.le_trans g q)) (by omega)), if_neg (by decide)]; exact b3.no' (-5) (by decide)
    · rw [P_in hk (by omega), if_neg (Int32.not_lt.mpr (nI_pos' (by omega))), if_pos ((P_le (by omega) (by omega)).mpr (by omega)), if_pos rfl]
      have hz : cZ σ' 3 3 = pz P := b3.2.2.2.1.2.1
      have hz2 : mI τ' 8 = bI (pz P) := b3.2.2.2.2.1.2.2.2.1
      by_cases k0 : k = 0
      · subst k0
        rw [if_pos (show nI 0 = 0 from rfl)]
        have m0 : m_lastOf (nI s) (nI 0) τ' = some (0, τ') := by unfold m_lastOf; rw [if_pos (show nI 0 = 0 from rfl)]
        rw [m0]
        simp only [Option.bind_some]
        obtain ⟨v, v1, v2⟩ := rec_same (P := P) (s := s) (l := 0) (by omega) hz hz2 (fun _ => by decide) (fun _ => by decide)
        exact ⟨v, σ', τ', v1, v2, P, sd, b3⟩
      · obtain ⟨j, rfl⟩ : ∃ j, k = j + 1 := ⟨k - 1, by omega⟩
        have e1 : nI (j + 1) - 1 = nI j := by rw [show (1 : Int32) = nI 1 from rfl, pk_sub (by omega), Nat.add_sub_cancel]
        have e7 : ((20 * nI s) + nI (j + 1)) - 1 = nI (20 * s + j) := by
          rw [show (20 : Int32) = nI 20 from rfl, pk_mul, nI_add, show (1 : Int32) = nI 1 from rfl, pk_sub (by omega)]; rfl
        have m0 : m_lastOf (nI s) (nI (j + 1)) τ' = some ((zg (xRun P 60).1 s).getD j 0, τ') := by
          unfold m_lastOf
          rw [if_neg (qI_ne0 k0 (by omega)), e7, P_in (show 20 * s + j < 120 by omega) (by decide), if_pos rfl, P_ix (show 20 * s + j < 2 ^ 31 by omega), g3 j (by omega)]
        rw [if_neg (qI_ne0 k0 (by omega)), e1, P_in (show j < 8 by omega) (by decide), if_pos rfl, P_ix (show j < 2 ^ 31 by omega), q4 j (by omega), m0]
        simp only [Option.bind_some]
        have h0 : s = 0 → ¬ (zg (xRun P 60).1 s).getD j 0 = 2 := fun q => by
          subst q
          obtain ⟨x, hx⟩ := hi.2.2.1.2
          exact cl_no2 _ hx j (by omega)
        have h1 : ¬ s = 0 → ¬ (zg (xRun P 60).1 s).getD j 0 = 6 := fun q => by
          obtain ⟨x, hx⟩ := (hi.2.2.2 s (by omega) (by omega)).2
          exact pl_no6 _ hx j (by omega)
        obtain ⟨v, v1, v2⟩ := rec_same (P := P) (s := s) (by omega) hz hz2 h0 h1
        exact ⟨v, σ', τ', v1, v2, P, sd, b3⟩
theorem st29 : St29 Rel := by
  rintro p1 σ τ ⟨P, sd, h⟩
  have h' := h
  obtain ⟨hw, hSH, hRF, ⟨hF, f1, f2, f3⟩, hM, h9, hI, h6, h8, h10⟩ := h'
  refine ⟨sd, tI σ 3 8 p1, sI τ 9 p1, congrArg (fun z => some (z, tI σ 3 8 p1)) f3, congrArg (fun z => some (z, sI τ 9 p1)) h9, P, p1, hw, hSH.cells (fun c hc => tI_o c (by omega)), hRF, ⟨?_, f1, f2, cI_s⟩, hM, rfl, hI, h6, fun q => (h8 q).cong (fun c h1 _ => tI_o c (by omega)), h10⟩
  unfold SetR
  rw [cI_k (show (0 : Nat) ≠ 8 by decide), cI_k (show (1 : Nat) ≠ 8 by decide), cI_k (show (2 : Nat) ≠ 8 by decide), cI_k (show (4 : Nat) ≠ 8 by decide)]
  exact hF
