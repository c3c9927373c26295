/-! STEPS: what is told of a run -/
theorem le_in {n : Nat} (hn : n < 2 ^ 30) (p : Int32) : (decide (0 ≤ p) && decide (p ≤ nI n)) = inB p (n + 1) := by
  rcases pk_ix p (n := n + 1) (by omega) with g | g | ⟨j, hj, rfl⟩
  · rw [P_neg g, decide_eq_false (Int32.not_le.mpr g)]; rfl
  · rw [P_big (by omega) g, decide_eq_false (show ¬ p ≤ nI n from fun q => absurd ((P_le (by omega) (by omega)).mp (Int32.le_trans g q)) (by omega)), Bool.and_false]
  · rw [P_in hj (by omega), decide_eq_true (nI_pos' (by omega)), decide_eq_true ((P_le (by omega) (by omega)).mpr (by omega))]; rfl
theorem lt_in {n : Nat} (hn : n < 2 ^ 30) (p : Int32) (σ : CS) : (if p < 0 then some (false, σ) else if nI n < p then some (false, σ) else some (true, σ)) = some (inB p (n + 1), σ) := by
  rcases pk_ix p (n := n + 1) (by omega) with g | g | ⟨j, hj, rfl⟩
  · rw [P_neg g, if_pos g]
  · rw [P_big (by omega) g, if_neg (Int32.not_lt.mpr (Int32.le_trans (nI_pos' (by omega)) g)), if_pos (show nI n < p from Int32.lt_of_lt_of_le ((P_lt (by omega) (by omega)).mpr (Nat.lt_succ_self n)) g)]
  · rw [P_in hj (by omega), if_neg (Int32.not_lt.mpr (nI_pos' (by omega))), if_neg (fun q => absurd ((P_lt (by omega) (by omega)).mp q) (by omega))]
theorem inB_of {p : Int32} {n : Nat} (hn : n < 2 ^ 31) (h : inB p n = true) : ∃ j, j < n ∧ p = nI j := by
  rcases pk_ix p (n := n) hn with g | g | g
  · rw [P_neg g] at h; cases h
  · rw [P_big hn g] at h; cases h
  · exact g
section Steps1
variable {P : ZP} {sd : Int32} {σ : CS} {τ : MS}
theorem RelP.no (h : RelP P sd σ τ) (p : Int32) (hp : inB (-p) 8 = true) : ∃ σ' τ', cP_refuse p σ = some (p, σ') ∧ m_no p τ = some (p, τ') ∧ Rel σ' τ' := by
  have k := refuse_C p σ hp
  have k2 := no_M p τ hp
  refine ⟨_, _, k, k2, P, sd, h.sm (refuse_S h.2.1 h.2.2.1 ?_)⟩
  simp only [inB, Bool.and_eq_true, decide_eq_true_eq] at hp
  exact hp.2
theorem RelP.no' (h : RelP P sd σ τ) (p : Int32) (hp : inB (-p) 8 = true) : ∃ r σ' τ', ((cP_refuse p σ).bind fun a => some (a.1, a.2)) = some (r, σ') ∧ ((m_no p τ).bind fun a => some (a.1, a.2)) = some (r, τ') ∧ Rel σ' τ' := by
  obtain ⟨σ', τ', a, b, c⟩ := h.no p hp
  exact ⟨p, σ', τ', by rw [a]; rfl, by rw [b]; rfl, c⟩
theorem RelP.site_C (h : RelP P sd σ τ) (p : Int32) : cP_isSite p σ = some (inB p (pn P + 1), σ) := by
  have hn := h.1.2.1
  unfold cP_isSite
  rw [h.2.2.2.1.1.1]; exact lt_in (by omega) p σ
theorem RelP.site_M (h : RelP P sd σ τ) (p : Int32) : m_isSite p τ = some (inB p (pn P + 1), τ) := by
  have hn := h.1.2.1
  unfold m_isSite
  rw [isIn_M, h.2.2.2.2.1.1, le_in (by omega)]; rfl
theorem tick_Cq (p : Int32) (σ : CS) : cP_isTick p σ = some (inB p 61, σ) := by unfold cP_isTick; exact lt_in (n := 60) (by omega) p σ
theorem tick_Mq (p : Int32) (τ : MS) : m_isTick p τ = some (inB p 61, τ) := by
  unfold m_isTick
  rw [isIn_M]; exact congrArg (fun z => some (z, τ)) (le_in (n := 60) (by omega) p)
theorem RelP.moment (h : RelP P sd σ τ) (p1 p2 : Int32) : ∃ v, cP_momentLack p1 p2 σ = some (v, σ) ∧ m_notThen p1 p2 τ = some (v, τ) ∧ ((¬ v = 0 ∧ inB (-v) 8 = true) ∨ (v = 0 ∧ ∃ t s, t ≤ 60 ∧ s ≤ pn P ∧ p1 = nI t ∧ p2 = nI s)) := by
  have hn := h.1.2.1
  unfold cP_momentLack m_notThen
  rw [h.site_C, h.site_M]
  simp only [Option.bind_some]
  rw [tick_Cq, tick_Mq]
  simp only [Option.bind_some]
  cases e : inB p2 (pn P + 1)
  · exact ⟨-1, rfl, rfl, Or.inl ⟨by decide, by decide⟩⟩
  · rw [if_pos rfl, if_pos rfl]
    cases e1 : inB p1 61
    · exact ⟨-6, rfl, rfl, Or.inl ⟨by decide, by decide⟩⟩
    · obtain ⟨s, hs, rfl⟩ := inB_of (by omega) e
      obtain ⟨t, ht, rfl⟩ := inB_of (by omega) e1
      exact ⟨0, rfl, rfl, Or.inr ⟨rfl, t, s, by omega, by omega, rfl, rfl⟩⟩
theorem RelP.both (h : RelP P sd σ τ) : ∃ σ' τ', cP_current σ = some ((), σ') ∧ m_runs τ = some ((), τ') ∧ RelP P sd σ' τ' ∧ QC 14 P σ' ∧ ResM P τ' := by
  obtain ⟨σ', a1, a2, a3, a4, -⟩ := h.cur
  obtain ⟨τ', b1, b2, b3, -⟩ := a2.runs
  exact ⟨σ', τ', a1, b1, b2, a3, b3⟩
end Steps1
theorem st14 : St14 Rel := by
  rintro p1 p2 σ τ ⟨P, sd, h⟩
  have hn := h.1.2.1
  obtain ⟨v, a1, a2, a3⟩ := h.moment p1 p2
  unfold cP_state m_state
  rw [a1, a2]
  simp only [Option.bind_some]
  rcases a3 with ⟨e, e2⟩ | ⟨rfl, t, s, ht, hs, rfl, rfl⟩
  · rw [if_neg e, if_neg e]; exact h.no' v e2
  · obtain ⟨σ', τ', b1, b2, b3, b4, b5⟩ := h.both
    rw [if_pos rfl, if_pos rfl, b1, b2]
    simp only [Option.bind_some]
    rw [stateAt_C h.1 b4.1 ht hs, i6, P_in (show 6 * t + s < 366 by omega) (by decide), if_pos rfl, P_ix (show 6 * t + s < 2 ^ 31 by omega), ((b5.1 t (by omega)).1 s hs).1]
    exact ⟨_, σ', τ', rfl, rfl, P, sd, b3⟩
theorem st15 : St15 Rel := by
  rintro p1 p2 σ τ ⟨P, sd, h⟩
  have hn := h.1.2.1
  obtain ⟨v, a1, a2, a3⟩ := h.moment p1 p2
  unfold cP_decided m_decided
  rw [a1, a2]
  simp only [Option.bind_some]
  rcases a3 with ⟨e, e2⟩ | ⟨rfl, t, s, ht, hs, rfl, rfl⟩
  · rw [if_neg e, if_neg e]; exact h.no' v e2
  · obtain ⟨σ', τ', b1, b2, b3, b4, b5⟩ := h.both
    rw [if_pos rfl, if_pos rfl, b1, b2]
    simp only [Option.bind_some]
    rw [decAt_C h.1 b4.1 ht hs (run_le ht s), decAt_M h.1 b5.q ht hs (run_le ht s)]
    exact ⟨_, σ', τ', rfl, rfl, P, sd, b3⟩
theorem st16 : St16 Rel := by
  rintro p1 p2 σ τ ⟨P, sd, h⟩
  have hn := h.1.2.1
  obtain ⟨v, a1, a2, a3⟩ := h.moment p1 p2
  unfold cP_records m_records
  rw [a1, a2]
  simp only [Option.bind_some]
  rcases a3 with ⟨e, e2⟩ | ⟨rfl, t, s, ht, hs, rfl, rfl⟩
  · rw [if_neg e, if_neg e]; exact h.no' v e2
  · obtain ⟨σ', τ', b1, b2, b3, b4, b5⟩ := h.both
    rw [if_pos rfl, if_pos rfl, b1, b2]
    simp only [Option.bind_some]
    rw [lengthAt_C h.1 b4.1 ht hs, i6, P_in (show 6 * t + s < 366 by omega) (by decide), if_pos rfl, P_ix (show 6 * t + s < 2 ^ 31 by omega), ((b5.1 t (by omega)).1 s hs).2]
    exact ⟨_, σ', τ', rfl, rfl, P, sd, b3⟩
theorem st18 : St18 Rel := by
  rintro p1 σ τ ⟨P, sd, h⟩
  unfold cP_sent m_sent
  rw [tick_Cq, tick_Mq]
  simp only [Option.bind_some]
  cases e : inB p1 61
  · rw [if_neg (by decide), if_neg (by decide)]; exact h.no' (-6) (by decide)
  · obtain ⟨t, ht, rfl⟩ := inB_of (by omega) e
    obtain ⟨σ', τ', b1, b2, b3, b4, b5⟩ := h.both
    rw [if_pos rfl, if_pos rfl, b1, b2]
    simp only [Option.bind_some]
    rw [sentAt_C h.1 b4.1 (by omega), P_ix (show t < 2 ^ 31 by omega), (b5.1 t ht).2]
    simp only [if_true]
    exact ⟨_, σ', τ', rfl, rfl, P, sd, b3⟩
theorem st20 : St20 Rel := by
  rintro p1 σ τ ⟨P, sd, h⟩
  have hn := h.1.2.1
  unfold cP_alike m_alike
  rw [tick_Cq, tick_Mq]
  simp only [Option.bind_some]
  cases e : inB p1 61
  · rw [if_neg (by decide), if_neg (by decide)]; exact h.no' (-6) (by decide)
  · obtain ⟨t, ht, rfl⟩ := inB_of (by omega) e
    obtain ⟨σ', τ', b1, b2, b3, b4, b5⟩ := h.both
    rw [if_pos rfl, if_pos rfl, b1, b2]
    simp only [Option.bind_some]
    have c1 : cR_isAlikeAt 14 (nI t) σ' = some (xAlike P t, σ') := alike_C (u := false) (v := false) h.1 b4 (by omega) (fun s _ => run_le (by omega) s) (pn P + 1) 0 4096 (by omega) (by omega)
    have c2 : m_areAlike (nI t) τ' = some (xAlike P t, τ') := alike_M (w := false) (u := false) (v := false) h.1 b5.q (by omega) (fun s _ => run_le (by omega) s) (pn P + 1) 0 4096 (by omega) (by omega)
    rw [c1, c2]
    simp only [Option.bind_some]
    cases xAlike P t
    · exact ⟨0, σ', τ', rfl, rfl, P, sd, b3⟩
    · exact ⟨1, σ', τ', rfl, rfl, P, sd, b3⟩
theorem st21 : St21 Rel := by
  rintro σ τ ⟨P, sd, h⟩
  have hn := h.1.2.1
  obtain ⟨σ', τ', b1, b2, b3, b4, b5⟩ := h.both
  unfold cP_blocked m_blocked
  rw [b1, b2]
  simp only [Option.bind_some]
  have c1 : cR_whoIsBlocked 14 σ' = some (xBlk P, σ') := blocked_C h.1 b4 (pn P) 1 4096 0 (by omega) (by omega)
  have c2 : m_blockedNow τ' = some (xBlk P, τ') := blocked_M h.1 b5.q (pn P) 1 4096 0 (by omega) (by omega)
  rw [c1, c2]
  exact ⟨_, σ', τ', rfl, rfl, P, sd, b3⟩
theorem st17 : St17 Rel := by
  rintro p1 p2 σ τ ⟨P, sd, h⟩
  have hn := h.1.2.1
  unfold cP_record m_record cP_record_b36
  rw [h.site_C, h.site_M]
  simp only [Option.bind_some]
  cases e : inB p1 (pn P + 1)
  · rw [if_neg (by decide), if_neg (by decide)]; exact h.no' (-1) (by decide)
  · obtain ⟨s, hs, rfl⟩ := inB_of (by omega) e
    obtain ⟨σ', τ', b1, b2, b3, b4, b5⟩ := h.both
    rw [if_pos rfl, if_pos rfl, b1, b2]
    simp only [Option.bind_some]
    have hl := run_len h.1 (t := 60) (by omega) (show s ≤ pn P by omega)
    obtain ⟨T, -, -, -, -, -, hS, -⟩ := b4.1
    obtain ⟨-, q2, q3, q4⟩ := hS s (by omega)
    obtain ⟨g1, g2, g3⟩ := b5.q.2.2.2 s (by omega)
    rw [P_in (show s < 6 by omega) (by decide), P_ix (show s < 2 ^ 31 by omega), g1, has_M (by omega), q2]
    simp only [if_true, Option.bind_some]
    rcases pk_ix p2 (n := (zg (xRun P 60).1 s).length) (by omega) with g | g | ⟨i, hi, rfl⟩
    · rw [P_neg (n := (zg (xRun P 60).1 s).length) g, if_pos g, if_neg (by decide)]; exact b3.no' (-5) (by decide)
    · rw [P_big (by omega) g, if_neg (Int32.not_lt.mpr (Int32.le_trans (nI_pos' (by omega)) g)), if_neg (Int32.not_lt.mpr g), if_neg (by decide)]; exact b3.no' (-5) (by decide)
    · have e7 : (20 * nI s) + nI i = nI (20 * s + i) := by rw [show (20 : Int32) = nI 20 from rfl, pk_mul, nI_add]
      rw [P_in hi (by omega), if_neg (Int32.not_lt.mpr (nI_pos' (by omega))), if_pos ((P_lt (by omega) (by omega)).mpr hi), P_in (show i < 8 by omega) (by decide), P_ix (show i < 2 ^ 31 by omega), q4 i hi, if_pos rfl, if_pos rfl, e7, P_in (show 20 * s + i < 120 by omega) (by decide), P_ix (show 20 * s + i < 2 ^ 31 by omega), g3 i hi, if_pos rfl]
      exact ⟨_, σ', τ', rfl, rfl, P, sd, b3⟩
theorem sent_C {σ : CS} {n : Nat} (hn : n ≤ 200) (h : cI σ 14 8 = nI n) (p : Int32) : cR_wasSent 14 p σ = some (inB p n, σ) := by
  unfold cR_wasSent
  rw [h]
  rcases pk_ix p (n := n) (by omega) with g | g | ⟨j, hj, rfl⟩
  · rw [P_neg g, if_pos g]
  · rw [P_big (by omega) g, if_neg (Int32.not_lt.mpr (Int32.le_trans (nI_pos' (by omega)) g)), if_pos g]
  · rw [P_in hj (by omega), if_neg (Int32.not_lt.mpr (nI_pos' (by omega))), if_neg (fun q => absurd ((P_le (by omega) (by omega)).mp q) (by omega))]
theorem has_M2 {n : Nat} (hn : n ≤ 200) (τ : MS) (p : Int32) : m_isIn p 0 (nI n - 1) τ = some (inB p n, τ) := by
  rw [isIn_M]
  have e : (nI n - 1).toInt = (n : Int) - 1 := pk_sub_toInt (a := n) (b := 1) (by omega) (by omega)
  rcases pk_ix p (n := n) (by omega) with g | g | ⟨j, hj, rfl⟩
  · rw [P_neg g, decide_eq_false (Int32.not_le.mpr g)]; rfl
  · rw [P_big (by omega) g, decide_eq_false (show ¬ p ≤ nI n - 1 from fun q => by
      rw [Int32.le_iff_toInt_le, e] at q
      rw [Int32.le_iff_toInt_le, nI_toInt (by omega)] at g
      omega), Bool.and_false]
  · rw [P_in hj (by omega), decide_eq_true (nI_pos' (by omega)), decide_eq_true (show nI j ≤ nI n - 1 from by
      rw [Int32.le_iff_toInt_le, e, nI_toInt (by omega)]
      omega)]; rfl
theorem st19 : St19 Rel := by
  rintro p1 p2 σ τ ⟨P, sd, h⟩
  obtain ⟨σ', τ', b1, b2, b3, b4, b5⟩ := h.both
  unfold cP_message m_message m_message_b27
  rw [b1, b2]
  simp only [Option.bind_some]
  obtain ⟨T, -, -, -, -, -, -, m1, m2, m3⟩ := b4.1
  obtain ⟨-, g3⟩ := b5.2.2.2.2.2.2.2.2.1
  rw [sent_C m1 m2, b5.2.2.1.2.2.2, has_M2 m1]
  simp only [Option.bind_some, isIn_M]
  cases e : inB p1 (zn (xRun P 60).1)
  · rw [if_neg (by decide), if_neg (by decide)]; exact b3.no' (-5) (by decide)
  · obtain ⟨m, hm, rfl⟩ := inB_of (by omega) e
    obtain ⟨a1, a2, a3, a4, a5⟩ := m3 m hm
    obtain ⟨c1, c2, c3, c4, c5⟩ := g3 m hm
    rw [if_pos rfl, if_pos rfl, P_in (show m < 200 by omega) (by decide), P_ix (show m < 2 ^ 31 by omega)]
    simp only [if_true, sw]
    have hle := le_in (n := 4) (by omega) p2
    rw [show (decide (0 ≤ p2) && decide (p2 ≤ 4)) = inB p2 5 from hle]
    cases e2 : inB p2 5
    · have hz : ∀ k : Nat, k < 5 → ¬ p2 = nI k := fun k hk q => by rw [q, P_in hk (by decide)] at e2; cases e2
      rw [if_neg (show ¬ p2 = 0 from hz 0 (by omega)), if_neg (show ¬ p2 = 1 from hz 1 (by omega)), if_neg (show ¬ p2 = 2 from hz 2 (by omega)), if_neg (show ¬ p2 = 3 from hz 3 (by omega)), if_neg (show ¬ p2 = 4 from hz 4 (by omega)), if_neg (by decide)]
      exact b3.no' (-5) (by decide)
    · obtain ⟨k, hk, rfl⟩ := inB_of (by omega) e2
      rw [if_pos rfl]
      have hk' : k = 0 ∨ k = 1 ∨ k = 2 ∨ k = 3 ∨ k = 4 := by omega
      rcases hk' with rfl | rfl | rfl | rfl | rfl
      · exact ⟨zw (xRun P 60).1 m, σ', τ', congrArg (fun z => some (z, σ')) a1, congrArg (fun z => some (z, τ')) c1, P, sd, b3⟩
      · exact ⟨nI (zf (xRun P 60).1 m), σ', τ', congrArg (fun z => some (z, σ')) a2, congrArg (fun z => some (z, τ')) c2, P, sd, b3⟩
      · exact ⟨nI (zo (xRun P 60).1 m), σ', τ', congrArg (fun z => some (z, σ')) a3, congrArg (fun z => some (z, τ')) c3, P, sd, b3⟩
      · exact ⟨za (xRun P 60).1 m, σ', τ', congrArg (fun z => some (z, σ')) a4, congrArg (fun z => some (z, τ')) c4, P, sd, b3⟩
      · exact ⟨zh (xRun P 60).1 m, σ', τ', congrArg (fun z => some (z, σ')) a5, congrArg (fun z => some (z, τ')) c5, P, sd, b3⟩
