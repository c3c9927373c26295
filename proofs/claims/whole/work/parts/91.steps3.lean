/-! STEPS: told rows, shown messages, status, spared -/
section St3
variable {P : ZP} {sd : Int32} {σ : CS} {τ : MS}
theorem judge_L (hM : ResM P τ) {j s m sz : Nat} (hj : j < 8) (hs : s ≤ pn P) (hsz : sz ≤ 160) (hm : m ≤ sz) (hm2 : m ≤ 61) : ∀ (r t fu : Nat) (σ : CS), RelP P sd σ τ → cI σ (58 + j) 2 = nI sz → (∀ i, i < sz → mE τ (160 * j + i) = cB σ (66 + j) i) → t + r = m → r < fu →
    ∃ v σ', cP_judge_l27 fu (nI j) (nI s) (nI m) (nI t) σ = some (v, σ') ∧ m_judge_l31 fu (nI j) (nI s) (nI m) (nI t) τ = some (v, τ) ∧ RelP P sd σ' τ
  | r, t, 0, σ, _, _, _, _, h3 => by omega
  | 0, t, fu + 1, σ, h, _, _, h2, _ => by
    refine ⟨-1, σ, ?_, ?_, h⟩
    · rw [cP_judge_l27, if_pos ((P_le (by omega) (by omega)).mpr (by omega))]
    · rw [m_judge_l31, if_pos ((P_le (by omega) (by omega)).mpr (by omega))]
  | r + 1, t, fu + 1, σ, h, hz, hE, h2, h3 => by
    have hn := h.1.2.1
    obtain ⟨σ', a1, a2, a3, a4, a5, -⟩ := h.cur
    have e7 : (160 * nI j) + nI t = nI (160 * j + t) := by rw [show (160 : Int32) = nI 160 from rfl, pk_mul, nI_add]
    have hl : cH_letter j (nI t) σ = some (Int64.toInt32 (cB σ (66 + j) t), σ) := by
      unfold cH_letter
      rw [if_neg (Int32.not_lt.mpr (nI_pos' (by omega))), hz, if_neg (fun q => absurd ((P_le (by omega) (by omega)).mp q) (by omega)), P_in (show t < 160 by omega) (by decide), if_pos rfl, P_ix (show t < 2 ^ 31 by omega)]
    have hC : cP_judge_l27 (fu + 1) (nI j) (nI s) (nI m) (nI t) σ = if Int64.toInt32 (cB σ (66 + j) t) = xSee (xRun P t).1 s then cP_judge_l27 fu (nI j) (nI s) (nI m) (nI (t + 1)) σ' else some (nI t, σ') := by
      rw [cP_judge_l27, if_neg (fun q => absurd ((P_le (by omega) (by omega)).mp q) (by omega)), P_in hj (by decide), if_pos rfl, P_ix (show j < 2 ^ 31 by omega), hl]
      simp only [Option.bind_some]
      rw [a1]
      simp only [Option.bind_some]
      rw [stateAt_C h.1 a3.1 (by omega) hs, nI_1]
      simp only [Option.bind_some]
    have hM' : m_judge_l31 (fu + 1) (nI j) (nI s) (nI m) (nI t) τ = if Int64.toInt32 (cB σ (66 + j) t) = xSee (xRun P t).1 s then m_judge_l31 fu (nI j) (nI s) (nI m) (nI (t + 1)) τ else some (nI t, τ) := by
      rw [m_judge_l31, if_neg (fun q => absurd ((P_le (by omega) (by omega)).mp q) (by omega)), e7, i6, P_in (show 160 * j + t < 1280 by omega) (by decide), P_in (show 6 * t + s < 366 by omega) (by decide), if_pos rfl, if_pos rfl, P_ix (show 160 * j + t < 2 ^ 31 by omega), P_ix (show 6 * t + s < 2 ^ 31 by omega), hE t (by omega), ((hM.1 t (by omega)).1 s hs).1, nI_1]
    rw [hC, hM']
    by_cases e : Int64.toInt32 (cB σ (66 + j) t) = xSee (xRun P t).1 s
    · rw [if_pos e, if_pos e]
      refine judge_L hM hj hs hsz hm hm2 r (t + 1) fu σ' a2 ?_ ?_ (by omega) (by omega)
      · exact (sl_I (a5 (58 + j) (by omega) (by omega)) 2).trans hz
      · intro i hi; rw [sl_B (a5 (66 + j) (by omega) (by omega))]; exact hE i hi
    · rw [if_neg e, if_neg e]; exact ⟨nI t, σ', rfl, rfl, a2⟩
end St3
theorem st27 : St27 Rel := by
  rintro p1 p2 p3 σ τ ⟨P, sd, h⟩
  have hn := h.1.2.1
  have no10 : ∀ v : Int32, inB (-v) 8 = true → ∃ r σ' τ', ((cP_refuse v σ).bind fun a2 => some ((a2.1 - 10), a2.2)) = some (r, σ') ∧ ((m_no v τ).bind fun a3 => some ((a3.1 - 10), a3.2)) = some (r, τ') ∧ Rel σ' τ' := fun v hv => by
    obtain ⟨σ', τ', a, b, c⟩ := h.no v hv
    exact ⟨v - 10, σ', τ', by rw [a]; rfl, by rw [b]; rfl, c⟩
  obtain ⟨v, l1, l2, l3⟩ := lack h.2.1 p1
  have K : ∃ w, cP_judgeLack p1 p2 p3 σ = some (w, σ) ∧ m_notJudged p1 p2 p3 τ = some (w, τ) ∧ ((¬ w = 0 ∧ inB (-w) 8 = true) ∨ (w = 0 ∧ ∃ j s m sz, j < 8 ∧ s ≤ pn P ∧ sz ≤ 160 ∧ m ≤ sz ∧ m ≤ 61 ∧ p1 = nI j ∧ p2 = nI s ∧ p3 = nI m ∧ cI σ (58 + j) 2 = nI sz ∧ ∀ i, i < sz → mE τ (160 * j + i) = cB σ (66 + j) i)) := by
    unfold cP_judgeLack m_notJudged
    rw [h.site_C, h.site_M]
    simp only [Option.bind_some]
    rw [l1, l2]
    simp only [Option.bind_some]
    cases e : inB p2 (pn P + 1)
    · exact ⟨-1, rfl, rfl, Or.inl ⟨by decide, by decide⟩⟩
    · obtain ⟨s, hs, rfl⟩ := inB_of (by omega) e
      rw [if_pos rfl, if_pos rfl]
      rcases l3 with ⟨rfl, -⟩ | ⟨j, hj, rfl, ⟨rfl, -⟩ | ⟨rfl, -⟩ | ⟨rfl, t, n, R⟩⟩
      · exact ⟨-1, rfl, rfl, Or.inl ⟨by decide, by decide⟩⟩
      · exact ⟨-2, rfl, rfl, Or.inl ⟨by decide, by decide⟩⟩
      · exact ⟨-3, rfl, rfl, Or.inl ⟨by decide, by decide⟩⟩
      · obtain ⟨r1, r2, r3, r4, r5, r6, r7, r8⟩ := R
        rw [if_pos rfl, if_pos rfl]
        by_cases g : p3 < 0
        · rw [if_neg (Int32.not_le.mpr g), if_neg (Int32.not_le.mpr g)]
          exact ⟨-4, rfl, rfl, Or.inl ⟨by decide, by decide⟩⟩
        · rw [if_pos (Int32.not_lt.mp g), if_pos (Int32.not_lt.mp g), P_in hj (by decide), if_pos rfl, if_pos rfl, P_ix (show j < 2 ^ 31 by omega), r6, r7]
          obtain ⟨m, hm, rfl⟩ := nI_of g
          by_cases g1 : nI m ≤ nI n
          · rw [if_pos g1, if_pos g1]
            by_cases g2 : nI m ≤ 61
            · rw [if_pos g2, if_pos g2]
              exact ⟨0, rfl, rfl, Or.inr ⟨rfl, j, s, m, n, hj, by omega, r2, (P_le hm (by omega)).mp g1, (P_le (b := 61) hm (by omega)).mp g2, rfl, rfl, rfl, r6, r8⟩⟩
            · rw [if_neg g2, if_neg g2]
              exact ⟨-6, rfl, rfl, Or.inl ⟨by decide, by decide⟩⟩
          · rw [if_neg g1, if_neg g1]
            exact ⟨-5, rfl, rfl, Or.inl ⟨by decide, by decide⟩⟩
  obtain ⟨w, k1, k2, k3⟩ := K
  have hC : cP_judge p1 p2 p3 σ = if w = 0 then cP_judge_l27 4096 p1 p2 p3 0 σ else (cP_refuse w σ).bind fun a2 => some ((a2.1 - 10), a2.2) := by
    unfold cP_judge
    rw [k1, Option.bind_some]
  have hD : m_judge p1 p2 p3 τ = if w = 0 then (m_runs τ).bind (fun a2 => m_judge_l31 4096 p1 p2 p3 0 a2.2) else (m_no w τ).bind fun a3 => some ((a3.1 - 10), a3.2) := by
    unfold m_judge
    rw [k2, Option.bind_some]
  rw [hC, hD]
  rcases k3 with ⟨e, e2⟩ | ⟨rfl, j, s, m, sz, hj, hs, hsz, hm, hm2, rfl, rfl, rfl, hz, hE⟩
  · rw [if_neg e, if_neg e]; exact no10 w e2
  · rw [if_pos rfl, if_pos rfl]
    obtain ⟨τ', b1, b2, b3, b4⟩ := h.runs
    have hR : (m_runs τ).bind (fun a2 => m_judge_l31 4096 (nI j) (nI s) (nI m) 0 a2.2) = m_judge_l31 4096 (nI j) (nI s) (nI m) 0 τ' := by
      rw [b1, Option.bind_some]
    rw [hR]
    have hE' : ∀ i, i < sz → mE τ' (160 * j + i) = cB σ (66 + j) i := fun i hi => by rw [show mE τ' = mE τ from b4.2.1]; exact hE i hi
    obtain ⟨v, σ', c1, c2, c3⟩ := judge_L b3 hj hs hsz hm hm2 m 0 4096 σ b2 hz hE' (by omega) (by omega)
    have z00 : nI 0 = 0 := rfl
    rw [z00] at c1 c2
    exact ⟨v, σ', τ', c1, c2, P, sd, c3⟩
/-- one shelf changes -/
theorem SH.one {σ σ' : CS} {τ τ' : MS} (h : SH σ τ) {i : Nat} (hi : i < 8) (hs : ∀ c, c ≠ 58 + i → sl σ' c = sl σ c) (h28 : ∀ j, j < 8 → j ≠ i → mA τ' 28 j = mA τ 28 j) (h29 : mA τ' 29 = mA τ 29) (hE : ∀ k, k < 160 * i ∨ 160 * i + 160 ≤ k → mE τ' k = mE τ k) (hn : SHi σ' τ' i) : SH σ' τ' := by
  intro j hj
  by_cases e : j = i
  · subst e; exact hn
  · have q := hs (58 + j) (by omega)
    have q2 := sl_B (hs (66 + j) (by omega))
    have k := h j hj
    rcases k with ⟨g1, g2⟩ | ⟨g1, t', n', g2, g3, g4, g5, g6, g7, g8⟩ | ⟨g1, k', f', t', d', g2, g3, g4, g5, g6, g7, g8, g9, g10, g11, g12, g13⟩
    · exact Or.inl ⟨(sl_I q 0).trans g1, (h28 j hj e).trans g2⟩
    · exact Or.inr (Or.inl ⟨(sl_I q 0).trans g1, t', n', g2, g3, (sl_I q 1).trans g4, (h28 j hj e).trans g5, (sl_I q 2).trans g6, (congrFun h29 j).trans g7, fun a ha => by rw [hE _ (by omega), q2]; exact g8 a ha⟩)
    · exact Or.inr (Or.inr ⟨(sl_I q 0).trans g1, k', f', t', d', g2, g3, g4, g5, g6, (sl_I q 4).trans g7, (sl_I q 5).trans g8, (sl_I q 6).trans g9, (sl_I q 7).trans g10, (h28 j hj e).trans g11, (hE _ (by omega)).trans g12, (hE _ (by omega)).trans g13⟩)
theorem st4 : St4 Rel := by
  rintro p1 p2 σ τ ⟨P, sd, h⟩
  have hn := h.1.2.1
  unfold cP_show m_show
  rw [isShelf_C, isShelf_M]
  simp only [Option.bind_some]
  cases e : inB p1 8
  · rw [if_neg (by decide), if_neg (by decide)]; exact h.no' (-1) (by decide)
  · obtain ⟨i, hi, rfl⟩ := inB_of (by omega) e
    rw [if_pos rfl, if_pos rfl]
    by_cases e1 : p2 = -1
    · rw [if_pos e1, if_pos e1, P_ix (show i < 2 ^ 31 by omega)]
      simp only [if_true]
      unfold cH_clear
      simp only [Option.bind_some]
      have hs : ∀ c, c ≠ 58 + i → sl (tI (tI σ (58 + i) 0 0) (58 + i) 2 0) c = sl σ c := fun c hc => (tI_o c hc).trans (tI_o c hc)
      refine ⟨0, _, _, rfl, rfl, P, sd, h.sm ⟨h.2.1.one hi hs (fun j _ hj => pk_un hj) rfl (fun _ _ => rfl) (Or.inl ⟨(cI_k (by decide)).trans cI_s, pk_us⟩), h.2.2.1, fun c h1 h2 => hs c (by omega), rfl, rfl, fun k h1 h2 h3 => va_up_n _ _ h2⟩⟩
    · obtain ⟨σ', τ', b1, b2, b3, b4, b5⟩ := h.both
      rw [if_neg e1, if_neg e1, b1, b2]
      simp only [Option.bind_some]
      obtain ⟨T, -, -, -, -, -, -, m1, m2, m3⟩ := b4.1
      obtain ⟨-, g3⟩ := b5.2.2.2.2.2.2.2.2.1
      have hW := (Inv.run (P := P) h.1 (t := 60) (by omega)).1
      rw [sent_C m1 m2, b5.2.2.1.2.2.2, has_M2 m1]
      simp only [Option.bind_some]
      cases e2 : inB p2 (zn (xRun P 60).1)
      · simp only [Bool.false_eq_true, if_false]; exact b3.no' (-1) (by decide)
      · obtain ⟨m, hm, rfl⟩ := inB_of (by omega) e2
        obtain ⟨a1, a2, a3, a4, a5⟩ := m3 m hm
        obtain ⟨c1, c2, c3, c4, c5⟩ := g3 m hm
        obtain ⟨w1, w2, ⟨k, k1, k2, k3⟩, d, d1, d2⟩ := hW.2 m hm
        have e16 : 160 * nI i = nI (160 * i) := by rw [show (160 : Int32) = nI 160 from rfl, pk_mul]
        have e10 : (10 * nI (zf (xRun P 60).1 m)) + nI (zo (xRun P 60).1 m) = nI (10 * zf (xRun P 60).1 m + zo (xRun P 60).1 m) := by rw [show (10 : Int32) = nI 10 from rfl, pk_mul, nI_add]
        rw [if_pos rfl, if_pos rfl, P_in (show m < 200 by omega) (by decide), P_ix (show m < 2 ^ 31 by omega), P_ix (show i < 2 ^ 31 by omega), e16, nI_1, P_in (show 160 * i < 1280 by omega) (by decide), P_in (show 160 * i + 1 < 1280 by omega) (by decide), P_ix (show 160 * i < 2 ^ 31 by omega), P_ix (show 160 * i + 1 < 2 ^ 31 by omega), a1, a2, a3, a4, c1, c2, c3, c4, e10, k3, d2, show (200 : Int32) + nI k = nI (200 + k) from nI_add 200 k]
        simp only [if_true]
        unfold cH_holdMessage cH_clear
        simp only [Option.bind_some]
        refine ⟨1, _, _, rfl, rfl, P, sd, b3.sm ⟨b3.2.1.one hi (fun c hc => ?_) (fun j _ hj => pk_un hj) rfl (fun q hq => ?_) ?_, b3.2.2.1, fun c h1 h2 => ?_, rfl, rfl, fun q h1 h2 h3 => va_up_n _ _ h2⟩⟩
        · exact (tI_o c hc).trans ((tI_o c hc).trans ((tI_o c hc).trans ((tI_o c hc).trans ((tI_o c hc).trans ((tI_o c hc).trans (tI_o c hc))))))
        · exact (pk_uLn (by omega)).trans (pk_uLn (by omega))
        · refine Or.inr (Or.inr ⟨?_, k, zf (xRun P 60).1 m, zo (xRun P 60).1 m, d, k1, k2, by omega, by omega, by omega, ?_, ?_, ?_, cI_s, pk_us, ?_, pk_uLs⟩)
          · exact (cI_k (by decide)).trans ((cI_k (by decide)).trans ((cI_k (by decide)).trans ((cI_k (by decide)).trans cI_s)))
          · exact (cI_k (by decide)).trans ((cI_k (by decide)).trans ((cI_k (by decide)).trans cI_s))
          · exact (cI_k (by decide)).trans ((cI_k (by decide)).trans cI_s)
          · exact (cI_k (by decide)).trans cI_s
          · exact (pk_uLn (by omega)).trans pk_uLs
        · have hc : c ≠ 58 + i := by omega
          exact (tI_o c hc).trans ((tI_o c hc).trans ((tI_o c hc).trans ((tI_o c hc).trans ((tI_o c hc).trans ((tI_o c hc).trans (tI_o c hc))))))
theorem held_0 {σ : CS} {τ : MS} (h : SH σ τ) {i : Nat} (hi : i < 8) : cI σ (58 + i) 0 = 0 ↔ mA τ 28 i = 0 := by
  rcases h i hi with ⟨g1, g2⟩ | ⟨g1, t', n', g2, g3, g4, g5, -⟩ | ⟨g1, k', f', t', d', g2, g3, g4, g5, g6, g7, g8, g9, g10, g11, -⟩
  · exact ⟨fun _ => g2, fun _ => g1⟩
  · rw [g1, g5]; exact ⟨fun q => absurd q (by decide), fun q => absurd q (qI_ne0 (by omega) (by omega))⟩
  · rw [g1, g11]; exact ⟨fun q => absurd q (by decide), fun q => absurd q (qI_ne0 (by omega) (by omega))⟩
theorem status_L {σ : CS} {τ : MS} (h : SH σ τ) : ∀ (r a fu : Nat) (x : Int32), a + r = 8 → r < fu → ∃ v, cP_status_l32 fu x (nI a) σ = some (v, σ) ∧ m_status_l31 fu x (nI a) τ = some (v, τ)
  | r, a, 0, _, _, h3 => by omega
  | 0, a, fu + 1, x, h2, _ => by
    refine ⟨x, ?_, ?_⟩
    · rw [cP_status_l32, if_pos (show 8 ≤ nI a from (P_le (a := 8) (by omega) (by omega)).mpr (by omega))]
    · rw [m_status_l31, if_pos (show 8 ≤ nI a from (P_le (a := 8) (by omega) (by omega)).mpr (by omega))]
  | r + 1, a, fu + 1, x, h2, h3 => by
    have n8 : ¬ 8 ≤ nI a := fun q => absurd ((P_le (a := 8) (by omega) (by omega)).mp q) (by omega)
    rw [cP_status_l32, m_status_l31, if_neg n8, if_neg n8, P_in (show a < 8 by omega) (by decide), P_ix (show a < 2 ^ 31 by omega), isEmpty_C, nI_1, Int32.add_zero]
    simp only [if_true, Option.bind_some, decide_eq_true_eq]
    by_cases e : cI σ (58 + a) 0 = 0
    · rw [if_pos e, if_pos ((held_0 h (by omega)).mp e)]
      exact status_L h r (a + 1) fu x (by omega) (by omega)
    · rw [if_neg e, if_neg (fun q => e ((held_0 h (by omega)).mpr q))]
      exact status_L h r (a + 1) fu (x + 1) (by omega) (by omega)
theorem st32 : St32 Rel := by
  rintro p1 σ τ ⟨P, sd, h⟩
  unfold cP_status m_status cP_status_b22
  rw [isIn_M]
  simp only [Option.bind_some]
  have K : ∃ r σ' τ', (if p1 = 0 then cP_status_l32 4096 0 0 σ else some (-1, σ)) = some (r, σ') ∧ (if p1 = 0 then m_status_l31 4096 0 0 τ else some (-1, τ)) = some (r, τ') ∧ Rel σ' τ' := by
    by_cases e : p1 = 0
    · rw [if_pos e, if_pos e]
      obtain ⟨v, a, b⟩ := status_L h.2.1 8 0 4096 0 (by omega) (by omega)
      exact ⟨v, σ, τ, a, b, P, sd, h⟩
    · rw [if_neg e, if_neg e]; exact ⟨-1, σ, τ, rfl, rfl, P, sd, h⟩
  by_cases g1 : p1 ≤ 10
  · have n1 : ¬ (11 : Int32) ≤ p1 := fun q => absurd (Int32.le_trans q g1) (by decide)
    rw [if_pos g1, decide_eq_false n1, Bool.false_and, if_neg (show ¬ false = true by decide)]; exact K
  · rw [if_neg g1]
    have g2 : ¬ p1 < 0 := fun q => g1 (Int32.le_trans (Int32.le_of_lt q) (by decide))
    obtain ⟨k, hk, rfl⟩ := nI_of g2
    have k10 : 10 < k := by
      rcases Nat.lt_or_ge 10 k with q | q
      · exact q
      · exact absurd ((P_le (b := 10) hk (by omega)).mpr q) g1
    have n1 : (11 : Int32) ≤ nI k := (P_le (a := 11) (by omega) hk).mpr (by omega)
    by_cases g3 : 17 < nI k
    · rw [if_pos g3, decide_eq_false (show ¬ nI k ≤ 17 from Int32.not_le.mpr g3), Bool.and_false, if_neg (show ¬ false = true by decide)]; exact K
    · have k17 : k ≤ 17 := (P_le (b := 17) hk (by omega)).mp (Int32.not_lt.mp g3)
      have e1 : nI k - 10 = nI (k - 10) := pk_sub (b := 10) (by omega)
      rw [if_neg g3, decide_eq_true n1, decide_eq_true (Int32.not_lt.mp g3), if_pos (show (true && true) = true from rfl), e1, P_in (show k - 10 < 8 by omega) (by decide), if_pos rfl, if_pos rfl, P_ix (show k - 10 < 2 ^ 31 by omega), h.2.2.1 (k - 10) (by omega)]
      exact ⟨_, σ, τ, rfl, rfl, P, sd, h⟩
def xPz (P : ZP) (z : Bool) : ZP := (pn P, pp P, pw P, z, pv P, pl P, pd P)
theorem st26 : St26 Rel := by
  rintro σ τ ⟨P, sd, h⟩
  obtain ⟨σ1, a1, a2, a3, a4, a5, a6, a7⟩ := h.cur
  have hw := h.1
  have W : ∀ z, PW (xPz P z) := fun z => hw
  -- the reference
  have hM := h.2.2.2.2.1
  obtain ⟨τ1, b1, b2, b3⟩ := runs_M (W false) (τ := sI τ 8 0) ⟨hM.1, hM.2.1, hM.2.2.1, rfl, hM.2.2.2.2⟩
  have hM1 := b2.2.1
  obtain ⟨τ2, c1, c2, c3⟩ := runs_M (W true) (τ := sI τ1 8 1) ⟨hM1.1, hM1.2.1, hM1.2.2.1, rfl, hM1.2.2.2.2⟩
  have hfr : FrR τ (sI τ2 8 (mI τ 8)) := by
    refine ⟨c3.1.trans b3.1, c3.2.1.trans b3.2.1, fun k hk => ?_, fun k hk h1 h2 h3 => (c3.2.2.2 k hk h1 h2 h3).trans (b3.2.2.2 k hk h1 h2 h3)⟩
    by_cases e : k = 8
    · subst e; rfl
    · exact (va_up_n _ _ e).trans ((c3.2.2.1 k hk).trans ((va_up_n _ _ e).trans ((b3.2.2.1 k hk).trans (va_up_n _ _ e))))
  have hτ : m_spared τ = some (nI (zn (xRun (xPz P false) 60).1) - nI (zn (xRun (xPz P true) 60).1), sI τ2 8 (mI τ 8)) := by
    unfold m_spared
    rw [b1]
    simp only [Option.bind_some]
    rw [c1]
    simp only [Option.bind_some]
    rw [show mI τ1 21 = nI (zn (xRun (xPz P false) 60).1) from b2.2.2.1.2.2.2, show mI τ2 21 = nI (zn (xRun (xPz P true) 60).1) from c2.2.2.1.2.2.2]
  -- the class
  have F := a2.2.2.2.1
  have hz : cZ σ1 3 3 = pz P := F.2.1
  have now : cI σ1 14 8 = nI (zn (xRun P 60).1) := by
    obtain ⟨T, -, -, -, -, -, -, -, m2, -⟩ := a3.1
    exact m2
  obtain ⟨σ2, d1, d2, d3⟩ := play_C (b := 36) (P := xPz P (!pz P)) (W _) (by omega) (σ := σ1) F.1 (g := cG σ1 3 5) (z := !pz P) F.2.2.1.b rfl
  have tr : cI σ2 36 8 = nI (zn (xRun (xPz P (!pz P)) 60).1) := by
    obtain ⟨T, -, -, -, -, -, -, -, m2, -⟩ := d2
    exact m2
  have z2 : cZ σ2 3 3 = pz P := (sl_Z (d3 3 (by omega)) 3).trans hz
  have hR : RelP P sd σ2 τ := a2.cells (fun c h1 h2 => d3 c (by omega)) (sl_I (d3 0 (by omega)) 6) (sl_Z (d3 0 (by omega)) 4) (fun _ => a3.1.cong (fun c h1 h2 => d3 c (by omega))) (fun q => by
    rw [sl_Z (d3 0 (by omega)) 10] at q
    unfold TriC
    rw [sl_G (d3 0 (by omega)) 11, sl_G (d3 0 (by omega)) 12]
    exact a2.2.2.2.2.2.2.2.2.2 q)
  refine ⟨_, σ2, _, ?_, hτ, P, sd, hR.fr hfr⟩
  unfold cP_spared cP_spared_b34
  rw [a1]
  simp only [Option.bind_some]
  rw [hz, now]
  have hP : xPz P (pz P) = P := rfl
  cases e : pz P
  · rw [e] at d1 tr z2 hP
    simp only [Bool.not_false] at d1 tr
    rw [if_neg (by decide)]
    rw [show cR_play 36 (cG σ1 3 5) true σ1 = some ((), σ2) from d1]
    simp only [Option.bind_some]
    rw [z2, if_neg (by decide), tr, hP]
  · rw [e] at d1 tr z2 hP
    simp only [Bool.not_true] at d1 tr
    rw [if_pos rfl]
    rw [show cR_play 36 (cG σ1 3 5) false σ1 = some ((), σ2) from d1]
    simp only [Option.bind_some]
    rw [z2, if_pos rfl, tr, hP]
