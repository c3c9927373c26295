/-! STEPS: a text is read: all of it -/
def xApps (P : ZP) (it : Nat → IT) : Nat → ZP
  | 0 => P
  | k + 1 => xApp (xApps P it k) (it k)
theorem xApps_congr {P : ZP} {it it' : Nat → IT} : ∀ n, (∀ k, k < n → it k = it' k) → xApps P it n = xApps P it' n
  | 0, _ => rfl
  | n + 1, h => by
    show xApp (xApps P it n) (it n) = xApp (xApps P it' n) (it' n)
    rw [xApps_congr n (fun k hk => h k (by omega)), h n (Nat.lt_succ_self n)]
section Al
variable {j N : Nat} {σ0 : CS} {τ0 : MS} {P : ZP} {sd : Int32}
def AllO (σ0 : CS) (τ0 : MS) (P : ZP) (sd : Int32) (c : Option (Int32 × CS)) (m : Option (Bool × MS)) : Prop :=
  (∃ n it σ' τ', n ≤ 60 ∧ c = some (nI n, σ') ∧ m = some (true, τ') ∧ FQ σ0 σ' ∧ FT τ0 τ' ∧ cI σ' 9 1 = -1 ∧ SetF 10 (xApps P it n) sd σ' ∧ mI τ' 37 = nI n ∧ ∀ k, k < n → xOkI (it k) ∧ StI τ' k (it k)) ∨
  (∃ f σ' τ', c = some (-1, σ') ∧ m = some (false, τ') ∧ cI σ' 9 1 = nI f ∧ mI τ' 35 = nI f ∧ FQ σ0 σ' ∧ FT τ0 τ')
theorem b87_T (hx : TX j N σ0 τ0) {τ : MS} {q fu : Nat} (hq : q ≤ N) (h : FT τ0 τ) (h35 : mI τ 35 = nI q) : m_readsAll_l12 (fu + 1) false τ = some (decide (q = N), τ) := by
  obtain ⟨hj, hN, -, a4, a5, -⟩ := hx
  rw [m_readsAll_l12, if_neg (show ¬ false = true by decide)]
  unfold m_readsAll_b87
  rw [h.2.2.1 38 (by decide) (by decide), a4, P_in hj (by decide), if_pos rfl, P_ix (show j < 2 ^ 31 by omega), h35, h.2.2.2 29 (by omega), a5]
  by_cases e : q = N
  · rw [if_pos (by rw [e]), decide_eq_true e]
  · rw [if_neg (P_ne (by omega) (by omega) e), decide_eq_false e]
theorem all_L (hx : TX j N σ0 τ0) : ∀ (fu p I : Nat) (it : Nat → IT) (σ : CS) (τ : MS), RB σ0 τ0 N p σ τ → SetF 10 (xApps P it I) sd σ → mI τ 37 = nI I → 5 * I ≤ p → (∀ k, k < I → xOkI (it k) ∧ StI τ k (it k)) → N + 1 < p + fu → AllO σ0 τ0 P sd (cQ_readItems_l12 j fu (nI (I + 1)) σ) (m_readsAll_l12 fu true τ)
  | 0, p, I, it, σ, τ, h, _, _, _, _, h6 => by have := h.2.2.2.2.1; omega
  | fu + 1, p, I, it, σ, τ, h, hF, hI, h5, hs, h6 => by
    have hN := hx.2.1
    have hp := h.2.2.2.2.1
    obtain ⟨fv, rfl⟩ : ∃ fv, fu = fv + 1 := ⟨fu - 1, by omega⟩
    have hsz : ∀ σ', FQ σ0 σ' → cI σ' (58 + j) 2 = nI N := fun σ' hq => (sl_I (hq (58 + j) (by omega)) 2).trans hx.2.2.1
    have hC0 : cQ_readItems_l12 j (fv + 1 + 1) (nI (I + 1)) σ = (cQ_readItem j σ).bind fun a1 => if a1.1 = true then (if cI a1.2 9 2 = cI a1.2 (58 + j) 2 then some (nI (I + 1), a1.2) else ((cQ_readSign j 59 a1.2).bind fun a2 => if a2.1 = true then cQ_readItems_l12 j (fv + 1) (nI (I + 1) + 1) a2.2 else some ((-1), a2.2))) else some ((-1), a1.2) := by
      rw [cQ_readItems_l12, hsz σ h.1, nI_1, if_neg (show ¬ nI (N + 1) < nI (I + 1) from fun z => absurd ((P_lt (by omega) (by omega)).mp z) (by omega))]
    rcases item_B hx h hF hI (by omega) with ⟨x, q, σ', τ', a1, a2, a3, a4, a5, a6, a7, a8⟩ | ⟨f, σ', τ', a1, a2, a3, a4, a5, a6⟩
    · have hq := a5.2.2.2.2.1
      have hI' : mI τ' 37 = nI I := a8.1.trans hI
      have F2 : FT τ0 (sI τ' 37 (nI (I + 1))) := a5.2.1.p37 _
      have m35 : mI (sI τ' 37 (nI (I + 1))) 35 = nI q := a5.2.2.2.1
      have eit : xApps P (va_up it I x) (I + 1) = xApp (xApps P it I) x := by
        show xApp (xApps P (va_up it I x) I) (va_up it I x I) = _
        rw [va_up_s, xApps_congr I (fun k hk => va_up_n it x (by omega))]
      have hF' : SetF 10 (xApps P (va_up it I x) (I + 1)) sd σ' := by rw [eit]; exact a6
      have hS' : ∀ k, k < I + 1 → xOkI (va_up it I x k) ∧ StI τ' k (va_up it I x k) := fun k hk => by
        by_cases e : k = I
        · subst e; rw [va_up_s]; exact ⟨a1, a7⟩
        · rw [va_up_n _ _ e]
          obtain ⟨s1, s2, s3, s4⟩ := hs k (by omega)
          refine ⟨s1, ?_⟩
          unfold StI
          rw [a8.2 31 k e, a8.2 32 k e, a8.2 33 k e, a8.2 34 k e]; exact ⟨s2, s3, s4⟩
      have hM0 : m_readsAll_l12 (fv + 1 + 1) true τ = if (if q < N then tl j σ0 q else -1) = 59 then m_readsAll_l12 (fv + 1) true (sI (sI τ' 37 (nI (I + 1))) 35 (nI (q + 1))) else m_readsAll_l12 (fv + 1) false (sI τ' 37 (nI (I + 1))) := by
        rw [m_readsAll_l12, if_pos rfl, a4, Option.bind_some, if_pos rfl]
        rw [show sI (true, τ').2 37 (mI (true, τ').2 37 + 1) = sI τ' 37 (nI (I + 1)) from by rw [hI', nI_1], show mI (true, τ').2 35 = nI q from a5.2.2.2.1, sign_T hx F2 (by omega), Option.bind_some]
        unfold m_readsAll_b69
        by_cases e : (if q < N then tl j σ0 q else -1) = 59
        · rw [if_pos e, if_pos e]
          have hqN : q < N := by
            by_cases c : q < N
            · exact c
            · rw [if_neg c] at e; exact absurd e (by decide)
          rw [show mI ((if q < N then tl j σ0 q else -1, sI τ' 37 (nI (I + 1))) : Int32 × MS).2 38 = nI j from (F2.2.2.1 38 (by decide) (by decide)).trans hx.2.2.2.1, P_in hx.1 (by decide), if_pos rfl, P_ix (show j < 2 ^ 31 by have := hx.1; omega)]
          rw [show mA ((if q < N then tl j σ0 q else -1, sI τ' 37 (nI (I + 1))) : Int32 × MS).2 29 j = nI N from (congrFun (F2.2.2.2 29 (by omega)) j).trans hx.2.2.2.2.1, show mI ((if q < N then tl j σ0 q else -1, sI τ' 37 (nI (I + 1))) : Int32 × MS).2 35 = nI q from m35, if_neg (fun z => absurd ((P_le (by omega) (by omega)).mp z) (by omega)), if_pos rfl, nI_1]
        · rw [if_neg e, if_neg e, if_neg (show ¬ false = true by decide)]
      rw [hC0, a3, Option.bind_some, if_pos rfl, hM0]
      rw [show cI (true, σ').2 9 2 = nI q from a5.2.2.1, show cI (true, σ').2 (58 + j) 2 = nI N from hsz σ' a5.1]
      by_cases e : q = N
      · have hne : ¬ (if q < N then tl j σ0 q else -1) = 59 := by rw [if_neg (by omega)]; decide
        rw [if_pos (by rw [e]), if_neg hne, b87_T hx hq F2 m35, decide_eq_true e]
        refine Or.inl ⟨I + 1, va_up it I x, σ', sI τ' 37 (nI (I + 1)), by omega, rfl, rfl, a5.1, F2, a5.2.2.2.2.2, hF', rfl, hS'⟩
      · rw [if_neg (P_ne (by omega) (by omega) e)]
        unfold cQ_readSign
        rw [show cI (true, σ').2 9 2 = nI q from a5.2.2.1, stands_T hx (σ := (true, σ').2) a5.1 (by omega), Option.bind_some]
        by_cases e9 : tl j σ0 q = 59
        · have hyes : (if q < N then tl j σ0 q else -1) = 59 := by rw [if_pos (by omega)]; exact e9
          rw [decide_eq_true ⟨by omega, e9⟩, if_pos rfl, if_pos hyes, Option.bind_some, if_pos rfl]
          have h' : RB σ0 τ0 N (q + 1) (tI σ' 9 2 (nI (q + 1))) (sI (sI τ' 37 (nI (I + 1))) 35 (nI (q + 1))) := ⟨a5.1.at tI_o (by omega) (by omega), F2.p35 _, cI_s, rfl, by omega, (cI_k (by decide)).trans a5.2.2.2.2.2⟩
          have rec1 := all_L hx (fv + 1) (q + 1) (I + 1) (va_up it I x) _ _ h' (hF'.cong (tI_o 10 (by decide)) (tI_o 11 (by decide)) (tI_o 12 (by decide))) rfl (by omega) hS' (by omega)
          rw [nI_1, show cI (true, σ').2 9 2 + 1 = nI (q + 1) from by rw [show cI (true, σ').2 9 2 = nI q from a5.2.2.1, nI_1]]
          exact rec1
        · have hno : ¬ (if q < N then tl j σ0 q else -1) = 59 := by rw [if_pos (by omega)]; exact e9
          rw [decide_eq_false (fun z => e9 z.2), if_neg (show ¬ false = true by decide), Option.bind_some, if_neg (show ¬ false = true by decide), if_neg hno, b87_T hx hq F2 m35, decide_eq_false e]
          rw [show cI (true, σ').2 9 2 = nI q from a5.2.2.1]
          exact Or.inr ⟨q, tI σ' 9 1 (nI q), sI τ' 37 (nI (I + 1)), rfl, rfl, cI_s, m35, a5.1.at tI_o (by omega) (by omega), F2⟩
    · refine Or.inr ⟨f, σ', τ', ?_, ?_, a3, a4, a5, a6⟩
      · rw [hC0, a1, Option.bind_some, if_neg (show ¬ false = true by decide)]
      · rw [m_readsAll_l12, if_pos rfl, a2, Option.bind_some, if_neg (show ¬ false = true by decide)]
theorem PW.apps (h : PW P) {it : Nat → IT} : ∀ n, (∀ k, k < n → xOkI (it k)) → PW (xApps P it n)
  | 0, _ => h
  | n + 1, hk => (PW.apps h n (fun k q => hk k (by omega))).app (hk n (Nat.lt_succ_self n))
theorem hold_L {it : Nat → IT} {n : Nat} (hn : n ≤ 60) {τb : MS} (h37 : mI τb 37 = nI n) (hs : ∀ k, k < n → xOkI (it k) ∧ StI τb k (it k)) : ∀ (r k fu : Nat) (τ : MS), SetM (xApps P it k) τ → FrH τb τ → k + r = n → r < fu → ∃ τ', m_read_l50 fu (nI k) τ = some (nI n, τ') ∧ SetM (xApps P it n) τ' ∧ FrH τb τ'
  | r, k, 0, _, _, _, _, h3 => by omega
  | 0, k, fu + 1, τ, h, hf, h2, _ => by
    have e : k = n := by omega
    subst e
    refine ⟨τ, ?_, h, hf⟩
    rw [m_read_l50, show mI τ 37 = nI k from (hf.2.2.1 37 (by omega)).trans h37, if_pos ((P_le (by omega) (by omega)).mpr (Nat.le_refl k))]
  | r + 1, k, fu + 1, τ, h, hf, h2, h3 => by
    obtain ⟨s1, s2, s3, s4⟩ := hs k (by omega)
    have st : StI τ k (it k) := by
      unfold StI
      rw [hf.2.2.2 31 (by omega), hf.2.2.2 32 (by omega), hf.2.2.2 33 (by omega), hf.2.2.2 34 (by omega)]; exact ⟨s2, s3, s4⟩
    obtain ⟨τ1, b1, b2, b3⟩ := app_M h (k := k) (by omega) s1 st
    obtain ⟨τ', c1, c2, c3⟩ := hold_L hn h37 hs r (k + 1) fu τ1 b2 (hf.tr b3) (by omega) (by omega)
    refine ⟨τ', ?_, c2, c3⟩
    rw [m_read_l50, show mI τ 37 = nI n from (hf.2.2.1 37 (by omega)).trans h37, if_neg (fun z => absurd ((P_le (by omega) (by omega)).mp z) (by omega)), b1, Option.bind_some, nI_1]
    exact c1
end Al
theorem st7 : St7 Rel := by
  rintro p1 σ τ ⟨P, sd, h⟩
  have h' := h
  obtain ⟨hw, hSH, hRF, hF, hM, h9, ⟨i1, i2⟩, h6, h8, h10⟩ := h'
  obtain ⟨v, l1, l2, l3⟩ := lack hSH p1
  have z00 : nI 0 = 0 := rfl
  have z01 : nI 1 = 1 := rfl
  have NO : ∀ w : Int32, v = w → ¬ w = 0 → inB (-w) 8 = true → ∃ r σ' τ', cP_read p1 σ = some (r, σ') ∧ m_read p1 τ = some (r, τ') ∧ Rel σ' τ' := fun w e e0 e8 => by
    subst e
    unfold cP_read m_read
    rw [l1, l2, Option.bind_some, Option.bind_some, if_neg e0, if_neg e0]
    exact h.no' v e8
  rcases l3 with ⟨e, -⟩ | ⟨j, hj, rfl, ⟨e, -⟩ | ⟨e, -⟩ | ⟨e, t, N, R⟩⟩
  · exact NO (-1) e (by decide) (by decide)
  · exact NO (-2) e (by decide) (by decide)
  · exact NO (-3) e (by decide) (by decide)
  · subst e
    obtain ⟨r1, r2, r3, r4, r5, r6, r7, r8⟩ := R
    obtain ⟨σ1, a1, a2, a3⟩ := take_C (q := 10) (q2 := 3) (by omega) hF
    have hs2 : ∀ c, c < 9 ∨ 13 < c → sl (tI (tI σ1 9 1 (-1)) 9 2 0) c = sl σ c := fun c hc => (tI_o c (by omega)).trans ((tI_o c (by omega)).trans (a3 c (by omega) (by omega) (by omega)))
    have hx : TX j N (tI (tI σ1 9 1 (-1)) 9 2 0) (sI (sI (sI (sI τ 38 (nI j)) 36 (-1)) 35 0) 37 0) := ⟨hj, r2, (sl_I (hs2 (58 + j) (by omega)) 2).trans r6, rfl, r7, fun i hi => by
      rw [sl_B (hs2 (66 + j) (by omega))]; exact r8 i hi⟩
    have hB : RB (tI (tI σ1 9 1 (-1)) 9 2 0) (sI (sI (sI (sI τ 38 (nI j)) 36 (-1)) 35 0) 37 0) N 0 (tI (tI σ1 9 1 (-1)) 9 2 0) (sI (sI (sI (sI τ 38 (nI j)) 36 (-1)) 35 0) 37 0) := ⟨fun _ _ => rfl, FT.rf, cI_s, rfl, Nat.zero_le _, (cI_k (by decide)).trans cI_s⟩
    have hF10 : SetF 10 (xApps P (fun _ => (0, 0, 0, 0)) 0) sd (tI (tI σ1 9 1 (-1)) 9 2 0) := a2.cong ((tI_o 10 (by decide)).trans (tI_o 10 (by decide))) ((tI_o 11 (by decide)).trans (tI_o 11 (by decide))) ((tI_o 12 (by decide)).trans (tI_o 12 (by decide)))
    have K := all_L (P := P) (sd := sd) hx 4096 0 0 (fun _ => (0, 0, 0, 0)) _ _ hB hF10 rfl (by omega) (fun k hk => absurd hk (Nat.not_lt_zero k)) (by omega)
    rw [Nat.zero_add, z01] at K
    have hC : cP_read (nI j) σ = (cQ_readItems j σ1).bind fun a3 => if a3.1 = (-1) then ((cP_refuse (-6) (tI a3.2 0 6 (cI a3.2 9 1))).bind fun a6 => some (a6.1, a6.2)) else ((cS_takeFrom 3 10 (tI a3.2 0 6 (cI a3.2 9 1))).bind fun a4 => (cP_forgetRuns a4.2).bind fun a5 => some (a3.1, a5.2)) := by
      unfold cP_read
      rw [l1, Option.bind_some, if_pos rfl, a1, Option.bind_some, P_in hj (by decide), if_pos rfl, P_ix (show j < 2 ^ 31 by omega)]
    have hD : m_read (nI j) τ = (m_readsAll (sI (sI τ 38 (nI j)) 36 (-1))).bind fun a2 => if a2.1 = true then m_read_l50 4096 0 a2.2 else ((m_no (-6) (sI a2.2 36 (mI a2.2 35))).bind fun a3 => some (a3.1, a3.2)) := by
      unfold m_read
      rw [l2, Option.bind_some, if_pos rfl]
    rcases K with ⟨n, it, σ', τ', n1, c1, c2, c3, c4, c5, c6, c7, c8⟩ | ⟨f, σ', τ', c1, c2, c3, c4, c5, c6⟩
    · have eC : cQ_readItems j σ1 = some (nI n, σ') := c1
      have eD : m_readsAll (sI (sI τ 38 (nI j)) 36 (-1)) = some (true, τ') := c2
      have hsC : ∀ c, c < 9 ∨ 13 < c → sl σ' c = sl σ c := fun c hc => (c3 c hc).trans (hs2 c hc)
      have hI : ∀ k, k ≠ 35 → k ≠ 36 → k ≠ 37 → k ≠ 38 → mI τ' k = mI τ k := fun k k1 k2 k3 k4 => (c4.2.2.1 k k1 k3).trans ((va_up_n _ _ k3).trans ((va_up_n _ _ k1).trans ((va_up_n _ _ k2).trans (va_up_n _ _ k4))))
      have hA : ∀ k, k < 31 ∨ 34 < k → mA τ' k = mA τ k := fun k hk => c4.2.2.2 k hk
      have hM' : SetM (xApps P it 0) τ' := by
        show SetM P τ'
        unfold SetM
        rw [hI 5 (by decide) (by decide) (by decide) (by decide), hI 6 (by decide) (by decide) (by decide) (by decide), hI 7 (by decide) (by decide) (by decide) (by decide), hI 8 (by decide) (by decide) (by decide) (by decide), hA 1 (by omega), hA 2 (by omega), hA 3 (by omega), hA 4 (by omega)]
        exact hM
      obtain ⟨τ2, d1, d2, d3⟩ := hold_L (P := P) n1 c7 c8 n 0 4096 τ' hM' FrH.rf (by omega) (by omega)
      rw [z00] at d1
      have hF3 : SetF 10 (xApps P it n) sd (tI σ' 0 6 (-1)) := c6.cong (tI_o 10 (by decide)) (tI_o 11 (by decide)) (tI_o 12 (by decide))
      obtain ⟨σ4, e1, e2, e3⟩ := take_C (q := 3) (q2 := 10) (by omega) hF3
      refine ⟨nI n, tZ (tZ σ4 0 8 false) 0 10 false, τ2, ?_, ?_, xApps P it n, sd, ?_⟩
      · rw [hC, eC, Option.bind_some, if_neg (show ¬ nI n = -1 from qneg_ne (by omega))]
        rw [show cI (nI n, σ').2 9 1 = -1 from c5]
        rw [e1, Option.bind_some]
        rfl
      · rw [hD, eD, Option.bind_some, if_pos rfl]; exact d1
      · have s0 := e3 0 (by decide) (by decide) (by decide)
        refine h.set2 (PW.apps hw n (fun k hk => (c8 k hk).1)) (fun c q1 q2 q3 => (e3 c (by omega) (by omega) (by omega)).trans ((tI_o c q1).trans (hsC c (by omega)))) ((sl_Z s0 4).trans (sl_Z (hsC 0 (by omega)) 4)) ?_ e2 d2 ?_ ?_ (d3.2.1.trans c4.2.1) ?_ ?_ ?_ ?_
        · rw [sl_I s0 6, cI_s]
          exact ((d3.2.2.1 36 (by omega)).trans (c4.2.2.1 36 (by decide) (by decide))).symm
        · exact (d3.2.2.1 9 (by omega)).trans ((hI 9 (by decide) (by decide) (by decide) (by decide)).trans h9)
        · exact (congrFun d3.1 40).trans (congrFun c4.1 40)
        · exact (d3.2.2.2 0 (by omega)).trans (hA 0 (by omega))
        · exact (d3.2.2.2 28 (by omega)).trans (hA 28 (by omega))
        · exact (d3.2.2.2 29 (by omega)).trans (hA 29 (by omega))
        · exact (d3.2.2.2 39 (by omega)).trans (hA 39 (by omega))
    · have eC : cQ_readItems j σ1 = some (-1, σ') := c1
      have eD : m_readsAll (sI (sI τ 38 (nI j)) 36 (-1)) = some (false, τ') := c2
      have hsC : ∀ c, c < 9 ∨ 13 < c → sl σ' c = sl σ c := fun c hc => (c5 c hc).trans (hs2 c hc)
      have hI : ∀ k, k ≠ 35 → k ≠ 36 → k ≠ 37 → k ≠ 38 → mI τ' k = mI τ k := fun k k1 k2 k3 k4 => (c6.2.2.1 k k1 k3).trans ((va_up_n _ _ k3).trans ((va_up_n _ _ k1).trans ((va_up_n _ _ k2).trans (va_up_n _ _ k4))))
      have hA : ∀ k, k < 31 ∨ 34 < k → mA τ' k = mA τ k := fun k hk => c6.2.2.2 k hk
      have hR : RelP P sd (tI σ' 0 6 (nI f)) (sI τ' 36 (nI f)) := by
        have hs3 : ∀ c, c ≠ 0 → c < 9 ∨ 13 < c → sl (tI σ' 0 6 (nI f)) c = sl σ c := fun c q1 q2 => (tI_o c q1).trans (hsC c q2)
        have s0 := hsC 0 (by omega)
        refine ⟨hw, (hSH.cells (fun c hc => hs3 c (by omega) (by omega))).rows (hA 28 (by omega)) (hA 29 (by omega)) c6.2.1, ?_, hF.cong (hs3 3 (by omega) (by omega)) (hs3 4 (by omega) (by omega)) (hs3 5 (by omega) (by omega)), ?_, (hI 9 (by decide) (by decide) (by decide) (by decide)).trans h9, ⟨?_, fun q => ?_⟩, cI_s, fun q => ?_, fun q => ?_⟩
        · unfold RF
          rw [sl_A (hs3 2 (by omega) (by omega)), show mA (sI τ' 36 (nI f)) 0 = mA τ 0 from hA 0 (by omega)]; exact hRF
        · show SetM P τ'
          unfold SetM
          rw [hI 5 (by decide) (by decide) (by decide) (by decide), hI 6 (by decide) (by decide) (by decide) (by decide), hI 7 (by decide) (by decide) (by decide) (by decide), hI 8 (by decide) (by decide) (by decide) (by decide), hA 1 (by omega), hA 2 (by omega), hA 3 (by omega), hA 4 (by omega)]
          exact hM
        · exact (sl_Z s0 4).trans (i1.trans (congrFun c6.1 40).symm)
        · obtain ⟨P2, sd2, b1, b2, b3⟩ := i2 ((sl_Z s0 4).symm.trans q)
          refine ⟨P2, sd2, b1, b2.cong (hs3 6 (by omega) (by omega)) (hs3 7 (by omega) (by omega)) (hs3 8 (by omega) (by omega)), ?_⟩
          unfold KeptM
          rw [show mA (sI τ' 36 (nI f)) 39 = mA τ 39 from hA 39 (by omega)]; exact b3
        · exact (h8 ((sl_Z s0 8).symm.trans q)).cong (fun c q1 q2 => hs3 c (by omega) (by omega))
        · have := h10 ((sl_Z s0 10).symm.trans q)
          unfold TriC
          rw [show cG (tI σ' 0 6 (nI f)) 0 11 = cG σ 0 11 from sl_G s0 11, show cG (tI σ' 0 6 (nI f)) 0 12 = cG σ 0 12 from sl_G s0 12]; exact this
      rw [hC, hD, eC, eD, Option.bind_some, Option.bind_some, if_pos rfl, if_neg (show ¬ false = true by decide)]
      rw [show cI ((-1 : Int32), σ').2 9 1 = nI f from c3, show mI (false, τ').2 35 = nI f from c4]
      exact hR.no' (-6) (by decide)
