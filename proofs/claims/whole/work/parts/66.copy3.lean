/-! PURE: copy, whole -/
theorem copy_sim {σ : CS} {τ : MS} (h : SH σ τ) (r : RF σ τ) (p1 p2 p3 p4 p5 : Int32) : SmI σ τ (cP_copy p1 p2 p3 p4 p5 σ) (m_copy p1 p2 p3 p4 p5 τ) := by
  obtain ⟨w, c1, d⟩ := copy_lack h p1 p2 p3 p4 p5
  unfold cP_copy m_copy
  rw [c1]
  simp only [Option.bind_some]
  rcases d with ⟨w0, win, e⟩ | ⟨rfl, j1, j2, t, n1, n2, hj1, hj2, rfl, rfl, R1, R2⟩
  · rw [if_neg w0, e]
    simp only [Option.bind_some]
    rw [if_neg w0]
    exact refuse_sim h r w win
  · have small : ¬ (200 : Int32) ≤ nI (100 + t) := fun q => by
      have a := R1.1
      exact absurd ((P_le (a := 200) (by omega) (by omega)).mp q) (by omega)
    have nz : ¬ nI (100 + t) = 0 := by
      have a := R1.1
      exact P_ne (b := 0) (by omega) (by omega) (by omega)
    have hn1 := R1.2.1
    have hn2 := R2.2.1
    have a28 := R1.2.2.2.2.1
    have b28 := R2.2.2.2.2.1
    have a2 := R1.2.2.2.2.2.1
    have b2 := R2.2.2.2.2.2.1
    have a29 := R1.2.2.2.2.2.2.1
    have b29 := R2.2.2.2.2.2.2.1
    rw [if_pos rfl, notCopied_M hj1 hj2]
    unfold m_notCopied_b54 cP_copy_b63
    rw [P_in hj1 (by decide), P_in hj2 (by decide), P_ix (show j1 < 2 ^ 31 by omega), P_ix (show j2 < 2 ^ 31 by omega), a28, b28, decide_eq_false (fun q => q.2.2 rfl)]
    simp only [if_true, small, nz, if_false, Bool.false_eq_true]
    by_cases g5 : p5 < 0
    · rw [if_neg (Int32.not_le.mpr g5), if_neg (Int32.not_le.mpr g5)]
      simp only [Option.bind_some]
      rw [if_neg (by decide)]
      exact refuse_sim h r (-4) (by decide)
    · obtain ⟨c, hc, rfl⟩ := nI_of g5
      rw [if_pos (Int32.not_lt.mp g5), if_pos (Int32.not_lt.mp g5), stretch_C hn1 hc a2]
      simp only [Option.bind_some, stretch_C hn2 hc b2, a29, b29]
      have s1 : (nI n1 - nI c).toInt = (n1 : Int) - c := by
        rw [Int32.toInt_sub, nI_toInt (by omega), nI_toInt hc, Int.bmod_eq_of_le_mul_two (by omega) (by omega)]
      have s2 : (nI n2 - nI c).toInt = (n2 : Int) - c := by
        rw [Int32.toInt_sub, nI_toInt (by omega), nI_toInt hc, Int.bmod_eq_of_le_mul_two (by omega) (by omega)]
      have z0 : (0 : Int32).toInt = 0 := rfl
      by_cases ok : (0 ≤ p3.toInt ∧ p3.toInt + c ≤ n1) ∧ (0 ≤ p4.toInt ∧ p4.toInt + c ≤ n2)
      · have l3 : ¬ p3 < 0 := fun q => by rw [Int32.lt_iff_toInt_lt] at q; omega
        have l4 : ¬ p4 < 0 := fun q => by rw [Int32.lt_iff_toInt_lt] at q; omega
        obtain ⟨a, ha, rfl⟩ := nI_of l3
        obtain ⟨b, hb, rfl⟩ := nI_of l4
        rw [nI_toInt ha, nI_toInt hb] at ok
        rw [if_neg l3, if_neg l4, if_neg (show ¬ nI n1 - nI c < nI a from fun q => by rw [Int32.lt_iff_toInt_lt, s1, nI_toInt ha] at q; omega), if_pos (show nI b ≤ nI n2 - nI c from by rw [Int32.le_iff_toInt_le, s2, nI_toInt hb]; omega), nI_toInt ha, nI_toInt hb, decide_eq_true ok.1, decide_eq_true ok.2]
        simp only [if_true, Option.bind_some]
        have e1 : (160 * nI j1) + nI a = nI (160 * j1 + a) := by rw [show (160 : Int32) = nI 160 from rfl, pk_mul, nI_add]
        have e2 : (160 * nI j2) + nI b = nI (160 * j2 + b) := by rw [show (160 : Int32) = nI 160 from rfl, pk_mul, nI_add]
        rw [e1, e2, P_ix ha, P_ix hb, P_ix hc, if_pos ⟨⟨Int32.not_lt.mp l3, Int32.not_lt.mp l4, Int32.not_lt.mp g5⟩, by omega, by omega⟩]
        obtain ⟨τ', m1, m2, m3, m4, m5⟩ := copy_M (c := c) (u := 160 * j1 + a) (v := 160 * j2 + b) (by omega) (by omega) τ
        rw [m1]
        exact ⟨1, _, τ', rfl, rfl, copy_S h r hj2 R1 R2 (by omega) (by omega) m2 m3 m4 m5⟩
      · have hr : (if p3 < 0 then some ((-5 : Int32), τ) else if p4 < 0 then some (-5, τ) else if nI n1 - nI c < p3 then some (-5, τ) else if p4 ≤ nI n2 - nI c then some (0, τ) else some (-5, τ)) = some (-5, τ) := by
          by_cases q1 : p3 < 0
          · rw [if_pos q1]
          · rw [if_neg q1]
            by_cases q2 : p4 < 0
            · rw [if_pos q2]
            · rw [if_neg q2]
              by_cases q3 : nI n1 - nI c < p3
              · rw [if_pos q3]
              · rw [if_neg q3, if_neg]
                intro q4
                rw [Int32.lt_iff_toInt_lt] at q1 q2 q3
                rw [Int32.le_iff_toInt_le] at q4
                omega
        rw [hr]
        simp only [Option.bind_some]
        rw [if_neg (show ¬ (-5 : Int32) = 0 by decide)]
        by_cases k1 : 0 ≤ p3.toInt ∧ p3.toInt + c ≤ n1
        · rw [decide_eq_true k1, decide_eq_false (fun k2 => ok ⟨k1, k2⟩)]
          exact refuse_sim h r (-5) (by decide)
        · rw [decide_eq_false k1]
          exact refuse_sim h r (-5) (by decide)
