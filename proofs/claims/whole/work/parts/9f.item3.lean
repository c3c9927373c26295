/-! STEPS: a text is read: downs; any item -/
section It3
variable {j N : Nat} {σ0 : CS} {τ0 : MS}
theorem l14_no1 {σ σ' : CS} {w fu : Nat} {x3 : Int32} (hw : w < 11) (hn : ¬ itemNum.getD w 0 ≤ x3) (hs : cQ_readSign j 32 σ = some (false, σ')) : cQ_readItem_l14 j (fu + 1) w x3 σ = some (false, σ') := by
  rw [cQ_readItem_l14, if_pos hw, if_neg hn, hs, Option.bind_some, if_neg (show ¬ false = true by decide)]
theorem l14_no2 {σ σ1 σ' : CS} {w fu : Nat} {x3 lo hi : Int32} (hw : w < 11) (hn : ¬ itemNum.getD w 0 ≤ x3) (hs : cQ_readSign j 32 σ = some (true, σ1)) (hl : cQ_lowest w x3 σ1 = some (lo, σ1)) (hh : cQ_highest w x3 σ1 = some (hi, σ1)) (hr : cQ_readNumber j x3 lo hi σ1 = some (false, σ')) : cQ_readItem_l14 j (fu + 1) w x3 σ = some (false, σ') := by
  rw [cQ_readItem_l14, if_pos hw, if_neg hn, hs, Option.bind_some, if_pos rfl, hl, Option.bind_some, hh, Option.bind_some, hr, Option.bind_some, if_neg (show ¬ false = true by decide)]
theorem l14_ok {σ σ1 σ' : CS} {w fu : Nat} {x3 lo hi : Int32} (hw : w < 11) (hn : ¬ itemNum.getD w 0 ≤ x3) (hs : cQ_readSign j 32 σ = some (true, σ1)) (hl : cQ_lowest w x3 σ1 = some (lo, σ1)) (hh : cQ_highest w x3 σ1 = some (hi, σ1)) (hr : cQ_readNumber j x3 lo hi σ1 = some (true, σ')) : cQ_readItem_l14 j (fu + 1) w x3 σ = cQ_readItem_l14 j fu w (x3 + 1) σ' := by
  rw [cQ_readItem_l14, if_pos hw, if_neg hn, hs, Option.bind_some, if_pos rfl, hl, Option.bind_some, hh, Option.bind_some, hr, Option.bind_some, if_pos rfl]
section Dn
variable {τ τ1 τ2 τ3 : MS} {I a b : Nat}
theorem down_1 (hI6 : I < 60) (hI : mI τ 37 = nI I) (h1 : m_readsNumber 0 5 τ = some (-1, τ1)) (hI1 : mI τ1 37 = nI I) : m_readsDown τ = some (false, sA τ1 32 I (-1)) := by
  unfold m_readsDown
  rw [h1, Option.bind_some, hI, P_in hI6 (by decide), if_pos rfl, hI1, P_in hI6 (by decide), if_pos rfl, P_ix (show I < 2 ^ 31 by omega), mA_s, if_neg (show ¬ (0 : Int32) ≤ -1 by decide)]
theorem down_2 (hI6 : I < 60) (hI : mI τ 37 = nI I) (h1 : m_readsNumber 0 5 τ = some (nI a, τ1)) (ha : a < 100) (hI1 : mI τ1 37 = nI I) (h2 : m_readsNumber 0 60 (sA τ1 32 I (nI a)) = some (-1, τ2)) (hI2 : mI τ2 37 = nI I) : m_readsDown τ = some (false, sA τ2 33 I (-1)) := by
  unfold m_readsDown
  rw [h1, Option.bind_some, hI, P_in hI6 (by decide), if_pos rfl, hI1, P_in hI6 (by decide), if_pos rfl, P_ix (show I < 2 ^ 31 by omega), mA_s, if_pos (nI_pos' (by omega)), h2, Option.bind_some, if_pos rfl, hI2, P_in hI6 (by decide), if_pos rfl, P_ix (show I < 2 ^ 31 by omega), mA_s, if_neg (show ¬ (0 : Int32) ≤ -1 by decide)]
theorem down_3 (hI6 : I < 60) (hI : mI τ 37 = nI I) (h1 : m_readsNumber 0 5 τ = some (nI a, τ1)) (ha : a < 100) (hI1 : mI τ1 37 = nI I) (h2 : m_readsNumber 0 60 (sA τ1 32 I (nI a)) = some (nI b, τ2)) (hb : b < 100) (hI2 : mI τ2 37 = nI I) {z : Int32} (h3 : m_readsNumber (nI (b + 1)) 60 (sA τ2 33 I (nI b)) = some (z, τ3)) (hI3 : mI τ3 37 = nI I) : m_readsDown τ = if z < 0 then some (false, sA τ3 34 I z) else some (true, sA τ3 34 I z) := by
  unfold m_readsDown
  rw [h1, Option.bind_some, hI, P_in hI6 (by decide), if_pos rfl, hI1, P_in hI6 (by decide), if_pos rfl, P_ix (show I < 2 ^ 31 by omega), mA_s, if_pos (nI_pos' (by omega)), h2, Option.bind_some, if_pos rfl, hI2, P_in hI6 (by decide), if_pos rfl, P_ix (show I < 2 ^ 31 by omega), mA_s, if_pos (nI_pos' (by omega)), if_pos rfl, nI_1, h3, Option.bind_some, if_pos rfl, hI3, P_in hI6 (by decide), if_pos rfl, P_ix (show I < 2 ^ 31 by omega), mA_s]
end Dn
theorem down_B (hx : TX j N σ0 τ0) {P : ZP} {sd : Int32} {σ : CS} {τ : MS} {p I : Nat} (h : RB σ0 τ0 N p σ τ) (hF : SetF 10 P sd σ) (hI : mI τ 37 = nI I) (hI6 : I < 60) (h31 : mA τ 31 I = nI 7) (fu : Nat) : ItO σ0 τ0 N p I P sd τ (cQ_readItem_l14 j (fu + 4) 7 0 σ) (m_readsDown τ) := by
  have z0 : nI 0 = 0 := rfl
  have z1 : (0 : Int32) + 1 = nI 1 := rfl
  have z2 : nI 1 + 1 = nI 2 := rfl
  have z3 : nI 2 + 1 = nI 3 := rfl
  have e0 : ¬ itemNum.getD 7 0 ≤ 0 := by decide
  have e1 : ¬ itemNum.getD 7 0 ≤ nI 1 := by decide
  have e2 : ¬ itemNum.getD 7 0 ≤ nI 2 := by decide
  have lo0 : ∀ σ : CS, cQ_lowest 7 0 σ = some (nI 0, σ) := fun _ => rfl
  have hi0 : ∀ σ : CS, cQ_highest 7 0 σ = some (nI 5, σ) := fun _ => rfl
  have lo1 : ∀ σ : CS, cQ_lowest 7 (nI 1) σ = some (nI 0, σ) := fun _ => rfl
  have hi1 : ∀ σ : CS, cQ_highest 7 (nI 1) σ = some (nI 60, σ) := fun _ => rfl
  have lo2 : ∀ (σ : CS) (b : Nat), cA σ 13 1 = nI b → cQ_lowest 7 (nI 2) σ = some (nI (b + 1), σ) := fun σ b hb => by
    unfold cQ_lowest
    rw [if_neg (by decide), if_neg (by decide), if_pos (show inB 1 3 = true from rfl), show cA σ 13 (ix 1) = nI b from hb, nI_1]
  have hi2 : ∀ σ : CS, cQ_highest 7 (nI 2) σ = some (nI 60, σ) := fun _ => rfl
  rcases one_B hx h (k := 0) (lo := 0) (hi := 5) (by omega) (by omega) (by omega) hI with ⟨σ', a1, a2, a3, a4, a5⟩ | ⟨σ1, σ', τ', a1, a2, a3, a4, a5, a6, a7, a8, a9⟩ | ⟨v, q, σ1, σ', τ', v1, v2, v3, a1, a2, a3, a4, a5, a6, a7, a8⟩
  · exact Or.inr ⟨p, σ', _, l14_no1 (by decide) e0 a1, down_1 hI6 hI a4 hI, a2, a5, a3, h.2.1.row _ _ (by omega) (by omega)⟩
  · exact Or.inr ⟨p + 1, σ', _, l14_no2 (by decide) e0 a1 (lo0 σ1) (hi0 σ1) a3, down_1 hI6 hI a6 a8, a4, a7, a5, a9.row _ _ (by omega) (by omega)⟩
  · have hI1 : mI τ' 37 = nI I := (a8.1 37 (by decide)).trans hI
    have h1 : RB σ0 τ0 N q σ' (sA τ' 32 I (nI v)) := ⟨a5.1, a5.2.1.row _ _ (by omega) (by omega), a5.2.2⟩
    have c1 : cQ_readItem_l14 j (fu + 4) 7 0 σ = cQ_readItem_l14 j (fu + 3) 7 (nI 1) σ' := by
      rw [← z1]; exact l14_ok (by decide) e0 a1 (lo0 σ1) (hi0 σ1) a3
    rw [c1]
    rcases one_B hx h1 (k := 1) (lo := 0) (hi := 60) (by omega) (by omega) (by omega) hI1 with ⟨σ2, b1, b2, b3, b4, b5⟩ | ⟨σ3, σ2, τ2, b1, b2, b3, b4, b5, b6, b7, b8, b9⟩ | ⟨u, q2, σ3, σ2, τ2, u1, u2, u3, b1, b2, b3, b4, b5, b6, b7, b8⟩
    · exact Or.inr ⟨q, σ2, _, l14_no1 (by decide) e1 b1, down_2 hI6 hI a4 (by omega) hI1 b4 hI1, b2, b5, b3, h1.2.1.row _ _ (by omega) (by omega)⟩
    · exact Or.inr ⟨q + 1, σ2, _, l14_no2 (by decide) e1 b1 (lo1 σ3) (hi1 σ3) b3, down_2 hI6 hI a4 (by omega) hI1 b6 b8, b4, b7, b5, b9.row _ _ (by omega) (by omega)⟩
    · have hI2 : mI τ2 37 = nI I := (b8.1 37 (by decide)).trans hI1
      have h2 : RB σ0 τ0 N q2 σ2 (sA τ2 33 I (nI u)) := ⟨b5.1, b5.2.1.row _ _ (by omega) (by omega), b5.2.2⟩
      have c2 : cQ_readItem_l14 j (fu + 3) 7 (nI 1) σ' = cQ_readItem_l14 j (fu + 2) 7 (nI 2) σ2 := by
        rw [← z2]; exact l14_ok (by decide) e1 b1 (lo1 σ3) (hi1 σ3) b3
      rw [c2]
      have n1 : cA σ2 13 1 = nI u := by rw [b6]; exact pk_us
      rcases one_B hx h2 (k := 2) (lo := u + 1) (hi := 60) (by omega) (by omega) (by omega) hI2 with ⟨σ4, d1, d2, d3, d4, d5⟩ | ⟨σ5, σ4, τ4, d1, d2, d3, d4, d5, d6, d7, d8, d9⟩ | ⟨x, q3, σ5, σ4, τ4, x1, x2, x3, d1, d2, d3, d4, d5, d6, d7, d8⟩
      · refine Or.inr ⟨q2, σ4, _, l14_no1 (by decide) e2 d1, (down_3 hI6 hI a4 (by omega) hI1 b4 (by omega) hI2 d4 hI2).trans (if_pos (by decide)), d2, d5, d3, h2.2.1.row _ _ (by omega) (by omega)⟩
      · refine Or.inr ⟨q2 + 1, σ4, _, l14_no2 (by decide) e2 d1 (lo2 σ5 u (by rw [d2]; exact n1)) (hi2 σ5) d3, (down_3 hI6 hI a4 (by omega) hI1 b4 (by omega) hI2 d6 d8).trans (if_pos (by decide)), d4, d7, d5, d9.row _ _ (by omega) (by omega)⟩
      · have hI3 : mI τ4 37 = nI I := (d8.1 37 (by decide)).trans hI2
        have ok : xOkI (7, v, u, x) := ⟨show 7 < 11 by decide, fun _ => ⟨v1, v2⟩, fun _ => ⟨by show u < x; omega, x2⟩⟩
        have m0 : cA σ4 13 0 = nI v := by rw [d6, pk_un (by decide), b6, pk_un (by decide), a6]; exact pk_us
        have m1 : cA σ4 13 1 = nI u := by rw [d6, pk_un (by decide)]; exact n1
        have m2 : cA σ4 13 2 = nI x := by rw [d6]; exact pk_us
        have s10 : ∀ i, 10 ≤ i → i ≤ 12 → sl σ4 i = sl σ i := fun i g1 g2 => (d7 i g1 g2).trans ((b7 i g1 g2).trans (a7 i g1 g2))
        obtain ⟨σ6, f1, f2, f3⟩ := b61_C (j := j) (hF.cong (s10 10 (by omega) (by omega)) (s10 11 (by omega) (by omega)) (s10 12 (by omega) (by omega))) ok (fun _ => m0) (fun _ => ⟨m1, m2⟩)
        refine Or.inl ⟨(7, v, u, x), q3, σ6, sA τ4 34 I (nI x), ok, by omega, ?_, (down_3 hI6 hI a4 (by omega) hI1 b4 (by omega) hI2 d4 hI3).trans (if_neg (Int32.not_lt.mpr (nI_pos' (by omega)))), ?_, f2, ⟨?_, fun _ => ?_, fun _ => ⟨?_, mA_s⟩⟩, ?_⟩
        · rw [l14_ok (fu := fu + 1) (by decide) e2 d1 (lo2 σ5 u (by rw [d2]; exact n1)) (hi2 σ5) d3, z3, cQ_readItem_l14, if_pos (by decide), if_pos (by decide)]
          exact f1
        · have r := d5.upd10 (σ' := σ6) f3
          exact ⟨r.1, r.2.1.row _ _ (by omega) (by omega), r.2.2⟩
        · show mA τ4 31 I = _
          rw [d8.2 31]
          show mA τ2 31 I = _
          rw [b8.2 31]
          show mA τ' 31 I = _
          rw [a8.2 31]; exact h31
        · show mA τ4 32 I = _
          rw [d8.2 32]
          show mA τ2 32 I = _
          rw [b8.2 32]; exact mA_s
        · show mA τ4 33 I = _
          rw [d8.2 33]; exact mA_s
        · exact (KI.kr a8).tr ((KI.sA _).tr ((KI.kr b8).tr ((KI.sA _).tr ((KI.kr d8).tr (KI.sA _)))))
/-- how reading one item ends, with its word -/
def ItW (σ0 : CS) (τ0 : MS) (N p I : Nat) (P : ZP) (sd : Int32) (τ : MS) (c : Option (Bool × CS)) (m : Option (Bool × MS)) : Prop :=
  (∃ x q σ' τ', xOkI x ∧ p + 4 ≤ q ∧ c = some (true, σ') ∧ m = some (true, τ') ∧ RB σ0 τ0 N q σ' τ' ∧ SetF 10 (xApp P x) sd σ' ∧ StI τ' I x ∧ KI τ τ' I) ∨
  (∃ f σ' τ', c = some (false, σ') ∧ m = some (false, τ') ∧ cI σ' 9 1 = nI f ∧ mI τ' 35 = nI f ∧ FQ σ0 σ' ∧ FT τ0 τ')
theorem ItO.w {p p' I : Nat} {P : ZP} {sd : Int32} {τ τ1 : MS} {c : Option (Bool × CS)} {m : Option (Bool × MS)} (h : ItO σ0 τ0 N p' I P sd τ1 c m) (hp : p + 2 ≤ p') (k : KI τ τ1 I) : ItW σ0 τ0 N p I P sd τ c m := by
  rcases h with ⟨x, q, σ', τ', a1, a2, a3, a4, a5, a6, a7, a8⟩ | h
  · exact Or.inl ⟨x, q, σ', τ', a1, by omega, a3, a4, a5, a6, a7, k.tr a8⟩
  · exact Or.inr h
theorem ret_b {m : Option (Bool × MS)} : (m.bind fun a => some (a.1, a.2)) = m := by cases m <;> rfl
theorem item_B (hx : TX j N σ0 τ0) {P : ZP} {sd : Int32} {σ : CS} {τ : MS} {p I : Nat} (h : RB σ0 τ0 N p σ τ) (hF : SetF 10 P sd σ) (hI : mI τ 37 = nI I) (hI6 : I < 60) : ItW σ0 τ0 N p I P sd τ (cQ_readItem j σ) (m_readsItem τ) := by
  have z00 : nI 0 = 0 := rfl
  have hp := h.2.2.2.2.1
  rcases word_L hx h 11 0 4096 0 (by omega) (by omega) (by omega) (by omega) with ⟨w, hw, b1, b2, b3⟩ | ⟨m, b1, b2, b3⟩
  · rw [z00] at b2 b3
    have hl := wl_le w hw
    have h1 : RB σ0 τ0 N (p + wl w) (tI σ 9 2 (nI (p + wl w))) (sA (sI τ 35 (nI (p + wl w))) 31 I (nI w)) := ⟨h.1.at tI_o (by omega) (by omega), (h.2.1.p35 _).row _ _ (by omega) (by omega), cI_s, rfl, b1, (cI_k (by decide)).trans h.2.2.2.2.2⟩
    have hF1 : SetF 10 P sd (tI σ 9 2 (nI (p + wl w))) := hF.cong (tI_o 10 (by decide)) (tI_o 11 (by decide)) (tI_o 12 (by decide))
    have k1 : KI τ (sA (sI τ 35 (nI (p + wl w))) 31 I (nI w)) I := (KI.kr (KR.rf.p _)).tr (KI.sA _)
    have hC : cQ_readItem j σ = cQ_readItem_l14 j 4096 w 0 (tI σ 9 2 (nI (p + wl w))) := by
      unfold cQ_readItem
      rw [show cQ_readWord j σ = some (some w, tI σ 9 2 (nI (p + wl w))) from b2, Option.bind_some]
      show (if w < 11 then _ else none) = _
      rw [if_pos hw]
    have m31 : mA (sA (sI τ 35 (nI (p + wl w))) 31 I (nI w)) 31 I = nI w := mA_s
    have hM : m_readsItem τ = sw (nI w) [((-1), 76, some (false, sA (sI τ 35 (nI (p + wl w))) 31 I (nI w))), (0, 78, m_readsItem_b78 (sA (sI τ 35 (nI (p + wl w))) 31 I (nI w))), (1, 85, (m_readsFirst 2 3 (sA (sI τ 35 (nI (p + wl w))) 31 I (nI w))).bind fun a2 => some (a2.1, a2.2)), (2, 92, (m_readsFirst 2 9 (sA (sI τ 35 (nI (p + wl w))) 31 I (nI w))).bind fun a3 => some (a3.1, a3.2)), (3, 78, m_readsItem_b78 (sA (sI τ 35 (nI (p + wl w))) 31 I (nI w))), (4, 78, m_readsItem_b78 (sA (sI τ 35 (nI (p + wl w))) 31 I (nI w))), (5, 100, m_readsItem_b100 (sA (sI τ 35 (nI (p + wl w))) 31 I (nI w))), (6, 100, m_readsItem_b100 (sA (sI τ 35 (nI (p + wl w))) 31 I (nI w))), (7, 108, (m_readsDown (sA (sI τ 35 (nI (p + wl w))) 31 I (nI w))).bind fun a4 => some (a4.1, a4.2)), (8, 113, (m_readsFirst 0 5 (sA (sI τ 35 (nI (p + wl w))) 31 I (nI w))).bind fun a5 => some (a5.1, a5.2))] (some (true, sA (sI τ 35 (nI (p + wl w))) 31 I (nI w))) := by
      unfold m_readsItem
      rw [show m_readsWord τ = some (nI w, sI τ 35 (nI (p + wl w))) from b3, Option.bind_some, hI, P_in hI6 (by decide), if_pos rfl, show mI (nI w, sI τ 35 (nI (p + wl w))).2 37 = nI I from hI, P_in hI6 (by decide), if_pos rfl, P_ix (show I < 2 ^ 31 by omega), m31]
    rw [hC, hM]
    unfold m_readsItem_b78 m_readsItem_b100
    rw [ret_b, ret_b, ret_b, ret_b, ret_b, ret_b]
    generalize hT : sA (sI τ 35 (nI (p + wl w))) 31 I (nI w) = τ1 at *
    have hI1 : mI τ1 37 = nI I := by rw [← hT]; exact hI
    have n1 : ∀ a b : Nat, a < 11 → b < 11 → a ≠ b → ¬ nI a = nI b := fun a b g1 g2 g3 => P_ne (by omega) (by omega) g3
    rcases w11 hw with rfl | rfl | rfl | rfl | rfl | rfl | rfl | rfl | rfl | rfl | rfl
    · exact (first_B hx h1 hF1 (w := 0) (by decide) (by decide) hI1 hI6 m31 4094).w (by omega) k1
    · exact (first_B hx h1 hF1 (w := 1) (by decide) (by decide) hI1 hI6 m31 4094).w (by omega) k1
    · exact (first_B hx h1 hF1 (w := 2) (by decide) (by decide) hI1 hI6 m31 4094).w (by omega) k1
    · exact (first_B hx h1 hF1 (w := 3) (by decide) (by decide) hI1 hI6 m31 4094).w (by omega) k1
    · exact (first_B hx h1 hF1 (w := 4) (by decide) (by decide) hI1 hI6 m31 4094).w (by omega) k1
    · exact (first_B hx h1 hF1 (w := 5) (by decide) (by decide) hI1 hI6 m31 4094).w (by omega) k1
    · exact (first_B hx h1 hF1 (w := 6) (by decide) (by decide) hI1 hI6 m31 4094).w (by omega) k1
    · exact (down_B hx h1 hF1 hI1 hI6 m31 4092).w (by omega) k1
    · exact (first_B hx h1 hF1 (w := 8) (by decide) (by decide) hI1 hI6 m31 4094).w (by omega) k1
    · have ok : xOkI (9, 0, 0, 0) := ⟨show 9 < 11 by decide, fun z => absurd (show 9 < 9 from z) (by decide), fun z => absurd (show 9 = 7 from z) (by decide)⟩
      obtain ⟨σ2, f1, f2, f3⟩ := b61_C (j := j) hF1 ok (fun z => absurd z (by decide)) (fun z => absurd z (by decide))
      have hn : ∀ fu, cQ_readItem_l14 j (fu + 1) 9 0 (tI σ 9 2 (nI (p + wl 9))) = cQ_readItem_b61 j 9 (tI σ 9 2 (nI (p + wl 9))) := fun fu => by
        rw [cQ_readItem_l14, if_pos (by decide), if_pos (by decide)]
      refine Or.inl ⟨(9, 0, 0, 0), p + wl 9, σ2, τ1, ok, ?_, (hn 4095).trans f1, rfl, h1.upd10 f3, f2, ⟨m31, fun z => absurd (show 9 < 9 from z) (by decide), fun z => absurd (show 9 = 7 from z) (by decide)⟩, k1⟩
      have : wl 9 = 7 := rfl
      omega
    · have ok : xOkI (10, 0, 0, 0) := ⟨show 10 < 11 by decide, fun z => absurd (show 10 < 9 from z) (by decide), fun z => absurd (show 10 = 7 from z) (by decide)⟩
      obtain ⟨σ2, f1, f2, f3⟩ := b61_C (j := j) hF1 ok (fun z => absurd z (by decide)) (fun z => absurd z (by decide))
      have hn : ∀ fu, cQ_readItem_l14 j (fu + 1) 10 0 (tI σ 9 2 (nI (p + wl 10))) = cQ_readItem_b61 j 10 (tI σ 9 2 (nI (p + wl 10))) := fun fu => by
        rw [cQ_readItem_l14, if_pos (by decide), if_pos (by decide)]
      refine Or.inl ⟨(10, 0, 0, 0), p + wl 10, σ2, τ1, ok, ?_, (hn 4095).trans f1, rfl, h1.upd10 f3, f2, ⟨m31, fun z => absurd (show 10 < 9 from z) (by decide), fun z => absurd (show 10 = 7 from z) (by decide)⟩, k1⟩
      have : wl 10 = 5 := rfl
      omega
  · rw [z00] at b2 b3
    refine Or.inr ⟨p + m, tI σ 9 1 (nI (p + m)), sA (sI τ 35 (nI (p + m))) 31 I (-1), ?_, ?_, cI_s, rfl, h.1.at tI_o (by omega) (by omega), (h.2.1.p35 _).row _ _ (by omega) (by omega)⟩
    · unfold cQ_readItem
      rw [show cQ_readWord j σ = some (none, tI σ 9 1 (nI (p + m))) from b2, Option.bind_some]
      rfl
    · unfold m_readsItem
      rw [show m_readsWord τ = some (-1, sI τ 35 (nI (p + m))) from b3, Option.bind_some, hI, P_in hI6 (by decide), if_pos rfl, show mI ((-1 : Int32), sI τ 35 (nI (p + m))).2 37 = nI I from hI, P_in hI6 (by decide), if_pos rfl, P_ix (show I < 2 ^ 31 by omega), mA_s]
      rfl
end It3
