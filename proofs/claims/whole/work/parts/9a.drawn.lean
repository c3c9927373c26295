/-! STEPS: drawn; the beginning -/
theorem draw_num (s : Int32) : ∃ j, j < 60 ∧ (s.toUInt32 >>> (Int32.toUInt32 16 &&& Int32.toUInt32 31)).toInt32 - ((s.toUInt32 >>> (Int32.toUInt32 16 &&& Int32.toUInt32 31)).toInt32) / 60 * 60 = nI j := by
  have e := pk_ushr s 16 16 (by decide)
  have hlt := s.toBitVec.isLt
  have e2 : (s.toUInt32 >>> (Int32.toUInt32 16 &&& Int32.toUInt32 31)).toInt32 = nI (s.toBitVec.toNat / 2 ^ 16) := by
    apply Int32.toBitVec_inj.mp
    apply BitVec.eq_of_toNat_eq
    rw [e]
    show _ = (BitVec.ofNat 32 _).toNat
    rw [BitVec.toNat_ofNat, Nat.mod_eq_of_lt (by omega)]
  refine ⟨s.toBitVec.toNat / 2 ^ 16 % 60, Nat.mod_lt _ (by decide), ?_⟩
  rw [e2, show (60 : Int32) = nI 60 from rfl, pk_rem (by omega) (by decide) (by decide)]
section Draw
variable {P0 : ZP} {sd0 : Int32} {σ0 : CS} {τ0' : MS}
theorem drawn_L (h0 : RelP P0 sd0 σ0 τ0') {n : Nat} (hn : n ≤ 20) : ∀ (r i fu : Nat) (P : ZP) (sd : Int32) (σ : CS) (τ : MS), PW P → SetF 3 P sd σ → (∀ c, c ≠ 3 → sl σ c = sl σ0 c) → SetM P τ → mI τ 9 = sd → FrS τ0' τ → mI τ 36 = mI τ0' 36 → i + r = n → r < fu →
    ∃ v σ' τ', cP_drawn_l20 fu (nI n) (nI i) σ = some (v, σ') ∧ m_drawn_l19 fu (nI n) (nI i) τ = some (v, τ') ∧ Rel σ' τ'
  | r, i, 0, _, _, _, _, _, _, _, _, _, _, _, _, h3 => by omega
  | 0, i, fu + 1, P, sd, σ, τ, hw, hF, hs, hM, h9, hf, h36, h2, _ => by
    refine ⟨nI (cntB (pl P) 60), tZ (tZ σ 0 8 false) 0 10 false, τ, ?_, ?_, P, sd, ?_⟩
    · rw [cP_drawn_l20, if_pos ((P_le (by omega) (by omega)).mpr (by omega))]
      unfold cP_drawn_b48 cP_forgetRuns
      rw [Option.bind_some, show cG (tZ (tZ σ 0 8 false) 0 10 false) 3 5 = cG σ 3 5 from rfl, count_C, Option.bind_some, hF.2.2.1.cnt]
    · rw [m_drawn_l19, if_pos ((P_le (by omega) (by omega)).mpr (by omega))]
      unfold m_drawn_b42
      rw [manyAll_M hM, Option.bind_some]
    · exact h0.set hw (fun c _ h2 _ => hs c (by omega)) (sl_Z (hs 0 (by decide)) 4) ((sl_I (hs 0 (by decide)) 6).trans (h0.2.2.2.2.2.2.2.1.trans h36.symm)) hF hM h9 hf
  | r + 1, i, fu + 1, P, sd, σ, τ, hw, hF, hs, hM, h9, hf, h36, h2, h3 => by
    obtain ⟨j, hj, hj2⟩ := draw_num (sd * 1103515245 + 12345)
    have hF1 : SetF 3 P (sd * 1103515245 + 12345) (tI σ 3 8 (sd * 1103515245 + 12345)) := by
      obtain ⟨⟨a1, a2, a3, a4, a5⟩, b1, b2, b3⟩ := hF
      refine ⟨⟨(cI_k (by decide)).trans a1, (cI_k (by decide)).trans a2, (cI_k (by decide)).trans a3, ?_, a5⟩, b1, b2, cI_s⟩
      rw [cI_k (show (4 : Nat) ≠ 8 by decide)]; exact a4
    obtain ⟨σ1, v1, v2, v3⟩ := hF1.loss hj true
    have d1 : cS_draw 3 60 σ = some (nI j, tI σ 3 8 (sd * 1103515245 + 12345)) := by
      unfold cS_draw
      rw [if_neg (by decide), if_neg (by decide), show cI σ 3 8 = sd from hF.2.2.2, show cI (tI σ 3 8 (sd * 1103515245 + 12345)) 3 8 = sd * 1103515245 + 12345 from cI_s, hj2]
    have d2 : m_draw 60 τ = some (nI j, sI τ 9 (sd * 1103515245 + 12345)) := by
      unfold m_draw
      rw [if_neg (by decide), h9, hj2]
    have hC : cP_drawn_l20 (fu + 1) (nI n) (nI i) σ = cP_drawn_l20 fu (nI n) (nI (i + 1)) σ1 := by
      rw [cP_drawn_l20, if_neg (fun q => absurd ((P_le (by omega) (by omega)).mp q) (by omega)), d1, Option.bind_some]
      rw [show cS_giveLoss 3 (nI j, tI σ 3 8 (sd * 1103515245 + 12345)).1 true (nI j, tI σ 3 8 (sd * 1103515245 + 12345)).2 = some ((), σ1) from v1, Option.bind_some, nI_1]
    have hD : m_drawn_l19 (fu + 1) (nI n) (nI i) τ = m_drawn_l19 fu (nI n) (nI (i + 1)) (sA (sI τ 9 (sd * 1103515245 + 12345)) 2 j 1) := by
      rw [m_drawn_l19, if_neg (fun q => absurd ((P_le (by omega) (by omega)).mp q) (by omega)), d2, Option.bind_some]
      rw [show inB (nI j, sI τ 9 (sd * 1103515245 + 12345)).1 60 = true from P_in hj (by decide), if_pos rfl, nI_1, show ix (nI j, sI τ 9 (sd * 1103515245 + 12345)).1 = j from P_ix (by omega)]
    rw [hC, hD]
    refine drawn_L h0 hn r (i + 1) fu (xLoss P j true) (sd * 1103515245 + 12345) σ1 _ hw v2 (fun c hc => (v3 c hc).trans ((tI_o c hc).trans (hs c hc))) ?_ rfl ((hf.sI _ (by omega)).sA _ _ (by omega)) h36 (by omega) (by omega)
    exact SetM.loss (τ := sI τ 9 (sd * 1103515245 + 12345)) hM j true
end Draw
theorem st28 : St28 Rel := by
  rintro p1 σ τ ⟨P, sd, h⟩
  unfold cP_drawn m_drawn cP_drawn_b11
  rw [isIn_M, Option.bind_some]
  have h' := h
  obtain ⟨hw, hSH, hRF, hF, hM, h9, hI, h6, h8, h10⟩ := h'
  by_cases g1 : p1 < 1
  · rw [if_pos g1, out_in (Or.inl g1), if_neg (show ¬ false = true by decide)]; exact h.no' (-6) (by decide)
  · by_cases g2 : p1 ≤ 20
    · obtain ⟨n, n1, n2, rfl⟩ := put_num (a := 1) (b := 20) (by omega) (by omega) g1 (Int32.not_lt.mpr g2) (by omega)
      rw [if_neg g1, if_pos g2, decide_eq_true (show (1 : Int32) ≤ nI n from Int32.not_lt.mp g1), decide_eq_true g2, if_pos (show (true && true) = true from rfl)]
      obtain ⟨v, σ', τ', a1, a2, a3⟩ := drawn_L h n2 n 0 4096 P sd σ τ hw hF (fun _ _ => rfl) hM h9 FrS.rf rfl (by omega) (by omega)
      have z00 : nI 0 = 0 := rfl
      rw [z00] at a1 a2
      exact ⟨v, σ', τ', a1, a2, a3⟩
    · rw [if_neg g1, if_neg g2, out_in (Or.inr (Int32.not_le.mp g2)), if_neg (show ¬ false = true by decide)]; exact h.no' (-6) (by decide)
/-- as it is made -/
theorem rel0 : Rel σ0 τ0 := by
  refine ⟨(3, 2, 4, false, fun _ => true, fun _ => false, fun _ => none), 1, ⟨by decide, by decide, Or.inl rfl, by decide, by decide, fun s d u q => by cases (show none = some (d, u) from q)⟩, fun i hi => Or.inl ?_, fun i hi => rfl, ⟨⟨rfl, rfl, rfl, fun p h1 h2 => ?_, fun s hs => ⟨fun _ => ?_, fun d u q => by cases (show none = some (d, u) from q)⟩⟩, rfl, fun m hm => ?_, rfl⟩, ⟨rfl, rfl, rfl, rfl, fun p h1 h2 => ?_, fun m hm => rfl, fun s hs => ⟨fun _ => ?_, fun d u q => by cases (show none = some (d, u) from q)⟩⟩, rfl, ⟨rfl, fun q => by cases (show false = true from q)⟩, rfl, fun q => (by cases (show false = true from q)), fun q => (by cases (show false = true from q))⟩
  · rcases lt8 hi with rfl | rfl | rfl | rfl | rfl | rfl | rfl | rfl <;> exact ⟨rfl, rfl⟩
  · have : p = 1 ∨ p = 2 ∨ p = 3 ∨ p = 4 ∨ p = 5 := by omega
    rcases this with rfl | rfl | rfl | rfl | rfl <;> decide +kernel
  · rcases lt6 hs with rfl | rfl | rfl | rfl | rfl | rfl <;> exact ⟨rfl, rfl⟩
  · show BitVec.getLsbD 0#64 m = _
    simp
  · have : p = 1 ∨ p = 2 ∨ p = 3 ∨ p = 4 ∨ p = 5 := by omega
    rcases this with rfl | rfl | rfl | rfl | rfl <;> rfl
  · rcases lt6 hs with rfl | rfl | rfl | rfl | rfl | rfl <;> rfl
