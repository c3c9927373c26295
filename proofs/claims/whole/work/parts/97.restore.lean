/-! STEPS: image and restore, both sides -/
theorem back_M {P : ZP} {sd : Int32} {τ : MS} (hK : KeptM P sd τ) : ∃ τ', m_passesAll false τ = some ((), τ') ∧ SetM P τ' ∧ mI τ' 9 = sd ∧ mZ τ' 40 = mZ τ 40 ∧ τ'.2.2.2 = τ.2.2.2 ∧ (∀ j, j < 5 ∨ (9 < j ∧ j ≠ 42) → mI τ' j = mI τ j) ∧ (∀ j, j < 1 ∨ 4 < j → mA τ' j = mA τ j) := by
  have z00 : nI 0 = 0 := rfl
  obtain ⟨τ1, a1, a2, a3, a4, a5, a6, a7, a8⟩ := back_1 (c0 := 0) (by omega) 6 0 4096 (sZ (sI τ 42 0) 41 false) (by omega) (by omega) rfl rfl
  obtain ⟨τ2, b1, b2, b3, b4, b5, b6, b7, b8⟩ := back_2 (c0 := 6) (by omega) 60 0 4096 τ1 (by omega) (by omega) (congrFun a2 41) a5
  obtain ⟨τ3, c1, c2, c3, c4, c5, c6, c7, c8⟩ := back_3 (c0 := 66) (by omega) 6 0 4096 τ2 (by omega) (by omega) ((congrFun b2 41).trans (congrFun a2 41)) b5
  obtain ⟨τ4, d1, d2, d3, d4, d5, d6, d7, d8⟩ := back_4 (c0 := 72) (by omega) 6 0 4096 τ3 (by omega) (by omega) ((congrFun c2 41).trans ((congrFun b2 41).trans (congrFun a2 41))) c5
  rw [z00] at a1 b1 c1 d1
  have hz : mZ τ4 41 = false := (congrFun d2 41).trans ((congrFun c2 41).trans ((congrFun b2 41).trans (congrFun a2 41)))
  have hz40 : mZ τ4 40 = mZ τ 40 := (congrFun d2 40).trans ((congrFun c2 40).trans ((congrFun b2 40).trans (congrFun a2 40)))
  have hI : ∀ j, j ≠ 42 → mI τ4 j = mI τ j := fun j hj => (d4 j hj).trans ((c4 j hj).trans ((b4 j hj).trans ((a4 j hj).trans (va_up_n _ _ hj))))
  have h39 : mA τ4 39 = mA τ 39 := (d6 39 (by decide)).trans ((c6 39 (by decide)).trans ((b6 39 (by decide)).trans (a6 39 (by decide))))
  have e5 : ∀ v, m_passOne v (τ4) = some (mA τ4 39 78, sI τ4 42 (nI 79)) := fun v => one_back (τ := τ4) (c := 78) (by omega) hz d5 v
  have e6 : ∀ v, m_passOne v (sI (sI τ4 42 (nI 79)) 5 (mA τ4 39 78)) = some (mA τ4 39 79, sI (sI (sI τ4 42 (nI 79)) 5 (mA τ4 39 78)) 42 (nI 80)) := fun v => one_back (τ := sI (sI τ4 42 (nI 79)) 5 (mA τ4 39 78)) (c := 79) (by omega) hz rfl v
  have e7 : ∀ v, m_passOne v (sI (sI (sI (sI τ4 42 (nI 79)) 5 (mA τ4 39 78)) 42 (nI 80)) 6 (mA τ4 39 79)) = some (mA τ4 39 80, sI (sI (sI (sI (sI τ4 42 (nI 79)) 5 (mA τ4 39 78)) 42 (nI 80)) 6 (mA τ4 39 79)) 42 (nI 81)) := fun v => one_back (τ := sI (sI (sI (sI τ4 42 (nI 79)) 5 (mA τ4 39 78)) 42 (nI 80)) 6 (mA τ4 39 79)) (c := 80) (by omega) hz rfl v
  have e8 : ∀ v, m_passOne v (sI (sI (sI (sI (sI (sI τ4 42 (nI 79)) 5 (mA τ4 39 78)) 42 (nI 80)) 6 (mA τ4 39 79)) 42 (nI 81)) 7 (mA τ4 39 80)) = some (mA τ4 39 81, sI (sI (sI (sI (sI (sI (sI τ4 42 (nI 79)) 5 (mA τ4 39 78)) 42 (nI 80)) 6 (mA τ4 39 79)) 42 (nI 81)) 7 (mA τ4 39 80)) 42 (nI 82)) := fun v => one_back (τ := sI (sI (sI (sI (sI (sI τ4 42 (nI 79)) 5 (mA τ4 39 78)) 42 (nI 80)) 6 (mA τ4 39 79)) 42 (nI 81)) 7 (mA τ4 39 80)) (c := 81) (by omega) hz rfl v
  have e9 : ∀ v, m_passOne v (sI (sI (sI (sI (sI (sI (sI (sI τ4 42 (nI 79)) 5 (mA τ4 39 78)) 42 (nI 80)) 6 (mA τ4 39 79)) 42 (nI 81)) 7 (mA τ4 39 80)) 42 (nI 82)) 8 (mA τ4 39 81)) = some (mA τ4 39 82, sI (sI (sI (sI (sI (sI (sI (sI (sI τ4 42 (nI 79)) 5 (mA τ4 39 78)) 42 (nI 80)) 6 (mA τ4 39 79)) 42 (nI 81)) 7 (mA τ4 39 80)) 42 (nI 82)) 8 (mA τ4 39 81)) 42 (nI 83)) := fun v => one_back (τ := sI (sI (sI (sI (sI (sI (sI (sI τ4 42 (nI 79)) 5 (mA τ4 39 78)) 42 (nI 80)) 6 (mA τ4 39 79)) 42 (nI 81)) 7 (mA τ4 39 80)) 42 (nI 82)) 8 (mA τ4 39 81)) (c := 82) (by omega) hz rfl v
  obtain ⟨k1, k2, k3, k4, k5, k6, k7, k8⟩ := hK
  refine ⟨sI (sI (sI (sI (sI (sI (sI (sI (sI (sI τ4 42 (nI 79)) 5 (mA τ4 39 78)) 42 (nI 80)) 6 (mA τ4 39 79)) 42 (nI 81)) 7 (mA τ4 39 80)) 42 (nI 82)) 8 (mA τ4 39 81)) 42 (nI 83)) 9 (mA τ4 39 82), ?_, ⟨?_, ?_, ?_, ?_, fun p q1 q2 => ?_, fun m hm => ?_, fun s hs => ?_⟩, ?_, hz40, d3.trans (c3.trans (b3.trans a3)), fun j hj => ?_, fun j hj => ?_⟩
  · unfold m_passesAll m_passes_1 m_passes_2 m_passes_3 m_passes_4
    rw [a1, Option.bind_some, b1, Option.bind_some, c1, Option.bind_some, d1, Option.bind_some, e5, Option.bind_some, e6, Option.bind_some]
    rw [e7, Option.bind_some]
    rw [e8, Option.bind_some]
    rw [e9, Option.bind_some]
  · exact (congrFun h39 78).trans k4
  · exact (congrFun h39 79).trans k5
  · exact (congrFun h39 80).trans k6
  · exact (congrFun h39 81).trans k7
  · show mA τ4 1 p = _
    have := a7 p (by omega) (by omega)
    rw [Nat.zero_add] at this
    rw [d6 1 (by decide), c6 1 (by decide), b6 1 (by decide), this]; exact k1 p q1 q2
  · show mA τ4 2 m = _
    rw [d6 2 (by decide), c6 2 (by decide), b7 m (by omega) hm, a6 39 (by decide)]; exact k2 m hm
  · show (pd P s = none → mA τ4 3 s = -1) ∧ ∀ d u, pd P s = some (d, u) → mA τ4 3 s = nI d ∧ mA τ4 4 s = nI u
    rw [d6 3 (by decide), c7 s (by omega) hs, d7 s (by omega) hs, c6 39 (by decide), b6 39 (by decide), a6 39 (by decide)]; exact k3 s hs
  · exact (congrFun h39 82).trans k8
  · have K : mI (sI (sI (sI (sI (sI (sI (sI (sI (sI (sI τ4 42 (nI 79)) 5 (mA τ4 39 78)) 42 (nI 80)) 6 (mA τ4 39 79)) 42 (nI 81)) 7 (mA τ4 39 80)) 42 (nI 82)) 8 (mA τ4 39 81)) 42 (nI 83)) 9 (mA τ4 39 82)) j = mI τ4 j := by
      have h42 : j ≠ 42 := by omega
      have h5 : j ≠ 5 := by omega
      have h6 : j ≠ 6 := by omega
      have h7 : j ≠ 7 := by omega
      have h8 : j ≠ 8 := by omega
      have h9 : j ≠ 9 := by omega
      exact (va_up_n _ _ h9).trans ((va_up_n _ _ h42).trans ((va_up_n _ _ h8).trans ((va_up_n _ _ h42).trans ((va_up_n _ _ h7).trans ((va_up_n _ _ h42).trans ((va_up_n _ _ h6).trans ((va_up_n _ _ h42).trans ((va_up_n _ _ h5).trans (va_up_n _ _ h42)))))))))
    rw [K]; exact hI j (by omega)
  · exact (d6 j (by omega)).trans ((c6 j (by omega)).trans ((b6 j (by omega)).trans (a6 j (by omega))))
theorem tAr_s' {σ : CS} {c : Nat} {f : Nat → Int32} : cA (tAr σ c f) c = f := va_up_s _ _ _
theorem tAr_c {σ : CS} {c c' : Nat} {f : Nat → Int32} (h : c' ≠ c) : cA (tAr σ c f) c' = cA σ c' := va_up_n _ _ h
/-- one set-up takes all from another -/
theorem take_C {q q2 : Nat} (hq : q + 2 < q2 ∨ q2 + 2 < q) {P : ZP} {sd : Int32} {σ : CS} (h : SetF q2 P sd σ) : ∃ σ', cS_takeFrom q q2 σ = some ((), σ') ∧ SetF q P sd σ' ∧ ∀ c, c ≠ q → c ≠ q + 1 → c ≠ q + 2 → sl σ' c = sl σ c := by
  have hne : q2 ≠ q := by omega
  unfold cS_takeFrom
  rw [if_pos (by decide), if_pos (by decide)]
  simp only [show ∀ (σ : CS) (k : Nat) (v : Int32) (k' : Nat), cI (tI σ q k v) q2 k' = cI σ q2 k' from fun _ _ _ _ => cI_c hne, show ∀ (σ : CS) (f : Nat → Int32), cA (tAr σ (q + 1) f) (q2 + 2) = cA σ (q2 + 2) from fun _ _ => tAr_c (by omega), show ∀ (σ : CS) (f : Nat → Int32), cA (tAr σ (q + 1) f) (q + 2) = cA σ (q + 2) from fun _ _ => tAr_c (by omega)]
  obtain ⟨⟨a1, a2, a3, a4, a5⟩, b1, b2, b3⟩ := h
  refine ⟨_, rfl, ?_, fun c h0 h1 h2 => ?_⟩
  · let X3 : CS := tI (tI (tI σ q 0 (cI σ q2 0)) q 1 (cI σ q2 1)) q 2 (cI σ q2 2)
    let X4 : CS := tI (tZ X3 q 3 (cZ σ q2 3)) q 4 (cI σ q2 4)
    let X7 : CS := tAr (tAr (tG X4 q 5 (cG σ q2 5)) (q + 1) (va_cpy (cA σ (q2 + 1)) (cA σ (q + 1)) (ix 0) (ix 0) (ix 6))) (q + 2) (va_cpy (cA σ (q2 + 2)) (cA σ (q + 2)) (ix 0) (ix 0) (ix 6))
    show SetF q P sd (tI X7 q 8 (cI σ q2 8))
    have k8 : ∀ k, k ≠ 8 → cI (tI X7 q 8 (cI σ q2 8)) q k = cI X4 q k := fun k hk => cI_k (σ := X7) hk
    have k4 : ∀ k, k ≠ 4 → cI X4 q k = cI X3 q k := fun k hk => cI_k (σ := tZ X3 q 3 (cZ σ q2 3)) hk
    have cpy : ∀ (f g : Nat → Int32) (s : Nat), s < 6 → va_cpy f g (ix 0) (ix 0) (ix 6) s = f s := fun f g s hs => by
      rw [show ix 0 = 0 from rfl, show ix 6 = 6 from rfl, pk_cpy_in (Nat.zero_le s) (by omega), Nat.sub_zero, Nat.zero_add]
    refine ⟨⟨?_, ?_, ?_, ?_, fun s hs => ?_⟩, ?_, ?_, ?_⟩
    · rw [k8 0 (by decide), k4 0 (by decide)]
      exact ((cI_k (by decide)).trans ((cI_k (by decide)).trans cI_s)).trans a1
    · rw [k8 1 (by decide), k4 1 (by decide)]
      exact ((cI_k (by decide)).trans cI_s).trans a2
    · rw [k8 2 (by decide), k4 2 (by decide)]
      exact cI_s.trans a3
    · rw [k8 4 (by decide), show cI X4 q 4 = cI σ q2 4 from cI_s]; exact a4
    · have e1 : cA (tI X7 q 8 (cI σ q2 8)) (q + 1) s = cA σ (q2 + 1) s := by
        show cA X7 (q + 1) s = _
        rw [show cA X7 (q + 1) = va_cpy (cA σ (q2 + 1)) (cA σ (q + 1)) (ix 0) (ix 0) (ix 6) from (tAr_c (by omega)).trans tAr_s']
        exact cpy _ _ s hs
      have e2 : cA (tI X7 q 8 (cI σ q2 8)) (q + 2) s = cA σ (q2 + 2) s := by
        show cA X7 (q + 2) s = _
        rw [show cA X7 (q + 2) = va_cpy (cA σ (q2 + 2)) (cA σ (q + 2)) (ix 0) (ix 0) (ix 6) from tAr_s']
        exact cpy _ _ s hs
      rw [e1, e2]; exact a5 s hs
    · exact (cZ_s (σ := X3)).trans b1
    · rw [show cG (tI X7 q 8 (cI σ q2 8)) q 5 = cG σ q2 5 from cG_s (σ := X4)]; exact b2
    · exact cI_s.trans b3
  · exact (tI_o c h0).trans ((tAr_o c h2).trans ((tAr_o c h1).trans ((tG_o c h0).trans ((tI_o c h0).trans ((tZ_o c h0).trans ((tI_o c h0).trans ((tI_o c h0).trans (tI_o c h0))))))))
theorem RelP.set2 {P P' : ZP} {sd sd' : Int32} {σ σ1 : CS} {τ τ' : MS} (h : RelP P sd σ τ) (hw : PW P') (hs : ∀ c, c ≠ 0 → (c < 3 ∨ 5 < c) → (c < 9 ∨ 13 < c) → sl σ1 c = sl σ c) (hZ : cZ σ1 0 4 = cZ σ 0 4) (h6 : cI σ1 0 6 = mI τ' 36) (hF : SetF 3 P' sd' σ1) (hM : SetM P' τ') (h9 : mI τ' 9 = sd') (f40 : mZ τ' 40 = mZ τ 40) (fE : τ'.2.2.2 = τ.2.2.2) (f0 : mA τ' 0 = mA τ 0) (f28 : mA τ' 28 = mA τ 28) (f29 : mA τ' 29 = mA τ 29) (f39 : mA τ' 39 = mA τ 39) : RelP P' sd' (tZ (tZ σ1 0 8 false) 0 10 false) τ' := by
  obtain ⟨-, hSH, hRF, -, -, -, ⟨i1, i2⟩, -, -, -⟩ := h
  have hs' : ∀ c, c ≠ 0 → (c < 3 ∨ 5 < c) → (c < 9 ∨ 13 < c) → sl (tZ (tZ σ1 0 8 false) 0 10 false) c = sl σ c := fun c h1 h2 h3 => (tZ_o c h1).trans ((tZ_o c h1).trans (hs c h1 h2 h3))
  have hz : cZ (tZ (tZ σ1 0 8 false) 0 10 false) 0 4 = cZ σ 0 4 := (cZ_k (by decide)).trans ((cZ_k (by decide)).trans hZ)
  refine ⟨hw, (hSH.cells (fun c hc => hs' c (by omega) (by omega) (by omega))).rows f28 f29 fE, ?_, hF.cong ((tZ_o 3 (by omega)).trans (tZ_o 3 (by omega))) ((tZ_o 4 (by omega)).trans (tZ_o 4 (by omega))) ((tZ_o 5 (by omega)).trans (tZ_o 5 (by omega))), hM, h9, ⟨hz.trans (i1.trans f40.symm), fun q => ?_⟩, h6, fun q => ?_, fun q => ?_⟩
  · unfold RF
    rw [sl_A (hs' 2 (by omega) (by omega) (by omega)), f0]; exact hRF
  · rw [hz] at q
    obtain ⟨P2, sd2, a1, a2, a3⟩ := i2 q
    refine ⟨P2, sd2, a1, a2.cong (hs' 6 (by omega) (by omega) (by omega)) (hs' 7 (by omega) (by omega) (by omega)) (hs' 8 (by omega) (by omega) (by omega)), ?_⟩
    unfold KeptM
    rw [f39]; exact a3
  · rw [show cZ (tZ (tZ σ1 0 8 false) 0 10 false) 0 8 = false from (cZ_k (by decide)).trans cZ_s] at q; cases q
  · rw [show cZ (tZ (tZ σ1 0 8 false) 0 10 false) 0 10 = false from cZ_s] at q; cases q
theorem st31 : St31 Rel := by
  rintro σ τ ⟨P, sd, h⟩
  have h' := h
  obtain ⟨hw, hSH, hRF, hF, hM, h9, ⟨i1, i2⟩, h6, h8, h10⟩ := h'
  unfold cP_restore m_restore
  rw [← i1]
  by_cases e : cZ σ 0 4 = true
  · rw [if_pos e, if_pos e]
    obtain ⟨P', sd', hw', hF', hK⟩ := i2 e
    obtain ⟨σ1, a1, a2, a3⟩ := take_C (q := 3) (q2 := 6) (by omega) hF'
    obtain ⟨τ1, b1, b2, b3, b4, b5, b6, b7⟩ := back_M hK
    rw [a1, b1, Option.bind_some, Option.bind_some]
    refine ⟨1, tZ (tZ σ1 0 8 false) 0 10 false, τ1, rfl, rfl, P', sd', ?_⟩
    exact h.set2 hw' (fun c h1 h2 _ => a3 c (by omega) (by omega) (by omega)) (sl_Z (a3 0 (by omega) (by omega) (by omega)) 4) ((sl_I (a3 0 (by omega) (by omega) (by omega)) 6).trans (h6.trans (b6 36 (by omega)).symm)) a2 b2 b3 b4 b5 (b7 0 (by omega)) (b7 28 (by omega)) (b7 29 (by omega)) (b7 39 (by omega))
  · rw [if_neg e, if_neg e]; exact h.no' (-6) (by decide)
theorem st30 : St30 Rel := by
  rintro σ τ ⟨P, sd, h⟩
  have h' := h
  obtain ⟨hw, hSH, hRF, hF, hM, h9, ⟨i1, i2⟩, h6, h8, h10⟩ := h'
  obtain ⟨σ1, a1, a2, a3⟩ := take_C (q := 6) (q2 := 3) (by omega) hF
  obtain ⟨τ1, b1, b2, b3, b4, b5, b6⟩ := keep_M hM h9
  unfold cP_image m_image
  rw [a1, b1, Option.bind_some, Option.bind_some]
  have s0 := a3 0 (by omega) (by omega) (by omega)
  have hs : ∀ c, c ≠ 0 → c ≠ 6 → c ≠ 7 → c ≠ 8 → sl (tZ σ1 0 4 true) c = sl σ c := fun c q0 q1 q2 q3 => (tZ_o c q0).trans (a3 c q1 q2 q3)
  refine ⟨1, tZ σ1 0 4 true, τ1, rfl, rfl, P, sd, hw, (hSH.cells (fun c hc => hs c (by omega) (by omega) (by omega) (by omega))).rows (b6 28 (by decide)) (b6 29 (by decide)) b4, ?_, hF.cong (hs 3 (by decide) (by decide) (by decide) (by decide)) (hs 4 (by decide) (by decide) (by decide) (by decide)) (hs 5 (by decide) (by decide) (by decide) (by decide)), ?_, (b5 9 (by decide)).trans h9, ⟨cZ_s.trans b3.symm, fun _ => ⟨P, sd, hw, a2.cong (tZ_o 6 (by decide)) (tZ_o 7 (by decide)) (tZ_o 8 (by decide)), b2⟩⟩, ?_, fun q => ?_, fun q => ?_⟩
  · unfold RF
    rw [sl_A (hs 2 (by decide) (by decide) (by decide) (by decide)), b6 0 (by decide)]; exact hRF
  · unfold SetM
    rw [b5 5 (by decide), b5 6 (by decide), b5 7 (by decide), b5 8 (by decide), b6 1 (by decide), b6 2 (by decide), b6 3 (by decide), b6 4 (by decide)]; exact hM
  · exact (sl_I s0 6).trans (h6.trans (b5 36 (by decide)).symm)
  · rw [show cZ (tZ σ1 0 4 true) 0 8 = cZ σ 0 8 from (cZ_k (by decide)).trans (sl_Z s0 8)] at q
    exact (h8 q).cong (fun c h1 h2 => hs c (by omega) (by omega) (by omega) (by omega))
  · rw [show cZ (tZ σ1 0 4 true) 0 10 = cZ σ 0 10 from (cZ_k (by decide)).trans (sl_Z s0 10)] at q
    have := h10 q
    unfold TriC
    rw [show cG (tZ σ1 0 4 true) 0 11 = cG σ 0 11 from sl_G s0 11, show cG (tZ σ1 0 4 true) 0 12 = cG σ 0 12 from sl_G s0 12]
    exact this
