/-! THE REFERENCE KEEPS THE TOLD RUN: ticks, the whole run -/
theorem qneg_ne {a : Nat} (ha : a < 2 ^ 31) : ¬ nI a = -1 := fun e => absurd (e ▸ nI_pos' ha : (0 : Int32) ≤ -1) (by decide)
section Ticks
variable {P : ZP} {t f : Nat} {τ0 τ : MS} {S : ZS}
theorem SetM.dn (h : SetM P τ) {s : Nat} (hs : s < 6) : (pd P s = none ∧ mA τ 3 s = -1) ∨ ∃ d u, pd P s = some (d, u) ∧ mA τ 3 s = nI d ∧ mA τ 4 s = nI u := by
  obtain ⟨h1, h2⟩ := h.2.2.2.2.2.2 s hs
  cases e : pd P s with
  | none => exact Or.inl ⟨rfl, h1 e⟩
  | some q => exact Or.inr ⟨q.1, q.2, rfl, h2 q.1 q.2 e⟩
theorem xGoes_no {s : Nat} (h : pd P s = none) : xGoes P t s S = S := by unfold xGoes; rw [h]; rfl
theorem xGoes_is {s d u : Nat} (h : pd P s = some (d, u)) : xGoes P t s S = if d = t then wu s false S else S := by
  unfold xGoes; rw [h]; simp only [Option.any_some, beq_iff_eq]
theorem xComes_no {s : Nat} (h : pd P s = none) : xComes P t s S = S := by unfold xComes; rw [h]; rfl
theorem xComes_is {s d u : Nat} (h : pd P s = some (d, u)) : xComes P t s S = if u = t then xRec P t s S else S := by
  unfold xComes; rw [h]; simp only [Option.any_some, beq_iff_eq]
theorem RM.goesL (hw : PW P) (ht : t ≤ 60) : ∀ (r a fu : Nat) (S : ZS) (τ : MS), RM P t f τ0 S τ → a + r = pn P + 1 → r < fu → OkM P t f τ0 (xUp (xGoes P t) r a S) (m_goesSites_l46 fu (nI a) τ)
  | r, a, 0, S, τ, _, _, h3 => by omega
  | 0, a, fu + 1, S, τ, h, h2, _ => by
    have hn := hw.2.1
    unfold m_goesSites_l46
    rw [h.n, if_pos ((P_lt (by omega) (by omega)).mpr (by omega))]
    exact ⟨τ, rfl, h⟩
  | r + 1, a, fu + 1, S, τ, h, h2, h3 => by
    have hn := hw.2.1
    have ha : a < 6 := by omega
    unfold m_goesSites_l46
    rw [show xUp (xGoes P t) (r + 1) a S = xUp (xGoes P t) r (a + 1) (xGoes P t a S) from rfl]
    rw [h.n, if_neg (fun q => absurd ((P_lt (by omega) (by omega)).mp q) (by omega)), P_in ha (by decide), P_ix (show a < 2 ^ 31 by omega), show mI τ 22 = nI t from h.2.1.1, nI_1]
    simp only [if_true]
    rcases h.1.dn ha with ⟨e1, e2⟩ | ⟨d, u, e1, e2, e3⟩
    · rw [xGoes_no e1, e2, if_neg (show ¬ (-1 : Int32) = nI t from fun q => qneg_ne (a := t) (by omega) q.symm)]
      exact RM.goesL hw ht r (a + 1) fu S τ h (by omega) (by omega)
    · have hd := hw.2.2.2.2.2 a d u e1
      rw [xGoes_is e1, e2]
      by_cases e : d = t
      · rw [if_pos e, if_pos (show nI d = nI t by rw [e])]
        exact RM.goesL hw ht r (a + 1) fu _ _ (h.u a false) (by omega) (by omega)
      · rw [if_neg e, if_neg (P_ne (by omega) (by omega) e)]
        exact RM.goesL hw ht r (a + 1) fu S τ h (by omega) (by omega)
theorem RM.comesL (hw : PW P) (ht : t ≤ 60) : ∀ (r a fu : Nat) (S : ZS) (τ : MS), RM P t f τ0 S τ → Inv P t S → a + r = pn P + 1 → r < fu → OkM P t f τ0 (xUp (xGoes P t) (pn P + 1) 0 (xUp (xComes P t) r a S)) (m_goesSites_l2 fu (nI a) τ)
  | r, a, 0, S, τ, _, _, _, h3 => by omega
  | 0, a, fu + 1, S, τ, h, _, h2, _ => by
    have hn := hw.2.1
    unfold m_goesSites_l2
    rw [h.n, if_pos ((P_lt (by omega) (by omega)).mpr (by omega))]
    exact RM.goesL hw ht (pn P + 1) 0 4096 S τ h (by omega) (by omega)
  | r + 1, a, fu + 1, S, τ, h, hi, h2, h3 => by
    have hn := hw.2.1
    have ha : a < 6 := by omega
    have hi' := hi.comes hw ht (s := a) (by omega)
    unfold m_goesSites_l2
    rw [show xUp (xComes P t) (r + 1) a S = xUp (xComes P t) r (a + 1) (xComes P t a S) from rfl]
    rw [h.n, if_neg (fun q => absurd ((P_lt (by omega) (by omega)).mp q) (by omega)), P_in ha (by decide), P_ix (show a < 2 ^ 31 by omega), show mI τ 22 = nI t from h.2.1.1, nI_1]
    simp only [if_true]
    rcases h.1.dn ha with ⟨e1, e2⟩ | ⟨d, u, e1, e2, e3⟩
    · rw [xComes_no e1] at hi'
      rw [xComes_no e1, e2, if_pos rfl]
      exact RM.comesL hw ht r (a + 1) fu S τ h hi' (by omega) (by omega)
    · have hd := hw.2.2.2.2.2 a d u e1
      rw [xComes_is e1] at hi'
      rw [xComes_is e1, e2, e3, if_neg (qneg_ne (by omega))]
      by_cases e : u = t
      · rw [if_pos e] at hi'
        rw [if_pos e, if_pos (show nI u = nI t by rw [e])]
        refine (h.rec hn hi.short ha).bind fun τ' h' => ?_
        exact RM.comesL hw ht r (a + 1) fu _ τ' h' hi' (by omega) (by omega)
      · rw [if_neg e] at hi'
        rw [if_neg e, if_neg (P_ne (by omega) (by omega) e)]
        exact RM.comesL hw ht r (a + 1) fu S τ h hi' (by omega) (by omega)
theorem RM.sites (hw : PW P) (ht : t ≤ 60) (h : RM P t f τ0 S τ) (hi : Inv P t S) : OkM P t f τ0 (xSites P t S) (m_goesSites τ) :=
  RM.comesL hw ht (pn P + 1) 0 4096 S τ h hi (by omega) (by have := hw.2.1; omega)
theorem RM.waitsL (hw : PW P) (ht : t ≤ 60) : ∀ (r a fu : Nat) (S : ZS) (τ : MS), RM P t f τ0 S τ → Inv P t S → a + r = pn P + 1 → r < fu → OkM P t f τ0 (xUp (xWait P t) r a S) (m_goesTick_l58 fu (nI a) τ)
  | r, a, 0, S, τ, _, _, _, h3 => by omega
  | 0, a, fu + 1, S, τ, h, _, h2, _ => by
    have hn := hw.2.1
    unfold m_goesTick_l58
    rw [h.n, if_pos ((P_lt (by omega) (by omega)).mpr (by omega))]
    exact ⟨τ, rfl, h⟩
  | r + 1, a, fu + 1, S, τ, h, hi, h2, h3 => by
    have hn := hw.2.1
    have ha : a < 6 := by omega
    have hi' := hi.wait hw ht (s := a) (by omega)
    unfold m_goesTick_l58
    rw [show xUp (xWait P t) (r + 1) a S = xUp (xWait P t) r (a + 1) (xWait P t a S) from rfl]
    have hx : xWait P t a S = if zu S a = true ∧ zt S a ≤ nI t then xTime P t a S else S := rfl
    rw [hx] at hi' ⊢
    rw [h.n, if_neg (fun q => absurd ((P_lt (by omega) (by omega)).mp q) (by omega)), P_in ha (by decide), P_ix (show a < 2 ^ 31 by omega), show mI τ 22 = nI t from h.2.1.1, nI_1, show mA τ 11 a = bI (zu S a) from h.2.2.1 a ha, show mA τ 12 a = zt S a from h.2.2.2.2.1 a ha]
    simp only [if_true]
    cases hu : zu S a
    · rw [hu, if_neg (fun q => absurd q.1 (by decide))] at hi'
      rw [if_neg (show ¬ bI false = 1 by decide), if_neg (fun q => absurd q.1 (by decide))]
      exact RM.waitsL hw ht r (a + 1) fu S τ h hi' (by omega) (by omega)
    · rw [hu] at hi'
      rw [if_pos (show bI true = 1 from rfl)]
      by_cases e : nI t < zt S a
      · rw [if_neg (fun q => Int32.not_lt.mpr q.2 e)] at hi'
        rw [if_pos e, if_neg (fun q => Int32.not_lt.mpr q.2 e)]
        exact RM.waitsL hw ht r (a + 1) fu S τ h hi' (by omega) (by omega)
      · rw [if_pos ⟨rfl, Int32.not_lt.mp e⟩] at hi'
        rw [if_neg e, if_pos ⟨rfl, Int32.not_lt.mp e⟩]
        refine (h.time hn hi.short ha).bind fun τ' h' => ?_
        exact RM.waitsL hw ht r (a + 1) fu _ τ' h' hi' (by omega) (by omega)
theorem RM.f23 (h : RM P t f τ0 S τ) (m : Nat) : RM P t m τ0 S (sI τ 23 (nI m)) := by
  obtain ⟨hS, ⟨h1, h2, h3, h4⟩, hU, hs, ht, hc, hg, hm, hF⟩ := h
  exact ⟨hS, ⟨h1, rfl, h3, h4⟩, hU, hs, ht, hc, hg, hm, hF.sI _ (by omega) (by omega)⟩
theorem RM.b30 (hw : PW P) (ht : t ≤ 60) (h : RM P t f τ0 S τ) (hi : Inv P t S) (h0 : t = 0 → zs S 0 = 0) (m : Nat) : OkM P t m τ0 (xUp (xWait P t) (pn P + 1) 0 (xStart P t S)) (m_goesTick_b30 (nI m) τ) := by
  have hn := hw.2.1
  have hi' := hi.start hw ht h0
  unfold m_goesTick_b30
  unfold xStart at hi' ⊢
  rw [x00, show mI τ 22 = nI t from h.2.1.1, show mA τ 11 0 = bI (zu S 0) from h.2.2.1 0 (by omega)]
  simp only [i06, if_true]
  have h1 := h.f23 m
  by_cases e : t = 0
  · rw [if_pos (show nI t = 0 by rw [e]; rfl)]
    cases hu : zu S 0
    · rw [hu, if_neg (fun q => absurd q.2 (by decide))] at hi'
      rw [if_neg (show ¬ bI false = 1 by decide), if_neg (fun q => absurd q.2 (by decide))]
      exact RM.waitsL hw ht (pn P + 1) 0 4096 S _ h1 hi' (by omega) (by omega)
    · rw [hu, if_pos ⟨e, rfl⟩] at hi'
      rw [if_pos (show bI true = 1 from rfl), if_pos ⟨e, rfl⟩]
      refine (h1.begins hn hi.short).bind fun τ' h' => ?_
      exact RM.waitsL hw ht (pn P + 1) 0 4096 _ τ' h' hi' (by omega) (by omega)
  · rw [if_neg (fun q => e q.1)] at hi'
    rw [if_neg (qI_ne0 e (by omega)), if_neg (fun q => e q.1)]
    exact RM.waitsL hw ht (pn P + 1) 0 4096 S _ h1 hi' (by omega) (by omega)
theorem RM.arrL (hw : PW P) (ht : t ≤ 60) {m : Nat} : ∀ (r a fu : Nat) (S : ZS) (τ : MS), RM P t f τ0 S τ → Inv P t S → a + r = m → m ≤ zn S → r < fu → (t = 0 → zs (xUp (xArr P t) r a S) 0 = 0) → OkM P t m τ0 (xUp (xWait P t) (pn P + 1) 0 (xStart P t (xUp (xArr P t) r a S))) (m_goesTick_l14 fu (nI m) (nI a) τ)
  | r, a, 0, S, τ, _, _, _, _, h3, _ => by omega
  | 0, a, fu + 1, S, τ, h, hi, h2, h4, _, h0 => by
    have h200 := hi.1.1
    unfold m_goesTick_l14
    rw [if_pos ((P_le (by omega) (by omega)).mpr (by omega))]
    exact h.b30 hw ht hi h0 m
  | r + 1, a, fu + 1, S, τ, h, hi, h2, h4, h3, h0 => by
    have h200 := hi.1.1
    have hn := hw.2.1
    have h2' := (hi.1.2 a (by omega)).2.1
    unfold m_goesTick_l14
    rw [if_neg (fun q => absurd ((P_le (by omega) (by omega)).mp q) (by omega)), nI_1]
    refine (h.arr hn hi.short (m := a) (by omega) (by omega)).bind fun τ' h' => ?_
    exact RM.arrL hw ht r (a + 1) fu _ τ' h' (hi.arr hw ht (by omega)) (by omega) (Nat.le_trans h4 (xArr_n a S)) (by omega) h0
theorem RM.tick (hw : PW P) (ht : t ≤ 60) (h : RM P t f τ0 S τ) (hi : Inv P t S) (hf : f ≤ zn S) (h0 : t = 0 → zs (xUp (xArr P t) (zn S - f) f (xSites P t S)) 0 = 0) : OkM P t (zn S) τ0 (xTick P t (S, f)).1 (m_goesTick τ) := by
  have h200 := hi.1.1
  unfold m_goesTick xTick
  rw [show mI τ 21 = nI (zn S) from h.2.1.2.2.2]
  refine (h.sites hw ht hi).bind fun τ' h' => ?_
  rw [show mI τ' 23 = nI f from h'.2.1.2.1]
  exact RM.arrL hw ht (zn S - f) f 4096 _ τ' h' (hi.sites hw ht) (by omega) (xSites_n S) (by omega) h0
theorem xTimeC_n (S : ZS) : zn S ≤ zn (xTimeC P t S) := by
  unfold xTimeC
  split
  · exact xDecA_n S
  · split
    · exact xSends_n (xAll P) (wst 0 3 (wlg 0 4 (wdc 6 S)))
    · split
      · exact xSends_n _ S
      · exact Nat.le_refl _
theorem xTimeP_n {p : Nat} (S : ZS) : zn S ≤ zn (xTimeP P t p S) := by
  unfold xTimeP
  split
  · split
    · exact xSends_n _ S
    · exact Nat.le_refl _
  · split
    · exact Nat.le_refl _
    · exact Nat.le_refl _
theorem xWait_n {s : Nat} (S : ZS) : zn S ≤ zn (xWait P t s S) := by
  unfold xWait xTime
  split
  · split
    · exact xTimeC_n (wtm 0 1000 S)
    · exact xTimeP_n (wtm s 1000 S)
  · exact Nat.le_refl _
theorem xTick_n (x : ZS × Nat) : zn x.1 ≤ zn (xTick P t x).1 := by
  unfold xTick
  refine xUp_keeps (Q := fun X => zn x.1 ≤ zn X) _ _ _ (fun j _ _ X hX => Nat.le_trans hX (xWait_n X)) ?_
  have k : zn x.1 ≤ zn (xUp (xArr P t) (zn x.1 - x.2) x.2 (xSites P t x.1)) :=
    xUp_keeps (Q := fun X => zn x.1 ≤ zn X) _ _ _ (fun j _ _ X hX => Nat.le_trans hX (xArr_n j X)) (xSites_n _)
  unfold xStart
  split
  · exact Nat.le_trans k (xSends_n (xAll P) (wst 0 1 (wlg 0 1 _)))
  · exact k
noncomputable def xPrev (P : ZP) : Nat → ZS × Nat
  | 0 => (xInit, 0)
  | t + 1 => xRun P t
theorem xRun_prev (P : ZP) : ∀ t, xRun P t = xTick P t (xPrev P t)
  | 0 => rfl
  | _ + 1 => rfl
theorem Inv.init : Inv P t xInit := by
  refine ⟨⟨by decide, fun i hi => absurd hi (Nat.not_lt_zero i)⟩, fun _ _ => Or.inl rfl, ?_, fun p _ _ => ?_⟩
  · exact ⟨fun _ => ⟨by show ((0 : Int32), ([] : List Int32)) ∈ CLogL; decide, fun _ => rfl, fun _ => rfl, fun _ => rfl, fun q => absurd q (by show ¬ (3 : Int32) ≤ 0; decide)⟩, 0, by show ((0 : Int32), ([] : List Int32)) ∈ CLogL; decide⟩
  · exact ⟨fun _ => ⟨by show ((0 : Int32), ([] : List Int32)) ∈ PLogL; decide, fun _ => rfl⟩, 0, by show ((0 : Int32), ([] : List Int32)) ∈ PLogL; decide⟩
theorem xFirst (hw : PW P) : zs (xUp (xArr P 0) (zn (xPrev P 0).1 - (xPrev P 0).2) (xPrev P 0).2 (xSites P 0 (xPrev P 0).1)) 0 = 0 := by
  show zs (xSites P 0 xInit) 0 = 0
  unfold xSites
  refine xUp_keeps (Q := fun X => zs X 0 = 0) _ _ _ (fun j _ _ X hX => ?_) (xUp_keeps (Q := fun X => zs X 0 = 0) _ _ _ (fun j _ _ X hX => ?_) rfl)
  · unfold xGoes; split
    · exact hX
    · exact hX
  · unfold xComes
    rw [if_neg]
    · exact hX
    · cases e : pd P j with
      | none => decide
      | some q =>
        have := hw.2.2.2.2.2 j q.1 q.2 e
        simp; omega
theorem Inv.prev (hw : PW P) : ∀ t, t ≤ 61 → Inv P t (xPrev P t).1 ∧ (xPrev P t).2 ≤ zn (xPrev P t).1
  | 0, _ => ⟨Inv.init, Nat.le_refl _⟩
  | t + 1, ht => by
    obtain ⟨h1, h2⟩ := Inv.prev hw t (by omega)
    show Inv P (t + 1) (xRun P t).1 ∧ (xRun P t).2 ≤ zn (xRun P t).1
    rw [xRun_prev]
    refine ⟨(Inv.tick hw (by omega) h1 h2 (fun e => ?_)).mono (Nat.le_succ t), xTick_n _⟩
    subst e; exact xFirst hw
theorem Inv.run (hw : PW P) (ht : t ≤ 60) : Inv P t (xRun P t).1 := by
  rw [xRun_prev]
  obtain ⟨h1, h2⟩ := Inv.prev hw t (by omega)
  refine Inv.tick hw ht h1 h2 (fun e => ?_)
  subst e; exact xFirst hw
end Ticks
