/-! THE CLASS KEEPS THE TOLD RUN: a tick -/
section Play
variable {b : Nat} {P : ZP} {t x : Nat} {σ0 σ : CS} {S : ZS}
theorem SetR.dn {q : Nat} (h : SetR q P σ) {s : Nat} (hs : s < 6) : (pd P s = none ∧ cA σ (q + 1) s = -1 ∧ cA σ (q + 2) s = -1) ∨ ∃ d u, pd P s = some (d, u) ∧ cA σ (q + 1) s = nI d ∧ cA σ (q + 2) s = nI u := by
  obtain ⟨h1, h2⟩ := h.2.2.2.2 s hs
  cases e : pd P s with
  | none => exact Or.inl ⟨rfl, h1 e⟩
  | some q => exact Or.inr ⟨q.1, q.2, rfl, h2 q.1 q.2 e⟩
theorem RC.comesL (hw : PW P) (ht : t ≤ 60) : ∀ (r a fu : Nat) (S : ZS) (σ : CS), RC b P t 6 σ0 S σ → Inv P t S → a + r = pn P + 1 → r < fu → OkC b P t 6 σ0 (xUp (xComes P t) r a S) (cR_comeUp_l2 b fu (nI a) σ)
  | r, a, 0, S, σ, _, _, _, h3 => by omega
  | 0, a, fu + 1, S, σ, h, _, h2, _ => by
    have hn := hw.2.1
    unfold cR_comeUp_l2
    rw [h.n, if_pos ((P_lt (by omega) (by omega)).mpr (by omega))]
    exact ⟨σ, rfl, h⟩
  | r + 1, a, fu + 1, S, σ, h, hi, h2, h3 => by
    have hn := hw.2.1
    have ha : a < 6 := by omega
    have hi' := hi.comes hw ht (s := a) (by omega)
    unfold cR_comeUp_l2
    rw [show xUp (xComes P t) (r + 1) a S = xUp (xComes P t) r (a + 1) (xComes P t a S) from rfl]
    rw [h.n, if_neg (fun q => absurd ((P_lt (by omega) (by omega)).mp q) (by omega)), P_in ha (by decide), P_ix (show a < 2 ^ 31 by omega), show cI σ b 6 = nI t from h.1.2.2.2, nI_1]
    simp only [if_true]
    rcases h.2.1.dn ha with ⟨e1, e2, e3⟩ | ⟨d, u, e1, e2, e3⟩
    · rw [xComes_no e1] at hi'
      rw [xComes_no e1, e3, if_neg (show ¬ (-1 : Int32) = nI t from fun q => qneg_ne (a := t) (by omega) q.symm)]
      exact RC.comesL hw ht r (a + 1) fu S σ h hi' (by omega) (by omega)
    · have hd := hw.2.2.2.2.2 a d u e1
      rw [xComes_is e1] at hi'
      rw [xComes_is e1, e3]
      by_cases e : u = t
      · rw [if_pos e] at hi'
        rw [if_pos e, if_pos (show nI u = nI t by rw [e])]
        by_cases e0 : a = 0
        · subst e0
          rw [if_pos rfl]
          refine (h.recC hw ht hi).bind fun σ' h' => ?_
          exact RC.comesL hw ht r 1 fu _ σ' h' hi' (by omega) (by omega)
        · rw [if_neg e0]
          refine (h.recP hw ht hi (by omega) ha).bind fun σ' h' => ?_
          exact RC.comesL hw ht r (a + 1) fu _ σ' h' hi' (by omega) (by omega)
      · rw [if_neg e] at hi'
        rw [if_neg e, if_neg (P_ne (by omega) (by omega) e)]
        exact RC.comesL hw ht r (a + 1) fu S σ h hi' (by omega) (by omega)
theorem RC.goesL (hw : PW P) (ht : t ≤ 60) : ∀ (r a fu : Nat) (S : ZS) (σ : CS), RC b P t 6 σ0 S σ → a + r = pn P + 1 → r < fu → OkC b P t 6 σ0 (xUp (xGoes P t) r a S) (cR_goDown_l2 b fu (nI a) σ)
  | r, a, 0, S, σ, _, _, h3 => by omega
  | 0, a, fu + 1, S, σ, h, h2, _ => by
    have hn := hw.2.1
    unfold cR_goDown_l2
    rw [h.n, if_pos ((P_lt (by omega) (by omega)).mpr (by omega))]
    exact ⟨σ, rfl, h⟩
  | r + 1, a, fu + 1, S, σ, h, h2, h3 => by
    have hn := hw.2.1
    have ha : a < 6 := by omega
    unfold cR_goDown_l2
    rw [show xUp (xGoes P t) (r + 1) a S = xUp (xGoes P t) r (a + 1) (xGoes P t a S) from rfl]
    rw [h.n, if_neg (fun q => absurd ((P_lt (by omega) (by omega)).mp q) (by omega)), P_in ha (by decide), P_ix (show a < 2 ^ 31 by omega), show cI σ b 6 = nI t from h.1.2.2.2, nI_1]
    simp only [if_true]
    rcases h.2.1.dn ha with ⟨e1, e2, e3⟩ | ⟨d, u, e1, e2, e3⟩
    · rw [xGoes_no e1, e2, if_neg (show ¬ (-1 : Int32) = nI t from fun q => qneg_ne (a := t) (by omega) q.symm)]
      exact RC.goesL hw ht r (a + 1) fu S σ h (by omega) (by omega)
    · have hd := hw.2.2.2.2.2 a d u e1
      rw [xGoes_is e1, e2]
      by_cases e : d = t
      · rw [if_pos e, if_pos (show nI d = nI t by rw [e])]
        unfold cT_goAway cT_enter
        simp only [Option.bind_some]
        exact RC.goesL hw ht r (a + 1) fu _ _ (h.away ha) (by omega) (by omega)
      · rw [if_neg e, if_neg (P_ne (by omega) (by omega) e)]
        exact RC.goesL hw ht r (a + 1) fu S σ h (by omega) (by omega)
theorem isIn_C {g : Int64} {m : Nat} (hm : m < 200) (σ : CS) : cP_isIn g (nI m) σ = some (decide (m < 60) && lbit g m, σ) := by
  unfold cP_isIn
  rw [if_neg (Int32.not_lt.mpr (nI_pos' (by omega)))]
  by_cases e : m < 60
  · rw [if_neg (show ¬ 60 ≤ nI m from fun q => absurd ((P_le (a := 60) (by omega) (by omega)).mp q) (by omega)), decide_eq_true e, Bool.true_and]
    unfold lbit
    by_cases q : (lg_cmp ((Int64.toUInt64 g >>> ((Int32.toInt64 (nI m)).toUInt64 &&& Int64.toUInt64 63)).toInt64 &&& 1) 0) = 0
    · rw [if_pos q, decide_eq_true q]; rfl
    · rw [if_neg q, decide_eq_false q]; rfl
  · rw [if_pos (show 60 ≤ nI m from (P_le (a := 60) (by omega) (by omega)).mpr (by omega)), decide_eq_false e, Bool.false_and]
theorem RC.arrL (hw : PW P) (ht : t ≤ 60) {m : Nat} : ∀ (r a fu : Nat) (S : ZS) (σ : CS), RC b P t 6 σ0 S σ → Inv P t S → a + r = m → m ≤ zn S → r < fu → OkC b P t 6 σ0 (xUp (xArr P t) r a S) (cR_deliver_l2 b fu (nI m) (nI a) σ)
  | r, a, 0, S, σ, _, _, _, _, h3 => by omega
  | 0, a, fu + 1, S, σ, h, hi, h2, h4, _ => by
    have h200 := hi.1.1
    unfold cR_deliver_l2
    rw [if_pos ((P_le (by omega) (by omega)).mpr (by omega))]
    exact ⟨σ, rfl, h⟩
  | r + 1, a, fu + 1, S, σ, h, hi, h2, h4, h3 => by
    have h200 := hi.1.1
    have hn := hw.2.1
    have haz : a < zn S := by omega
    have h2' := hi.1.2 a haz
    obtain ⟨a1, a2, a3, a4, a5⟩ := h.2.2.2.2.2.1.2.2 a haz
    have ho : zo S a < 6 := by have := h2'.2.1; omega
    have hi' := hi.arr hw ht haz
    have hn' := xArr_n (P := P) (t := t) a S
    unfold cR_deliver_l2
    rw [show xUp (xArr P t) (r + 1) a S = xUp (xArr P t) r (a + 1) (xArr P t a S) from rfl]
    have hx : xArr P t a S = if a < 60 ∧ pl P a = true then wft a 1 S else if zu S (zo S a) = false then wft a 2 S else if zo S a = 0 then xComeC P t (zw S a) (zf S a) (wft a 0 S) else xComeP P t (zo S a) (zw S a) (zf S a) (wft a 0 S) := rfl
    rw [hx] at hi' hn' ⊢
    rw [if_neg (fun q => absurd ((P_le (by omega) (by omega)).mp q) (by omega)), P_in (show a < 200 by omega) (by decide), P_ix (show a < 2 ^ 31 by omega), a3, P_in ho (by decide), isIn_C (by omega), nI_1, P_ix (show zo S a < 2 ^ 31 by omega)]
    simp only [if_true, Option.bind_some]
    by_cases e : a < 60 ∧ pl P a = true
    · have k : (decide (a < 60) && lbit (cG σ b 4) a) = true := by rw [h.1.2.1 a e.1, e.2, decide_eq_true e.1]; rfl
      rw [if_pos e] at hi' hn'
      rw [if_pos e, if_pos k]
      exact RC.arrL hw ht r (a + 1) fu _ _ (h.ft a 1) hi' (by omega) (by omega) (by omega)
    · have k : ¬ (decide (a < 60) && lbit (cG σ b 4) a) = true := by
        intro q
        rw [Bool.and_eq_true, decide_eq_true_eq] at q
        exact e ⟨q.1, by rw [← h.1.2.1 a q.1]; exact q.2⟩
      rw [if_neg e] at hi' hn'
      rw [if_neg e, if_neg k, show cZ σ (b + 2 + zo S a) 3 = zu S (zo S a) from (h.2.2.1 _ ho).1]
      cases hu : zu S (zo S a)
      · rw [hu, if_pos rfl] at hi' hn'
        rw [if_pos rfl, if_neg (by decide)]
        exact RC.arrL hw ht r (a + 1) fu _ _ (h.ft a 2) hi' (by omega) (by omega) (by omega)
      · rw [hu, if_neg (by decide)] at hi' hn'
        rw [if_neg (by decide), if_pos rfl]
        have h0 := h.ft a 0
        have hi0 : Inv P t (wft a 0 S) := hi
        have b14 : cA (tA σ (b + 18) a 0) (b + 14) a = zw S a := (congrFun (cA_c (by omega)) a).trans a1
        have b15 : cA (tA σ (b + 18) a 0) (b + 15) a = nI (zf S a) := (congrFun (cA_c (by omega)) a).trans a2
        rw [b14, b15]
        by_cases e0 : zo S a = 0
        · rw [if_pos e0] at hi' hn'
          rw [if_pos e0, if_pos e0]
          rw [e0] at hu
          refine (h0.comeC hw ht hi0 hu (zw S a) h2'.1).bind fun σ' h' => ?_
          exact RC.arrL hw ht r (a + 1) fu _ σ' h' hi' (by omega) (Nat.le_trans h4 hn') (by omega)
        · rw [if_neg e0] at hi' hn'
          rw [if_neg e0, if_neg e0]
          refine (h0.comeP hw ht hi0 (by omega) ho hu (zw S a) h2'.1).bind fun σ' h' => ?_
          exact RC.arrL hw ht r (a + 1) fu _ σ' h' hi' (by omega) (Nat.le_trans h4 hn') (by omega)
theorem tm_late {v : Int32} (hv : TimI v) (ht : t ≤ 60) : nI t < tmC v ↔ nI t < v := by
  unfold tmC
  rcases hv with rfl | ⟨k, hk, rfl⟩
  · rw [if_pos rfl]
    exact ⟨fun _ => (P_lt (b := 1000) (by omega) (by omega)).mpr (by omega), fun _ => (P_lt (b := 160) (by omega) (by omega)).mpr (by omega)⟩
  · rw [if_neg (show ¬ nI k = 1000 from P_ne (b := 1000) (by omega) (by omega) (by omega))]
theorem RC.waitsL (hw : PW P) (ht : t ≤ 60) : ∀ (r a fu : Nat) (S : ZS) (σ : CS), RC b P t 6 σ0 S σ → Inv P t S → a + r = pn P + 1 → r < fu → OkC b P t 6 σ0 (xUp (xWait P t) r a S) (cR_endWaits_l27 b fu (nI a) σ)
  | r, a, 0, S, σ, _, _, _, h3 => by omega
  | 0, a, fu + 1, S, σ, h, _, h2, _ => by
    have hn := hw.2.1
    unfold cR_endWaits_l27
    rw [h.n, if_pos ((P_lt (by omega) (by omega)).mpr (by omega))]
    exact ⟨σ, rfl, h⟩
  | r + 1, a, fu + 1, S, σ, h, hi, h2, h3 => by
    have hn := hw.2.1
    have ha : a < 6 := by omega
    have hi' := hi.wait hw ht (s := a) (by omega)
    unfold cR_endWaits_l27
    rw [show xUp (xWait P t) (r + 1) a S = xUp (xWait P t) r (a + 1) (xWait P t a S) from rfl]
    have hx : xWait P t a S = if zu S a = true ∧ zt S a ≤ nI t then xTime P t a S else S := rfl
    rw [hx] at hi' ⊢
    rw [h.n, if_neg (fun q => absurd ((P_lt (by omega) (by omega)).mp q) (by omega)), P_in ha (by decide), P_ix (show a < 2 ^ 31 by omega), show cI σ b 6 = nI t from h.1.2.2.2, nI_1, show cZ σ (b + 2 + a) 3 = zu S a from (h.2.2.1 a ha).1]
    simp only [if_true]
    cases hu : zu S a
    · rw [hu, if_neg (fun q => absurd q.1 (by decide))] at hi'
      rw [if_neg (show ¬ (false = true ∧ zt S a ≤ nI t) from fun q => absurd q.1 (by decide)), if_neg (show ¬ false = true by decide)]
      exact RC.waitsL hw ht r (a + 1) fu S σ h hi' (by omega) (by omega)
    · rw [hu] at hi'
      rw [if_pos rfl, show cI σ (b + 2 + a) 5 = tmC (zt S a) from ((h.2.2.2.1 a ha (by omega)).1 hu).2]
      by_cases e : nI t < zt S a
      · rw [if_neg (fun q => Int32.not_lt.mpr q.2 e)] at hi'
        rw [if_pos ((tm_late (hi.2.1 a ha) ht).mpr e), if_neg (fun q => Int32.not_lt.mpr q.2 e)]
        exact RC.waitsL hw ht r (a + 1) fu S σ h hi' (by omega) (by omega)
      · rw [if_pos ⟨rfl, Int32.not_lt.mp e⟩] at hi'
        rw [if_neg (fun q => e ((tm_late (hi.2.1 a ha) ht).mp q)), if_pos ⟨rfl, Int32.not_lt.mp e⟩]
        have h1 := h.tm1 ha hu (tv := 1000) (tc := 160) rfl
        have hx2 : xTime P t a S = if a = 0 then xTimeC P t (wtm 0 1000 S) else xTimeP P t a (wtm a 1000 S) := rfl
        rw [hx2] at hi' ⊢
        by_cases e0 : a = 0
        · subst e0
          rw [if_pos rfl] at hi'
          rw [if_pos rfl, if_pos rfl]
          refine (RC.timeC hw ht h1 (hi.tm0 TimI_no) hu).bind fun σ' h' => ?_
          exact RC.waitsL hw ht r 1 fu _ σ' h' hi' (by omega) (by omega)
        · rw [if_neg e0] at hi'
          rw [if_neg e0, if_neg e0]
          refine (RC.timeP hw ht h1 (hi.tmP (by omega) TimI_no (fun _ => rfl)) (by omega) ha (by omega) hu (va_up_s _ _ _)).bind fun σ' h' => ?_
          exact RC.waitsL hw ht r (a + 1) fu _ σ' h' hi' (by omega) (by omega)
theorem RC.waits (hw : PW P) (ht : t ≤ 60) (h : RC b P t 6 σ0 S σ) (hi : Inv P t S) (h0 : t = 0 → zs S 0 = 0) : OkC b P t 6 σ0 (xUp (xWait P t) (pn P + 1) 0 (xStart P t S)) (cR_endWaits b σ) := by
  have hn := hw.2.1
  have hi' := hi.start hw ht h0
  unfold cR_endWaits
  have hx : xStart P t S = if t = 0 ∧ zu S 0 = true then xBegin P t S else S := rfl
  rw [hx] at hi' ⊢
  rw [show cI σ b 6 = nI t from h.1.2.2.2, show cZ σ (b + 2) 3 = zu S 0 from (h.2.2.1 0 (by omega)).1]
  by_cases e : t = 0
  · rw [if_pos (show nI t = 0 by rw [e]; rfl)]
    cases hu : zu S 0
    · rw [hu, if_neg (fun q => absurd q.2 (by decide))] at hi'
      rw [if_neg (show ¬ (t = 0 ∧ false = true) from fun q => absurd q.2 (by decide)), if_neg (show ¬ false = true by decide)]
      exact RC.waitsL hw ht (pn P + 1) 0 4096 S σ h hi' (by omega) (by omega)
    · rw [hu, if_pos ⟨e, rfl⟩] at hi'
      rw [if_pos rfl, if_pos ⟨e, rfl⟩]
      refine (h.begin hw ht hi hu (h0 e)).bind fun σ' h' => ?_
      exact RC.waitsL hw ht (pn P + 1) 0 4096 _ σ' h' hi' (by omega) (by omega)
  · rw [if_neg (fun q => e q.1)] at hi'
    rw [if_neg (qI_ne0 e (by omega)), if_neg (fun q => e q.1)]
    exact RC.waitsL hw ht (pn P + 1) 0 4096 S σ h hi' (by omega) (by omega)
end Play
