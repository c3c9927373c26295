/-! THE CLASS KEEPS THE TOLD RUN: participants -/
section RC4
variable {b : Nat} {P : ZP} {t x : Nat} {σ0 σ : CS} {S : ZS} {p : Nat}
theorem wtm_same {s : Nat} {v : Int32} (h : zt S s = v) : wtm s v S = S := by
  unfold wtm
  have : va_up S.2.2.1 s v = S.2.2.1 := by
    funext j
    unfold va_up
    by_cases e : j = s
    · rw [if_pos e, e]; exact h.symm
    · rw [if_neg e]
  rw [this]
theorem wtm_wtm {s : Nat} {u v : Int32} : wtm s v (wtm s u S) = wtm s v S := by
  show (S.1, S.2.1, va_up (va_up S.2.2.1 s u) s v, S.2.2.2) = (S.1, S.2.1, va_up S.2.2.1 s v, S.2.2.2)
  have : va_up (va_up S.2.2.1 s u) s v = va_up S.2.2.1 s v := by
    funext j
    unfold va_up
    by_cases e : j = s
    · rw [if_pos e, if_pos e]
    · rw [if_neg e, if_neg e, if_neg e]
  rw [this]
theorem RC.settle (h : RC b P t 6 σ0 S σ) (hi : Inv P t S) (hp1 : 1 ≤ p) (hp : p < 6) (hu : zu S p = true) (w : Int32) : OkC b P t 6 σ0 (xSettle p w S) (cA_settle b p w σ) := by
  unfold cA_settle xSettle cA_settle_b12 cA_settle_b27 cT_enter
  by_cases e : w = 6
  · simp only [if_pos e, Option.bind_some]
    refine (h.note hp (hi.len hp) 4).bind fun σ1 h1 => ?_
    exact ⟨_, rfl, h1.enter hp hp1 (Or.inr rfl) hu 3 (tv := 1000) rfl⟩
  · simp only [if_neg e, Option.bind_some]
    refine (h.note hp (hi.len hp) 5).bind fun σ1 h1 => ?_
    exact ⟨_, rfl, h1.enter hp hp1 (Or.inr rfl) hu 4 (tv := 1000) rfl⟩
theorem RC.settle0 (h : RC b P t 6 σ0 S σ) (hi : Inv P t S) (hp1 : 1 ≤ p) (hp : p < 6) (hu : zu S p = true) (hz : zs S p = 0) : OkC b P t 6 σ0 (wst p 4 (wlg p 5 S)) (cA_settle b p 7 σ) := by
  have k := h.settle hi hp1 hp hu 7
  have e : xSettle p 7 S = wst p 4 (wlg p 5 S) := by
    unfold xSettle
    rw [if_neg (by decide), if_neg (by decide)]
    exact wtm_same (S := wst p 4 (wlg p 5 S)) (((hi.2.2.2 p hp1 hp).1 hu).2 hz)
  rw [e] at k; exact k
theorem RC.votes (h : RC b P t x σ0 S σ) (hp1 : 1 ≤ p) (hp : p < 6) : cS_votesYes 3 (Int32.ofNat p) σ = some (pv P p, σ) := by
  unfold cS_votesYes
  have k := h.2.1.2.2.2.1 p hp1 (by omega)
  unfold sbit at k
  by_cases e : ((cI σ 3 4 >>> (nI p &&& 31)) &&& 1) = 0
  · rw [decide_eq_true e] at k
    rw [if_pos (show ((cI σ 3 4 >>> (Int32.ofNat p &&& 31)) &&& 1) = 0 from e), ← k]; rfl
  · rw [decide_eq_false e] at k
    rw [if_neg (show ¬ ((cI σ 3 4 >>> (Int32.ofNat p &&& 31)) &&& 1) = 0 from e), ← k]; rfl
theorem RC.prep (hw : PW P) (ht : t ≤ 60) (h : RC b P t 6 σ0 S σ) (hi : Inv P t S) (hp1 : 1 ≤ p) (hp : p < 6) (hu : zu S p = true) : OkC b P t 6 σ0 (xPrep P t p S) (if cI σ (b + 2 + p) 4 = 0 then ((cS_votesYes 3 (Int32.ofNat p) σ).bind fun a1 => if a1.1 = true then ((cA_sayYes b p a1.2).bind fun a2 => some ((), a2.2)) else (cA_receive_b81 b p a1.2)) else (cA_receive_b81 b p σ)) := by
  have hn := hw.2.1
  have hs := h.st hp hu
  unfold xPrep cA_receive_b81
  rw [h.votes hp1 hp]
  simp only [Option.bind_some]
  rw [hs]
  by_cases e : zs S p = 0
  · rw [if_pos e, if_pos e, if_pos e]
    cases pv P p
    · rw [if_neg (by decide), if_neg (by decide)]
      refine (h.settle0 hi hp1 hp hu e).bind fun σ1 h1 => ?_
      exact (h1.send hn 3 p (to_1 (pn P) (by omega))).ret
    · rw [if_pos rfl, if_pos rfl]
      unfold cA_sayYes
      rw [show wtm p (xEnd P t) (xSend t 2 p 0 (wst p 1 (wlg p 2 S))) = xSends t 2 p [0] (wtm p (xEnd P t) (wst p 1 (wlg p 2 S))) from (xSends_tm [0] _).symm]
      refine OkC.ret ?_
      refine (h.note hp (hi.len hp) 2).bind fun σ1 h1 => ?_
      simp only [cR_waitEnd, cT_enter, Option.bind_some]
      rw [h1.wend]
      exact ((h1.enter hp hp1 (Or.inr rfl) hu 1 (tmC_end hw ht)).send hn 2 p (to_1 (pn P) (by omega))).ret
  · rw [if_neg e, if_neg e, if_neg e]; exact ⟨_, rfl, h⟩
theorem RC.comePre (hw : PW P) (ht : t ≤ 60) (h : RC b P t 6 σ0 S σ) (hi : Inv P t S) (hp1 : 1 ≤ p) (hp : p < 6) (hu : zu S p = true) : OkC b P t 6 σ0 (xComePre P t p S) (cA_hearPre b p σ) := by
  have hn := hw.2.1
  unfold xComePre cA_hearPre
  rw [h.st hp hu]
  by_cases e : zs S p = 1
  · rw [if_pos e, if_pos e]
    rw [show wtm p (xEnd P t) (xSend t 5 p 0 (wst p 2 (wlg p 3 S))) = xSends t 5 p [0] (wtm p (xEnd P t) (wst p 2 (wlg p 3 S))) from (xSends_tm [0] _).symm]
    refine (h.note hp (hi.len hp) 3).bind fun σ1 h1 => ?_
    simp only [cR_waitEnd, cT_enter, Option.bind_some]
    rw [h1.wend]
    exact ((h1.enter hp hp1 (Or.inr rfl) hu 2 (tmC_end hw ht)).send hn 5 p (to_1 (pn P) (by omega))).ret
  · rw [if_neg e, if_neg e]
    by_cases e2 : zs S p = 2
    · rw [if_pos e2, if_pos e2]
      exact (h.send hn 5 p (to_1 (pn P) (by omega))).ret
    · rw [if_neg e2, if_neg e2]; exact ⟨_, rfl, h⟩
theorem RC.settled (h : RC b P t 6 σ0 S σ) (hp : p < 6) (hu : zu S p = true) : cA_isSettled b p σ = some (decide (zs S p = 3 ∨ zs S p = 4), σ) := by
  unfold cA_isSettled
  rw [h.st hp hu]
  by_cases e : zs S p = 3
  · rw [if_pos e, decide_eq_true (Or.inl e)]
  · rw [if_neg e]
    by_cases e2 : zs S p = 4
    · rw [if_pos e2, decide_eq_true (Or.inr e2)]
    · rw [if_neg e2, decide_eq_false (fun q => q.elim e e2)]
theorem pl_st : ∀ x ∈ PLogL, (3 ≤ x.1 ↔ (x.1 = 3 ∨ x.1 = 4)) := by decide
theorem RC.answer (hw : PW P) (h : RC b P t 6 σ0 S σ) (w : Int32) : OkC b P t 6 σ0 (xAnswer P t p w S) (cA_receive_b127 b p w σ) := by
  have hn := hw.2.1
  unfold xAnswer cA_receive_b127 cA_receive_b140
  rw [show cZ σ b 3 = pz P from h.1.1]
  by_cases e : w = 6
  · rw [if_pos e, if_pos (Or.inl e)]; exact (h.send hn 8 p (to_1 (pn P) (by omega))).ret
  · rw [if_neg e]
    cases pz P
    · rw [if_pos (show w = 6 ∨ false = false from Or.inr rfl), if_neg (show ¬ false = true by decide)]; exact (h.send hn 8 p (to_1 (pn P) (by omega))).ret
    · rw [if_pos rfl, if_neg (fun q => q.elim e (by decide))]; exact ⟨_, rfl, h⟩
theorem RC.decd (hw : PW P) (h : RC b P t 6 σ0 S σ) (hi : Inv P t S) (hp1 : 1 ≤ p) (hp : p < 6) (hu : zu S p = true) (w : Int32) : OkC b P t 6 σ0 (xDecd P t p w S) (cA_receive_b115 b p w σ) := by
  have k : 3 ≤ zs S p ↔ (zs S p = 3 ∨ zs S p = 4) := pl_st _ ((hi.2.2.2 p hp1 hp).1 hu).1
  unfold xDecd cA_receive_b115
  rw [h.settled hp hu]
  simp only [Option.bind_some, decide_eq_true_eq]
  by_cases e : zs S p = 3 ∨ zs S p = 4
  · rw [if_pos e, if_pos (k.mpr e)]; exact h.answer hw w
  · rw [if_neg e, if_neg (fun q => e (k.mp q))]
    refine (h.settle hi hp1 hp hu w).bind fun σ1 h1 => ?_
    exact h1.answer hw w
theorem RC.askA (hw : PW P) (h : RC b P t 6 σ0 S σ) (hp : p < 6) (hu : zu S p = true) {f : Nat} (hf : f ≤ pn P) : OkC b P t 6 σ0 (xAskA t p f S) (cA_receive_b167 b p (nI f) σ) := by
  have hn := hw.2.1
  unfold xAskA cA_receive_b167 cA_receive_b190
  rw [h.settled hp hu]
  simp only [Option.bind_some, decide_eq_true_eq]
  rw [h.st hp hu]
  by_cases e : zs S p = 3
  · rw [if_pos (Or.inl e), if_pos e, if_pos e]; exact (h.send hn 6 p (to_one (pn P) (by omega) f (by omega) hf)).ret
  · rw [if_neg e, if_neg e]
    by_cases e4 : zs S p = 4
    · rw [if_pos (Or.inr e4), if_pos e4]; exact (h.send hn 7 p (to_one (pn P) (by omega) f (by omega) hf)).ret
    · rw [if_neg (show ¬ (zs S p = 3 ∨ zs S p = 4) from fun q => q.elim e e4), if_neg e4]; exact ⟨_, rfl, h⟩
theorem RC.comeP (hw : PW P) (ht : t ≤ 60) (h : RC b P t 6 σ0 S σ) (hi : Inv P t S) (hp1 : 1 ≤ p) (hp : p < 6) (hu : zu S p = true) (w : Int32) {f : Nat} (hf : f ≤ pn P) : OkC b P t 6 σ0 (xComeP P t p w f S) (cA_receive b p w (nI f) σ) := by
  unfold cA_receive xComeP
  simp only [sw]
  by_cases e1 : w = 1
  · rw [if_pos e1, if_pos e1]; exact h.prep hw ht hi hp1 hp hu
  · rw [if_neg e1, if_neg e1]
    by_cases e4 : w = 4
    · rw [if_pos e4, if_pos e4]; exact (h.comePre hw ht hi hp1 hp hu).ret
    · rw [if_neg e4, if_neg e4]
      by_cases e6 : w = 6
      · rw [if_pos e6, if_pos e6]; exact h.decd hw hi hp1 hp hu w
      · rw [if_neg e6, if_neg e6]
        by_cases e7 : w = 7
        · rw [if_pos e7, if_pos e7]; exact h.decd hw hi hp1 hp hu w
        · rw [if_neg e7, if_neg e7]
          by_cases e9 : w = 9
          · rw [if_pos e9, if_pos e9]
            unfold xAsk
            rw [h.st hp hu]
            by_cases e : zs S p = 0
            · rw [if_pos e, if_pos e]
              refine (h.settle0 hi hp1 hp hu e).bind fun σ1 h1 => ?_
              exact h1.askA hw hp hu hf
            · rw [if_neg e, if_neg e]; exact h.askA hw hp hu hf
          · rw [if_neg e9, if_neg e9]; exact ⟨_, rfl, h⟩
theorem RC.timeP (hw : PW P) (ht : t ≤ 60) (h : RC b P t 6 σ0 S σ) (hi : Inv P t S) (hp1 : 1 ≤ p) (hp : p < 6) (hpn : p ≤ pn P) (hu : zu S p = true) (hz : zt S p = 1000) : OkC b P t 6 σ0 (xTimeP P t p S) (cA_timeOut b p σ) := by
  have hn := hw.2.1
  unfold cA_timeOut xTimeP cA_timeOut_b72
  rw [h.st hp hu]
  by_cases e1 : zs S p = 1
  · have e2 : ¬ zs S p = 2 := by rw [e1]; decide
    simp only [if_pos e1, if_neg e2]
    rw [show cI σ 3 1 = pp P from h.2.1.2.1]
    by_cases e : pp P = 2
    · rw [if_pos e, if_pos e]
      unfold xAskAll
      simp only [cR_waitEnd, Option.bind_some]
      rw [h.wend, ← xSends_tm]
      have h1 := h.tm1 hp hu (tmC_end hw ht)
      rw [show cI (tI σ (b + 2 + p) 5 (xEnd P t)) b 5 = xEv P from h1.1.2.2.1]
      exact (h1.send hn 9 p (to_ask' (pn P) (by omega) p (by omega) hp1 hpn)).ret
    · rw [if_neg e, if_neg e]
      have k := h.settle hi hp1 hp hu 7
      have q : xSettle p 7 S = wst p 4 (wlg p 5 S) := by
        unfold xSettle
        rw [if_neg (by decide), if_neg (by decide)]
        exact wtm_same (S := wst p 4 (wlg p 5 S)) hz
      rw [q] at k; exact k.ret
  · simp only [if_neg e1]
    by_cases e2 : zs S p = 2
    · simp only [if_pos e2]
      have k := h.settle hi hp1 hp hu 6
      have q : xSettle p 6 S = wst p 3 (wlg p 4 S) := by
        unfold xSettle
        rw [if_pos rfl, if_pos rfl]
        exact wtm_same (S := wst p 3 (wlg p 4 S)) hz
      rw [q] at k; exact k.ret
    · simp only [if_neg e2]; exact ⟨_, rfl, h⟩
theorem RC.recP (hw : PW P) (ht : t ≤ 60) (h : RC b P t 6 σ0 S σ) (hi : Inv P t S) (hp1 : 1 ≤ p) (hp : p < 6) : OkC b P t 6 σ0 (xRec P t p S) (cA_recover b p (tZ σ (b + 2 + p) 3 true)) := by
  have h1 : RC b P t p σ0 (wtm p 1000 (wu p true S)) (tZ σ (b + 2 + p) 3 true) := (h.up hp).exTm 1000
  have hu : zu (wtm p 1000 (wu p true S)) p = true := va_up_s _ _ _
  have hz : zt (wtm p 1000 (wu p true S)) p = 1000 := va_up_s _ _ _
  have hl : (zg (wtm p 1000 (wu p true S)) p).length < 8 := hi.len hp
  unfold xRec
  rw [if_neg (show ¬ p = 0 by omega)]
  generalize hS : wtm p 1000 (wu p true S) = S1 at h1 hu hz hl ⊢
  generalize hσ : tZ σ (b + 2 + p) 3 true = σ1 at h1 ⊢
  unfold cA_recover xRecP
  rw [h1.last hp]
  simp only [Option.bind_some]
  have B : ∀ (S2 : ZS) (σ2 : CS) (l v : Int32), RC b P t p σ0 S2 σ2 → zu S2 p = true → zt S2 p = 1000 → cA_stateBehind l σ2 = some (v, σ2) → v ≠ 1 → v ≠ 2 → OkC b P t 6 σ0 (wst p v S2) (cA_recover_b14 b p l σ2) := by
    intro S2 σ2 l v g gu gz gs n1 n2
    unfold cA_recover_b14
    rw [gs]
    simp only [Option.bind_some, cT_enter]
    have k := g.enter hp hp1 (Or.inl rfl) gu v (tv := 1000) (tc := 160) rfl
    rw [wtm_same (S := wst p v S2) gz] at k
    rw [show cI (tI (tI σ2 (b + 2 + p) 4 v) (b + 2 + p) 5 160) (b + 2 + p) 4 = v from (cI_k (by decide)).trans cI_s, if_neg n1, if_neg n2]
    exact ⟨_, rfl, k⟩
  by_cases e0 : xLast (zg S1 p) = 0
  · rw [if_pos e0, if_pos e0]
    refine (h1.note hp hl 5).bind fun σ2 h2 => ?_
    rw [e0]
    exact B (wlg p 5 S1) σ2 0 4 h2 hu hz rfl (by decide) (by decide)
  · rw [if_neg e0, if_neg e0]
    by_cases e2 : xLast (zg S1 p) = 2
    · rw [if_pos e2, e2]
      unfold cA_recover_b14
      rw [show cA_stateBehind 2 σ1 = some (1, σ1) from rfl]
      simp only [Option.bind_some, cT_enter]
      have k := h1.enter hp hp1 (Or.inl rfl) hu 1 (tv := 1000) (tc := 160) rfl
      rw [show cI (tI (tI σ1 (b + 2 + p) 4 1) (b + 2 + p) 5 160) (b + 2 + p) 4 = 1 from (cI_k (by decide)).trans cI_s, if_pos rfl, show cI (tI (tI σ1 (b + 2 + p) 4 1) (b + 2 + p) 5 160) b 6 = nI t from k.1.2.2.2]
      have k2 := k.tm1 hp hu (tmC_t ht)
      rw [wtm_wtm] at k2
      exact ⟨_, rfl, k2⟩
    · rw [if_neg e2]
      by_cases e3 : xLast (zg S1 p) = 3
      · rw [if_pos e3, e3]
        unfold cA_recover_b14
        rw [show cA_stateBehind 3 σ1 = some (2, σ1) from rfl]
        simp only [Option.bind_some, cT_enter, cR_waitEnd]
        have k := h1.enter hp hp1 (Or.inl rfl) hu 2 (tv := 1000) (tc := 160) rfl
        rw [show cI (tI (tI σ1 (b + 2 + p) 4 2) (b + 2 + p) 5 160) (b + 2 + p) 4 = 2 from (cI_k (by decide)).trans cI_s, if_neg (by decide), if_pos rfl, k.wend]
        have k2 := k.tm1 hp hu (tmC_end hw ht)
        rw [wtm_wtm] at k2
        exact ⟨_, rfl, k2⟩
      · rw [if_neg e3]
        by_cases e4 : xLast (zg S1 p) = 4
        · rw [if_pos e4, e4]
          exact B S1 σ1 4 3 h1 hu hz rfl (by decide) (by decide)
        · rw [if_neg e4]
          refine B S1 σ1 _ 4 h1 hu hz ?_ (by decide) (by decide)
          unfold cA_stateBehind
          simp only [sw]
          rw [if_neg e2, if_neg e3, if_neg e4]
end RC4
