/-! THE REFERENCE KEEPS THE TOLD RUN: what participants do; a tick -/
section RMp
variable {P : ZP} {t f : Nat} {τ0 τ : MS} {S : ZS}
theorem Short.st {S : ZS} (h : Short S) (s : Nat) (v : Int32) : Short (wst s v S) := h
theorem RM.prep (h : RM P t f τ0 S τ) (hl : Short S) {p : Nat} (hp : p < 6) (hp1 : 1 ≤ p) : OkM P t f τ0 (xPrep P t p S) (m_comesPrepare (nI p) τ) := by
  unfold m_comesPrepare xPrep
  rw [P_in hp (by decide), P_ix (show p < 2 ^ 31 by omega), h.s hp, h.1.2.2.2.2.1 p hp1 (by omega)]
  simp only [if_true]
  have hl' : (zg S p).length < 20 := Nat.lt_of_le_of_lt (hl p hp) (by omega)
  by_cases e : zs S p = 0
  · rw [if_pos e, if_pos e]
    cases pv P p
    · rw [if_neg (show ¬ bI false = 1 by decide), if_neg (by decide)]
      refine (h.notes hp hl' 5).bind fun τ1 h1 => ?_
      exact ((h1.st p 4).send 3 p 0).ret
    · rw [if_pos (show bI true = 1 from rfl), if_pos rfl]
      refine (h.notes hp hl' 2).bind fun τ1 h1 => ?_
      refine ((h1.st p 1).send 2 p 0).bind fun τ2 h2 => ?_
      exact (h2.timer hp).ret
  · rw [if_neg e, if_neg e]; exact ⟨_, rfl, h⟩
theorem RM.comePre (h : RM P t f τ0 S τ) (hl : Short S) {p : Nat} (hp : p < 6) : OkM P t f τ0 (xComePre P t p S) (m_comesPre (nI p) τ) := by
  unfold m_comesPre xComePre
  rw [P_in hp (by decide), P_ix (show p < 2 ^ 31 by omega), h.s hp]
  simp only [if_true]
  have hl' : (zg S p).length < 20 := Nat.lt_of_le_of_lt (hl p hp) (by omega)
  by_cases e : zs S p = 1
  · rw [if_pos e, if_pos e]
    refine (h.notes hp hl' 3).bind fun τ1 h1 => ?_
    refine ((h1.st p 2).send 5 p 0).bind fun τ2 h2 => ?_
    exact (h2.timer hp).ret
  · rw [if_neg e, if_neg e]
    by_cases e2 : zs S p = 2
    · rw [if_pos e2, if_pos e2]; exact (h.send 5 p 0).ret
    · rw [if_neg e2, if_neg e2]; exact ⟨_, rfl, h⟩
theorem RM.answer (h : RM P t f τ0 S τ) (p : Nat) (w : Int32) : OkM P t f τ0 (xAnswer P t p w S) (m_comesDecision_b52 (nI p) w τ) := by
  unfold m_comesDecision_b52 xAnswer m_comesDecision_b65
  rw [show mI τ 8 = bI (pz P) from h.1.2.2.2.1]
  by_cases e : w = 6
  · rw [if_pos e, if_pos (Or.inl e)]; exact (h.send 8 p 0).ret
  · rw [if_neg e]
    cases hz : pz P
    · rw [if_pos (show bI false = 0 from rfl), if_pos (Or.inr rfl)]; exact (h.send 8 p 0).ret
    · rw [if_neg (show ¬ bI true = 0 by decide), if_neg (fun q => q.elim e (by decide))]; exact ⟨_, rfl, h⟩
theorem RM.decd (h : RM P t f τ0 S τ) (hl : Short S) {p : Nat} (hp : p < 6) (w : Int32) : OkM P t f τ0 (xDecd P t p w S) (m_comesDecision (nI p) w τ) := by
  unfold m_comesDecision xDecd m_comesDecision_b23
  rw [P_in hp (by decide), P_ix (show p < 2 ^ 31 by omega), h.s hp]
  simp only [if_true]
  have hl' : (zg S p).length < 20 := Nat.lt_of_le_of_lt (hl p hp) (by omega)
  by_cases e : 3 ≤ zs S p
  · rw [if_pos e, if_pos e]; exact h.answer p w
  · rw [if_neg e, if_neg e]
    unfold xSettle
    by_cases e6 : w = 6
    · simp only [if_pos e6]
      refine (h.notes hp hl' 4).bind fun τ1 h1 => ?_
      exact ((h1.st p 3).tm p 1000).answer p w
    · simp only [if_neg e6]
      refine (h.notes hp hl' 5).bind fun τ1 h1 => ?_
      exact ((h1.st p 4).tm p 1000).answer p w
theorem RM.askA (h : RM P t f τ0 S τ) {p : Nat} (hp : p < 6) (g : Nat) : OkM P t f τ0 (xAskA t p g S) (m_comesAsk_b22 (nI p) (nI g) τ) := by
  unfold m_comesAsk_b22 m_comesAsk_b40 xAskA
  rw [P_in hp (by decide), P_ix (show p < 2 ^ 31 by omega), h.s hp]
  simp only [if_true]
  by_cases e3 : zs S p = 3
  · rw [if_pos e3, if_pos e3]
    refine (h.send 6 p g).bind fun τ1 h1 => ?_
    have k : zs (xSend t 6 p g S) p = 3 := by unfold xSend; split; exact e3; exact e3
    rw [show mA τ1 10 p = 3 from (h1.s hp).trans k, if_neg (by decide)]
    exact ⟨_, rfl, h1⟩
  · rw [if_neg e3, if_neg e3]
    by_cases e4 : zs S p = 4
    · rw [if_pos e4, if_pos e4]; exact (h.send 7 p g).ret
    · rw [if_neg e4, if_neg e4]; exact ⟨_, rfl, h⟩
theorem RM.ask (h : RM P t f τ0 S τ) (hl : Short S) {p : Nat} (hp : p < 6) (g : Nat) : OkM P t f τ0 (xAsk t p g S) (m_comesAsk (nI p) (nI g) τ) := by
  unfold m_comesAsk xAsk
  rw [P_in hp (by decide), P_ix (show p < 2 ^ 31 by omega), h.s hp]
  simp only [if_true]
  by_cases e : zs S p = 0
  · rw [if_pos e, if_pos e]
    refine (h.notes hp (Nat.lt_of_le_of_lt (hl p hp) (by omega)) 5).bind fun τ1 h1 => ?_
    exact (h1.st p 4).askA hp g
  · rw [if_neg e, if_neg e]; exact h.askA hp g
theorem RM.comeP (h : RM P t f τ0 S τ) (hl : Short S) {p : Nat} (hp : p < 6) (hp1 : 1 ≤ p) (w : Int32) (g : Nat) : OkM P t f τ0 (xComeP P t p w g S) (m_comesToParticipant (nI p) w (nI g) τ) := by
  unfold m_comesToParticipant xComeP m_comesToParticipant_b68
  simp only [sw]
  by_cases e1 : w = 1
  · rw [if_pos e1, if_pos e1]; exact (h.prep hl hp hp1).ret
  · rw [if_neg e1, if_neg e1]
    by_cases e4 : w = 4
    · rw [if_pos e4, if_pos e4]; exact (h.comePre hl hp).ret
    · rw [if_neg e4, if_neg e4]
      by_cases e6 : w = 6
      · rw [if_pos e6, if_pos e6]; exact (h.decd hl hp w).ret
      · rw [if_neg e6, if_neg e6]
        by_cases e7 : w = 7
        · rw [if_pos e7, if_pos e7]; exact (h.decd hl hp w).ret
        · rw [if_neg e7, if_neg e7]
          by_cases e9 : w = 9
          · rw [if_pos e9, if_pos e9]; exact (h.ask hl hp g).ret
          · rw [if_neg e9, if_neg e9]; exact ⟨_, rfl, h⟩
theorem RM.asks (hn : pn P ≤ 5) {p : Nat} (hp : p < 6) : ∀ (r a fu : Nat) (S : ZS) (τ : MS), RM P t f τ0 S τ → a + r = pn P + 1 → r < fu → OkM P t f τ0 (wtm p (xEnd P t) (xSends t 9 p ((List.range' a r).filter (fun q => decide (q ≠ p))) S)) (m_asksAll_l10 fu (nI p) (nI a) τ)
  | r, a, 0, S, τ, _, _, h3 => by omega
  | 0, a, fu + 1, S, τ, h, h2, _ => by
    unfold m_asksAll_l10 m_asksAll_b37
    rw [h.n, if_pos ((P_lt (by omega) (by omega)).mpr (by omega))]
    exact (h.timer hp).ret
  | r + 1, a, fu + 1, S, τ, h, h2, h3 => by
    unfold m_asksAll_l10
    rw [h.n, if_neg (fun q => absurd ((P_lt (by omega) (by omega)).mp q) (by omega)), List.range'_succ, nI_1]
    by_cases e : a = p
    · rw [if_pos (by rw [e]), List.filter_cons_of_neg (by simpa using e)]
      exact RM.asks hn hp r (a + 1) fu S τ h (by omega) (by omega)
    · rw [if_neg (P_ne (by omega) (by omega) e), List.filter_cons_of_pos (by simpa using e)]
      refine (h.send 9 p a).bind fun τ' h' => ?_
      exact RM.asks hn hp r (a + 1) fu _ τ' h' (by omega) (by omega)
theorem RM.askAll (hn : pn P ≤ 5) (h : RM P t f τ0 S τ) {p : Nat} (hp : p < 6) : OkM P t f τ0 (xAskAll P t p S) (m_asksAll (nI p) τ) := by
  unfold m_asksAll xAskAll
  refine (h.send 9 p 0).bind fun τ' h' => ?_
  exact RM.asks hn hp (pn P) 1 4096 _ τ' h' (by omega) (by omega)
theorem RM.timeP (hn : pn P ≤ 5) (h : RM P t f τ0 S τ) (hl : Short S) {p : Nat} (hp : p < 6) : OkM P t f τ0 (xTimeP P t p S) (m_timesOutParticipant (nI p) τ) := by
  unfold m_timesOutParticipant xTimeP m_timesOutParticipant_b26
  rw [P_in hp (by decide), P_ix (show p < 2 ^ 31 by omega), h.s hp, show mI τ 6 = pp P from h.1.2.1]
  simp only [if_true]
  have hl' : (zg S p).length < 20 := Nat.lt_of_le_of_lt (hl p hp) (by omega)
  by_cases e1 : zs S p = 1
  · simp only [if_pos e1]
    by_cases e : pp P = 2
    · rw [if_pos e, if_pos e]; exact (h.askAll hn hp).ret
    · rw [if_neg e, if_neg e]
      refine (h.notes hp hl' 5).bind fun τ1 h1 => ?_
      exact ⟨_, rfl, h1.st p 4⟩
  · simp only [if_neg e1]
    by_cases e2 : zs S p = 2
    · rw [if_pos e2, if_pos e2]
      refine (h.notes hp hl' 4).bind fun τ1 h1 => ?_
      exact ⟨_, rfl, h1.st p 3⟩
    · rw [if_neg e2, if_neg e2]; exact ⟨_, rfl, h⟩
theorem RM.recP (h : RM P t f τ0 S τ) (hl : Short S) {p : Nat} (hp : p < 6) : OkM P t f τ0 (xRecP P t p S) (m_recoversParticipant (nI p) τ) := by
  unfold m_recoversParticipant xRecP m_recoversParticipant_b91
  rw [P_in hp (by decide), P_ix (show p < 2 ^ 31 by omega), h.last hp]
  simp only [if_true, Option.bind_some, sw]
  by_cases e0 : xLast (zg S p) = 0
  · rw [if_pos e0, if_pos e0]
    refine (h.notes hp (Nat.lt_of_le_of_lt (hl p hp) (by omega)) 5).bind fun τ1 h1 => ?_
    exact ⟨_, rfl, h1.st p 4⟩
  · rw [if_neg e0, if_neg e0]
    by_cases e2 : xLast (zg S p) = 2
    · rw [if_pos e2, if_pos e2, show mI τ 22 = nI t from h.2.1.1]
      exact ⟨_, rfl, (h.st p 1).tm p (nI t)⟩
    · rw [if_neg e2, if_neg e2]
      by_cases e3 : xLast (zg S p) = 3
      · rw [if_pos e3, if_pos e3]
        exact ((h.st p 2).timer hp).ret
      · rw [if_neg e3, if_neg e3]
        rw [h.last hp]
        simp only [Option.bind_some]
        by_cases e4 : xLast (zg S p) = 4
        · rw [if_pos e4, if_pos e4]; exact ⟨_, rfl, h.st p 3⟩
        · rw [if_neg e4, if_neg e4]; exact ⟨_, rfl, h.st p 4⟩
theorem RM.rec (hn : pn P ≤ 5) (h : RM P t f τ0 S τ) (hl : Short S) {s : Nat} (hs : s < 6) : OkM P t f τ0 (xRec P t s S) (m_recovers (nI s) τ) := by
  unfold m_recovers xRec
  rw [P_in hs (by decide), P_ix (show s < 2 ^ 31 by omega)]
  simp only [if_true]
  by_cases e : s = 0
  · subst e
    rw [if_pos (show nI 0 = 0 from rfl), if_pos rfl]
    exact (((h.u 0 true).tm 0 1000).recC0 hn hl).ret
  · rw [if_neg (qI_ne0 e (by omega)), if_neg e]
    exact (((h.u s true).tm s 1000).recP hl hs).ret
theorem RM.time (hn : pn P ≤ 5) (h : RM P t f τ0 S τ) (hl : Short S) {s : Nat} (hs : s < 6) : OkM P t f τ0 (xTime P t s S) (m_timesOut (nI s) τ) := by
  unfold m_timesOut xTime
  rw [P_in hs (by decide), P_ix (show s < 2 ^ 31 by omega)]
  simp only [if_true]
  by_cases e : s = 0
  · subst e
    rw [if_pos (show nI 0 = 0 from rfl), if_pos rfl]
    exact ((h.tm 0 1000).timeC hn hl).ret
  · rw [if_neg (qI_ne0 e (by omega)), if_neg e]
    exact ((h.tm s 1000).timeP hn hl hs).ret
theorem RM.arr (hn : pn P ≤ 5) (h : RM P t f τ0 S τ) (hl : Short S) {m : Nat} (hm : m < zn S) (ho : zo S m < 6) : OkM P t f τ0 (xArr P t m S) (m_arrives (nI m) τ) := by
  have h200 : zn S ≤ 200 := h.2.2.2.2.2.2.2.1.1
  obtain ⟨a1, a2, a3, a4, a5⟩ := h.2.2.2.2.2.2.2.1.2 m hm
  have K : OkM P t f τ0 (if zu S (zo S m) = false then wft m 2 S else if zo S m = 0 then xComeC P t (zw S m) (zf S m) (wft m 0 S) else xComeP P t (zo S m) (zw S m) (zf S m) (wft m 0 S)) (m_arrives_b33 (nI m) (nI (zo S m)) τ) := by
    unfold m_arrives_b33
    rw [P_in ho (by decide), P_ix (show zo S m < 2 ^ 31 by omega), P_in (show m < 200 by omega) (by decide), P_ix (show m < 2 ^ 31 by omega), show mA τ 11 (zo S m) = bI (zu S (zo S m)) from h.2.2.1 _ ho]
    simp only [if_true]
    cases zu S (zo S m)
    · rw [if_pos (show bI false = 0 from rfl), if_pos rfl]; exact ⟨_, rfl, h.ft m 2⟩
    · rw [if_neg (show ¬ bI true = 0 by decide), if_neg (by decide), a1, a2]
      by_cases e : zo S m = 0
      · rw [if_pos (show nI (zo S m) = 0 from (by rw [e]; rfl)), if_pos e]; exact ((h.ft m 0).comeC hn hl _ _).ret
      · rw [if_neg (qI_ne0 e (by omega)), if_neg e]; exact ((h.ft m 0).comeP hl ho (by omega) _ _).ret
  unfold m_arrives xArr
  rw [P_in (show m < 200 by omega) (by decide), P_ix (show m < 2 ^ 31 by omega), a3]
  simp only [if_true]
  by_cases e : m < 60
  · rw [if_neg (show ¬ 60 ≤ nI m from fun q => absurd ((P_le (a := 60) (by omega) (by omega)).mp q) (by omega)), P_in e (by decide), if_pos rfl, show mA τ 2 m = bI (pl P m) from h.1.2.2.2.2.2.1 m e]
    cases pl P m
    · rw [if_neg (show ¬ bI false = 1 by decide), if_neg (fun q => absurd q.2 (by decide))]; exact K
    · rw [if_pos (show bI true = 1 from rfl), if_pos ⟨e, rfl⟩]; exact ⟨_, rfl, h.ft m 1⟩
  · rw [if_pos (show 60 ≤ nI m from (P_le (a := 60) (by omega) (by omega)).mpr (by omega)), if_neg (fun q => e q.1)]; exact K
end RMp
