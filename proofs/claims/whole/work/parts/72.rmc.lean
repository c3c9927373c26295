/-! THE REFERENCE KEEPS THE TOLD RUN: what the coordinator does -/
def Short (S : ZS) : Prop := ∀ s, s < 6 → (zg S s).length ≤ 8
theorem mA_s {τ : MS} {k i : Nat} {v : Int32} : mA (sA τ k i v) k i = v := by
  show va_up τ.2.2.1 k (upd (τ.2.2.1 k) i v) k i = v
  rw [va_up_s, pk_us]
theorem i06 : inB 0 6 = true := rfl
theorem qI_ne0 {a : Nat} (h : a ≠ 0) (h2 : a < 2 ^ 31) : ¬ nI a = 0 := P_ne (b := 0) h2 (by omega) h
theorem x00 : ix 0 = 0 := rfl
section RMc
variable {P : ZP} {t f : Nat} {τ0 τ : MS} {S : ZS}
theorem RM.s (h : RM P t f τ0 S τ) {s : Nat} (hs : s < 6) : mA τ 10 s = zs S s := h.2.2.2.1 s hs
theorem RM.n (h : RM P t f τ0 S τ) : mI τ 5 = nI (pn P) := h.1.1
theorem RM.decC (hn : pn P ≤ 5) (h : RM P t f τ0 S τ) (hl : Short S) : OkM P t f τ0 (xDecC P t S) (m_decidesCommit τ) := by
  unfold m_decidesCommit xDecC
  refine ((h.dc 6).notes (s := 0) (by omega) (Nat.lt_of_le_of_lt (hl 0 (by omega)) (by omega)) 4).bind fun τ1 h1 => ?_
  simp only [i06, if_true, x00]
  refine (RM.sendAll hn (h1.st 0 3) 6).bind fun τ2 h2 => ?_
  exact (h2.timer (s := 0) (by omega)).ret
theorem RM.decA (hn : pn P ≤ 5) (h : RM P t f τ0 S τ) (hl : Short S) : OkM P t f τ0 (xDecA P t S) (m_decidesAbort τ) := by
  unfold m_decidesAbort xDecA
  rw [show mI τ 8 = bI (pz P) from h.1.2.2.2.1]
  simp only [i06, if_true, x00]
  cases pz P
  · rw [if_neg (show ¬ bI false = 1 from by decide), if_neg (by decide)]
    refine ((h.dc 7).notes (s := 0) (by omega) (Nat.lt_of_le_of_lt (hl 0 (by omega)) (by omega)) 5).bind fun τ1 h1 => ?_
    refine (RM.sendAll hn (h1.st 0 4) 7).bind fun τ2 h2 => ?_
    exact (h2.timer (s := 0) (by omega)).ret
  · rw [if_pos (show bI true = 1 from rfl), if_pos rfl]
    refine (RM.sendAll hn ((h.dc 7).st 0 5) 7).bind fun τ2 h2 => ?_
    exact ⟨_, rfl, h2.tm 0 1000⟩
theorem RM.begins (hn : pn P ≤ 5) (h : RM P t f τ0 S τ) (hl : Short S) : OkM P t f τ0 (xBegin P t S) (m_beginsCoordinator τ) := by
  unfold m_beginsCoordinator xBegin
  refine (h.notes (s := 0) (by omega) (Nat.lt_of_le_of_lt (hl 0 (by omega)) (by omega)) 1).bind fun τ1 h1 => ?_
  simp only [i06, if_true, x00]
  refine (RM.sendAll hn (h1.st 0 1) 1).bind fun τ2 h2 => ?_
  exact (h2.timer (s := 0) (by omega)).ret
theorem RM.pre (hn : pn P ≤ 5) (h : RM P t f τ0 S τ) (hl : Short S) : OkM P t f τ0 (xPre P t S) (m_becomesPre τ) := by
  unfold m_becomesPre xPre
  refine (h.notes (s := 0) (by omega) (Nat.lt_of_le_of_lt (hl 0 (by omega)) (by omega)) 3).bind fun τ1 h1 => ?_
  simp only [i06, if_true, x00]
  refine (RM.sendAll hn (h1.st 0 2) 4).bind fun τ2 h2 => ?_
  exact (h2.timer (s := 0) (by omega)).ret
theorem RM.ends (h : RM P t f τ0 S τ) (hl : Short S) : OkM P t f τ0 (xEnds S) (m_ends τ) := by
  unfold m_ends xEnds
  refine (h.notes (s := 0) (by omega) (Nat.lt_of_le_of_lt (hl 0 (by omega)) (by omega)) 6).bind fun τ1 h1 => ?_
  simp only [i06, if_true, x00]
  exact ⟨_, rfl, (h1.st 0 5).tm 0 1000⟩
theorem RM.counts (h : RM P t f τ0 S τ) {k : Nat} (hk : k < 3) (p : Nat) : m_countsAll (nI k) (nI p) τ = some (decide (zc (xCount k p S) k = xEv P), sA τ 15 k (xMask (zc S k) p)) ∧ RM P t f τ0 (xCount k p S) (sA τ 15 k (xMask (zc S k) p)) := by
  refine ⟨?_, h.cn k _⟩
  have hz : zc (xCount k p S) k = xMask (zc S k) p := va_up_s _ _ _
  unfold m_countsAll
  rw [P_in hk (by decide), P_ix (show k < 2 ^ 31 by omega), show mA τ 15 k = zc S k from h.2.2.2.2.2.1 k hk, h.n, hz]
  simp only [if_true]
  rw [mA_s]
  by_cases e : xMask (zc S k) p = xEv P
  · rw [decide_eq_true e]; exact if_pos e
  · rw [decide_eq_false e]; exact if_neg e
theorem RM.decided (h : RM P t f τ0 S τ) : m_hasDecided τ = some (decide (zs S 0 = 3 ∨ zs S 0 = 4), τ) := by
  unfold m_hasDecided
  rw [x00, h.s (show 0 < 6 by omega)]
  simp only [i06, if_true]
  by_cases e : zs S 0 = 3
  · rw [if_pos e, decide_eq_true (Or.inl e)]
  · rw [if_neg e]
    by_cases e2 : zs S 0 = 4
    · rw [if_pos e2, decide_eq_true (Or.inr e2)]
    · rw [if_neg e2, decide_eq_false (fun q => q.elim e e2)]
theorem RM.comeC (hn : pn P ≤ 5) (h : RM P t f τ0 S τ) (hl : Short S) (w : Int32) (p : Nat) : OkM P t f τ0 (xComeC P t w p S) (m_comesToCoordinator w (nI p) τ) := by
  unfold m_comesToCoordinator xComeC
  rw [x00, h.s (show 0 < 6 by omega)]
  simp only [sw, i06, if_true]
  by_cases e2 : w = 2
  · rw [if_pos e2, if_pos e2]
    by_cases e : zs S 0 = 1
    · rw [if_pos e, if_pos e]
      obtain ⟨c1, c2⟩ := h.counts (k := 0) (by omega) p
      rw [show m_countsAll 0 (nI p) τ = _ from c1]
      simp only [Option.bind_some, decide_eq_true_eq]
      by_cases q : zc (xCount 0 p S) 0 = xEv P
      · rw [if_pos q, if_pos q, show mI (sA τ 15 0 (xMask (zc S 0) p)) 6 = pp P from c2.1.2.1]
        by_cases q2 : pp P = 2
        · rw [if_pos q2, if_pos q2]; exact (c2.decC hn hl).ret
        · rw [if_neg q2, if_neg q2]; exact (c2.pre hn hl).ret
      · rw [if_neg q, if_neg q]; exact ⟨_, rfl, c2⟩
    · rw [if_neg e, if_neg e]; exact ⟨_, rfl, h⟩
  · rw [if_neg e2, if_neg e2]
    by_cases e3 : w = 3
    · rw [if_pos e3, if_pos e3]
      by_cases e : zs S 0 = 1
      · rw [if_pos e, if_pos e]; exact (h.decA hn hl).ret
      · rw [if_neg e, if_neg e]; exact ⟨_, rfl, h⟩
    · rw [if_neg e3, if_neg e3]
      by_cases e5 : w = 5
      · rw [if_pos e5, if_pos e5]
        by_cases e : zs S 0 = 2
        · rw [if_pos e, if_pos e]
          obtain ⟨c1, c2⟩ := h.counts (k := 1) (by omega) p
          rw [show m_countsAll 1 (nI p) τ = _ from c1]
          simp only [Option.bind_some, decide_eq_true_eq]
          by_cases q : zc (xCount 1 p S) 1 = xEv P
          · rw [if_pos q, if_pos q]; exact (c2.decC hn hl).ret
          · rw [if_neg q, if_neg q]; exact ⟨_, rfl, c2⟩
        · rw [if_neg e, if_neg e]; exact ⟨_, rfl, h⟩
      · rw [if_neg e5, if_neg e5]
        by_cases e8 : w = 8
        · rw [if_pos e8, if_pos e8, h.decided]
          simp only [Option.bind_some, decide_eq_true_eq]
          by_cases e : zs S 0 = 3 ∨ zs S 0 = 4
          · rw [if_pos e, if_pos e]
            obtain ⟨c1, c2⟩ := h.counts (k := 2) (by omega) p
            rw [show m_countsAll 2 (nI p) τ = _ from c1]
            simp only [Option.bind_some, decide_eq_true_eq]
            by_cases q : zc (xCount 2 p S) 2 = xEv P
            · rw [if_pos q, if_pos q]; exact (c2.ends hl).ret
            · rw [if_neg q, if_neg q]; exact ⟨_, rfl, c2⟩
          · rw [if_neg e, if_neg e]; exact ⟨_, rfl, h⟩
        · rw [if_neg e8, if_neg e8]
          by_cases e9 : w = 9
          · rw [if_pos e9, if_pos e9]
            by_cases e : zs S 0 ≤ 2
            · rw [if_pos e, if_pos e]; exact ⟨_, rfl, h⟩
            · rw [if_neg e, if_neg e, show mI τ 24 = zd S from h.2.1.2.2.1]; exact (h.send (zd S) 0 p).ret
          · rw [if_neg e9, if_neg e9]; exact ⟨_, rfl, h⟩
theorem RM.late (hn : pn P ≤ 5) (c : Int32) (w : Int32) : ∀ (r a fu : Nat) (S : ZS) (τ : MS), RM P t f τ0 S τ → zc S 2 = c → zd S = w → a + r = pn P + 1 → r < fu → OkM P t f τ0 (wtm 0 (xEnd P t) (xSends t w 0 (xLate c (List.range' a r)) S)) (m_timesOutCoordinator_l43 fu (nI a) τ)
  | r, a, 0, S, τ, _, _, _, _, h3 => by omega
  | 0, a, fu + 1, S, τ, h, _, _, h2, _ => by
    unfold m_timesOutCoordinator_l43 m_timesOutCoordinator_b80
    rw [h.n, if_pos ((P_lt (by omega) (by omega)).mpr (by omega))]
    exact (h.timer (s := 0) (by omega)).ret
  | r + 1, a, fu + 1, S, τ, h, hc, hw, h2, h3 => by
    unfold m_timesOutCoordinator_l43
    rw [h.n, if_neg (fun q => absurd ((P_lt (by omega) (by omega)).mp q) (by omega)), List.range'_succ, if_pos (show inB 2 3 = true from rfl), show ix 2 = 2 from rfl, show mA τ 15 2 = c from (h.2.2.2.2.2.1 2 (by omega)).trans hc, show mI τ 24 = w from h.2.1.2.2.1.trans hw, nI_1]
    unfold xLate
    by_cases e : ((c >>> (nI a &&& 31)) &&& 1) = 0
    · rw [if_pos e, List.filter_cons_of_pos (by simpa using e)]
      refine (h.send w 0 a).bind fun τ' h' => ?_
      have k1 : zc (xSend t w 0 a S) 2 = c := by unfold xSend; split; exact hc; exact hc
      have k2 : zd (xSend t w 0 a S) = w := by unfold xSend; split; exact hw; exact hw
      exact RM.late hn c w r (a + 1) fu _ τ' h' k1 k2 (by omega) (by omega)
    · rw [if_neg e, List.filter_cons_of_neg (by simpa using e)]
      exact RM.late hn c w r (a + 1) fu S τ h hc hw (by omega) (by omega)
theorem RM.timeC (hn : pn P ≤ 5) (h : RM P t f τ0 S τ) (hl : Short S) : OkM P t f τ0 (xTimeC P t S) (m_timesOutCoordinator τ) := by
  unfold m_timesOutCoordinator xTimeC
  rw [x00, h.s (show 0 < 6 by omega)]
  simp only [i06, if_true]
  by_cases e1 : zs S 0 = 1
  · rw [if_pos e1, if_pos e1]; exact (h.decA hn hl).ret
  · rw [if_neg e1, if_neg e1]
    by_cases e2 : zs S 0 = 2
    · rw [if_pos e2, if_pos e2]; exact (h.decC hn hl).ret
    · rw [if_neg e2, if_neg e2, h.decided]
      simp only [Option.bind_some, decide_eq_true_eq]
      by_cases e : zs S 0 = 3 ∨ zs S 0 = 4
      · rw [if_pos e, if_pos e]
        exact RM.late hn (zc S 2) (zd S) (pn P) 1 4096 S τ h rfl rfl (by omega) (by omega)
      · rw [if_neg e, if_neg e]; exact ⟨_, rfl, h⟩
theorem lastD_get {l : List Int32} {k : Nat} (h : l.length = k + 1) : l.getD k 0 = xLast l := by
  unfold xLast
  rw [List.getLast?_eq_getElem?, h]; simp [List.getD]
theorem RM.last (h : RM P t f τ0 S τ) {s : Nat} (hs : s < 6) : m_lastOf (nI s) (mA τ 14 s) τ = some (xLast (zg S s), τ) := by
  obtain ⟨h1, h2, h3⟩ := h.2.2.2.2.2.2.1 s hs
  unfold m_lastOf
  rw [h1]
  by_cases e : (zg S s).length = 0
  · rw [e, if_pos (show nI 0 = 0 from rfl), List.eq_nil_of_length_eq_zero e]; rfl
  · obtain ⟨k, hk⟩ := Nat.exists_eq_succ_of_ne_zero e
    have hk' : (zg S s).length = k + 1 := hk
    have e7 : ((20 * nI s) + nI (k + 1)) - 1 = nI (20 * s + k) := by
      rw [show (20 : Int32) = nI 20 from rfl, pk_mul, nI_add, show (1 : Int32) = nI 1 from rfl, pk_sub (by omega)]; rfl
    rw [hk', if_neg (qI_ne0 (a := k + 1) (by omega) (by omega)), e7, P_in (show 20 * s + k < 120 by omega) (by decide), if_pos rfl, P_ix (show 20 * s + k < 2 ^ 31 by omega), h3 k (by omega), lastD_get hk']
theorem RM.last2 (h : RM P t f τ0 S τ) {s : Nat} (hs : s < 6) (hne : zg S s ≠ []) : m_lastOf (nI s) (mA τ 14 s - 1) τ = some (xLast (zg S s).dropLast, τ) := by
  obtain ⟨h1, h2, h3⟩ := h.2.2.2.2.2.2.1 s hs
  unfold m_lastOf
  rw [h1]
  obtain ⟨k, hk⟩ := Nat.exists_eq_succ_of_ne_zero (show (zg S s).length ≠ 0 from fun q => hne (List.eq_nil_of_length_eq_zero q))
  have hk' : (zg S s).length = k + 1 := hk
  rw [hk', show (1 : Int32) = nI 1 from rfl, pk_sub (by omega), Nat.add_sub_cancel]
  by_cases e : k = 0
  · subst e
    rw [if_pos (show nI 0 = 0 from rfl), List.eq_nil_of_length_eq_zero (show (zg S s).dropLast.length = 0 by simp [hk'])]; rfl
  · obtain ⟨j, rfl⟩ : ∃ j, k = j + 1 := ⟨k - 1, by omega⟩
    have e7 : ((20 * nI s) + nI (j + 1)) - nI 1 = nI (20 * s + j) := by
      rw [show (20 : Int32) = nI 20 from rfl, pk_mul, nI_add, pk_sub (by omega)]; rfl
    rw [if_neg (qI_ne0 (a := j + 1) (by omega) (by omega)), e7, P_in (show 20 * s + j < 120 by omega) (by decide), if_pos rfl, P_ix (show 20 * s + j < 2 ^ 31 by omega), h3 j (by omega)]
    rw [← lastD_get (l := (zg S s).dropLast) (k := j) (by simp [hk'])]
    have hj : j < (zg S s).length := by omega
    simp [List.getD, List.getElem?_dropLast, hk', List.getElem?_eq_getElem hj]
theorem RM.recC (hn : pn P ≤ 5) (h : RM P t f τ0 S τ) (hl : Short S) : OkM P t f τ0 (xRecC P t S) (m_recoversCoordinator_b20 τ) := by
  unfold m_recoversCoordinator_b20 xRecC
  simp only [i06, if_true, x00]
  rw [show m_lastOf 0 (mA τ 14 0) τ = _ from h.last (s := 0) (by omega)]
  simp only [Option.bind_some, sw]
  by_cases e3 : xLast (zg S 0) = 3
  · rw [if_pos e3, if_pos e3]
    refine (RM.sendAll hn (h.st 0 2) 4).bind fun τ2 h2 => ?_
    exact (h2.timer (s := 0) (by omega)).ret
  · rw [if_neg e3, if_neg e3]
    by_cases e4 : xLast (zg S 0) = 4
    · rw [if_pos e4, if_pos e4]
      refine (RM.sendAll hn ((h.st 0 3).dc 6) 6).bind fun τ2 h2 => ?_
      exact (h2.timer (s := 0) (by omega)).ret
    · rw [if_neg e4, if_neg e4]
      by_cases e5 : xLast (zg S 0) = 5
      · rw [if_pos e5, if_pos e5]
        refine (RM.sendAll hn ((h.st 0 4).dc 7) 7).bind fun τ2 h2 => ?_
        exact (h2.timer (s := 0) (by omega)).ret
      · rw [if_neg e5, if_neg e5]
        by_cases e6 : xLast (zg S 0) = 6
        · rw [if_pos e6, if_pos e6]
          have hne : zg S 0 ≠ [] := fun q => by rw [q] at e6; exact absurd e6 (by decide)
          have hh := (h.st 0 5).last2 (s := 0) (by omega) hne
          rw [show m_lastOf 0 (mA τ 14 0 - 1) (sA τ 10 0 5) = _ from hh]
          simp only [Option.bind_some]
          by_cases q : xLast (zg S 0).dropLast = 4
          · rw [if_pos (show xLast (zg (wst 0 5 S) 0).dropLast = 4 from q), if_pos q]; exact ⟨_, rfl, (h.st 0 5).dc 6⟩
          · rw [if_neg (show ¬ xLast (zg (wst 0 5 S) 0).dropLast = 4 from q), if_neg q]; exact ⟨_, rfl, (h.st 0 5).dc 7⟩
        · rw [if_neg e6, if_neg e6]; exact (h.decA hn hl).ret
theorem RM.recC0 (hn : pn P ≤ 5) (h : RM P t f τ0 S τ) (hl : Short S) : OkM P t f τ0 (xRecC P t (xZero S)) (m_recoversCoordinator τ) := by
  unfold m_recoversCoordinator
  have hz : RM P t f τ0 (xZero S) (sA (sA (sA τ 15 0 0) 15 1 0) 15 2 0) := ((h.cn 0 0).cn 1 0).cn 2 0
  have e : ∀ n, m_recoversCoordinator_l2 (n + 4) 0 τ = m_recoversCoordinator_b20 (sA (sA (sA τ 15 0 0) 15 1 0) 15 2 0) := fun n => rfl
  rw [show m_recoversCoordinator_l2 4096 0 τ = _ from e 4092]
  exact hz.recC hn hl
end RMc
