/-! THE CLASS KEEPS THE TOLD RUN: the coordinator -/
section RC3
variable {b : Nat} {P : ZP} {t x : Nat} {σ0 σ : CS} {S : ZS}
theorem Inv.len (h : Inv P t S) {s : Nat} (hs : s < 6) : (zg S s).length < 8 := by
  by_cases e : s = 0
  · subst e; obtain ⟨x, hx⟩ := h.2.2.1.2; have q : (zg S 0).length ≤ 4 := CLog_short _ hx; omega
  · obtain ⟨x, hx⟩ := (h.2.2.2 s (by omega) hs).2; have q : (zg S s).length ≤ 3 := PLog_short _ hx; omega
theorem RC.wend (h : RC b P t x σ0 S σ) : cI σ b 6 + cI σ 3 2 = xEnd P t := by rw [h.1.2.2.2, h.2.1.2.2.1]; rfl
theorem RC.turnSend (hw : PW P) (ht : t ≤ 60) (h : RC b P t x σ0 S σ) (hx : x = 0 ∨ x = 6) (hu : zu S 0 = true) (v w : Int32) (hc1 : v = 1 → zc S 0 = 0) (hc2 : v = 2 → zc S 1 = 0) (hc3 : v = 3 ∨ v = 4 → zc S 2 = 0) :
    OkC b P t 6 σ0 (wtm 0 (xEnd P t) (xSends t w 0 (xAll P) (wst 0 v S))) ((cR_waitEnd b σ).bind fun a2 => (cC_turnTo b v a2.1 a2.2).bind fun a3 => (cR_send b w 0 (cI a3.2 b 5) a3.2).bind fun a4 => some ((), a4.2)) := by
  simp only [cR_waitEnd, cC_turnTo, Option.bind_some]
  rw [h.wend, ← xSends_tm]
  have h2 := h.turn hx hu v (tmC_end hw ht) hc1 hc2 hc3
  rw [show cI (tI (tI (tI σ (b + 2) 4 v) (b + 2) 5 (xEnd P t)) (b + 2) 6 0) b 5 = xEv P from h2.1.2.2.1]
  exact (h2.send hw.2.1 w 0 (to_ev hw)).ret
theorem RC.begin (hw : PW P) (ht : t ≤ 60) (h : RC b P t 6 σ0 S σ) (hi : Inv P t S) (hu : zu S 0 = true) (hs : zs S 0 = 0) : OkC b P t 6 σ0 (xBegin P t S) (cC_begin b σ) := by
  unfold cC_begin xBegin
  refine (h.note (s := 0) (by omega) (hi.len (by omega)) 1).bind fun σ1 h1 => ?_
  exact h1.turnSend hw ht (Or.inr rfl) hu 1 1 (fun _ => (hi.2.2.1.1 hu).2.1 hs) (fun q => absurd q (by decide)) (fun q => absurd q (by decide))
theorem RC.preC (hw : PW P) (ht : t ≤ 60) (h : RC b P t 6 σ0 S σ) (hi : Inv P t S) (hu : zu S 0 = true) (hs : zs S 0 = 1) : OkC b P t 6 σ0 (xPre P t S) (cC_preCommit b σ) := by
  unfold cC_preCommit xPre
  refine (h.note (s := 0) (by omega) (hi.len (by omega)) 3).bind fun σ1 h1 => ?_
  exact h1.turnSend hw ht (Or.inr rfl) hu 2 4 (fun q => absurd q (by decide)) (fun _ => (hi.2.2.1.1 hu).2.2.1 (Or.inr hs)) (fun q => absurd q (by decide))
theorem RC.decC (hw : PW P) (ht : t ≤ 60) (h : RC b P t 6 σ0 S σ) (hi : Inv P t S) (hu : zu S 0 = true) (hs : zs S 0 = 1 ∨ zs S 0 = 2) : OkC b P t 6 σ0 (xDecC P t S) (cC_decideCommit b σ) := by
  unfold cC_decideCommit xDecC
  refine ((h.dc 6).note (s := 0) (by omega) (hi.len (by omega)) 4).bind fun σ1 h1 => ?_
  exact h1.turnSend hw ht (Or.inr rfl) hu 3 6 (fun q => absurd q (by decide)) (fun q => absurd q (by decide)) (fun _ => (hi.2.2.1.1 hu).2.2.2.1 (Or.inr hs))
theorem RC.decA' (hw : PW P) (ht : t ≤ 60) (h : RC b P t x σ0 S σ) (hx : x = 0 ∨ x = 6) (hl : (zg S 0).length < 8) (hu : zu S 0 = true) (hz : zc S 2 = 0) : OkC b P t 6 σ0 (xDecA P t S) (cC_decideAbort b σ) := by
  unfold cC_decideAbort xDecA cC_decideAbort_b32
  rw [show cZ σ b 3 = pz P from h.1.1]
  cases pz P
  · rw [if_neg (by decide), if_neg (by decide)]
    refine ((h.dc 7).note (s := 0) (by omega) hl 5).bind fun σ1 h1 => ?_
    exact h1.turnSend hw ht hx hu 4 7 (fun q => absurd q (by decide)) (fun q => absurd q (by decide)) (fun _ => hz)
  · rw [if_pos rfl, if_pos rfl, ← xSends_tm]
    simp only [cC_turnTo, Option.bind_some]
    have h2 := (h.dc 7).turn hx hu 5 (tv := 1000) (tc := 160) rfl (fun q => absurd q (by decide)) (fun q => absurd q (by decide)) (fun q => absurd q (by decide))
    rw [show cI (tI (tI (tI σ (b + 2) 4 5) (b + 2) 5 160) (b + 2) 6 0) b 5 = xEv P from h2.1.2.2.1]
    exact (h2.send hw.2.1 7 0 (to_ev hw)).ret
theorem RC.decA (hw : PW P) (ht : t ≤ 60) (h : RC b P t 6 σ0 S σ) (hi : Inv P t S) (hu : zu S 0 = true) (hs : zs S 0 = 1) : OkC b P t 6 σ0 (xDecA P t S) (cC_decideAbort b σ) :=
  h.decA' hw ht (Or.inr rfl) (hi.len (by omega)) hu ((hi.2.2.1.1 hu).2.2.2.1 (Or.inr (Or.inl hs)))
theorem RC.allC (h : RC b P t 6 σ0 S σ) (hu : zu S 0 = true) {k : Nat} (hk : (k = 0 ∧ zs S 0 = 1) ∨ (k = 1 ∧ zs S 0 = 2) ∨ (k = 2 ∧ (zs S 0 = 3 ∨ zs S 0 = 4))) (p : Nat) : cC_allCounted b (nI p) σ = some (decide (zc (xCount k p S) k = xEv P), tI σ (b + 2) 6 (xMask (zc S k) p)) ∧ RC b P t 6 σ0 (xCount k p S) (tI σ (b + 2) 6 (xMask (zc S k) p)) := by
  obtain ⟨c1, c2⟩ := h.cnt hu hk p
  refine ⟨?_, c2⟩
  have hz : zc (xCount k p S) k = xMask (zc S k) p := va_up_s _ _ _
  have hv : (zc S k ||| ((1 : Int32) <<< (nI p &&& 31))) = xMask (zc S k) p := rfl
  unfold cC_allCounted
  rw [c1, hv, hz, show cI (tI σ (b + 2) 6 (xMask (zc S k) p)) (b + 2) 6 = xMask (zc S k) p from cI_s, show cI (tI σ (b + 2) 6 (xMask (zc S k) p)) b 5 = xEv P from c2.1.2.2.1]
  by_cases e : xMask (zc S k) p = xEv P
  · rw [decide_eq_true e, if_pos e]
  · rw [decide_eq_false e, if_neg e]
theorem RC.st (h : RC b P t 6 σ0 S σ) {s : Nat} (hs : s < 6) (hu : zu S s = true) : cI σ (b + 2 + s) 4 = zs S s := ((h.2.2.2.1 s hs (by omega)).1 hu).1
theorem RC.tells (h : RC b P t 6 σ0 S σ) (hu : zu S 0 = true) : cC_tellsDecision b σ = some (decide (zs S 0 = 3 ∨ zs S 0 = 4), σ) := by
  unfold cC_tellsDecision
  rw [show cI σ (b + 2) 4 = zs S 0 from h.st (s := 0) (by omega) hu]
  by_cases e : zs S 0 = 3
  · rw [if_pos e, decide_eq_true (Or.inl e)]
  · rw [if_neg e]
    by_cases e2 : zs S 0 = 4
    · rw [if_pos e2, decide_eq_true (Or.inr e2)]
    · rw [if_neg e2, decide_eq_false (fun q => q.elim e e2)]
theorem RC.comeC (hw : PW P) (ht : t ≤ 60) (h : RC b P t 6 σ0 S σ) (hi : Inv P t S) (hu : zu S 0 = true) (w : Int32) {p : Nat} (hp : p ≤ pn P) : OkC b P t 6 σ0 (xComeC P t w p S) (cC_receive b w (nI p) σ) := by
  have hn := hw.2.1
  have hs0 : cI σ (b + 2) 4 = zs S 0 := h.st (s := 0) (by omega) hu
  unfold cC_receive xComeC
  rw [h.tells hu, hs0]
  simp only [sw]
  by_cases e2 : w = 2
  · rw [if_pos e2, if_pos e2]
    by_cases e : zs S 0 = 1
    · rw [if_pos e, if_pos e]
      obtain ⟨c1, c2⟩ := h.allC hu (Or.inl ⟨rfl, e⟩) p
      have hc := hi.count hu (Or.inl ⟨rfl, e⟩) p
      rw [c1]
      simp only [Option.bind_some, decide_eq_true_eq]
      by_cases q : zc (xCount 0 p S) 0 = xEv P
      · rw [if_pos q, if_pos q, show cI (tI σ (b + 2) 6 (xMask (zc S 0) p)) 3 1 = pp P from c2.2.1.2.1]
        by_cases q2 : pp P = 2
        · rw [if_pos q2, if_pos q2]; exact (c2.decC hw ht hc hu (Or.inl e)).ret
        · rw [if_neg q2, if_neg q2]; exact (c2.preC hw ht hc hu e).ret
      · rw [if_neg q, if_neg q]; exact ⟨_, rfl, c2⟩
    · rw [if_neg e, if_neg e]; exact ⟨_, rfl, h⟩
  · rw [if_neg e2, if_neg e2]
    by_cases e3 : w = 3
    · rw [if_pos e3, if_pos e3]
      by_cases e : zs S 0 = 1
      · rw [if_pos e, if_pos e]; exact (h.decA hw ht hi hu e).ret
      · rw [if_neg e, if_neg e]; exact ⟨_, rfl, h⟩
    · rw [if_neg e3, if_neg e3]
      by_cases e5 : w = 5
      · rw [if_pos e5, if_pos e5]
        by_cases e : zs S 0 = 2
        · rw [if_pos e, if_pos e]
          obtain ⟨c1, c2⟩ := h.allC hu (Or.inr (Or.inl ⟨rfl, e⟩)) p
          have hc := hi.count hu (Or.inr (Or.inl ⟨rfl, e⟩)) p
          rw [c1]
          simp only [Option.bind_some, decide_eq_true_eq]
          by_cases q : zc (xCount 1 p S) 1 = xEv P
          · rw [if_pos q, if_pos q]; exact (c2.decC hw ht hc hu (Or.inr e)).ret
          · rw [if_neg q, if_neg q]; exact ⟨_, rfl, c2⟩
        · rw [if_neg e, if_neg e]; exact ⟨_, rfl, h⟩
      · rw [if_neg e5, if_neg e5]
        by_cases e8 : w = 8
        · rw [if_pos e8, if_pos e8]
          simp only [Option.bind_some, decide_eq_true_eq]
          by_cases e : zs S 0 = 3 ∨ zs S 0 = 4
          · rw [if_pos e, if_pos e]
            obtain ⟨c1, c2⟩ := h.allC hu (Or.inr (Or.inr ⟨rfl, e⟩)) p
            have hc := hi.count hu (Or.inr (Or.inr ⟨rfl, e⟩)) p
            rw [c1]
            simp only [Option.bind_some, decide_eq_true_eq]
            by_cases q : zc (xCount 2 p S) 2 = xEv P
            · rw [if_pos q, if_pos q]
              unfold xEnds
              refine (c2.note (s := 0) (by omega) (hc.len (by omega)) 6).bind fun σ1 h1 => ?_
              exact ⟨_, rfl, h1.turn (Or.inr rfl) hu 5 (tv := 1000) (tc := 160) rfl (fun q => absurd q (by decide)) (fun q => absurd q (by decide)) (fun q => absurd q (by decide))⟩
            · rw [if_neg q, if_neg q]; exact ⟨_, rfl, c2⟩
          · rw [if_neg e, if_neg e]; exact ⟨_, rfl, h⟩
        · rw [if_neg e8, if_neg e8]
          by_cases e9 : w = 9
          · rw [if_pos e9, if_pos e9]
            simp only [Option.bind_some, decide_eq_true_eq]
            rw [hs0]
            obtain ⟨c1, c2, c3, c4, c5⟩ := hi.2.2.1.1 hu
            have K : zs S 0 = 3 ∨ zs S 0 = 4 ∨ zs S 0 = 5 → OkC b P t 6 σ0 (if zs S 0 ≤ 2 then S else xSend t (zd S) 0 p S) (cC_receive_b181 b (nI p) σ) := by
              intro q
              have k3 : (3 : Int32) ≤ zs S 0 := by rcases q with q | q | q <;> rw [q] <;> decide
              rw [if_neg (fun z => absurd (Int32.le_trans k3 z) (by decide)), c5 k3]
              unfold cC_receive_b181
              rw [h.decision hi.2.2.1.2]
              exact (h.send hn _ 0 (to_one (pn P) (by omega) p (by omega) hp)).ret
            by_cases e : zs S 0 = 3 ∨ zs S 0 = 4
            · rw [if_pos e]; exact K (by rcases e with e | e <;> simp [e])
            · rw [if_neg e]
              by_cases e' : zs S 0 = 5
              · rw [if_pos e']; exact K (Or.inr (Or.inr e'))
              · rw [if_neg e', if_pos]
                · exact ⟨_, rfl, h⟩
                · rcases cl_st _ c1 with q | q | q | q | q | q
                  · rw [show zs S 0 = 0 from q]; decide
                  · rw [show zs S 0 = 1 from q]; decide
                  · rw [show zs S 0 = 2 from q]; decide
                  · exact absurd (Or.inl q) e
                  · exact absurd (Or.inr q) e
                  · exact absurd q e'
          · rw [if_neg e9, if_neg e9]; exact ⟨_, rfl, h⟩
theorem RC.timeC (hw : PW P) (ht : t ≤ 60) (h : RC b P t 6 σ0 S σ) (hi : Inv P t S) (hu : zu S 0 = true) : OkC b P t 6 σ0 (xTimeC P t S) (cC_timeOut b σ) := by
  have hn := hw.2.1
  have K : zs S 0 = 3 ∨ zs S 0 = 4 → OkC b P t 6 σ0 (wtm 0 (xEnd P t) (xSends t (zd S) 0 (xLate (zc S 2) (xAll P)) S)) (cC_timeOut_b52 b σ) := by
    intro e
    have k3 : (3 : Int32) ≤ zs S 0 := by rcases e with q | q <;> rw [q] <;> decide
    unfold cC_timeOut_b52
    simp only [cR_waitEnd, Option.bind_some]
    rw [h.wend, ← xSends_tm]
    have h1 := h.tm1 (s := 0) (by omega) hu (tmC_end hw ht)
    have hd : cC_decision b (tI σ (b + 2) 5 (xEnd P t)) = _ := h1.decision hi.2.2.1.2
    rw [hd]
    simp only [Option.bind_some]
    have hc : cI (tI σ (b + 2) 5 (xEnd P t)) (b + 2) 6 = zc S 2 := (h1.2.2.2.2.1 (by omega) hu).2.2 e
    rw [hc, show cI (tI σ (b + 2) 5 (xEnd P t)) b 5 = xEv P from h1.1.2.2.1, (hi.2.2.1.1 hu).2.2.2.2 k3]
    exact (h1.send hn _ 0 (to_late (by omega) (zc S 2))).ret
  unfold cC_timeOut xTimeC
  rw [show cI σ (b + 2) 4 = zs S 0 from h.st (s := 0) (by omega) hu]
  simp only [sw]
  by_cases e1 : zs S 0 = 1
  · rw [if_pos e1, if_pos e1]; exact (h.decA hw ht hi hu e1).ret
  · rw [if_neg e1, if_neg e1]
    by_cases e2 : zs S 0 = 2
    · rw [if_pos e2, if_pos e2]; exact (h.decC hw ht hi hu (Or.inr e2)).ret
    · rw [if_neg e2, if_neg e2]
      by_cases e3 : zs S 0 = 3
      · rw [if_pos e3, if_pos (Or.inl e3)]; exact K (Or.inl e3)
      · rw [if_neg e3]
        by_cases e4 : zs S 0 = 4
        · rw [if_pos e4, if_pos (Or.inr e4)]; exact K (Or.inr e4)
        · rw [if_neg e4, if_neg (fun q => q.elim e3 e4)]; exact ⟨_, rfl, h⟩
theorem RC.last (h : RC b P t x σ0 S σ) {s : Nat} (hs : s < 6) : cT_lastRecord b s σ = some (xLast (zg S s), σ) := by
  obtain ⟨q1, q2, q3, q4⟩ := h.2.2.1 s hs
  unfold cT_lastRecord
  rw [q2]
  by_cases e : (zg S s).length = 0
  · rw [e, if_pos (by decide), List.eq_nil_of_length_eq_zero e]; rfl
  · obtain ⟨k, hk⟩ : ∃ k, (zg S s).length = k + 1 := ⟨(zg S s).length - 1, by omega⟩
    rw [hk, if_neg (show ¬ nI (k + 1) ≤ 0 from fun q => absurd ((P_le (b := 0) (by omega) (by omega)).mp q) (by omega)), show (1 : Int32) = nI 1 from rfl, pk_sub (by omega), Nat.add_sub_cancel, P_in (show k < 8 by omega) (by decide), if_pos rfl, P_ix (show k < 2 ^ 31 by omega), q4 k (by omega), lastD_get hk]
theorem RC.recC (hw : PW P) (ht : t ≤ 60) (h : RC b P t 6 σ0 S σ) (hi : Inv P t S) : OkC b P t 6 σ0 (xRec P t 0 S) (cC_recover b (tZ σ (b + 2 + 0) 3 true)) := by
  have h1 : RC b P t 0 σ0 (xZero (wtm 0 1000 (wu 0 true S))) (tZ σ (b + 2 + 0) 3 true) := ((h.up (s := 0) (by omega)).exTm 1000).zero
  have hl := hi.len (s := 0) (by omega)
  have hu : zu (xZero (wtm 0 1000 (wu 0 true S))) 0 = true := rfl
  unfold xRec
  rw [if_pos rfl]
  generalize hS : xZero (wtm 0 1000 (wu 0 true S)) = S1 at h1 hu ⊢
  have hl1 : (zg S1 0).length < 8 := by rw [← hS]; exact hl
  have hz0 : zc S1 0 = 0 := by rw [← hS]; rfl
  have hz1 : zc S1 1 = 0 := by rw [← hS]; rfl
  have hz2 : zc S1 2 = 0 := by rw [← hS]; rfl
  have hx : ∃ s, (s, zg S1 0) ∈ CLogL := by rw [← hS]; exact hi.2.2.1.2
  have ht0 : zt S1 0 = 1000 := by rw [← hS]; rfl
  unfold cC_recover xRecC
  rw [h1.last (s := 0) (by omega)]
  simp only [Option.bind_some, sw]
  by_cases e3 : xLast (zg S1 0) = 3
  · rw [if_pos e3, if_pos e3]
    exact h1.turnSend hw ht (Or.inl rfl) hu 2 4 (fun q => absurd q (by decide)) (fun _ => hz1) (fun q => absurd q (by decide))
  · rw [if_neg e3, if_neg e3]
    by_cases e4 : xLast (zg S1 0) = 4
    · rw [if_pos e4, if_pos e4]
      exact (h1.dc 6).turnSend hw ht (Or.inl rfl) hu 3 6 (fun q => absurd q (by decide)) (fun q => absurd q (by decide)) (fun _ => hz2)
    · rw [if_neg e4, if_neg e4]
      by_cases e5 : xLast (zg S1 0) = 5
      · rw [if_pos e5, if_pos e5]
        exact (h1.dc 7).turnSend hw ht (Or.inl rfl) hu 4 7 (fun q => absurd q (by decide)) (fun q => absurd q (by decide)) (fun _ => hz2)
      · rw [if_neg e5, if_neg e5]
        by_cases e6 : xLast (zg S1 0) = 6
        · rw [if_pos e6, if_pos e6]
          have h2 := h1.turn (Or.inl rfl) hu 5 (tv := 1000) (tc := 160) rfl (fun q => absurd q (by decide)) (fun q => absurd q (by decide)) (fun q => absurd q (by decide))
          have hw' : wtm 0 1000 (wst 0 5 S1) = wst 0 5 S1 := by
            unfold wtm
            have : va_up (wst 0 5 S1).2.2.1 0 1000 = (wst 0 5 S1).2.2.1 := by
              funext j
              unfold va_up
              by_cases e : j = 0
              · rw [if_pos e, e]; exact ht0.symm
              · rw [if_neg e]
            rw [this]
          rw [hw'] at h2
          exact ⟨_, rfl, h2.dc _⟩
        · rw [if_neg e6, if_neg e6]
          exact (h1.decA' hw ht (Or.inl rfl) hl1 hu hz2).ret
end RC3
