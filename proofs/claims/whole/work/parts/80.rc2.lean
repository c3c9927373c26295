/-! THE CLASS KEEPS THE TOLD RUN: sending, turns -/
section RC2
variable {b : Nat} {P : ZP} {t x : Nat} {σ0 σ : CS} {S : ZS}
theorem RC.sendL (hn : pn P ≤ 5) (w : Int32) (a : Nat) (mask : Int32) : ∀ (r i fu : Nat) (S : ZS) (σ : CS), RC b P t x σ0 S σ → i + r = pn P + 1 → r < fu → OkC b P t x σ0 (xSends t w a (xTo mask (List.range' i r)) S) (cR_send_l3 b fu w (nI a) mask (nI i) σ)
  | r, i, 0, S, σ, _, _, h3 => by omega
  | 0, i, fu + 1, S, σ, h, h2, _ => by
    unfold cR_send_l3
    rw [h.n, if_pos ((P_lt (by omega) (by omega)).mpr (by omega))]
    exact ⟨σ, rfl, h⟩
  | r + 1, i, fu + 1, S, σ, h, h2, h3 => by
    unfold cR_send_l3
    rw [h.n, if_neg (fun q => absurd ((P_lt (by omega) (by omega)).mp q) (by omega)), List.range'_succ, nI_1]
    unfold xTo
    by_cases e : ((mask >>> (nI i &&& 31)) &&& 1) = 0
    · rw [if_pos e, List.filter_cons_of_neg (by unfold sbit; simp [e])]
      exact RC.sendL hn w a mask r (i + 1) fu S σ h (by omega) (by omega)
    · have m1 : zn S ≤ 200 := h.2.2.2.2.2.1.1
      have m2 : cI σ b 8 = nI (zn S) := h.2.2.2.2.2.1.2.1
      have ht : cI σ b 6 = nI t := h.1.2.2.2
      rw [if_neg e, List.filter_cons_of_pos (by unfold sbit; simp [e]), m2, ht]
      show OkC b P t x σ0 (xSends t w a _ (xSend t w a i S)) _
      unfold xSend
      by_cases c : zn S < 200
      · rw [if_neg (show ¬ 200 ≤ nI (zn S) from fun q => absurd ((P_le (a := 200) (by omega) (by omega)).mp q) (by omega)), P_in c (by decide), if_pos c, P_ix (show zn S < 2 ^ 31 by omega)]
        simp only [if_true]
        rw [nI_1 (zn S)]
        exact RC.sendL hn w a mask r (i + 1) fu _ _ (h.msg w a i c) (by omega) (by omega)
      · rw [if_pos (show 200 ≤ nI (zn S) from (P_le (a := 200) (by omega) (by omega)).mpr (by omega)), if_neg c]
        exact RC.sendL hn w a mask r (i + 1) fu S σ h (by omega) (by omega)
theorem RC.send (hn : pn P ≤ 5) (h : RC b P t x σ0 S σ) (w : Int32) (a : Nat) {mask : Int32} {L : List Nat} (hL : xTo mask (List.range' 0 (pn P + 1)) = L) : OkC b P t x σ0 (xSends t w a L S) (cR_send b w (nI a) mask σ) := by
  rw [← hL]
  exact RC.sendL hn w a mask (pn P + 1) 0 4096 S σ h (by omega) (by omega)
theorem to_ev (hw : PW P) : xTo (xEv P) (List.range' 0 (pn P + 1)) = xAll P := to_ev' (pn P) (by have := hw.2.1; omega) hw.1
theorem tmC_end (hw : PW P) (ht : t ≤ 60) : tmC (xEnd P t) = xEnd P t := by
  have h9 := hw.2.2.2.2.1
  unfold tmC xEnd
  rw [nI_add, if_neg (show ¬ nI (t + pw P) = 1000 from P_ne (b := 1000) (by omega) (by omega) (by omega))]
theorem tmC_t (ht : t ≤ 60) : tmC (nI t) = nI t := by
  unfold tmC
  rw [if_neg (show ¬ nI t = 1000 from P_ne (b := 1000) (by omega) (by omega) (by omega))]
theorem RC.turn (h : RC b P t x σ0 S σ) (hx : x = 0 ∨ x = 6) (hu : zu S 0 = true) (v : Int32) {tv tc : Int32} (htc : tmC tv = tc) (hc1 : v = 1 → zc S 0 = 0) (hc2 : v = 2 → zc S 1 = 0) (hc3 : v = 3 ∨ v = 4 → zc S 2 = 0) : RC b P t 6 σ0 (wtm 0 tv (wst 0 v S)) (tI (tI (tI σ (b + 2) 4 v) (b + 2) 5 tc) (b + 2) 6 0) := by
  subst htc
  have e4 : cI (tI (tI (tI σ (b + 2) 4 v) (b + 2) 5 (tmC tv)) (b + 2) 6 0) (b + 2) 4 = v := (cI_k (by decide)).trans ((cI_k (by decide)).trans cI_s)
  have e5 : cI (tI (tI (tI σ (b + 2) 4 v) (b + 2) 5 (tmC tv)) (b + 2) 6 0) (b + 2) 5 = tmC tv := (cI_k (by decide)).trans cI_s
  refine h.site (s := 0) (by omega) (fun c hc => (tI_o c hc).trans ((tI_o c hc).trans (tI_o c hc))) ?_ ((cI_k (by decide)).trans ((cI_k (by decide)).trans (cI_k (by decide)))) (fun _ _ => rfl) (fun j hj => va_up_n _ _ hj) (fun j hj => va_up_n _ _ hj) rfl (fun _ q => q) (fun j _ _ _ => by omega) (fun _ => ⟨fun _ => ⟨?_, ?_⟩, fun q => ?_⟩) (fun _ _ => ?_)
  · exact (h.2.2.1 0 (by omega)).1
  · exact e4
  · exact e5
  · rw [show zu (wtm 0 tv (wst 0 v S)) 0 = true from hu] at q; cases q
  · have k : zs (wtm 0 tv (wst 0 v S)) 0 = v := rfl
    rw [k, show cI (tI (tI (tI σ (b + 2) 4 v) (b + 2) 5 (tmC tv)) (b + 2) 6 0) (b + 2) 6 = 0 from cI_s]
    exact ⟨fun q => (hc1 q).symm, fun q => (hc2 q).symm, fun q => (hc3 q).symm⟩
theorem RC.cntO (h : RC b P t x σ0 S σ) (hx : x ≠ 0) {S' : ZS} {σ' : CS} (h1 : zu S' 0 = zu S 0) (h2 : zs S' 0 = zs S 0) (h3 : zc S' = zc S) (h4 : cI σ' (b + 2) 6 = cI σ (b + 2) 6) : CntC b S' σ' := by
  unfold CntC
  rw [h1, h2, h3, h4]; exact h.2.2.2.2.1 hx
theorem RC.enter (h : RC b P t x σ0 S σ) {s : Nat} (hs : s < 6) (h1 : 1 ≤ s) (hx : x = s ∨ x = 6) (hu : zu S s = true) (v : Int32) {tv tc : Int32} (htc : tmC tv = tc) : RC b P t 6 σ0 (wtm s tv (wst s v S)) (tI (tI σ (b + 2 + s) 4 v) (b + 2 + s) 5 tc) := by
  subst htc
  refine h.site hs (fun c hc => (tI_o c hc).trans (tI_o c hc)) ?_ ((cI_k (by decide)).trans (cI_k (by decide))) (fun _ _ => rfl) (fun j hj => va_up_n _ _ hj) (fun j hj => va_up_n _ _ hj) rfl (fun _ q => q) (fun j _ _ _ => by omega) (fun _ => ⟨fun _ => ⟨?_, ?_⟩, fun q => ?_⟩) (fun _ => ?_)
  · exact (h.2.2.1 s hs).1
  · exact (cI_k (by decide)).trans (cI_s.trans (va_up_s _ _ _).symm)
  · exact cI_s.trans (by rw [show zt (wtm s tv (wst s v S)) s = tv from va_up_s _ _ _])
  · rw [show zu (wtm s tv (wst s v S)) s = true from hu] at q; cases q
  · exact h.cntO (by omega) rfl (va_up_n _ _ (by omega)) rfl ((cI_k (by decide)).trans (cI_k (by decide)))
theorem RC.tm1 (h : RC b P t 6 σ0 S σ) {s : Nat} (hs : s < 6) (hu : zu S s = true) {tv tc : Int32} (htc : tmC tv = tc) : RC b P t 6 σ0 (wtm s tv S) (tI σ (b + 2 + s) 5 tc) := by
  subst htc
  refine h.site hs (fun c hc => tI_o c hc) ?_ (cI_k (by decide)) (fun _ _ => rfl) (fun _ _ => rfl) (fun j hj => va_up_n _ _ hj) rfl (fun _ q => q) (fun j _ _ q => q) (fun _ => ⟨fun _ => ⟨?_, ?_⟩, fun q => ?_⟩) (fun _ => ?_)
  · exact (h.2.2.1 s hs).1
  · exact (cI_k (by decide)).trans ((h.2.2.2.1 s hs (by omega)).1 hu).1
  · exact cI_s.trans (by rw [show zt (wtm s tv S) s = tv from va_up_s _ _ _])
  · rw [show zu (wtm s tv S) s = true from hu] at q; cases q
  · exact h.cntO (by omega) rfl rfl rfl (cI_k (by decide))
theorem RC.up (h : RC b P t 6 σ0 S σ) {s : Nat} (hs : s < 6) : RC b P t s σ0 (wu s true S) (tZ σ (b + 2 + s) 3 true) := by
  refine h.site hs (fun c hc => tZ_o c hc) (cZ_s.trans (va_up_s _ _ _).symm) rfl (fun j hj => va_up_n _ _ hj) (fun _ _ => rfl) (fun _ _ => rfl) rfl (fun _ q => q) (fun j _ _ _ => by omega) (fun q => absurd rfl q) (fun q => ?_)
  exact h.cntO (by omega) (va_up_n _ _ (by omega)) rfl rfl rfl
theorem RC.away (h : RC b P t 6 σ0 S σ) {s : Nat} (hs : s < 6) : RC b P t 6 σ0 (wu s false S) (tI (tI (tZ σ (b + 2 + s) 3 false) (b + 2 + s) 4 0) (b + 2 + s) 5 160) := by
  have ez : zu (wu s false S) s = false := va_up_s _ _ _
  refine h.site hs (fun c hc => (tI_o c hc).trans ((tI_o c hc).trans (tZ_o c hc))) ?_ ((cI_k (by decide)).trans (cI_k (by decide))) (fun j hj => va_up_n _ _ hj) (fun _ _ => rfl) (fun _ _ => rfl) rfl (fun _ q => q) (fun j _ _ q => q) (fun _ => ⟨fun q => ?_, fun q => cI_s⟩) (fun _ => ?_)
  · exact (cZ_s (σ := σ)).trans ez.symm
  · rw [ez] at q; cases q
  · by_cases e : 0 = s
    · subst e
      intro q
      rw [ez] at q; cases q
    · exact h.cntO (by omega) (va_up_n _ _ e) rfl rfl ((cI_k (by decide)).trans (cI_k (by decide)))
theorem RC.cnt (h : RC b P t 6 σ0 S σ) (hu : zu S 0 = true) {k : Nat} (hk : (k = 0 ∧ zs S 0 = 1) ∨ (k = 1 ∧ zs S 0 = 2) ∨ (k = 2 ∧ (zs S 0 = 3 ∨ zs S 0 = 4))) (p : Nat) : cI σ (b + 2) 6 = zc S k ∧ RC b P t 6 σ0 (xCount k p S) (tI σ (b + 2) 6 (xMask (zc S k) p)) := by
  have hC := h.2.2.2.2.1 (by omega) hu
  refine ⟨?_, ?_⟩
  · rcases hk with ⟨rfl, e⟩ | ⟨rfl, e⟩ | ⟨rfl, e⟩
    · exact hC.1 e
    · exact hC.2.1 e
    · exact hC.2.2 e
  · have hz : zc (xCount k p S) k = xMask (zc S k) p := va_up_s _ _ _
    have hl := h.2.2.2.1 0 (by omega) (by omega)
    refine h.site (s := 0) (by omega) (fun c hc => tI_o c hc) (h.2.2.1 0 (by omega)).1 (cI_k (by decide)) (fun _ _ => rfl) (fun _ _ => rfl) (fun _ _ => rfl) rfl (fun _ q => q) (fun j _ _ q => q) (fun _ => ⟨fun q => ⟨(cI_k (by decide)).trans (hl.1 q).1, (cI_k (by decide)).trans (hl.1 q).2⟩, fun q => (cI_k (by decide)).trans (hl.2 q)⟩) (fun _ _ => ?_)
    rw [show cI (tI σ (b + 2) 6 (xMask (zc S k) p)) (b + 2) 6 = xMask (zc S k) p from cI_s, ← hz]
    rcases hk with ⟨rfl, e⟩ | ⟨rfl, e⟩ | ⟨rfl, e⟩
    · exact ⟨fun _ => rfl, fun q => absurd (e.symm.trans q) (by decide), fun q => by rw [show zs (xCount 0 p S) 0 = 1 from e] at q; exact absurd q (by decide)⟩
    · exact ⟨fun q => absurd (e.symm.trans q) (by decide), fun _ => rfl, fun q => by rw [show zs (xCount 1 p S) 0 = 2 from e] at q; exact absurd q (by decide)⟩
    · refine ⟨fun q => ?_, fun q => ?_, fun _ => rfl⟩
      · have q' : zs S 0 = 1 := q
        rw [q'] at e; exact absurd e (by decide)
      · have q' : zs S 0 = 2 := q
        rw [q'] at e; exact absurd e (by decide)
theorem RC.exTm (h : RC b P t x σ0 S σ) (v : Int32) : RC b P t x σ0 (wtm x v S) σ := by
  obtain ⟨hH, hS, hT, hV, hC, hM, hF, hb⟩ := h
  refine ⟨hH, hS, hT, fun j hj hjx => ?_, hC, hM, hF, hb⟩
  have q := hV j hj hjx
  unfold LiveC
  rw [show zt (wtm x v S) j = zt S j from va_up_n _ _ hjx]; exact q
theorem RC.zero (h : RC b P t 0 σ0 S σ) : RC b P t 0 σ0 (xZero S) σ := by
  obtain ⟨hH, hS, hT, hV, hC, hM, hF, hb⟩ := h
  exact ⟨hH, hS, hT, hV, fun q => absurd rfl q, hM, hF, hb⟩
/-- one of some numbers is r -/
def anyB (f : Nat → Int32) (r : Int32) : Nat → Nat → Bool
  | 0, _ => false
  | k + 1, i => decide (f i = r) || anyB f r k (i + 1)
theorem anyB_congr {f g : Nat → Int32} {r : Int32} : ∀ (k i : Nat), (∀ j, i ≤ j → j < i + k → f j = g j) → anyB f r k i = anyB g r k i
  | 0, _, _ => rfl
  | k + 1, i, h => by
    unfold anyB
    rw [h i (Nat.le_refl i) (by omega), anyB_congr k (i + 1) (fun j h1 h2 => h j (by omega) (by omega))]
theorem hasNoted_C {s : Nat} {r : Int32} {L : Nat} (hL : L ≤ 8) : ∀ (k i fu : Nat), i + k = L → k < fu → cT_hasNoted_l2 b s fu r (nI L) (nI i) σ = some (anyB (cA σ (b + 8 + s)) r k i, σ)
  | k, i, 0, _, h3 => by omega
  | 0, i, fu + 1, h2, _ => by
    unfold cT_hasNoted_l2
    rw [if_pos ((P_le (by omega) (by omega)).mpr (by omega))]
    rfl
  | k + 1, i, fu + 1, h2, h3 => by
    unfold cT_hasNoted_l2
    rw [if_neg (fun q => absurd ((P_le (by omega) (by omega)).mp q) (by omega)), if_neg (show ¬ 8 ≤ nI i from fun q => absurd ((P_le (a := 8) (by omega) (by omega)).mp q) (by omega)), P_in (show i < 8 by omega) (by decide), if_pos rfl, P_ix (show i < 2 ^ 31 by omega), nI_1]
    unfold anyB
    by_cases e : cA σ (b + 8 + s) i = r
    · rw [if_pos e, decide_eq_true e, Bool.true_or]
    · rw [if_neg e, decide_eq_false e, Bool.false_or]
      exact hasNoted_C hL k (i + 1) fu (by omega) (by omega)
theorem cl_told : ∀ x ∈ CLogL, (if anyB (fun i => x.2.getD i 0) 4 x.2.length 0 = true then (6 : Int32) else 7) = xTold x.2 := by decide
theorem RC.decision (h : RC b P t x σ0 S σ) (hl : ∃ s, (s, zg S 0) ∈ CLogL) : cC_decision b σ = some (xTold (zg S 0), σ) := by
  obtain ⟨q1, q2, q3, q4⟩ := h.2.2.1 0 (by omega)
  obtain ⟨s, hs⟩ := hl
  unfold cC_decision cT_hasNoted
  rw [show cI σ (b + 2) 2 = nI (zg S 0).length from q2]
  rw [show cT_hasNoted_l2 b 0 4096 4 (nI (zg S 0).length) 0 σ = _ from hasNoted_C (s := 0) (r := 4) q3 (zg S 0).length 0 4096 (by omega) (by omega)]
  simp only [Option.bind_some]
  rw [anyB_congr (g := fun i => (zg S 0).getD i 0) _ _ (fun j _ hj => q4 j (by omega))]
  rw [← show _ = xTold (zg S 0) from cl_told _ hs]
  by_cases e : anyB (fun i => (zg S 0).getD i 0) 4 (zg S 0).length 0 = true
  · rw [if_pos e, if_pos e]
  · rw [if_neg e, if_neg e]
end RC2
