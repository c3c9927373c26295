/-! THE REFERENCE KEEPS THE TOLD RUN: small steps -/
def EqR (n : Nat) (f g : Nat → Int32) : Prop := ∀ i, i < n → f i = g i
def EqU (f : Nat → Int32) (u : Nat → Bool) : Prop := ∀ i, i < 6 → f i = bI (u i)
def LogR (many log : Nat → Int32) (g : Nat → List Int32) : Prop := ∀ s, s < 6 → many s = nI (g s).length ∧ (g s).length ≤ 20 ∧ ∀ i, i < (g s).length → log (20 * s + i) = (g s).getD i 0
def MsgR (a b c d e : Nat → Int32) (S : ZS) : Prop := zn S ≤ 200 ∧ ∀ i, i < zn S → a i = zw S i ∧ b i = nI (zf S i) ∧ c i = nI (zo S i) ∧ d i = za S i ∧ e i = zh S i
def SetM (P : ZP) (τ : MS) : Prop := mI τ 5 = nI (pn P) ∧ mI τ 6 = pp P ∧ mI τ 7 = nI (pw P) ∧ mI τ 8 = bI (pz P) ∧ (∀ p, 1 ≤ p → p ≤ 5 → mA τ 1 p = bI (pv P p)) ∧ (∀ m, m < 60 → mA τ 2 m = bI (pl P m)) ∧
  ∀ s, s < 6 → (pd P s = none → mA τ 3 s = -1) ∧ ∀ d u, pd P s = some (d, u) → mA τ 3 s = nI d ∧ mA τ 4 s = nI u
/-- what a run leaves alone -/
def FrM (τ0 τ : MS) : Prop := τ.2.1 = τ0.2.1 ∧ τ.2.2.2 = τ0.2.2.2 ∧ (∀ k, k < 21 ∨ 24 < k → mI τ k = mI τ0 k) ∧ (∀ k, k < 10 ∨ 20 < k → mA τ k = mA τ0 k)
def RM (P : ZP) (t f : Nat) (τ0 : MS) (S : ZS) (τ : MS) : Prop :=
  SetM P τ ∧ (mI τ 22 = nI t ∧ mI τ 23 = nI f ∧ mI τ 24 = zd S ∧ mI τ 21 = nI (zn S)) ∧ EqU (mA τ 11) (zu S) ∧ EqR 6 (mA τ 10) (zs S) ∧ EqR 6 (mA τ 12) (zt S) ∧ EqR 3 (mA τ 15) (zc S) ∧
  LogR (mA τ 14) (mA τ 13) (zg S) ∧ MsgR (mA τ 16) (mA τ 17) (mA τ 18) (mA τ 19) (mA τ 20) S ∧ FrM τ0 τ
def OkM (P : ZP) (t f : Nat) (τ0 : MS) (S : ZS) (o : Option (Unit × MS)) : Prop := ∃ τ', o = some ((), τ') ∧ RM P t f τ0 S τ'
theorem OkM.bind {P : ZP} {t f t' f' : Nat} {τ0 τ0' : MS} {S S' : ZS} {o : Option (Unit × MS)} {g : Unit × MS → Option (Unit × MS)} (h : OkM P t f τ0 S o) (k : ∀ τ', RM P t f τ0 S τ' → OkM P t' f' τ0' S' (g ((), τ'))) : OkM P t' f' τ0' S' (o.bind g) := by
  obtain ⟨τ', rfl, h2⟩ := h
  exact k τ' h2
theorem OkM.ret {P : ZP} {t f : Nat} {τ0 : MS} {S : ZS} {o : Option (Unit × MS)} (h : OkM P t f τ0 S o) : OkM P t f τ0 S (o.bind fun a => some ((), a.2)) := h.bind fun τ' h' => ⟨τ', rfl, h'⟩
theorem EqR.up {n : Nat} {f g : Nat → Int32} (h : EqR n f g) (i : Nat) (v : Int32) : EqR n (upd f i v) (va_up g i v) := fun j hj => by
  unfold upd va_up
  by_cases e : j = i
  · rw [if_pos e, if_pos e]
  · rw [if_neg e, if_neg e]; exact h j hj
theorem EqU.up {f : Nat → Int32} {g : Nat → Bool} (h : EqU f g) (i : Nat) (v : Bool) : EqU (upd f i (bI v)) (va_up g i v) := fun j hj => by
  unfold upd va_up
  by_cases e : j = i
  · rw [if_pos e, if_pos e]
  · rw [if_neg e, if_neg e]; exact h j hj
theorem getD_app {l : List Int32} {r : Int32} {i : Nat} : (l ++ [r]).getD i 0 = if i = l.length then r else l.getD i 0 := by
  by_cases e : i = l.length
  · subst e; simp
  · rw [if_neg e]
    by_cases h : i < l.length
    · simp [h, List.getElem?_append_left h]
    · have h1 : l.length ≤ i := by omega
      have h2 : (l ++ [r])[i]? = none := List.getElem?_eq_none (by simp; omega)
      have h3 : l[i]? = none := List.getElem?_eq_none h1
      simp [List.getD, h2, h3]
theorem LogR.note {many log : Nat → Int32} {g : Nat → List Int32} (h : LogR many log g) {s : Nat} (hs : s < 6) (hl : (g s).length < 20) (r : Int32) : LogR (upd many s (many s + 1)) (upd log (20 * s + (g s).length) r) (va_up g s (g s ++ [r])) := by
  intro j hj
  by_cases e : j = s
  · subst e
    obtain ⟨h1, h2, h3⟩ := h j hj
    rw [va_up_s, pk_us, h1, List.length_append]
    refine ⟨nI_1 _, by simp; omega, fun i hi => ?_⟩
    rw [getD_app]
    unfold upd
    by_cases e : i = (g j).length
    · rw [if_pos (by omega), if_pos e]
    · simp only [List.length_singleton] at hi
      rw [if_neg (by omega), if_neg e]
      exact h3 i (by omega)
  · obtain ⟨h1, h2, h3⟩ := h j hj
    rw [va_up_n _ _ e, pk_un e]
    refine ⟨h1, h2, fun i hi => ?_⟩
    rw [pk_un (by omega)]
    exact h3 i hi
theorem FrM.rf {τ : MS} : FrM τ τ := ⟨rfl, rfl, fun _ _ => rfl, fun _ _ => rfl⟩
theorem FrM.tr {a b c : MS} (h : FrM a b) (k : FrM b c) : FrM a c := ⟨k.1.trans h.1, k.2.1.trans h.2.1, fun i hi => (k.2.2.1 i hi).trans (h.2.2.1 i hi), fun i hi => (k.2.2.2 i hi).trans (h.2.2.2 i hi)⟩
theorem FrM.sA {τ0 τ : MS} (h : FrM τ0 τ) {k : Nat} (i : Nat) (v : Int32) (h1 : 10 ≤ k) (h2 : k ≤ 20) : FrM τ0 (sA τ k i v) := ⟨h.1, h.2.1, h.2.2.1, fun j hj => (va_up_n _ _ (by omega)).trans (h.2.2.2 j hj)⟩
theorem FrM.sI {τ0 τ : MS} (h : FrM τ0 τ) {k : Nat} (v : Int32) (h1 : 21 ≤ k) (h2 : k ≤ 24) : FrM τ0 (sI τ k v) := ⟨h.1, h.2.1, fun j hj => (va_up_n _ _ (by omega)).trans (h.2.2.1 j hj), h.2.2.2⟩
section RMs
variable {P : ZP} {t f : Nat} {τ0 τ : MS} {S : ZS}
theorem RM.st (h : RM P t f τ0 S τ) (s : Nat) (v : Int32) : RM P t f τ0 (wst s v S) (sA τ 10 s v) := by
  obtain ⟨hS, hi, hU, hs, ht, hc, hg, hm, hF⟩ := h
  exact ⟨hS, hi, hU, hs.up s v, ht, hc, hg, hm, hF.sA s v (by omega) (by omega)⟩
theorem RM.tm (h : RM P t f τ0 S τ) (s : Nat) (v : Int32) : RM P t f τ0 (wtm s v S) (sA τ 12 s v) := by
  obtain ⟨hS, hi, hU, hs, ht, hc, hg, hm, hF⟩ := h
  exact ⟨hS, hi, hU, hs, ht.up s v, hc, hg, hm, hF.sA s v (by omega) (by omega)⟩
theorem RM.cn (h : RM P t f τ0 S τ) (s : Nat) (v : Int32) : RM P t f τ0 (wcn s v S) (sA τ 15 s v) := by
  obtain ⟨hS, hi, hU, hs, ht, hc, hg, hm, hF⟩ := h
  exact ⟨hS, hi, hU, hs, ht, hc.up s v, hg, hm, hF.sA s v (by omega) (by omega)⟩
theorem RM.u (h : RM P t f τ0 S τ) (s : Nat) (v : Bool) : RM P t f τ0 (wu s v S) (sA τ 11 s (bI v)) := by
  obtain ⟨hS, hi, hU, hs, ht, hc, hg, hm, hF⟩ := h
  exact ⟨hS, hi, hU.up s v, hs, ht, hc, hg, hm, hF.sA s (bI v) (by omega) (by omega)⟩
theorem RM.dc (h : RM P t f τ0 S τ) (v : Int32) : RM P t f τ0 (wdc v S) (sI τ 24 v) := by
  obtain ⟨hS, ⟨h1, h2, h3, h4⟩, hU, hs, ht, hc, hg, hm, hF⟩ := h
  exact ⟨hS, ⟨h1, h2, rfl, h4⟩, hU, hs, ht, hc, hg, hm, hF.sI v (by omega) (by omega)⟩
theorem RM.ft (h : RM P t f τ0 S τ) (s : Nat) (v : Int32) : RM P t f τ0 (wft s v S) (sA τ 20 s v) := by
  obtain ⟨hS, hi, hU, hs, ht, hc, hg, ⟨hm1, hm2⟩, hF⟩ := h
  refine ⟨hS, hi, hU, hs, ht, hc, hg, ⟨hm1, fun i hi => ?_⟩, hF.sA s v (by omega) (by omega)⟩
  obtain ⟨a, b, c, d, e⟩ := hm2 i hi
  refine ⟨a, b, c, d, ?_⟩
  show upd (mA τ 20) s v i = va_up (zh S) s v i
  unfold upd va_up
  by_cases q : i = s
  · rw [if_pos q, if_pos q]
  · rw [if_neg q, if_neg q]; exact e
theorem RM.msg (h : RM P t f τ0 S τ) (w : Int32) (a o : Nat) (hl : zn S < 200) : RM P t f τ0 (wmsg w a o (nI t) S) (sI (sA (sA (sA (sA (sA τ 16 (zn S) w) 17 (zn S) (nI a)) 18 (zn S) (nI o)) 19 (zn S) (nI t)) 20 (zn S) 3) 21 (nI (zn S + 1))) := by
  obtain ⟨hS, ⟨h1, h2, h3, h4⟩, hU, hs, ht, hc, hg, ⟨hm1, hm2⟩, hF⟩ := h
  refine ⟨hS, ⟨h1, h2, h3, rfl⟩, hU, hs, ht, hc, hg, ⟨hl, fun i hi => ?_⟩, (((((hF.sA _ _ (by omega) (by omega)).sA _ _ (by omega) (by omega)).sA _ _ (by omega) (by omega)).sA _ _ (by omega) (by omega)).sA _ _ (by omega) (by omega)).sI _ (by omega) (by omega)⟩
  show upd (mA τ 16) (zn S) w i = va_up (zw S) (zn S) w i ∧ upd (mA τ 17) (zn S) (nI a) i = nI (va_up (zf S) (zn S) a i) ∧ upd (mA τ 18) (zn S) (nI o) i = nI (va_up (zo S) (zn S) o i) ∧ upd (mA τ 19) (zn S) (nI t) i = va_up (za S) (zn S) (nI t) i ∧ upd (mA τ 20) (zn S) 3 i = va_up (zh S) (zn S) 3 i
  have hi' : i < zn S + 1 := hi
  unfold upd va_up
  by_cases q : i = zn S
  · simp only [if_pos q, and_self]
  · simp only [if_neg q]
    exact hm2 i (by omega)
theorem RM.send (h : RM P t f τ0 S τ) (w : Int32) (a o : Nat) : OkM P t f τ0 (xSend t w a o S) (m_sends w (nI a) (nI o) τ) := by
  have h21 : mI τ 21 = nI (zn S) := h.2.1.2.2.2
  have h22 : mI τ 22 = nI t := h.2.1.1
  have hle : zn S ≤ 200 := h.2.2.2.2.2.2.2.1.1
  unfold m_sends xSend
  rw [h21, h22]
  by_cases e : zn S < 200
  · rw [if_neg (show ¬ nI (zn S) = 200 from P_ne (b := 200) (by omega) (by omega) (by omega)), P_in e (by decide), if_pos e, P_ix (show zn S < 2 ^ 31 by omega)]
    simp only [if_true]
    rw [nI_1]
    exact ⟨_, rfl, h.msg w a o e⟩
  · rw [if_pos (show nI (zn S) = 200 from by rw [show zn S = 200 by omega]; rfl), if_neg e]
    exact ⟨τ, rfl, h⟩
theorem RM.all (hn : pn P ≤ 5) (w : Int32) : ∀ (r a fu : Nat) (S : ZS) (τ : MS), RM P t f τ0 S τ → a + r = pn P + 1 → r < fu → OkM P t f τ0 (xSends t w 0 (List.range' a r) S) (m_sendsAll_l2 fu w (nI a) τ)
  | r, a, 0, S, τ, _, _, h3 => by omega
  | 0, a, fu + 1, S, τ, h, h2, _ => by
    unfold m_sendsAll_l2
    rw [h.1.1, if_pos ((P_lt (by omega) (by omega)).mpr (by omega))]
    exact ⟨τ, rfl, h⟩
  | r + 1, a, fu + 1, S, τ, h, h2, h3 => by
    unfold m_sendsAll_l2
    rw [h.1.1, if_neg (fun q => absurd ((P_lt (by omega) (by omega)).mp q) (by omega)), List.range'_succ]
    refine (h.send w 0 a).bind fun τ' h' => ?_
    rw [nI_1]
    exact RM.all hn w r (a + 1) fu _ τ' h' (by omega) (by omega)
theorem RM.sendAll (hn : pn P ≤ 5) (h : RM P t f τ0 S τ) (w : Int32) : OkM P t f τ0 (xSends t w 0 (xAll P) S) (m_sendsAll w τ) :=
  RM.all hn w (pn P) 1 4096 S τ h (by omega) (by omega)
theorem RM.timer (h : RM P t f τ0 S τ) {s : Nat} (hs : s < 6) : OkM P t f τ0 (wtm s (xEnd P t) S) (m_startsTimer (nI s) τ) := by
  unfold m_startsTimer
  rw [P_in hs (by decide), if_pos rfl, P_ix (show s < 2 ^ 31 by omega), show mI τ 22 = nI t from h.2.1.1, show mI τ 7 = nI (pw P) from h.1.2.2.1]
  exact ⟨_, rfl, h.tm s _⟩
theorem RM.notes (h : RM P t f τ0 S τ) {s : Nat} (hs : s < 6) (hl : (zg S s).length < 20) (r : Int32) : OkM P t f τ0 (wlg s r S) (m_notes (nI s) r τ) := by
  unfold m_notes
  obtain ⟨hS, hi, hU, hs', ht, hc, hg, hm, hF⟩ := h
  have h1 := (hg s hs).1
  have e7 : (20 * nI s) + nI (zg S s).length = nI (20 * s + (zg S s).length) := by rw [show (20 : Int32) = nI 20 from rfl, pk_mul, nI_add]
  rw [P_in hs (by decide), P_ix (show s < 2 ^ 31 by omega), h1, e7, P_in (show 20 * s + (zg S s).length < 120 by omega) (by decide), P_ix (show 20 * s + (zg S s).length < 2 ^ 31 by omega)]
  simp only [if_true]
  refine ⟨_, rfl, hS, hi, hU, hs', ht, hc, ?_, hm, (hF.sA _ _ (by omega) (by omega)).sA _ _ (by omega) (by omega)⟩
  have := hg.note hs hl r
  rw [h1] at this
  exact this
end RMs
