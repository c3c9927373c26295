/-! THE CLASS KEEPS THE TOLD RUN: small steps -/
theorem cI_k {σ : CS} {c k : Nat} {v : Int32} {c' k' : Nat} (h : k' ≠ k) : cI (tI σ c k v) c' k' = cI σ c' k' := by
  show va_up σ.1 c (va_up (σ.1 c) k v) c' k' = σ.1 c' k'
  unfold va_up
  by_cases e : c' = c
  · rw [if_pos e, if_neg h, e]
  · rw [if_neg e]
theorem cI_c {σ : CS} {c k : Nat} {v : Int32} {c' k' : Nat} (h : c' ≠ c) : cI (tI σ c k v) c' k' = cI σ c' k' := congrFun (va_up_n _ _ h) k'
theorem cI_s {σ : CS} {c k : Nat} {v : Int32} : cI (tI σ c k v) c k = v := (congrFun (va_up_s _ _ _) k).trans (va_up_s _ _ _)
theorem cA_c {σ : CS} {c i : Nat} {v : Int32} {c' : Nat} (h : c' ≠ c) : cA (tA σ c i v) c' = cA σ c' := va_up_n _ _ h
theorem cA_s {σ : CS} {c i : Nat} {v : Int32} : cA (tA σ c i v) c = upd (cA σ c) i v := va_up_s _ _ _
theorem cZ_k {σ : CS} {c k : Nat} {v : Bool} {c' k' : Nat} (h : k' ≠ k) : cZ (tZ σ c k v) c' k' = cZ σ c' k' := by
  show va_up σ.2.1 c (va_up (σ.2.1 c) k v) c' k' = σ.2.1 c' k'
  unfold va_up
  by_cases e : c' = c
  · rw [if_pos e, if_neg h, e]
  · rw [if_neg e]
theorem cZ_c {σ : CS} {c k : Nat} {v : Bool} {c' k' : Nat} (h : c' ≠ c) : cZ (tZ σ c k v) c' k' = cZ σ c' k' := congrFun (va_up_n _ _ h) k'
theorem cZ_s {σ : CS} {c k : Nat} {v : Bool} : cZ (tZ σ c k v) c k = v := (congrFun (va_up_s _ _ _) k).trans (va_up_s _ _ _)
def tmC (v : Int32) : Int32 := if v = 1000 then 160 else v
/-- a bit of a set of losses, as the class asks for it -/
def lbit (g : Int64) (m : Nat) : Bool := !decide ((lg_cmp ((Int64.toUInt64 g >>> ((Int32.toInt64 (nI m)).toUInt64 &&& Int64.toUInt64 63)).toInt64 &&& 1) 0) = 0)
def LosB (g : Int64) (l : Nat → Bool) : Prop := ∀ m, m < 60 → lbit g m = l m
/-- a bit of an int, as both ask for it -/
def sbit (c : Int32) (s : Nat) : Bool := !decide (((c >>> (nI s &&& 31)) &&& 1) = 0)
def SetR (q : Nat) (P : ZP) (σ : CS) : Prop := cI σ q 0 = nI (pn P) ∧ cI σ q 1 = pp P ∧ cI σ q 2 = nI (pw P) ∧ (∀ p, 1 ≤ p → p ≤ 5 → sbit (cI σ q 4) p = pv P p) ∧
  ∀ s, s < 6 → (pd P s = none → cA σ (q + 1) s = -1 ∧ cA σ (q + 2) s = -1) ∧ ∀ d u, pd P s = some (d, u) → cA σ (q + 1) s = nI d ∧ cA σ (q + 2) s = nI u
def HeadC (b : Nat) (P : ZP) (t : Nat) (σ : CS) : Prop := cZ σ b 3 = pz P ∧ LosB (cG σ b 4) (pl P) ∧ cI σ b 5 = xEv P ∧ cI σ b 6 = nI t
def SiteC (b s : Nat) (S : ZS) (σ : CS) : Prop := cZ σ (b + 2 + s) 3 = zu S s ∧ cI σ (b + 2 + s) 2 = nI (zg S s).length ∧ (zg S s).length ≤ 8 ∧ ∀ i, i < (zg S s).length → cA σ (b + 8 + s) i = (zg S s).getD i 0
def LiveC (b s : Nat) (S : ZS) (σ : CS) : Prop := (zu S s = true → cI σ (b + 2 + s) 4 = zs S s ∧ cI σ (b + 2 + s) 5 = tmC (zt S s)) ∧ (zu S s = false → cI σ (b + 2 + s) 5 = 160)
def CntC (b : Nat) (S : ZS) (σ : CS) : Prop := zu S 0 = true → (zs S 0 = 1 → cI σ (b + 2) 6 = zc S 0) ∧ (zs S 0 = 2 → cI σ (b + 2) 6 = zc S 1) ∧ (zs S 0 = 3 ∨ zs S 0 = 4 → cI σ (b + 2) 6 = zc S 2)
def MsgC (b : Nat) (S : ZS) (σ : CS) : Prop := zn S ≤ 200 ∧ cI σ b 8 = nI (zn S) ∧ ∀ i, i < zn S → cA σ (b + 14) i = zw S i ∧ cA σ (b + 15) i = nI (zf S i) ∧ cA σ (b + 16) i = nI (zo S i) ∧ cA σ (b + 17) i = za S i ∧ cA σ (b + 18) i = zh S i
def FrC (b : Nat) (σ0 σ : CS) : Prop := (∀ c, c < b ∨ b + 19 ≤ c → sl σ c = sl σ0 c) ∧ cI σ b 7 = cI σ0 b 7
/-- the run at b is the told one; nothing is said of the state and the timer of x -/
def RC (b : Nat) (P : ZP) (t x : Nat) (σ0 : CS) (S : ZS) (σ : CS) : Prop :=
  HeadC b P t σ ∧ SetR 3 P σ ∧ (∀ s, s < 6 → SiteC b s S σ) ∧ (∀ s, s < 6 → s ≠ x → LiveC b s S σ) ∧ (x ≠ 0 → CntC b S σ) ∧ MsgC b S σ ∧ FrC b σ0 σ ∧ 14 ≤ b
def OkC (b : Nat) (P : ZP) (t x : Nat) (σ0 : CS) (S : ZS) (o : Option (Unit × CS)) : Prop := ∃ σ', o = some ((), σ') ∧ RC b P t x σ0 S σ'
theorem OkC.bind {b : Nat} {P : ZP} {t x t' x' : Nat} {σ0 σ0' : CS} {S S' : ZS} {o : Option (Unit × CS)} {g : Unit × CS → Option (Unit × CS)} (h : OkC b P t x σ0 S o) (k : ∀ σ', RC b P t x σ0 S σ' → OkC b P t' x' σ0' S' (g ((), σ'))) : OkC b P t' x' σ0' S' (o.bind g) := by
  obtain ⟨σ', rfl, h2⟩ := h
  exact k σ' h2
theorem OkC.ret {b : Nat} {P : ZP} {t x : Nat} {σ0 : CS} {S : ZS} {o : Option (Unit × CS)} (h : OkC b P t x σ0 S o) : OkC b P t x σ0 S (o.bind fun a => some ((), a.2)) := h.bind fun σ' h' => ⟨σ', rfl, h'⟩
section RCs
variable {b : Nat} {P : ZP} {t x : Nat} {σ0 σ : CS} {S : ZS}
theorem FrC.at (h : FrC b σ0 σ) {c : Nat} {σ' : CS} (hs : ∀ c', c' ≠ c → sl σ' c' = sl σ c') (h1 : b < c) (h2 : c < b + 19) : FrC b σ0 σ' :=
  ⟨fun c' hc => (hs c' (by omega)).trans (h.1 c' hc), (sl_I (hs b (by omega)) 7).trans h.2⟩
/-- a step that keeps what stands at the cells of the set-up -/
theorem SetR.at (h : SetR 3 P σ) {c : Nat} {σ' : CS} (hs : ∀ c', c' ≠ c → sl σ' c' = sl σ c') (hc : 14 ≤ c) : SetR 3 P σ' := by
  have a3 := hs 3 (by omega)
  have a4 : cA σ' (3 + 1) = cA σ (3 + 1) := congrArg (fun d : CL => d.2.2.2.1) (hs 4 (by omega))
  have a5 : cA σ' (3 + 2) = cA σ (3 + 2) := congrArg (fun d : CL => d.2.2.2.1) (hs 5 (by omega))
  unfold SetR
  rw [sl_I a3 0, sl_I a3 1, sl_I a3 2, sl_I a3 4, a4, a5]
  exact h
theorem RC.n (h : RC b P t x σ0 S σ) : cI σ 3 0 = nI (pn P) := h.2.1.1
theorem RC.dc (h : RC b P t x σ0 S σ) (v : Int32) : RC b P t x σ0 (wdc v S) σ := h
theorem RC.b14 (h : RC b P t x σ0 S σ) : 14 ≤ b := h.2.2.2.2.2.2.2
/-- ints of a site's cell change, but not its length -/
theorem RC.site (h : RC b P t x σ0 S σ) {s : Nat} (hs : s < 6) {x' : Nat} {S' : ZS} {σ' : CS} (he : ∀ c, c ≠ b + 2 + s → sl σ' c = sl σ c) (hA : cZ σ' (b + 2 + s) 3 = zu S' s) (hL : cI σ' (b + 2 + s) 2 = cI σ (b + 2 + s) 2)
    (hu : ∀ j, j ≠ s → zu S' j = zu S j) (hst : ∀ j, j ≠ s → zs S' j = zs S j) (htm : ∀ j, j ≠ s → zt S' j = zt S j) (hg : zg S' = zg S) (hm : ∀ σ, MsgC b S σ → MsgC b S' σ) (hx : ∀ j, j < 6 → j ≠ s → j ≠ x' → j ≠ x) (hlive : s ≠ x' → LiveC b s S' σ') (hcnt : x' ≠ 0 → CntC b S' σ') : RC b P t x' σ0 S' σ' := by
  obtain ⟨⟨d1, d2, d3, d4⟩, hS, hT, hV, hC, hM, hF, hb⟩ := h
  have hbh := he b (by omega)
  refine ⟨⟨?_, ?_, (sl_I hbh 5).trans d3, (sl_I hbh 6).trans d4⟩, hS.at he (by omega), fun j hj => ?_, fun j hj hjx => ?_, hcnt, hm _ ?_, hF.at he (by omega) (by omega), hb⟩
  · exact (congrArg (fun d : CL => d.2.1 3) hbh).trans d1
  · rw [show cG σ' b 4 = cG σ b 4 from congrArg (fun d : CL => d.2.2.1 4) hbh]; exact d2
  · obtain ⟨q1, q2, q3, q4⟩ := hT j hj
    have hlog : cA σ' (b + 8 + j) = cA σ (b + 8 + j) := congrArg (fun d : CL => d.2.2.2.1) (he (b + 8 + j) (by omega))
    unfold SiteC
    rw [hg, hlog]
    by_cases e : j = s
    · subst e; exact ⟨hA, hL.trans q2, q3, q4⟩
    · have hj' := he (b + 2 + j) (by omega)
      exact ⟨(congrArg (fun d : CL => d.2.1 3) hj').trans (q1.trans (hu j e).symm), (sl_I hj' 2).trans q2, q3, q4⟩
  · by_cases e : j = s
    · subst e; exact hlive hjx
    · have hj' := he (b + 2 + j) (by omega)
      have q := hV j hj (hx j hj e hjx)
      unfold LiveC
      rw [hu j e, hst j e, htm j e, sl_I hj' 4, sl_I hj' 5]
      exact q
  · obtain ⟨m1, m2, m3⟩ := hM
    refine ⟨m1, (sl_I hbh 8).trans m2, ?_⟩
    have k : ∀ c, b + 14 ≤ c → cA σ' c = cA σ c := fun c hc => congrArg (fun d : CL => d.2.2.2.1) (he c (by omega))
    rw [k (b + 14) (by omega), k (b + 15) (by omega), k (b + 16) (by omega), k (b + 17) (by omega), k (b + 18) (by omega)]
    exact m3
/-- a record -/
theorem RC.note (h : RC b P t x σ0 S σ) {s : Nat} (hs : s < 6) (hl : (zg S s).length < 8) (r : Int32) : OkC b P t x σ0 (wlg s r S) (cT_note b s r σ) := by
  obtain ⟨⟨d1, d2, d3, d4⟩, hS, hT, hV, hC, hM, hF, hb⟩ := h
  obtain ⟨p1, p2, p3, p4⟩ := hT s hs
  unfold cT_note
  rw [p2, if_neg (show ¬ 8 ≤ nI (zg S s).length from fun q => absurd ((P_le (a := 8) (by omega) (by omega)).mp q) (by omega)), P_in hl (by decide), if_pos rfl, P_ix (show (zg S s).length < 2 ^ 31 by omega), nI_1]
  have hA : ∀ c, c ≠ b + 8 + s → cA (tI (tA σ (b + 8 + s) (zg S s).length r) (b + 2 + s) 2 (nI ((zg S s).length + 1))) c = cA σ c := fun c hc => cA_c (σ := σ) hc
  have hk : ∀ c k, k ≠ 2 → cI (tI (tA σ (b + 8 + s) (zg S s).length r) (b + 2 + s) 2 (nI ((zg S s).length + 1))) c k = cI σ c k := fun c k hk => cI_k hk
  have hc : ∀ c k, c ≠ b + 2 + s → cI (tI (tA σ (b + 8 + s) (zg S s).length r) (b + 2 + s) 2 (nI ((zg S s).length + 1))) c k = cI σ c k := fun c k hc => cI_c hc
  have e1 : ∀ c', c' ≠ b + 8 + s → sl (tA σ (b + 8 + s) (zg S s).length r) c' = sl σ c' := qA_o
  have e2 : ∀ c', c' ≠ b + 2 + s → sl (tI (tA σ (b + 8 + s) (zg S s).length r) (b + 2 + s) 2 (nI ((zg S s).length + 1))) c' = sl (tA σ (b + 8 + s) (zg S s).length r) c' := tI_o
  refine ⟨_, rfl, ⟨d1, d2, (hk _ _ (by decide)).trans d3, (hk _ _ (by decide)).trans d4⟩, (hS.at e1 (by omega)).at e2 (by omega), fun j hj => ?_, fun j hj hjx => ?_, fun hx => ?_, ?_, (hF.at e1 (by omega) (by omega)).at e2 (by omega) (by omega), hb⟩
  · obtain ⟨q1, q2, q3, q4⟩ := hT j hj
    unfold SiteC
    by_cases e : j = s
    · subst e
      rw [show zg (wlg j r S) j = zg S j ++ [r] from va_up_s _ _ _]
      refine ⟨q1, by rw [cI_s, List.length_append]; rfl, by simp; omega, fun i hi => ?_⟩
      rw [show cA (tI (tA σ (b + 8 + j) (zg S j).length r) (b + 2 + j) 2 (nI ((zg S j).length + 1))) (b + 8 + j) = upd (cA σ (b + 8 + j)) (zg S j).length r from cA_s (σ := σ), getD_app]
      unfold upd
      by_cases e : i = (zg S j).length
      · rw [if_pos e, if_pos e]
      · rw [if_neg e, if_neg e]
        simp only [List.length_append, List.length_singleton] at hi
        exact q4 i (by omega)
    · rw [show zg (wlg s r S) j = zg S j from va_up_n _ _ e]
      refine ⟨q1, (hc _ _ (by omega)).trans q2, q3, ?_⟩
      rw [hA _ (by omega)]; exact q4
  · have q := hV j hj hjx
    unfold LiveC
    rw [hk _ 4 (by decide), hk _ 5 (by decide)]; exact q
  · have q := hC hx
    unfold CntC
    rw [hk _ 6 (by decide)]; exact q
  · obtain ⟨m1, m2, m3⟩ := hM
    refine ⟨m1, (hk _ _ (by decide)).trans m2, ?_⟩
    rw [hA _ (by omega), hA _ (by omega), hA _ (by omega), hA _ (by omega), hA _ (by omega)]; exact m3
/-- a message -/
theorem RC.msg (h : RC b P t x σ0 S σ) (w : Int32) (a o : Nat) (hl : zn S < 200) : RC b P t x σ0 (wmsg w a o (nI t) S) (tI (tA (tA (tA (tA (tA σ (b + 14) (zn S) w) (b + 15) (zn S) (nI a)) (b + 16) (zn S) (nI o)) (b + 17) (zn S) (nI t)) (b + 18) (zn S) 3) b 8 (nI (zn S + 1))) := by
  obtain ⟨⟨d1, d2, d3, d4⟩, hS, hT, hV, hC, ⟨m1, m2, m3⟩, ⟨f1, f2⟩, hb⟩ := h
  let σ5 : CS := tA (tA (tA (tA (tA σ (b + 14) (zn S) w) (b + 15) (zn S) (nI a)) (b + 16) (zn S) (nI o)) (b + 17) (zn S) (nI t)) (b + 18) (zn S) 3
  have hI5 : ∀ c k, cI σ5 c k = cI σ c k := fun _ _ => rfl
  have hA5 : ∀ c, c < b + 14 ∨ b + 18 < c → cA σ5 c = cA σ c := fun c hc => ((((cA_c (by omega)).trans (cA_c (by omega))).trans (cA_c (by omega))).trans (cA_c (by omega))).trans (cA_c (by omega))
  have hk : ∀ c k, k ≠ 8 → cI (tI σ5 b 8 (nI (zn S + 1))) c k = cI σ c k := fun c k hk => (cI_k hk).trans (hI5 c k)
  have hc : ∀ c k, c ≠ b → cI (tI σ5 b 8 (nI (zn S + 1))) c k = cI σ c k := fun c k hc => (cI_c hc).trans (hI5 c k)
  have hsl : ∀ c, c ≠ b → c < b + 14 ∨ b + 18 < c → sl (tI σ5 b 8 (nI (zn S + 1))) c = sl σ c := fun c h1 h2 => (tI_o c h1).trans (((((qA_o c (by omega)).trans (qA_o c (by omega))).trans (qA_o c (by omega))).trans (qA_o c (by omega))).trans (qA_o c (by omega)))
  show RC b P t x σ0 (wmsg w a o (nI t) S) (tI σ5 b 8 (nI (zn S + 1)))
  refine ⟨⟨d1, d2, (hk _ _ (by decide)).trans d3, (hk _ _ (by decide)).trans d4⟩, ?_, fun j hj => ?_, fun j hj hjx => ?_, fun hx => ?_, ⟨hl, cI_s, fun i hi => ?_⟩, ⟨fun c hc => (hsl c (by omega) (by omega)).trans (f1 c hc), (hk _ _ (by decide)).trans f2⟩, hb⟩
  · unfold SetR
    rw [hc 3 0 (by omega), hc 3 1 (by omega), hc 3 2 (by omega), hc 3 4 (by omega), show cA (tI σ5 b 8 (nI (zn S + 1))) (3 + 1) = cA σ (3 + 1) from hA5 4 (by omega), show cA (tI σ5 b 8 (nI (zn S + 1))) (3 + 2) = cA σ (3 + 2) from hA5 5 (by omega)]
    exact hS
  · unfold SiteC
    rw [hk _ 2 (by decide), show cA (tI σ5 b 8 (nI (zn S + 1))) (b + 8 + j) = cA σ (b + 8 + j) from hA5 _ (by omega)]; exact hT j hj
  · unfold LiveC
    rw [hk _ 4 (by decide), hk _ 5 (by decide)]; exact hV j hj hjx
  · unfold CntC
    rw [hk _ 6 (by decide)]; exact hC hx
  · have g14 : cA (tI σ5 b 8 (nI (zn S + 1))) (b + 14) = upd (cA σ (b + 14)) (zn S) w := (((cA_c (by omega)).trans (cA_c (by omega))).trans (cA_c (by omega))).trans ((cA_c (by omega)).trans cA_s)
    have g15 : cA (tI σ5 b 8 (nI (zn S + 1))) (b + 15) = upd (cA σ (b + 15)) (zn S) (nI a) := (((cA_c (by omega)).trans (cA_c (by omega))).trans (cA_c (by omega))).trans (cA_s.trans (by rw [cA_c (by omega)]))
    have g16 : cA (tI σ5 b 8 (nI (zn S + 1))) (b + 16) = upd (cA σ (b + 16)) (zn S) (nI o) := ((cA_c (by omega)).trans (cA_c (by omega))).trans (cA_s.trans (by rw [cA_c (by omega), cA_c (by omega)]))
    have g17 : cA (tI σ5 b 8 (nI (zn S + 1))) (b + 17) = upd (cA σ (b + 17)) (zn S) (nI t) := (cA_c (by omega)).trans (cA_s.trans (by rw [cA_c (by omega), cA_c (by omega), cA_c (by omega)]))
    have g18 : cA (tI σ5 b 8 (nI (zn S + 1))) (b + 18) = upd (cA σ (b + 18)) (zn S) 3 := cA_s.trans (by rw [cA_c (by omega), cA_c (by omega), cA_c (by omega), cA_c (by omega)])
    rw [g14, g15, g16, g17, g18]
    show upd (cA σ (b + 14)) (zn S) w i = va_up (zw S) (zn S) w i ∧ upd (cA σ (b + 15)) (zn S) (nI a) i = nI (va_up (zf S) (zn S) a i) ∧ upd (cA σ (b + 16)) (zn S) (nI o) i = nI (va_up (zo S) (zn S) o i) ∧ upd (cA σ (b + 17)) (zn S) (nI t) i = va_up (za S) (zn S) (nI t) i ∧ upd (cA σ (b + 18)) (zn S) 3 i = va_up (zh S) (zn S) 3 i
    have hi' : i < zn S + 1 := hi
    unfold upd va_up
    by_cases q : i = zn S
    · simp only [if_pos q, and_self]
    · simp only [if_neg q]; exact m3 i (by omega)
theorem RC.ft (h : RC b P t x σ0 S σ) (m : Nat) (v : Int32) : RC b P t x σ0 (wft m v S) (tA σ (b + 18) m v) := by
  obtain ⟨hH, hS, hT, hV, hC, ⟨m1, m2, m3⟩, hF, hb⟩ := h
  have hA : ∀ c, c ≠ b + 18 → cA (tA σ (b + 18) m v) c = cA σ c := fun c hc => cA_c hc
  refine ⟨hH, hS.at qA_o (by omega), fun j hj => ?_, hV, hC, ⟨m1, m2, fun i hi => ?_⟩, hF.at qA_o (by omega) (by omega), hb⟩
  · unfold SiteC
    rw [hA _ (by omega)]; exact hT j hj
  · obtain ⟨a1, a2, a3, a4, a5⟩ := m3 i hi
    rw [hA (b + 14) (by omega), hA (b + 15) (by omega), hA (b + 16) (by omega), hA (b + 17) (by omega), cA_s]
    refine ⟨a1, a2, a3, a4, ?_⟩
    show upd (cA σ (b + 18)) m v i = va_up (zh S) m v i
    unfold upd va_up
    by_cases q : i = m
    · rw [if_pos q, if_pos q]
    · rw [if_neg q, if_neg q]; exact a5
end RCs
