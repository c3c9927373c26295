/-! WHAT ALWAYS HOLDS IN A TOLD RUN -/
def CLogL : List (Int32 × List Int32) := [(0, []), (1, [1]), (2, [1, 3]), (3, [1, 4]), (3, [1, 3, 4]), (4, [1, 5]), (4, [5]), (5, []), (5, [1]), (5, [1, 4, 6]), (5, [1, 3, 4, 6]), (5, [1, 5, 6]), (5, [5, 6])]
def PLogL : List (Int32 × List Int32) := [(0, []), (1, [2]), (2, [2, 3]), (3, [4]), (3, [2, 4]), (3, [2, 3, 4]), (4, [5]), (4, [2, 5]), (4, [2, 3, 5])]
def xTold (l : List Int32) : Int32 := if l.contains 4 = true then 6 else 7
def CI (u : Bool) (st : Int32) (l : List Int32) (c : Nat → Int32) (d : Int32) : Prop :=
  (u = true → (st, l) ∈ CLogL ∧ (st = 0 → c 0 = 0) ∧ (st = 0 ∨ st = 1 → c 1 = 0) ∧ (st = 0 ∨ st = 1 ∨ st = 2 → c 2 = 0) ∧ (3 ≤ st → d = xTold l)) ∧ ∃ s, (s, l) ∈ CLogL
def PI (u : Bool) (st : Int32) (l : List Int32) (tm : Int32) : Prop := (u = true → (st, l) ∈ PLogL ∧ (st = 0 → tm = 1000)) ∧ ∃ s, (s, l) ∈ PLogL
def TimI (v : Int32) : Prop := v = 1000 ∨ ∃ k, k ≤ 69 ∧ v = nI k
def WhI (w : Int32) : Prop := ∃ k, 1 ≤ k ∧ k ≤ 9 ∧ w = nI k
def MsgW (n t : Nat) (S : ZS) : Prop := zn S ≤ 200 ∧ ∀ i, i < zn S → zf S i ≤ n ∧ zo S i ≤ n ∧ WhI (zw S i) ∧ ∃ a, a ≤ t ∧ za S i = nI a
def TimW (S : ZS) : Prop := ∀ s, s < 6 → TimI (zt S s)
def CInv (S : ZS) : Prop := CI (zu S 0) (zs S 0) (zg S 0) (zc S) (zd S)
def PInv (S : ZS) : Prop := ∀ p, 1 ≤ p → p < 6 → PI (zu S p) (zs S p) (zg S p) (zt S p)
def Inv (P : ZP) (t : Nat) (S : ZS) : Prop := MsgW (pn P) t S ∧ TimW S ∧ CInv S ∧ PInv S
theorem CLog_short : ∀ x ∈ CLogL, x.2.length ≤ 4 := by decide
theorem PLog_short : ∀ x ∈ PLogL, x.2.length ≤ 3 := by decide
theorem Inv.short {P : ZP} {t : Nat} {S : ZS} (h : Inv P t S) : Short S := fun s hs => by
  by_cases e : s = 0
  · subst e; obtain ⟨x, hx⟩ := h.2.2.1.2; have q : (zg S 0).length ≤ 4 := CLog_short _ hx; omega
  · obtain ⟨x, hx⟩ := (h.2.2.2 s (by omega) hs).2; have q : (zg S s).length ≤ 3 := PLog_short _ hx; omega
def Fr6 (S S' : ZS) : Prop := zu S' = zu S ∧ zs S' = zs S ∧ zt S' = zt S ∧ zg S' = zg S ∧ zc S' = zc S ∧ zd S' = zd S
theorem xSend_fr {t : Nat} {w : Int32} {f o : Nat} {S : ZS} : Fr6 S (xSend t w f o S) := by
  unfold xSend; split
  · exact ⟨rfl, rfl, rfl, rfl, rfl, rfl⟩
  · exact ⟨rfl, rfl, rfl, rfl, rfl, rfl⟩
theorem xSends_fr {t : Nat} {w : Int32} {f : Nat} : ∀ (L : List Nat) (S : ZS), Fr6 S (xSends t w f L S)
  | [], _ => ⟨rfl, rfl, rfl, rfl, rfl, rfl⟩
  | o :: L, S => by
    obtain ⟨a1, a2, a3, a4, a5, a6⟩ := xSends_fr (t := t) (w := w) (f := f) L (xSend t w f o S)
    obtain ⟨b1, b2, b3, b4, b5, b6⟩ := xSend_fr (t := t) (w := w) (f := f) (o := o) (S := S)
    exact ⟨a1.trans b1, a2.trans b2, a3.trans b3, a4.trans b4, a5.trans b5, a6.trans b6⟩
theorem MsgW.send {n t : Nat} {S : ZS} (h : MsgW n t S) {w : Int32} {f o : Nat} (hw : WhI w) (hf : f ≤ n) (ho : o ≤ n) : MsgW n t (xSend t w f o S) := by
  unfold xSend
  split
  · rename_i hl
    refine ⟨hl, fun i hi => ?_⟩
    show va_up (zf S) (zn S) f i ≤ n ∧ va_up (zo S) (zn S) o i ≤ n ∧ WhI (va_up (zw S) (zn S) w i) ∧ ∃ a, a ≤ t ∧ va_up (za S) (zn S) (nI t) i = nI a
    have hi' : i < zn S + 1 := hi
    unfold va_up
    by_cases q : i = zn S
    · simp only [if_pos q]; exact ⟨hf, ho, hw, t, Nat.le_refl t, rfl⟩
    · simp only [if_neg q]; exact h.2 i (by omega)
  · exact h
theorem MsgW.sends {n t : Nat} {w : Int32} {f : Nat} (hw : WhI w) (hf : f ≤ n) : ∀ (L : List Nat) (S : ZS), MsgW n t S → (∀ o ∈ L, o ≤ n) → MsgW n t (xSends t w f L S)
  | [], _, h, _ => h
  | o :: L, S, h, hL => MsgW.sends hw hf L _ (h.send hw hf (hL o List.mem_cons_self)) (fun q hq => hL q (List.mem_cons_of_mem _ hq))
theorem TimW.tm {S : ZS} (h : TimW S) (s : Nat) {v : Int32} (hv : TimI v) : TimW (wtm s v S) := fun j hj => by
  show TimI (va_up (zt S) s v j)
  unfold va_up; split
  · exact hv
  · exact h j hj
theorem TimI_end {P : ZP} {t : Nat} (hw : pw P ≤ 9) (ht : t ≤ 60) : TimI (xEnd P t) := Or.inr ⟨t + pw P, by omega, nI_add _ _⟩
theorem TimI_t {t : Nat} (ht : t ≤ 60) : TimI (nI t) := Or.inr ⟨t, by omega, rfl⟩
theorem TimI_no : TimI 1000 := Or.inl rfl
theorem xAll_le {P : ZP} : ∀ o ∈ xAll P, o ≤ pn P := fun o ho => by
  unfold xAll at ho
  rw [List.mem_range'_1] at ho; omega
/-- the coordinator's turn -/
theorem Inv.turn {P : ZP} {t : Nat} {S : ZS} {st' v w : Int32} {L : List Nat} (hm : MsgW (pn P) t S) (ht : TimW S) (hp : PInv S) (hc : CI (zu S 0) st' (zg S 0) (zc S) (zd S)) (hv : TimI v) (hw : WhI w) (hL : ∀ o ∈ L, o ≤ pn P) : Inv P t (wtm 0 v (xSends t w 0 L (wst 0 st' S))) := by
  obtain ⟨a1, a2, a3, a4, a5, a6⟩ := xSends_fr (t := t) (w := w) (f := 0) L (wst 0 st' S)
  refine ⟨MsgW.sends hw (Nat.zero_le _) L _ hm hL, TimW.tm (fun s hs => by rw [a3]; exact ht s hs) 0 hv, ?_, fun p h1 h2 => ?_⟩
  · show CI (zu (xSends t w 0 L (wst 0 st' S)) 0) (zs (xSends t w 0 L (wst 0 st' S)) 0) (zg (xSends t w 0 L (wst 0 st' S)) 0) (zc (xSends t w 0 L (wst 0 st' S))) (zd (xSends t w 0 L (wst 0 st' S)))
    rw [a1, a2, a4, a5, a6]; exact hc
  · show PI (zu (xSends t w 0 L (wst 0 st' S)) p) (zs (xSends t w 0 L (wst 0 st' S)) p) (zg (xSends t w 0 L (wst 0 st' S)) p) (va_up (zt (xSends t w 0 L (wst 0 st' S))) 0 v p)
    rw [a1, a2, a3, a4, va_up_n _ _ (show p ≠ 0 by omega)]
    show PI (zu S p) (va_up (zs S) 0 st' p) (zg S p) (zt S p)
    rw [va_up_n _ _ (show p ≠ 0 by omega)]; exact hp p h1 h2
theorem PInv.lg0 {S : ZS} (h : PInv S) (r : Int32) : PInv (wlg 0 r S) := fun p h1 h2 => by
  show PI (zu S p) (zs S p) (va_up (zg S) 0 (zg S 0 ++ [r]) p) (zt S p)
  rw [va_up_n _ _ (show p ≠ 0 by omega)]; exact h p h1 h2
theorem PInv.st0 {S : ZS} (h : PInv S) (v : Int32) : PInv (wst 0 v S) := fun p h1 h2 => by
  show PI (zu S p) (va_up (zs S) 0 v p) (zg S p) (zt S p)
  rw [va_up_n _ _ (show p ≠ 0 by omega)]; exact h p h1 h2
theorem PInv.tm0 {S : ZS} (h : PInv S) (v : Int32) : PInv (wtm 0 v S) := fun p h1 h2 => by
  show PI (zu S p) (zs S p) (zg S p) (va_up (zt S) 0 v p)
  rw [va_up_n _ _ (show p ≠ 0 by omega)]; exact h p h1 h2
theorem PInv.u0 {S : ZS} (h : PInv S) (v : Bool) : PInv (wu 0 v S) := fun p h1 h2 => by
  show PI (va_up (zu S) 0 v p) (zs S p) (zg S p) (zt S p)
  rw [va_up_n _ _ (show p ≠ 0 by omega)]; exact h p h1 h2
theorem cl_commit : ∀ x ∈ CLogL, x.1 = 1 ∨ x.1 = 2 → (3, x.2 ++ [4]) ∈ CLogL ∧ xTold (x.2 ++ [4]) = 6 := by decide
theorem cl_abort : ∀ x ∈ CLogL, (x.2 = [] ∨ x.2 = [1]) → (4, x.2 ++ [5]) ∈ CLogL ∧ xTold (x.2 ++ [5]) = 7 ∧ (5, x.2) ∈ CLogL ∧ xTold x.2 = 7 := by decide
theorem cl_1 : ∀ x ∈ CLogL, x.1 = 1 → x.2 = [1] := by decide
theorem cl_0 : ∀ x ∈ CLogL, x.1 = 0 → x.2 = [] := by decide
theorem cl_end : ∀ x ∈ CLogL, x.1 = 3 ∨ x.1 = 4 → (5, x.2 ++ [6]) ∈ CLogL ∧ xTold (x.2 ++ [6]) = xTold x.2 := by decide
theorem wh {k : Nat} (h1 : 1 ≤ k) (h2 : k ≤ 9) : WhI (nI k) := ⟨k, h1, h2, rfl⟩
section InvC
variable {P : ZP} {t : Nat} {S : ZS}
theorem Inv.decC (hw : PW P) (ht : t ≤ 60) (h : Inv P t S) (hu : zu S 0 = true) (hs : zs S 0 = 1 ∨ zs S 0 = 2) : Inv P t (xDecC P t S) := by
  obtain ⟨c1, c2, c3, c4, c5⟩ := h.2.2.1.1 hu
  have k := cl_commit _ c1 hs
  refine Inv.turn (S := wlg 0 4 (wdc 6 S)) h.1 h.2.1 (PInv.lg0 (S := wdc 6 S) h.2.2.2 4) ?_ (TimI_end hw.2.2.2.2.1 ht) (wh (k := 6) (by omega) (by omega)) xAll_le
  exact ⟨fun _ => ⟨k.1, fun q => absurd q (by decide), fun q => absurd q (by decide), fun q => absurd q (by decide), fun _ => k.2.symm⟩, _, k.1⟩
theorem Inv.decA' (hw : PW P) (ht : t ≤ 60) (hm : MsgW (pn P) t S) (hT : TimW S) (hp : PInv S) (hl : zg S 0 = [] ∨ zg S 0 = [1]) : Inv P t (xDecA P t S) := by
  have k := cl_abort (0, zg S 0)
  have k' : (4, zg S 0 ++ [5]) ∈ CLogL ∧ xTold (zg S 0 ++ [5]) = 7 ∧ (5, zg S 0) ∈ CLogL ∧ xTold (zg S 0) = 7 := by
    rcases hl with e | e <;> rw [e] <;> decide
  unfold xDecA
  split
  · refine Inv.turn (S := wdc 7 S) hm hT hp ?_ TimI_no (wh (k := 7) (by omega) (by omega)) xAll_le
    exact ⟨fun _ => ⟨k'.2.2.1, fun q => absurd q (by decide), fun q => absurd q (by decide), fun q => absurd q (by decide), fun _ => k'.2.2.2.symm⟩, _, k'.2.2.1⟩
  · refine Inv.turn (S := wlg 0 5 (wdc 7 S)) hm hT (PInv.lg0 (S := wdc 7 S) hp 5) ?_ (TimI_end hw.2.2.2.2.1 ht) (wh (k := 7) (by omega) (by omega)) xAll_le
    exact ⟨fun _ => ⟨k'.1, fun q => absurd q (by decide), fun q => absurd q (by decide), fun q => absurd q (by decide), fun _ => k'.2.1.symm⟩, _, k'.1⟩
theorem Inv.decA (hw : PW P) (ht : t ≤ 60) (h : Inv P t S) (hu : zu S 0 = true) (hs : zs S 0 = 1) : Inv P t (xDecA P t S) :=
  Inv.decA' hw ht h.1 h.2.1 h.2.2.2 (Or.inr (cl_1 _ (h.2.2.1.1 hu).1 hs))
theorem Inv.pre (hw : PW P) (ht : t ≤ 60) (h : Inv P t S) (hu : zu S 0 = true) (hs : zs S 0 = 1) : Inv P t (xPre P t S) := by
  obtain ⟨c1, c2, c3, c4, c5⟩ := h.2.2.1.1 hu
  have e := cl_1 _ c1 hs
  have k : (2, zg S 0 ++ [3]) ∈ CLogL := by rw [show zg S 0 = [1] from e]; decide
  refine Inv.turn (S := wlg 0 3 S) h.1 h.2.1 (h.2.2.2.lg0 3) ?_ (TimI_end hw.2.2.2.2.1 ht) (wh (k := 4) (by omega) (by omega)) xAll_le
  exact ⟨fun _ => ⟨k, fun q => absurd q (by decide), fun q => absurd q (by decide), fun _ => c4 (Or.inr (Or.inl hs)), fun q => absurd q (by decide)⟩, _, k⟩
theorem Inv.begin (hw : PW P) (ht : t ≤ 60) (h : Inv P t S) (hu : zu S 0 = true) (hs : zs S 0 = 0) : Inv P t (xBegin P t S) := by
  obtain ⟨c1, c2, c3, c4, c5⟩ := h.2.2.1.1 hu
  have e := cl_0 _ c1 hs
  have k : (1, zg S 0 ++ [1]) ∈ CLogL := by rw [show zg S 0 = [] from e]; decide
  refine Inv.turn (S := wlg 0 1 S) h.1 h.2.1 (h.2.2.2.lg0 1) ?_ (TimI_end hw.2.2.2.2.1 ht) (wh (k := 1) (by omega) (by omega)) xAll_le
  exact ⟨fun _ => ⟨k, fun q => absurd q (by decide), fun _ => c3 (Or.inl hs), fun _ => c4 (Or.inl hs), fun q => absurd q (by decide)⟩, _, k⟩
theorem Inv.ends (h : Inv P t S) (hu : zu S 0 = true) (hs : zs S 0 = 3 ∨ zs S 0 = 4) : Inv P t (xEnds S) := by
  obtain ⟨c1, c2, c3, c4, c5⟩ := h.2.2.1.1 hu
  have k := cl_end _ c1 hs
  have k3 : (3 : Int32) ≤ zs S 0 := by rcases hs with e | e <;> rw [e] <;> decide
  refine Inv.turn (w := nI 1) (L := []) (S := wlg 0 6 S) h.1 h.2.1 (h.2.2.2.lg0 6) ?_ TimI_no (wh (k := 1) (by omega) (by omega)) (fun o ho => absurd ho List.not_mem_nil)
  exact ⟨fun _ => ⟨k.1, fun q => absurd q (by decide), fun q => absurd q (by decide), fun q => absurd q (by decide), fun _ => (c5 k3).trans k.2.symm⟩, _, k.1⟩
theorem Inv.ft (h : Inv P t S) (m : Nat) (v : Int32) : Inv P t (wft m v S) := h
theorem Inv.count (h : Inv P t S) (hu : zu S 0 = true) {k : Nat} (hk : (k = 0 ∧ zs S 0 = 1) ∨ (k = 1 ∧ zs S 0 = 2) ∨ (k = 2 ∧ (zs S 0 = 3 ∨ zs S 0 = 4))) (f : Nat) : Inv P t (xCount k f S) := by
  refine ⟨h.1, h.2.1, ⟨fun _ => ?_, h.2.2.1.2⟩, h.2.2.2⟩
  obtain ⟨c1, c2, c3, c4, c5⟩ := h.2.2.1.1 hu
  refine ⟨c1, fun q => ?_, fun q => ?_, fun q => ?_, c5⟩
  · have q' : zs S 0 = 0 := q
    rcases hk with ⟨rfl, e⟩ | ⟨rfl, e⟩ | ⟨rfl, e | e⟩ <;> rw [e] at q' <;> exact absurd q' (by decide)
  · have q' : zs S 0 = 0 ∨ zs S 0 = 1 := q
    rcases hk with ⟨rfl, e⟩ | ⟨rfl, e⟩ | ⟨rfl, e | e⟩
    · exact c3 q'
    · rw [e] at q'; exact absurd q' (by decide)
    · rw [e] at q'; exact absurd q' (by decide)
    · rw [e] at q'; exact absurd q' (by decide)
  · have q' : zs S 0 = 0 ∨ zs S 0 = 1 ∨ zs S 0 = 2 := q
    rcases hk with ⟨rfl, e⟩ | ⟨rfl, e⟩ | ⟨rfl, e | e⟩
    · exact c4 q'
    · exact c4 q'
    · rw [e] at q'; exact absurd q' (by decide)
    · rw [e] at q'; exact absurd q' (by decide)
theorem cl_st : ∀ x ∈ CLogL, x.1 = 0 ∨ x.1 = 1 ∨ x.1 = 2 ∨ x.1 = 3 ∨ x.1 = 4 ∨ x.1 = 5 := by decide
theorem told_wh (l : List Int32) : WhI (xTold l) := by
  unfold xTold; split
  · exact wh (k := 6) (by omega) (by omega)
  · exact wh (k := 7) (by omega) (by omega)
theorem Inv.snd (h : Inv P t S) {w : Int32} {f : Nat} {L : List Nat} (hw : WhI w) (hf : f ≤ pn P) (hL : ∀ o ∈ L, o ≤ pn P) : Inv P t (xSends t w f L S) := by
  obtain ⟨a1, a2, a3, a4, a5, a6⟩ := xSends_fr (t := t) (w := w) (f := f) L S
  refine ⟨MsgW.sends hw hf L _ h.1 hL, fun s hs => by rw [a3]; exact h.2.1 s hs, ?_, fun p h1 h2 => ?_⟩
  · unfold CInv; rw [a1, a2, a4, a5, a6]; exact h.2.2.1
  · rw [a1, a2, a3, a4]; exact h.2.2.2 p h1 h2
theorem Inv.snd1 (h : Inv P t S) {w : Int32} {f o : Nat} (hw : WhI w) (hf : f ≤ pn P) (ho : o ≤ pn P) : Inv P t (xSend t w f o S) :=
  Inv.snd (L := [o]) h hw hf (fun q hq => by rw [List.mem_singleton] at hq; omega)
theorem Inv.comeC (hw : PW P) (ht : t ≤ 60) (h : Inv P t S) (hu : zu S 0 = true) (w : Int32) {p : Nat} (hp : p ≤ pn P) : Inv P t (xComeC P t w p S) := by
  unfold xComeC
  split
  · split
    · rename_i e
      have hc := h.count hu (Or.inl ⟨rfl, e⟩) p
      split
      · split
        · exact hc.decC hw ht hu (Or.inl e)
        · exact hc.pre hw ht hu e
      · exact hc
    · exact h
  · split
    · split
      · rename_i e; exact h.decA hw ht hu e
      · exact h
    · split
      · split
        · rename_i e
          have hc := h.count hu (Or.inr (Or.inl ⟨rfl, e⟩)) p
          split
          · exact hc.decC hw ht hu (Or.inr e)
          · exact hc
        · exact h
      · split
        · split
          · rename_i e
            have hc := h.count hu (Or.inr (Or.inr ⟨rfl, e⟩)) p
            split
            · exact hc.ends hu e
            · exact hc
          · exact h
        · split
          · split
            · exact h
            · rename_i e
              obtain ⟨c1, c2, c3, c4, c5⟩ := h.2.2.1.1 hu
              have k3 : (3 : Int32) ≤ zs S 0 := by
                rcases cl_st _ c1 with q | q | q | q | q | q <;> (have q' : zs S 0 = _ := q) <;> rw [q'] at e ⊢ <;> first | decide | exact absurd (by decide) e
              rw [c5 k3]
              exact h.snd1 (told_wh _) (Nat.zero_le _) hp
          · exact h
theorem Inv.tm0 (h : Inv P t S) {v : Int32} (hv : TimI v) : Inv P t (wtm 0 v S) := ⟨h.1, h.2.1.tm 0 hv, h.2.2.1, h.2.2.2.tm0 v⟩
theorem Inv.timeC (hw : PW P) (ht : t ≤ 60) (h : Inv P t S) (hu : zu S 0 = true) : Inv P t (xTimeC P t S) := by
  unfold xTimeC
  split
  · rename_i e; exact h.decA hw ht hu e
  · split
    · rename_i e; exact h.decC hw ht hu (Or.inr e)
    · split
      · rename_i e
        have k3 : (3 : Int32) ≤ zs S 0 := by rcases e with e | e <;> rw [e] <;> decide
        refine Inv.tm0 (Inv.snd h ?_ (Nat.zero_le _) (fun o ho => xAll_le o (List.mem_filter.mp ho).1)) (TimI_end hw.2.2.2.2.1 ht)
        rw [(h.2.2.1.1 hu).2.2.2.2 k3]; exact told_wh _
      · exact h
theorem cl_rec3 : ∀ x ∈ CLogL, xLast x.2 = 3 → (2, x.2) ∈ CLogL := by decide
theorem cl_rec4 : ∀ x ∈ CLogL, xLast x.2 = 4 → (3, x.2) ∈ CLogL ∧ xTold x.2 = 6 := by decide
theorem cl_rec5 : ∀ x ∈ CLogL, xLast x.2 = 5 → (4, x.2) ∈ CLogL ∧ xTold x.2 = 7 := by decide
theorem cl_rec6 : ∀ x ∈ CLogL, xLast x.2 = 6 → (5, x.2) ∈ CLogL ∧ xTold x.2 = if xLast x.2.dropLast = 4 then 6 else 7 := by decide
theorem cl_rec7 : ∀ x ∈ CLogL, xLast x.2 = 3 ∨ xLast x.2 = 4 ∨ xLast x.2 = 5 ∨ xLast x.2 = 6 ∨ x.2 = [] ∨ x.2 = [1] := by decide
theorem Inv.recC (hw : PW P) (ht : t ≤ 60) (h : Inv P t S) : Inv P t (xRec P t 0 S) := by
  obtain ⟨x, hx⟩ := h.2.2.1.2
  have r3 : xLast (zg S 0) = 3 → _ := cl_rec3 _ hx
  have r4 : xLast (zg S 0) = 4 → _ := cl_rec4 _ hx
  have r5 : xLast (zg S 0) = 5 → _ := cl_rec5 _ hx
  have r6 : xLast (zg S 0) = 6 → _ := cl_rec6 _ hx
  have r7 : xLast (zg S 0) = 3 ∨ xLast (zg S 0) = 4 ∨ xLast (zg S 0) = 5 ∨ xLast (zg S 0) = 6 ∨ zg S 0 = [] ∨ zg S 0 = [1] := cl_rec7 _ hx
  unfold xRec xRecC
  rw [if_pos rfl]
  have hm : MsgW (pn P) t (xZero (wtm 0 1000 (wu 0 true S))) := h.1
  have hT : TimW (xZero (wtm 0 1000 (wu 0 true S))) := TimW.tm (S := wu 0 true S) h.2.1 0 TimI_no
  have hp : PInv (xZero (wtm 0 1000 (wu 0 true S))) := PInv.tm0 (S := wu 0 true S) (h.2.2.2.u0 true) 1000
  have hE := TimI_end hw.2.2.2.2.1 ht
  split
  · rename_i e
    refine Inv.turn hm hT hp ?_ hE (wh (k := 4) (by omega) (by omega)) xAll_le
    exact ⟨fun _ => ⟨r3 e, fun q => absurd q (by decide), fun q => absurd q (by decide), fun _ => rfl, fun q => absurd q (by decide)⟩, _, r3 e⟩
  · split
    · rename_i e
      refine Inv.turn (S := wdc 6 (xZero (wtm 0 1000 (wu 0 true S)))) hm hT hp ?_ hE (wh (k := 6) (by omega) (by omega)) xAll_le
      exact ⟨fun _ => ⟨(r4 e).1, fun q => absurd q (by decide), fun q => absurd q (by decide), fun _ => rfl, fun _ => (r4 e).2.symm⟩, _, (r4 e).1⟩
    · split
      · rename_i e
        refine Inv.turn (S := wdc 7 (xZero (wtm 0 1000 (wu 0 true S)))) hm hT hp ?_ hE (wh (k := 7) (by omega) (by omega)) xAll_le
        exact ⟨fun _ => ⟨(r5 e).1, fun q => absurd q (by decide), fun q => absurd q (by decide), fun _ => rfl, fun _ => (r5 e).2.symm⟩, _, (r5 e).1⟩
      · split
        · rename_i e
          refine ⟨hm, hT, ?_, hp.st0 5⟩
          show CI true 5 (zg S 0) (zc (xZero S)) (if xLast (zg S 0).dropLast = 4 then 6 else 7)
          exact ⟨fun _ => ⟨(r6 e).1, fun q => absurd q (by decide), fun q => absurd q (by decide), fun _ => rfl, fun _ => (r6 e).2.symm⟩, _, (r6 e).1⟩
        · rename_i e3 e4 e5 e6
          refine Inv.decA' hw ht hm hT hp ?_
          rcases r7 with q | q | q | q | q
          · exact absurd q e3
          · exact absurd q e4
          · exact absurd q e5
          · exact absurd q e6
          · exact q
end InvC
