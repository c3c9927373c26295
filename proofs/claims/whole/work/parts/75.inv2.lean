/-! WHAT ALWAYS HOLDS IN A TOLD RUN: participants, ticks -/
section InvP
variable {P : ZP} {t : Nat} {S S' : ZS} {p : Nat}
theorem Inv.atP (h : Inv P t S) (hp1 : 1 ≤ p) (hm : MsgW (pn P) t S') (ht : TimW S') (ho : ∀ q, q ≠ p → zu S' q = zu S q ∧ zs S' q = zs S q ∧ zg S' q = zg S q ∧ zt S' q = zt S q) (hc : zc S' = zc S) (hd : zd S' = zd S) (hpi : PI (zu S' p) (zs S' p) (zg S' p) (zt S' p)) : Inv P t S' := by
  refine ⟨hm, ht, ?_, fun q h1 h2 => ?_⟩
  · obtain ⟨b1, b2, b3, b4⟩ := ho 0 (by omega)
    unfold CInv; rw [b1, b2, b3, hc, hd]; exact h.2.2.1
  · by_cases e : q = p
    · subst e; exact hpi
    · obtain ⟨b1, b2, b3, b4⟩ := ho q e
      rw [b1, b2, b3, b4]; exact h.2.2.2 q h1 h2
theorem Inv.turnP (h : Inv P t S) (hp1 : 1 ≤ p) (hp : p ≤ pn P) {w st' r v : Int32} {L : List Nat} (hw : WhI w) (hL : ∀ o ∈ L, o ≤ pn P) (hv : TimI v) (hpi : PI (zu S p) st' (zg S p ++ [r]) v) : Inv P t (wtm p v (xSends t w p L (wst p st' (wlg p r S)))) := by
  obtain ⟨a1, a2, a3, a4, a5, a6⟩ := xSends_fr (t := t) (w := w) (f := p) L (wst p st' (wlg p r S))
  refine h.atP hp1 (MsgW.sends hw hp L _ h.1 hL) (TimW.tm (fun s hs => by rw [a3]; exact h.2.1 s hs) p hv) (fun q hq => ?_) a5 a6 ?_
  · exact ⟨congrFun a1 q, (congrFun a2 q).trans (va_up_n _ _ hq), (congrFun a4 q).trans (va_up_n _ _ hq), (va_up_n _ _ hq).trans (congrFun a3 q)⟩
  · have e1 : zu (wtm p v (xSends t w p L (wst p st' (wlg p r S)))) p = zu S p := congrFun a1 p
    have e2 : zs (wtm p v (xSends t w p L (wst p st' (wlg p r S)))) p = st' := (congrFun a2 p).trans (va_up_s _ _ _)
    have e3 : zg (wtm p v (xSends t w p L (wst p st' (wlg p r S)))) p = zg S p ++ [r] := (congrFun a4 p).trans (va_up_s _ _ _)
    have e4 : zt (wtm p v (xSends t w p L (wst p st' (wlg p r S)))) p = v := va_up_s _ _ _
    rw [e1, e2, e3, e4]; exact hpi
theorem Inv.turnQ (h : Inv P t S) (hp1 : 1 ≤ p) (hp : p ≤ pn P) {w st' r : Int32} {L : List Nat} (hw : WhI w) (hL : ∀ o ∈ L, o ≤ pn P) (hpi : PI (zu S p) st' (zg S p ++ [r]) (zt S p)) : Inv P t (xSends t w p L (wst p st' (wlg p r S))) := by
  obtain ⟨a1, a2, a3, a4, a5, a6⟩ := xSends_fr (t := t) (w := w) (f := p) L (wst p st' (wlg p r S))
  refine h.atP hp1 (MsgW.sends hw hp L _ h.1 hL) (fun s hs => by rw [a3]; exact h.2.1 s hs) (fun q hq => ?_) a5 a6 ?_
  · exact ⟨congrFun a1 q, (congrFun a2 q).trans (va_up_n _ _ hq), (congrFun a4 q).trans (va_up_n _ _ hq), congrFun a3 q⟩
  · have e2 : zs (xSends t w p L (wst p st' (wlg p r S))) p = st' := (congrFun a2 p).trans (va_up_s _ _ _)
    have e3 : zg (xSends t w p L (wst p st' (wlg p r S))) p = zg S p ++ [r] := (congrFun a4 p).trans (va_up_s _ _ _)
    rw [congrFun a1 p, e2, e3, congrFun a3 p]; exact hpi
theorem PI.mk' {u : Bool} {st : Int32} {l : List Int32} {tm : Int32} (h : (st, l) ∈ PLogL) (hs : st ≠ 0) : PI u st l tm := ⟨fun _ => ⟨h, fun q => absurd q hs⟩, st, h⟩
theorem pl_0 : ∀ x ∈ PLogL, x.1 = 0 → x.2 = [] := by decide
theorem pl_pre : ∀ x ∈ PLogL, x.1 = 1 → (2, x.2 ++ [3]) ∈ PLogL := by decide
theorem pl_set : ∀ x ∈ PLogL, ¬ 3 ≤ x.1 → (3, x.2 ++ [4]) ∈ PLogL ∧ (4, x.2 ++ [5]) ∈ PLogL := by decide
theorem pl_time : ∀ x ∈ PLogL, x.1 = 1 ∨ x.1 = 2 → (3, x.2 ++ [4]) ∈ PLogL ∧ (4, x.2 ++ [5]) ∈ PLogL := by decide
theorem pl_rec0 : ∀ x ∈ PLogL, xLast x.2 = 0 → (4, x.2 ++ [5]) ∈ PLogL := by decide
theorem pl_rec2 : ∀ x ∈ PLogL, xLast x.2 = 2 → (1, x.2) ∈ PLogL := by decide
theorem pl_rec3 : ∀ x ∈ PLogL, xLast x.2 = 3 → (2, x.2) ∈ PLogL := by decide
theorem pl_rec4 : ∀ x ∈ PLogL, xLast x.2 = 4 → (3, x.2) ∈ PLogL := by decide
theorem pl_rec5 : ∀ x ∈ PLogL, xLast x.2 = 0 ∨ xLast x.2 = 2 ∨ xLast x.2 = 3 ∨ xLast x.2 = 4 ∨ (4, x.2) ∈ PLogL := by decide
theorem one0 {n : Nat} : ∀ o ∈ [0], o ≤ n := fun o ho => by rw [List.mem_singleton] at ho; omega
theorem Inv.prep (hw : PW P) (ht : t ≤ 60) (h : Inv P t S) (hp1 : 1 ≤ p) (hp : p ≤ pn P) (hu : zu S p = true) : Inv P t (xPrep P t p S) := by
  have h5 : p < 6 := by have := hw.2.1; omega
  unfold xPrep
  split
  · rename_i e
    have e0 : zg S p = [] := pl_0 _ ((h.2.2.2 p hp1 h5).1 hu).1 e
    split
    · exact Inv.turnP (L := [0]) h hp1 hp (wh (k := 2) (by omega) (by omega)) one0 (TimI_end hw.2.2.2.2.1 ht) (by rw [e0]; exact PI.mk' (by decide) (by decide))
    · exact Inv.turnQ (L := [0]) h hp1 hp (wh (k := 3) (by omega) (by omega)) one0 (by rw [e0]; exact PI.mk' (by decide) (by decide))
  · exact h
theorem Inv.comePre (hw : PW P) (ht : t ≤ 60) (h : Inv P t S) (hp1 : 1 ≤ p) (hp : p ≤ pn P) (hu : zu S p = true) : Inv P t (xComePre P t p S) := by
  have h5 : p < 6 := by have := hw.2.1; omega
  unfold xComePre
  split
  · rename_i e
    exact Inv.turnP (L := [0]) h hp1 hp (wh (k := 5) (by omega) (by omega)) one0 (TimI_end hw.2.2.2.2.1 ht) (PI.mk' (pl_pre _ ((h.2.2.2 p hp1 h5).1 hu).1 e) (by decide))
  · split
    · exact h.snd1 (wh (k := 5) (by omega) (by omega)) hp (Nat.zero_le _)
    · exact h
theorem Inv.decd (hw : PW P) (h : Inv P t S) (hp1 : 1 ≤ p) (hp : p ≤ pn P) (hu : zu S p = true) (w : Int32) : Inv P t (xDecd P t p w S) := by
  have h5 : p < 6 := by have := hw.2.1; omega
  have k : Inv P t (if 3 ≤ zs S p then S else xSettle p w S) := by
    split
    · exact h
    · rename_i e
      have q := pl_set _ ((h.2.2.2 p hp1 h5).1 hu).1 e
      unfold xSettle
      split
      · exact Inv.turnP (L := []) (w := nI 1) h hp1 hp (wh (by omega) (by omega)) (fun o ho => absurd ho List.not_mem_nil) TimI_no (PI.mk' q.1 (by decide))
      · exact Inv.turnP (L := []) (w := nI 1) h hp1 hp (wh (by omega) (by omega)) (fun o ho => absurd ho List.not_mem_nil) TimI_no (PI.mk' q.2 (by decide))
  unfold xDecd xAnswer
  split
  · exact k.snd1 (wh (k := 8) (by omega) (by omega)) hp (Nat.zero_le _)
  · exact k
theorem Inv.askA (k : Inv P t S) (hp : p ≤ pn P) {f : Nat} (hf : f ≤ pn P) : Inv P t (xAskA t p f S) := by
  unfold xAskA
  split
  · exact k.snd1 (wh (k := 6) (by omega) (by omega)) hp hf
  · split
    · exact k.snd1 (wh (k := 7) (by omega) (by omega)) hp hf
    · exact k
theorem Inv.ask (hw : PW P) (h : Inv P t S) (hp1 : 1 ≤ p) (hp : p ≤ pn P) (hu : zu S p = true) {f : Nat} (hf : f ≤ pn P) : Inv P t (xAsk t p f S) := by
  have h5 : p < 6 := by have := hw.2.1; omega
  have k : Inv P t (if zs S p = 0 then wst p 4 (wlg p 5 S) else S) := by
    split
    · rename_i e
      have e0 : zg S p = [] := pl_0 _ ((h.2.2.2 p hp1 h5).1 hu).1 e
      exact Inv.turnQ (L := []) (w := nI 1) h hp1 hp (wh (by omega) (by omega)) (fun o ho => absurd ho List.not_mem_nil) (by rw [e0]; exact PI.mk' (by decide) (by decide))
    · exact h
  unfold xAsk
  exact k.askA hp hf
theorem Inv.comeP (hw : PW P) (ht : t ≤ 60) (h : Inv P t S) (hp1 : 1 ≤ p) (hp : p ≤ pn P) (hu : zu S p = true) (w : Int32) {f : Nat} (hf : f ≤ pn P) : Inv P t (xComeP P t p w f S) := by
  unfold xComeP
  split
  · exact h.prep hw ht hp1 hp hu
  · split
    · exact h.comePre hw ht hp1 hp hu
    · split
      · exact h.decd hw hp1 hp hu w
      · split
        · exact h.decd hw hp1 hp hu w
        · split
          · exact h.ask hw hp1 hp hu hf
          · exact h
theorem Inv.tmP (h : Inv P t S) (hp1 : 1 ≤ p) {v : Int32} (hv : TimI v) (hz : zs S p = 0 → v = 1000) : Inv P t (wtm p v S) := by
  refine ⟨h.1, h.2.1.tm p hv, h.2.2.1, fun q h1 h2 => ?_⟩
  show PI (zu S q) (zs S q) (zg S q) (va_up (zt S) p v q)
  by_cases e : q = p
  · subst e; rw [va_up_s]; exact ⟨fun hu => ⟨((h.2.2.2 q h1 h2).1 hu).1, hz⟩, (h.2.2.2 q h1 h2).2⟩
  · rw [va_up_n _ _ e]; exact h.2.2.2 q h1 h2
theorem Inv.timeP (hw : PW P) (ht : t ≤ 60) (h : Inv P t S) (hp1 : 1 ≤ p) (hp : p ≤ pn P) (hu : zu S p = true) : Inv P t (xTimeP P t p S) := by
  have h5 : p < 6 := by have := hw.2.1; omega
  unfold xTimeP
  split
  · rename_i e
    split
    · have k : Inv P t (xSends t 9 p (0 :: (xAll P).filter (fun q => decide (q ≠ p))) S) := h.snd (wh (k := 9) (by omega) (by omega)) hp (fun o ho => by
        rcases List.mem_cons.mp ho with rfl | ho
        · omega
        · exact xAll_le o (List.mem_filter.mp ho).1)
      refine Inv.tmP k hp1 (TimI_end hw.2.2.2.2.1 ht) (fun q => ?_)
      have a2 := (xSends_fr (t := t) (w := 9) (f := p) (0 :: (xAll P).filter (fun q => decide (q ≠ p))) S).2.1
      rw [congrFun a2 p, e] at q
      exact absurd q (by decide)
    · exact Inv.turnQ (L := []) (w := nI 1) h hp1 hp (wh (by omega) (by omega)) (fun o ho => absurd ho List.not_mem_nil) (PI.mk' (pl_time _ ((h.2.2.2 p hp1 h5).1 hu).1 (Or.inl e)).2 (by decide))
  · split
    · rename_i e
      exact Inv.turnQ (L := []) (w := nI 1) h hp1 hp (wh (by omega) (by omega)) (fun o ho => absurd ho List.not_mem_nil) (PI.mk' (pl_time _ ((h.2.2.2 p hp1 h5).1 hu).1 (Or.inr e)).1 (by decide))
    · exact h
theorem Inv.recP (hw : PW P) (ht : t ≤ 60) (h : Inv P t S) (hp1 : 1 ≤ p) (hp : p ≤ pn P) : Inv P t (xRec P t p S) := by
  have h5 : p < 6 := by have := hw.2.1; omega
  obtain ⟨x, hx⟩ := (h.2.2.2 p hp1 h5).2
  have r0 : xLast (zg S p) = 0 → _ := pl_rec0 _ hx
  have r2 : xLast (zg S p) = 2 → _ := pl_rec2 _ hx
  have r3 : xLast (zg S p) = 3 → _ := pl_rec3 _ hx
  have r4 : xLast (zg S p) = 4 → _ := pl_rec4 _ hx
  have r5 : xLast (zg S p) = 0 ∨ xLast (zg S p) = 2 ∨ xLast (zg S p) = 3 ∨ xLast (zg S p) = 4 ∨ (4, zg S p) ∈ PLogL := pl_rec5 _ hx
  have hT : TimW (wtm p 1000 (wu p true S)) := TimW.tm (S := wu p true S) h.2.1 p TimI_no
  unfold xRec xRecP
  rw [if_neg (by omega)]
  split
  · rename_i e
    refine h.atP hp1 h.1 hT (fun q hq => ⟨va_up_n _ _ hq, va_up_n _ _ hq, va_up_n _ _ hq, va_up_n _ _ hq⟩) rfl rfl ?_
    show PI _ (va_up (zs S) p 4 p) (va_up (zg S) p (zg S p ++ [5]) p) _
    rw [va_up_s, va_up_s]; exact PI.mk' (r0 e) (by decide)
  · split
    · rename_i e
      refine h.atP hp1 h.1 (TimW.tm (S := wst p 1 (wtm p 1000 (wu p true S))) hT p (TimI_t ht)) (fun q hq => ⟨va_up_n _ _ hq, va_up_n _ _ hq, rfl, (va_up_n _ _ hq).trans (va_up_n _ _ hq)⟩) rfl rfl ?_
      show PI _ (va_up (zs S) p 1 p) (zg S p) _
      rw [va_up_s]; exact PI.mk' (r2 e) (by decide)
    · split
      · rename_i e
        refine h.atP hp1 h.1 (TimW.tm (S := wst p 2 (wtm p 1000 (wu p true S))) hT p (TimI_end hw.2.2.2.2.1 ht)) (fun q hq => ⟨va_up_n _ _ hq, va_up_n _ _ hq, rfl, (va_up_n _ _ hq).trans (va_up_n _ _ hq)⟩) rfl rfl ?_
        show PI _ (va_up (zs S) p 2 p) (zg S p) _
        rw [va_up_s]; exact PI.mk' (r3 e) (by decide)
      · split
        · rename_i e
          refine h.atP hp1 h.1 hT (fun q hq => ⟨va_up_n _ _ hq, va_up_n _ _ hq, rfl, va_up_n _ _ hq⟩) rfl rfl ?_
          show PI _ (va_up (zs S) p 3 p) (zg S p) _
          rw [va_up_s]; exact PI.mk' (r4 e) (by decide)
        · rename_i e0 e2 e3 e4
          refine h.atP hp1 h.1 hT (fun q hq => ⟨va_up_n _ _ hq, va_up_n _ _ hq, rfl, va_up_n _ _ hq⟩) rfl rfl ?_
          show PI _ (va_up (zs S) p 4 p) (zg S p) _
          rw [va_up_s]
          rcases r5 with q | q | q | q | q
          · exact absurd q e0
          · exact absurd q e2
          · exact absurd q e3
          · exact absurd q e4
          · exact PI.mk' q (by decide)
theorem Inv.rec (hw : PW P) (ht : t ≤ 60) (h : Inv P t S) {s : Nat} (hs : s ≤ pn P) : Inv P t (xRec P t s S) := by
  by_cases e : s = 0
  · subst e; exact h.recC hw ht
  · exact h.recP hw ht (by omega) hs
theorem Inv.time (hw : PW P) (ht : t ≤ 60) (h : Inv P t S) {s : Nat} (hs : s ≤ pn P) (hu : zu S s = true) : Inv P t (xTime P t s S) := by
  unfold xTime
  split
  · rename_i e; subst e; exact (h.tm0 TimI_no).timeC hw ht hu
  · exact (h.tmP (by omega) TimI_no (fun _ => rfl)).timeP hw ht (by omega) hs hu
theorem Inv.arr (hw : PW P) (ht : t ≤ 60) (h : Inv P t S) {m : Nat} (hm : m < zn S) : Inv P t (xArr P t m S) := by
  obtain ⟨a1, a2, -, -⟩ := h.1.2 m hm
  unfold xArr
  split
  · exact h
  · split
    · exact h
    · rename_i e
      have hu : zu S (zo S m) = true := by simpa using e
      split
      · rename_i e0; rw [e0] at hu; exact Inv.comeC (S := wft m 0 S) hw ht h hu _ a1
      · exact Inv.comeP (S := wft m 0 S) hw ht h (by omega) a2 hu _ a1
theorem Inv.goes (h : Inv P t S) (s : Nat) : Inv P t (wu s false S) := by
  refine ⟨h.1, h.2.1, ?_, fun p h1 h2 => ?_⟩
  · show CI (va_up (zu S) s false 0) (zs S 0) (zg S 0) (zc S) (zd S)
    by_cases e : 0 = s
    · subst e; rw [va_up_s]; exact ⟨fun q => absurd q (by decide), h.2.2.1.2⟩
    · rw [va_up_n _ _ e]; exact h.2.2.1
  · show PI (va_up (zu S) s false p) (zs S p) (zg S p) (zt S p)
    by_cases e : p = s
    · subst e; rw [va_up_s]; exact ⟨fun q => absurd q (by decide), (h.2.2.2 p h1 h2).2⟩
    · rw [va_up_n _ _ e]; exact h.2.2.2 p h1 h2
theorem xUp_keeps {Q : ZS → Prop} {f : Nat → ZS → ZS} : ∀ (r a : Nat) (S : ZS), (∀ j, a ≤ j → j < a + r → ∀ S, Q S → Q (f j S)) → Q S → Q (xUp f r a S)
  | 0, _, _, _, h => h
  | r + 1, a, S, hf, h => xUp_keeps r (a + 1) (f a S) (fun j h1 h2 => hf j (by omega) (by omega)) (hf a (Nat.le_refl a) (by omega) S h)
theorem Inv.comes (hw : PW P) (ht : t ≤ 60) (h : Inv P t S) {s : Nat} (hs : s ≤ pn P) : Inv P t (xComes P t s S) := by
  unfold xComes; split
  · exact h.rec hw ht hs
  · exact h
theorem Inv.goes' (h : Inv P t S) (s : Nat) : Inv P t (xGoes P t s S) := by
  unfold xGoes; split
  · exact h.goes s
  · exact h
theorem Inv.sites (hw : PW P) (ht : t ≤ 60) (h : Inv P t S) : Inv P t (xSites P t S) := by
  unfold xSites
  refine xUp_keeps (Q := Inv P t) _ _ _ (fun j _ _ S hS => hS.goes' j) ?_
  exact xUp_keeps (Q := Inv P t) _ _ _ (fun j _ h2 S hS => hS.comes hw ht (by omega)) h
theorem Inv.wait (hw : PW P) (ht : t ≤ 60) (h : Inv P t S) {s : Nat} (hs : s ≤ pn P) : Inv P t (xWait P t s S) := by
  unfold xWait; split
  · rename_i e; exact h.time hw ht hs e.1
  · exact h
theorem xSend_n {w : Int32} {f o : Nat} {S : ZS} : zn S ≤ zn (xSend t w f o S) := by
  unfold xSend; split
  · exact Nat.le_succ _
  · exact Nat.le_refl _
theorem xSends_n {w : Int32} {f : Nat} : ∀ (L : List Nat) (S : ZS), zn S ≤ zn (xSends t w f L S)
  | [], _ => Nat.le_refl _
  | _ :: L, _ => Nat.le_trans xSend_n (xSends_n L _)
theorem xDecA_n (S : ZS) : zn S ≤ zn (xDecA P t S) := by
  unfold xDecA; split
  · exact xSends_n (xAll P) (wst 0 5 (wdc 7 S))
  · exact xSends_n (xAll P) (wst 0 4 (wlg 0 5 (wdc 7 S)))
theorem xComeC_n (w : Int32) (f : Nat) (S : ZS) : zn S ≤ zn (xComeC P t w f S) := by
  unfold xComeC
  split
  · split
    · split
      · split
        · exact xSends_n (xAll P) (wst 0 3 (wlg 0 4 (wdc 6 (xCount 0 f S))))
        · exact xSends_n (xAll P) (wst 0 2 (wlg 0 3 (xCount 0 f S)))
      · exact Nat.le_refl _
    · exact Nat.le_refl _
  · split
    · split
      · exact xDecA_n S
      · exact Nat.le_refl _
    · split
      · split
        · split
          · exact xSends_n (xAll P) (wst 0 3 (wlg 0 4 (wdc 6 (xCount 1 f S))))
          · exact Nat.le_refl _
        · exact Nat.le_refl _
      · split
        · split
          · split
            · exact Nat.le_refl _
            · exact Nat.le_refl _
          · exact Nat.le_refl _
        · split
          · split
            · exact Nat.le_refl _
            · exact xSend_n
          · exact Nat.le_refl _
theorem xAskA_n {f : Nat} (S : ZS) : zn S ≤ zn (xAskA t p f S) := by
  unfold xAskA
  split
  · exact xSend_n
  · split
    · exact xSend_n
    · exact Nat.le_refl _
theorem xAnswer_n (w : Int32) (S : ZS) : zn S ≤ zn (xAnswer P t p w S) := by
  unfold xAnswer
  split
  · exact xSend_n
  · exact Nat.le_refl _
theorem xComeP_n (w : Int32) (f : Nat) (S : ZS) : zn S ≤ zn (xComeP P t p w f S) := by
  have k1 : zn (if 3 ≤ zs S p then S else xSettle p w S) = zn S := by split <;> rfl
  have k2 : zn (if zs S p = 0 then wst p 4 (wlg p 5 S) else S) = zn S := by split <;> rfl
  have kd : zn S ≤ zn (xDecd P t p w S) := by
    unfold xDecd
    exact Nat.le_trans (Nat.le_of_eq k1.symm) (xAnswer_n _ _)
  unfold xComeP
  split
  · unfold xPrep
    split
    · split
      · exact xSend_n (S := wst p 1 (wlg p 2 S))
      · exact xSend_n (S := wst p 4 (wlg p 5 S))
    · exact Nat.le_refl _
  · split
    · unfold xComePre
      split
      · exact xSend_n (S := wst p 2 (wlg p 3 S))
      · split
        · exact xSend_n
        · exact Nat.le_refl _
    · split
      · exact kd
      · split
        · exact kd
        · split
          · unfold xAsk
            exact Nat.le_trans (Nat.le_of_eq k2.symm) (xAskA_n _)
          · exact Nat.le_refl _
theorem xArr_n (m : Nat) (S : ZS) : zn S ≤ zn (xArr P t m S) := by
  unfold xArr
  split
  · exact Nat.le_refl _
  · split
    · exact Nat.le_refl _
    · split
      · exact xComeC_n _ _ (wft m 0 S)
      · exact xComeP_n _ _ (wft m 0 S)
theorem xRec_n (s : Nat) (S : ZS) : zn S ≤ zn (xRec P t s S) := by
  unfold xRec
  split
  · unfold xRecC
    split
    · exact xSends_n (xAll P) (wst 0 2 (xZero (wtm 0 1000 (wu 0 true S))))
    · split
      · exact xSends_n (xAll P) (wdc 6 (wst 0 3 (xZero (wtm 0 1000 (wu 0 true S)))))
      · split
        · exact xSends_n (xAll P) (wdc 7 (wst 0 4 (xZero (wtm 0 1000 (wu 0 true S)))))
        · split
          · exact Nat.le_refl _
          · exact xDecA_n (xZero (wtm 0 1000 (wu 0 true S)))
  · unfold xRecP
    split
    · exact Nat.le_refl _
    · split
      · exact Nat.le_refl _
      · split
        · exact Nat.le_refl _
        · split
          · exact Nat.le_refl _
          · exact Nat.le_refl _
theorem xSites_n (S : ZS) : zn S ≤ zn (xSites P t S) := by
  unfold xSites
  refine xUp_keeps (Q := fun X => zn S ≤ zn X) _ _ _ (fun j _ _ X hX => ?_) (xUp_keeps (Q := fun X => zn S ≤ zn X) _ _ _ (fun j _ _ X hX => ?_) (Nat.le_refl _))
  · unfold xGoes; split
    · exact hX
    · exact hX
  · unfold xComes; split
    · exact Nat.le_trans hX (xRec_n j X)
    · exact hX
theorem Inv.mono (h : Inv P t S) {t' : Nat} (ht : t ≤ t') : Inv P t' S := ⟨⟨h.1.1, fun i hi => by
  obtain ⟨a, b, c, d, e, f⟩ := h.1.2 i hi
  exact ⟨a, b, c, d, by omega, f⟩⟩, h.2⟩
theorem Inv.arrs (hw : PW P) (ht : t ≤ 60) (h : Inv P t S) {f k : Nat} (hk : f + k ≤ zn S) : Inv P t (xUp (xArr P t) k f S) := by
  refine (xUp_keeps (Q := fun X => Inv P t X ∧ f + k ≤ zn X) _ _ _ (fun j h1 h2 X hX => ⟨hX.1.arr hw ht (by omega), Nat.le_trans hX.2 (xArr_n j X)⟩) ⟨h, hk⟩).1
theorem Inv.start (hw : PW P) (ht : t ≤ 60) (h : Inv P t S) (h0 : t = 0 → zs S 0 = 0) : Inv P t (xStart P t S) := by
  unfold xStart; split
  · rename_i e; exact h.begin hw ht e.2 (h0 e.1)
  · exact h
theorem Inv.tick (hw : PW P) (ht : t ≤ 60) {x : ZS × Nat} (h : Inv P t x.1) (hx : x.2 ≤ zn x.1) (h0 : t = 0 → zs (xUp (xArr P t) (zn x.1 - x.2) x.2 (xSites P t x.1)) 0 = 0) : Inv P t (xTick P t x).1 := by
  unfold xTick
  refine xUp_keeps (Q := Inv P t) _ _ _ (fun j _ h2 S hS => hS.wait hw ht (by omega)) ?_
  refine Inv.start hw ht ?_ h0
  refine (h.sites hw ht).arrs hw ht ?_
  have := xSites_n (P := P) (t := t) x.1
  omega
end InvP
