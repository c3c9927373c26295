/-! LOGS ONLY GROW -/
def GL (S S' : ZS) : Prop := ∀ s, (zg S s).length ≤ (zg S' s).length
section Gr
variable {P : ZP} {t : Nat} {S X : ZS}
theorem GL.rf : GL S S := fun _ => Nat.le_refl _
theorem GL.tr {Y : ZS} (h : GL S X) (k : GL X Y) : GL S Y := fun s => Nat.le_trans (h s) (k s)
theorem GL.lg (h : GL S X) (j : Nat) (r : Int32) : GL S (wlg j r X) := fun s => by
  show _ ≤ (va_up (zg X) j (zg X j ++ [r]) s).length
  unfold va_up
  by_cases e : s = j
  · rw [if_pos e, List.length_append, ← e]; exact Nat.le_trans (h s) (Nat.le_add_right _ _)
  · rw [if_neg e]; exact h s
theorem GL.st (h : GL S X) (j : Nat) (v : Int32) : GL S (wst j v X) := h
theorem GL.tm (h : GL S X) (j : Nat) (v : Int32) : GL S (wtm j v X) := h
theorem GL.dc (h : GL S X) (v : Int32) : GL S (wdc v X) := h
theorem GL.snds (h : GL S X) (w : Int32) (f : Nat) (L : List Nat) : GL S (xSends t w f L X) := fun s => by
  rw [(xSends_fr L X).2.2.2.1]; exact h s
theorem GL.snd (h : GL S X) (w : Int32) (f o : Nat) : GL S (xSend t w f o X) := h.snds w f [o]
theorem GL.decA (h : GL S X) : GL S (xDecA P t X) := by
  unfold xDecA; split
  · exact (((h.dc 7).st 0 5).snds 7 0 (xAll P)).tm 0 1000
  · exact ((((h.dc 7).lg 0 5).st 0 4).snds 7 0 (xAll P)).tm 0 (xEnd P t)
theorem GL.decC (h : GL S X) : GL S (xDecC P t X) := ((((h.dc 6).lg 0 4).st 0 3).snds 6 0 (xAll P)).tm 0 (xEnd P t)
theorem GL.pre (h : GL S X) : GL S (xPre P t X) := (((h.lg 0 3).st 0 2).snds 4 0 (xAll P)).tm 0 (xEnd P t)
theorem GL.beg (h : GL S X) : GL S (xBegin P t X) := (((h.lg 0 1).st 0 1).snds 1 0 (xAll P)).tm 0 (xEnd P t)
theorem GL.ends (h : GL S X) : GL S (xEnds X) := ((h.lg 0 6).st 0 5).tm 0 1000
theorem GL.cnt (h : GL S X) (k p : Nat) : GL S (xCount k p X) := h
theorem GL.comeC (h : GL S X) (w : Int32) (f : Nat) : GL S (xComeC P t w f X) := by
  unfold xComeC
  split
  · split
    · split
      · split
        · exact (h.cnt 0 f).decC
        · exact (h.cnt 0 f).pre
      · exact h.cnt 0 f
    · exact h
  · split
    · split
      · exact h.decA
      · exact h
    · split
      · split
        · split
          · exact (h.cnt 1 f).decC
          · exact h.cnt 1 f
        · exact h
      · split
        · split
          · split
            · exact (h.cnt 2 f).ends
            · exact h.cnt 2 f
          · exact h
        · split
          · split
            · exact h
            · exact h.snd (zd X) 0 f
          · exact h
theorem GL.timeC (h : GL S X) : GL S (xTimeC P t X) := by
  unfold xTimeC
  split
  · exact h.decA
  · split
    · exact h.decC
    · split
      · exact (h.snds (zd X) 0 _).tm 0 (xEnd P t)
      · exact h
theorem GL.prep (h : GL S X) (p : Nat) : GL S (xPrep P t p X) := by
  unfold xPrep
  split
  · split
    · exact (((h.lg p 2).st p 1).snd 2 p 0).tm p (xEnd P t)
    · exact ((h.lg p 5).st p 4).snd 3 p 0
  · exact h
theorem GL.comePre (h : GL S X) (p : Nat) : GL S (xComePre P t p X) := by
  unfold xComePre
  split
  · exact (((h.lg p 3).st p 2).snd 5 p 0).tm p (xEnd P t)
  · split
    · exact h.snd 5 p 0
    · exact h
theorem GL.settle (h : GL S X) (p : Nat) (w : Int32) : GL S (xSettle p w X) := ((h.lg p _).st p _).tm p 1000
theorem GL.answer (h : GL S X) (p : Nat) (w : Int32) : GL S (xAnswer P t p w X) := by
  unfold xAnswer; split
  · exact h.snd 8 p 0
  · exact h
theorem GL.decd (h : GL S X) (p : Nat) (w : Int32) : GL S (xDecd P t p w X) := by
  unfold xDecd
  refine GL.answer ?_ p w
  split
  · exact h
  · exact h.settle p w
theorem GL.askA (h : GL S X) (p f : Nat) : GL S (xAskA t p f X) := by
  unfold xAskA; split
  · exact h.snd 6 p f
  · split
    · exact h.snd 7 p f
    · exact h
theorem GL.ask (h : GL S X) (p f : Nat) : GL S (xAsk t p f X) := by
  unfold xAsk
  refine GL.askA ?_ p f
  split
  · exact (h.lg p 5).st p 4
  · exact h
theorem GL.comeP (h : GL S X) (p : Nat) (w : Int32) (f : Nat) : GL S (xComeP P t p w f X) := by
  unfold xComeP
  split
  · exact h.prep p
  · split
    · exact h.comePre p
    · split
      · exact h.decd p w
      · split
        · exact h.decd p w
        · split
          · exact h.ask p f
          · exact h
theorem GL.timeP (h : GL S X) (p : Nat) : GL S (xTimeP P t p X) := by
  unfold xTimeP
  split
  · split
    · exact (h.snds 9 p _).tm p (xEnd P t)
    · exact (h.lg p 5).st p 4
  · split
    · exact (h.lg p 4).st p 3
    · exact h
theorem GL.rec (h : GL S X) (s : Nat) : GL S (xRec P t s X) := by
  have h0 : GL S (xZero (wtm 0 1000 (wu 0 true X))) := h
  have h1 : GL S (wtm s 1000 (wu s true X)) := h
  unfold xRec
  split
  · unfold xRecC
    split
    · exact ((h0.st 0 2).snds 4 0 (xAll P)).tm 0 (xEnd P t)
    · split
      · exact (((h0.st 0 3).dc 6).snds 6 0 (xAll P)).tm 0 (xEnd P t)
      · split
        · exact (((h0.st 0 4).dc 7).snds 7 0 (xAll P)).tm 0 (xEnd P t)
        · split
          · exact h0
          · exact h0.decA
  · unfold xRecP
    split
    · exact (h1.lg s 5).st s 4
    · split
      · exact h1
      · split
        · exact h1
        · split
          · exact h1
          · exact h1
theorem GL.tick (x : ZS × Nat) : GL x.1 (xTick P t x).1 := by
  unfold xTick
  refine xUp_keeps (Q := GL x.1) _ _ _ (fun j _ _ X h => ?_) ?_
  · unfold xWait xTime
    split
    · split
      · exact GL.timeC (X := wtm 0 1000 X) h
      · exact GL.timeP (X := wtm j 1000 X) h j
    · exact h
  · have k : GL x.1 (xUp (xArr P t) (zn x.1 - x.2) x.2 (xSites P t x.1)) := by
      refine xUp_keeps (Q := GL x.1) _ _ _ (fun j _ _ X h => ?_) ?_
      · unfold xArr
        split
        · exact h
        · split
          · exact h
          · split
            · exact GL.comeC (X := wft j 0 X) h _ _
            · exact GL.comeP (X := wft j 0 X) h _ _ _
      · unfold xSites
        refine xUp_keeps (Q := GL x.1) _ _ _ (fun j _ _ X h => ?_) (xUp_keeps (Q := GL x.1) _ _ _ (fun j _ _ X h => ?_) GL.rf)
        · unfold xGoes; split
          · exact h
          · exact h
        · unfold xComes; split
          · exact h.rec j
          · exact h
    unfold xStart
    split
    · exact k.beg
    · exact k
theorem GL.run : ∀ (k : Nat), GL (xRun P t).1 (xRun P (t + k)).1
  | 0 => GL.rf
  | k + 1 => (GL.run k).tr (GL.tick (P := P) (t := t + k + 1) (xRun P (t + k)))
theorem run_le (ht : t ≤ 60) (s : Nat) : (zg (xRun P t).1 s).length ≤ (zg (xRun P 60).1 s).length := by
  have h := GL.run (P := P) (t := t) (60 - t) s
  rw [show t + (60 - t) = 60 by omega] at h
  exact h
end Gr
