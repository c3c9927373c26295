/-! THE RUN AS THE DOCUMENT TELLS IT: a set-up (sites, phases, wait, presumed, votes, losses, downs), a state of a run
(up, states, timers, logs, counted, decision, how many messages; of each which, from, to, tick, fate) -/
abbrev ZP : Type := Nat × Int32 × Nat × Bool × (Nat → Bool) × (Nat → Bool) × (Nat → Option (Nat × Nat))
abbrev pn (P : ZP) : Nat := P.1
abbrev pp (P : ZP) : Int32 := P.2.1
abbrev pw (P : ZP) : Nat := P.2.2.1
abbrev pz (P : ZP) : Bool := P.2.2.2.1
abbrev pv (P : ZP) : Nat → Bool := P.2.2.2.2.1
abbrev pl (P : ZP) : Nat → Bool := P.2.2.2.2.2.1
abbrev pd (P : ZP) : Nat → Option (Nat × Nat) := P.2.2.2.2.2.2
def PW (P : ZP) : Prop := 1 ≤ pn P ∧ pn P ≤ 5 ∧ (pp P = 2 ∨ pp P = 3) ∧ 2 ≤ pw P ∧ pw P ≤ 9 ∧ ∀ s d u, pd P s = some (d, u) → d < u ∧ u ≤ 60
abbrev ZS : Type := (Nat → Bool) × (Nat → Int32) × (Nat → Int32) × (Nat → List Int32) × (Nat → Int32) × Int32 × Nat × (Nat → Int32) × (Nat → Nat) × (Nat → Nat) × (Nat → Int32) × (Nat → Int32)
abbrev zu (S : ZS) : Nat → Bool := S.1
abbrev zs (S : ZS) : Nat → Int32 := S.2.1
abbrev zt (S : ZS) : Nat → Int32 := S.2.2.1
abbrev zg (S : ZS) : Nat → List Int32 := S.2.2.2.1
abbrev zc (S : ZS) : Nat → Int32 := S.2.2.2.2.1
abbrev zd (S : ZS) : Int32 := S.2.2.2.2.2.1
abbrev zn (S : ZS) : Nat := S.2.2.2.2.2.2.1
abbrev zw (S : ZS) : Nat → Int32 := S.2.2.2.2.2.2.2.1
abbrev zf (S : ZS) : Nat → Nat := S.2.2.2.2.2.2.2.2.1
abbrev zo (S : ZS) : Nat → Nat := S.2.2.2.2.2.2.2.2.2.1
abbrev za (S : ZS) : Nat → Int32 := S.2.2.2.2.2.2.2.2.2.2.1
abbrev zh (S : ZS) : Nat → Int32 := S.2.2.2.2.2.2.2.2.2.2.2
def wu (s : Nat) (b : Bool) (S : ZS) : ZS := (va_up S.1 s b, S.2)
def wst (s : Nat) (v : Int32) (S : ZS) : ZS := (S.1, va_up S.2.1 s v, S.2.2)
def wtm (s : Nat) (v : Int32) (S : ZS) : ZS := (S.1, S.2.1, va_up S.2.2.1 s v, S.2.2.2)
def wlg (s : Nat) (r : Int32) (S : ZS) : ZS := (S.1, S.2.1, S.2.2.1, va_up S.2.2.2.1 s (S.2.2.2.1 s ++ [r]), S.2.2.2.2)
def wcn (k : Nat) (v : Int32) (S : ZS) : ZS := (S.1, S.2.1, S.2.2.1, S.2.2.2.1, va_up S.2.2.2.2.1 k v, S.2.2.2.2.2)
def wdc (v : Int32) (S : ZS) : ZS := (S.1, S.2.1, S.2.2.1, S.2.2.2.1, S.2.2.2.2.1, v, S.2.2.2.2.2.2)
def wft (m : Nat) (v : Int32) (S : ZS) : ZS := (zu S, zs S, zt S, zg S, zc S, zd S, zn S, zw S, zf S, zo S, za S, va_up (zh S) m v)
def wmsg (w : Int32) (f o : Nat) (a : Int32) (S : ZS) : ZS := (zu S, zs S, zt S, zg S, zc S, zd S, zn S + 1, va_up (zw S) (zn S) w, va_up (zf S) (zn S) f, va_up (zo S) (zn S) o, va_up (za S) (zn S) a, va_up (zh S) (zn S) 3)
/-- one message; to some; to all -/
def xSend (t : Nat) (w : Int32) (f o : Nat) (S : ZS) : ZS := if zn S < 200 then wmsg w f o (nI t) S else S
def xSends (t : Nat) (w : Int32) (f : Nat) : List Nat → ZS → ZS
  | [], S => S
  | o :: L, S => xSends t w f L (xSend t w f o S)
def xAll (P : ZP) : List Nat := List.range' 1 (pn P)
def xEnd (P : ZP) (t : Nat) : Int32 := nI t + nI (pw P)
def xDecC (P : ZP) (t : Nat) (S : ZS) : ZS := wtm 0 (xEnd P t) (xSends t 6 0 (xAll P) (wst 0 3 (wlg 0 4 (wdc 6 S))))
def xDecA (P : ZP) (t : Nat) (S : ZS) : ZS := if pz P = true then wtm 0 1000 (xSends t 7 0 (xAll P) (wst 0 5 (wdc 7 S))) else wtm 0 (xEnd P t) (xSends t 7 0 (xAll P) (wst 0 4 (wlg 0 5 (wdc 7 S))))
def xBegin (P : ZP) (t : Nat) (S : ZS) : ZS := wtm 0 (xEnd P t) (xSends t 1 0 (xAll P) (wst 0 1 (wlg 0 1 S)))
def xPre (P : ZP) (t : Nat) (S : ZS) : ZS := wtm 0 (xEnd P t) (xSends t 4 0 (xAll P) (wst 0 2 (wlg 0 3 S)))
def xMask (c : Int32) (p : Nat) : Int32 := c ||| ((1 : Int32) <<< (nI p &&& 31))
def xEv (P : ZP) : Int32 := ((1 : Int32) <<< ((nI (pn P) + 1) &&& 31)) - 2
def xCount (k p : Nat) (S : ZS) : ZS := wcn k (xMask (zc S k) p) S
def xFull (P : ZP) (k : Nat) (S : ZS) : Prop := zc S k = xEv P
def xEnds (S : ZS) : ZS := wtm 0 1000 (wst 0 5 (wlg 0 6 S))
noncomputable def xComeC (P : ZP) (t : Nat) (w : Int32) (f : Nat) (S : ZS) : ZS :=
  if w = 2 then (if zs S 0 = 1 then (if zc (xCount 0 f S) 0 = xEv P then (if pp P = 2 then xDecC P t (xCount 0 f S) else xPre P t (xCount 0 f S)) else xCount 0 f S) else S)
  else if w = 3 then (if zs S 0 = 1 then xDecA P t S else S)
  else if w = 5 then (if zs S 0 = 2 then (if zc (xCount 1 f S) 1 = xEv P then xDecC P t (xCount 1 f S) else xCount 1 f S) else S)
  else if w = 8 then (if zs S 0 = 3 ∨ zs S 0 = 4 then (if zc (xCount 2 f S) 2 = xEv P then xEnds (xCount 2 f S) else xCount 2 f S) else S)
  else if w = 9 then (if zs S 0 ≤ 2 then S else xSend t (zd S) 0 f S)
  else S
/-- those whose acknowledgement wasn't counted -/
def xLate (c : Int32) (L : List Nat) : List Nat := L.filter (fun p => decide (((c >>> (nI p &&& 31)) &&& 1) = 0))
def xTimeC (P : ZP) (t : Nat) (S : ZS) : ZS :=
  if zs S 0 = 1 then xDecA P t S else if zs S 0 = 2 then xDecC P t S
  else if zs S 0 = 3 ∨ zs S 0 = 4 then wtm 0 (xEnd P t) (xSends t (zd S) 0 (xLate (zc S 2) (xAll P)) S) else S
def xPrep (P : ZP) (t p : Nat) (S : ZS) : ZS :=
  if zs S p = 0 then (if pv P p = true then wtm p (xEnd P t) (xSend t 2 p 0 (wst p 1 (wlg p 2 S))) else xSend t 3 p 0 (wst p 4 (wlg p 5 S))) else S
def xComePre (P : ZP) (t p : Nat) (S : ZS) : ZS :=
  if zs S p = 1 then wtm p (xEnd P t) (xSend t 5 p 0 (wst p 2 (wlg p 3 S))) else if zs S p = 2 then xSend t 5 p 0 S else S
def xSettle (p : Nat) (w : Int32) (S : ZS) : ZS := wtm p 1000 (wst p (if w = 6 then 3 else 4) (wlg p (if w = 6 then 4 else 5) S))
def xAnswer (P : ZP) (t p : Nat) (w : Int32) (S : ZS) : ZS := if w = 6 ∨ pz P = false then xSend t 8 p 0 S else S
def xDecd (P : ZP) (t p : Nat) (w : Int32) (S : ZS) : ZS := xAnswer P t p w (if 3 ≤ zs S p then S else xSettle p w S)
def xAskA (t p f : Nat) (S : ZS) : ZS := if zs S p = 3 then xSend t 6 p f S else if zs S p = 4 then xSend t 7 p f S else S
def xAsk (t p f : Nat) (S : ZS) : ZS := xAskA t p f (if zs S p = 0 then wst p 4 (wlg p 5 S) else S)
noncomputable def xComeP (P : ZP) (t p : Nat) (w : Int32) (f : Nat) (S : ZS) : ZS :=
  if w = 1 then xPrep P t p S else if w = 4 then xComePre P t p S else if w = 6 then xDecd P t p w S else if w = 7 then xDecd P t p w S else if w = 9 then xAsk t p f S else S
def xAskAll (P : ZP) (t p : Nat) (S : ZS) : ZS := wtm p (xEnd P t) (xSends t 9 p (0 :: (xAll P).filter (fun q => decide (q ≠ p))) S)
def xTimeP (P : ZP) (t p : Nat) (S : ZS) : ZS :=
  if zs S p = 1 then (if pp P = 2 then xAskAll P t p S else wst p 4 (wlg p 5 S)) else if zs S p = 2 then wst p 3 (wlg p 4 S) else S
def xLast (l : List Int32) : Int32 := l.getLast?.getD 0
def xRecC (P : ZP) (t : Nat) (S : ZS) : ZS :=
  if xLast (zg S 0) = 3 then wtm 0 (xEnd P t) (xSends t 4 0 (xAll P) (wst 0 2 S))
  else if xLast (zg S 0) = 4 then wtm 0 (xEnd P t) (xSends t 6 0 (xAll P) (wdc 6 (wst 0 3 S)))
  else if xLast (zg S 0) = 5 then wtm 0 (xEnd P t) (xSends t 7 0 (xAll P) (wdc 7 (wst 0 4 S)))
  else if xLast (zg S 0) = 6 then wdc (if xLast (zg S 0).dropLast = 4 then 6 else 7) (wst 0 5 S)
  else xDecA P t S
def xRecP (P : ZP) (t p : Nat) (S : ZS) : ZS :=
  if xLast (zg S p) = 0 then wst p 4 (wlg p 5 S) else if xLast (zg S p) = 2 then wtm p (nI t) (wst p 1 S) else if xLast (zg S p) = 3 then wtm p (xEnd P t) (wst p 2 S)
  else if xLast (zg S p) = 4 then wst p 3 S else wst p 4 S
def xZero (S : ZS) : ZS := wcn 2 0 (wcn 1 0 (wcn 0 0 S))
def xRec (P : ZP) (t s : Nat) (S : ZS) : ZS := if s = 0 then xRecC P t (xZero (wtm 0 1000 (wu 0 true S))) else xRecP P t s (wtm s 1000 (wu s true S))
noncomputable def xArr (P : ZP) (t m : Nat) (S : ZS) : ZS :=
  if m < 60 ∧ pl P m = true then wft m 1 S else if zu S (zo S m) = false then wft m 2 S
  else if zo S m = 0 then xComeC P t (zw S m) (zf S m) (wft m 0 S) else xComeP P t (zo S m) (zw S m) (zf S m) (wft m 0 S)
def xTime (P : ZP) (t s : Nat) (S : ZS) : ZS := if s = 0 then xTimeC P t (wtm 0 1000 S) else xTimeP P t s (wtm s 1000 S)
/-- f at a, a + 1, .., r of them -/
def xUp (f : Nat → ZS → ZS) : Nat → Nat → ZS → ZS
  | 0, _, S => S
  | r + 1, a, S => xUp f r (a + 1) (f a S)
def xComes (P : ZP) (t s : Nat) (S : ZS) : ZS := if (pd P s).any (fun q => q.2 == t) = true then xRec P t s S else S
def xGoes (P : ZP) (t s : Nat) (S : ZS) : ZS := if (pd P s).any (fun q => q.1 == t) = true then wu s false S else S
def xWait (P : ZP) (t s : Nat) (S : ZS) : ZS := if zu S s = true ∧ zt S s ≤ nI t then xTime P t s S else S
def xStart (P : ZP) (t : Nat) (S : ZS) : ZS := if t = 0 ∧ zu S 0 = true then xBegin P t S else S
/-- the sites come and go; what was sent a tick ago arrives; waits end -/
def xSites (P : ZP) (t : Nat) (S : ZS) : ZS := xUp (xGoes P t) (pn P + 1) 0 (xUp (xComes P t) (pn P + 1) 0 S)
noncomputable def xTick (P : ZP) (t : Nat) (x : ZS × Nat) : ZS × Nat :=
  (xUp (xWait P t) (pn P + 1) 0 (xStart P t (xUp (xArr P t) (zn x.1 - x.2) x.2 (xSites P t x.1))), zn x.1)
def xInit : ZS := (fun _ => true, fun _ => 0, fun _ => 1000, fun _ => [], fun _ => 0, 0, 0, fun _ => 0, fun _ => 0, fun _ => 0, fun _ => 0, fun _ => 0)
noncomputable def xRun (P : ZP) : Nat → ZS × Nat
  | 0 => xTick P 0 (xInit, 0)
  | t + 1 => xTick P (t + 1) (xRun P t)
/-- what is seen of a site -/
def xSee (S : ZS) (s : Nat) : Int32 := if zu S s = true then zs S s else 9
theorem xSends_tm {t : Nat} {w : Int32} {f s : Nat} {v : Int32} : ∀ (L : List Nat) (S : ZS), xSends t w f L (wtm s v S) = wtm s v (xSends t w f L S)
  | [], _ => rfl
  | o :: L, S => by
    unfold xSends
    rw [← xSends_tm L]
    congr 1
    unfold xSend
    by_cases h : zn S < 200
    · rw [if_pos (show zn (wtm s v S) < 200 from h), if_pos h]; rfl
    · rw [if_neg (show ¬ zn (wtm s v S) < 200 from h), if_neg h]
theorem xSends_app {t : Nat} {w : Int32} {f : Nat} : ∀ (L L' : List Nat) (S : ZS), xSends t w f (L ++ L') S = xSends t w f L' (xSends t w f L S)
  | [], _, _ => rfl
  | o :: L, L', S => xSends_app L L' _
