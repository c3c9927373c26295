/-! WHAT COMES OF A RUN: as told, in the class, in the reference -/
noncomputable def xDec (P : ZP) (t s : Nat) : Int32 :=
  if anyB (fun i => (zg (xRun P 60).1 s).getD i 0) 4 (zg (xRun P t).1 s).length 0 = true then 1
  else if anyB (fun i => (zg (xRun P 60).1 s).getD i 0) 5 (zg (xRun P t).1 s).length 0 = true then 2
  else if s = 0 ∧ pz P = true ∧ xSee (xRun P t).1 0 = 5 then 2 else 0
def xAl (f : Nat → Int32) : Nat → Nat → Bool → Bool → Bool
  | 0, _, u, v => !(u && v)
  | r + 1, a, u, v => xAl f r (a + 1) (u || decide (f a = 1)) (v || decide (f a = 2))
noncomputable def xAlike (P : ZP) (t : Nat) : Bool := xAl (xDec P t) (pn P + 1) 0 false false
def xBl (f : Nat → Int32) : Nat → Nat → Int32 → Int32
  | 0, _, c => c
  | r + 1, a, c => xBl f r (a + 1) (if f a = 1 ∨ f a = 2 then c ||| ((1 : Int32) <<< (nI a &&& 31)) else c)
noncomputable def xBlk (P : ZP) : Int32 := xBl (xSee (xRun P 60).1) (pn P) 1 0
def QM (P : ZP) (τ : MS) : Prop := mI τ 5 = nI (pn P) ∧ mI τ 8 = bI (pz P) ∧ MomM P τ 61 ∧ LogR (mA τ 14) (mA τ 13) (zg (xRun P 60).1)
def QC (b : Nat) (P : ZP) (σ : CS) : Prop := ResC b P σ ∧ cI σ 3 0 = nI (pn P)
theorem ResM.q {P : ZP} {τ : MS} (h : ResM P τ) : QM P τ := ⟨h.2.1.1, h.2.1.2.2.2.1, h.1, h.2.2.2.2.2.2.2.1⟩
theorem xDec_or (P : ZP) (t s : Nat) : xDec P t s = 0 ∨ xDec P t s = 1 ∨ xDec P t s = 2 := by
  unfold xDec; split
  · exact Or.inr (Or.inl rfl)
  · split
    · exact Or.inr (Or.inr rfl)
    · split
      · exact Or.inr (Or.inr rfl)
      · exact Or.inl rfl
section AskC
variable {b : Nat} {P : ZP} {σ : CS} {t s : Nat}
theorem moment_C (hw : PW P) (h : ResC b P σ) (ht : t ≤ 60) (hs : s ≤ pn P) : ∃ j, j ≤ 60 ∧ cR_moment b (nI t) (nI s) σ = some (nI (6 * j + s), σ) ∧ (xRun P j).1 = (xRun P t).1 ∧ (∀ s, s ≤ pn P → cA σ (b + 19) (6 * j + s) = xSee (xRun P j).1 s ∧ cA σ (b + 20) (6 * j + s) = nI (zg (xRun P j).1 s).length) ∧ cA σ (b + 21) j = nI (zn (xRun P j).1) ∧ (if cI σ b 7 < nI t then cI σ b 7 else nI t) = nI j := by
  obtain ⟨T, hT, h7, he, hM, h3, hS, hG⟩ := h
  have hn := hw.2.1
  have K : ∀ j, j ≤ 60 → (if cI σ b 7 < nI t then cI σ b 7 else nI t) = nI j → cR_moment b (nI t) (nI s) σ = some (nI (6 * j + s), σ) := fun j hj e => by
    unfold cR_moment
    rw [e, show (6 : Int32) = nI 6 from rfl, pk_mul, nI_add, Nat.mul_comm]
  by_cases e : T < t
  · have q : (if cI σ b 7 < nI t then cI σ b 7 else nI t) = nI T := by rw [h7, if_pos ((P_lt (by omega) (by omega)).mpr e)]
    exact ⟨T, hT, K T hT q, (he t (by omega) ht).symm, (hM T (by omega)).1, (hM T (by omega)).2, q⟩
  · have q : (if cI σ b 7 < nI t then cI σ b 7 else nI t) = nI t := by rw [h7, if_neg (fun z => e ((P_lt (by omega) (by omega)).mp z))]
    exact ⟨t, ht, K t ht q, rfl, (hM t (by omega)).1, (hM t (by omega)).2, q⟩
theorem stateAt_C (hw : PW P) (h : ResC b P σ) (ht : t ≤ 60) (hs : s ≤ pn P) : cR_stateAt b (nI t) (nI s) σ = some (xSee (xRun P t).1 s, σ) := by
  have hn := hw.2.1
  obtain ⟨j, hj, a1, a2, a3, a4, a5⟩ := moment_C hw h ht hs
  unfold cR_stateAt
  rw [a1]
  simp only [Option.bind_some]
  rw [P_in (show 6 * j + s < 366 by omega) (by decide), if_pos rfl, P_ix (show 6 * j + s < 2 ^ 31 by omega), (a3 s hs).1, a2]
theorem lengthAt_C (hw : PW P) (h : ResC b P σ) (ht : t ≤ 60) (hs : s ≤ pn P) : cR_lengthAt b (nI t) (nI s) σ = some (nI (zg (xRun P t).1 s).length, σ) := by
  have hn := hw.2.1
  obtain ⟨j, hj, a1, a2, a3, a4, a5⟩ := moment_C hw h ht hs
  unfold cR_lengthAt
  rw [a1]
  simp only [Option.bind_some]
  rw [P_in (show 6 * j + s < 366 by omega) (by decide), if_pos rfl, P_ix (show 6 * j + s < 2 ^ 31 by omega), (a3 s hs).2, a2]
theorem sentAt_C (hw : PW P) (h : ResC b P σ) (ht : t ≤ 60) : cR_sentAt b (nI t) σ = some (nI (zn (xRun P t).1), σ) := by
  obtain ⟨j, hj, a1, a2, a3, a4, a5⟩ := moment_C hw h ht (Nat.zero_le (pn P))
  unfold cR_sentAt
  rw [a5, P_in (show j < 61 by omega) (by decide), if_pos rfl, P_ix (show j < 2 ^ 31 by omega), a4, a2]
theorem run_len (hw : PW P) (ht : t ≤ 60) (hs : s ≤ pn P) : (zg (xRun P t).1 s).length < 8 := (Inv.run hw ht).len (by have := hw.2.1; omega)
theorem decAt_C (hw : PW P) (h : ResC b P σ) (ht : t ≤ 60) (hs : s ≤ pn P) (hg : (zg (xRun P t).1 s).length ≤ (zg (xRun P 60).1 s).length) : cR_decisionAt b (nI t) (nI s) σ = some (xDec P t s, σ) := by
  have hn := hw.2.1
  have hl := run_len hw ht hs
  have h' := h
  obtain ⟨T, hT, h7, he, hM, h3, hS, hG⟩ := h'
  have hC : ∀ r, cT_hasNoted b s r (nI (zg (xRun P t).1 s).length) σ = some (anyB (fun i => (zg (xRun P 60).1 s).getD i 0) r (zg (xRun P t).1 s).length 0, σ) := fun r => by
    have k := hasNoted_C (b := b) (s := s) (σ := σ) (r := r) (L := (zg (xRun P t).1 s).length) (by omega) (zg (xRun P t).1 s).length 0 4096 (by omega) (by omega)
    rw [anyB_congr (g := fun i => (zg (xRun P 60).1 s).getD i 0) _ _ (fun j _ hj => (hS s (by omega)).2.2.2 j (by omega))] at k
    exact k
  unfold cR_decisionAt
  rw [lengthAt_C hw h ht hs]
  simp only [Option.bind_some]
  rw [P_in (show s < 6 by omega) (by decide), P_ix (show s < 2 ^ 31 by omega), hC 4]
  simp only [if_true, Option.bind_some, hC 5, h3, stateAt_C hw h ht hs]
  unfold xDec
  by_cases e1 : anyB (fun i => (zg (xRun P 60).1 s).getD i 0) 4 (zg (xRun P t).1 s).length 0 = true
  · rw [if_pos e1, if_pos e1]
  · rw [if_neg e1, if_neg e1]
    by_cases e2 : anyB (fun i => (zg (xRun P 60).1 s).getD i 0) 5 (zg (xRun P t).1 s).length 0 = true
    · rw [if_pos e2, if_pos e2]
    · rw [if_neg e2, if_neg e2]
      by_cases e3 : s = 0
      · subst e3
        rw [if_pos (show nI 0 = 0 from rfl)]
        by_cases e4 : pz P = true
        · rw [if_pos e4]
          by_cases e5 : xSee (xRun P t).1 0 = 5
          · rw [if_pos e5, if_pos ⟨rfl, e4, e5⟩]
          · rw [if_neg e5, if_neg (fun q => e5 q.2.2)]
        · rw [if_neg e4, if_neg (fun q => e4 q.2.1)]
      · rw [if_neg (qI_ne0 e3 (by omega)), if_neg (fun q => e3 q.1)]
def codeA (u v : Bool) : Int32 := (if u = true then 1 else 0) ||| (if v = true then 2 else 0)
theorem codeA_step : ∀ (u v : Bool), codeA u v ||| 0 = codeA u v ∧ codeA u v ||| 1 = codeA true v ∧ codeA u v ||| 2 = codeA u true := by decide
theorem codeA_end : ∀ (u v : Bool), (codeA u v = 3 ↔ (u && v) = true) := by decide
theorem alike_C (hw : PW P) (h : QC b P σ) (ht : t ≤ 60) (hg : ∀ s, s ≤ pn P → (zg (xRun P t).1 s).length ≤ (zg (xRun P 60).1 s).length) : ∀ (r a fu : Nat) (u v : Bool), a + r = pn P + 1 → r < fu → cR_isAlikeAt_l4 b fu (nI t) (codeA u v) (nI a) σ = some (xAl (xDec P t) r a u v, σ)
  | r, a, 0, _, _, _, h3 => by omega
  | 0, a, fu + 1, u, v, h2, _ => by
    have hn := hw.2.1
    rw [cR_isAlikeAt_l4, h.2, if_pos ((P_lt (by omega) (by omega)).mpr (by omega))]
    unfold cR_isAlikeAt_b30 xAl
    by_cases e : (u && v) = true
    · rw [if_pos ((codeA_end u v).mpr e), e]; rfl
    · rw [if_neg (fun q => e ((codeA_end u v).mp q)), show (u && v) = false by simpa using e]; rfl
  | r + 1, a, fu + 1, u, v, h2, h3 => by
    have hn := hw.2.1
    rw [cR_isAlikeAt_l4, h.2, if_neg (fun q => absurd ((P_lt (by omega) (by omega)).mp q) (by omega)), decAt_C hw h.1 ht (by omega) (hg a (by omega)), nI_1]
    simp only [Option.bind_some]
    have k := alike_C hw h ht hg r (a + 1) fu (u || decide (xDec P t a = 1)) (v || decide (xDec P t a = 2)) (by omega) (by omega)
    have hc : codeA u v ||| xDec P t a = codeA (u || decide (xDec P t a = 1)) (v || decide (xDec P t a = 2)) := by
      obtain ⟨c0, c1, c2⟩ := codeA_step u v
      rcases xDec_or P t a with e | e | e <;> rw [e]
      · rw [c0]; simp
      · rw [c1]; simp
      · rw [c2]; simp
    exact (congrArg (fun z => cR_isAlikeAt_l4 b fu (nI t) z (nI (a + 1)) σ) hc).trans k
theorem blocked_C (hw : PW P) (h : QC b P σ) : ∀ (r a fu : Nat) (c : Int32), a + r = pn P + 1 → r < fu → cR_whoIsBlocked_l4 b fu c (nI a) σ = some (xBl (xSee (xRun P 60).1) r a c, σ)
  | r, a, 0, _, _, h3 => by omega
  | 0, a, fu + 1, c, h2, _ => by
    have hn := hw.2.1
    rw [cR_whoIsBlocked_l4, h.2, if_pos ((P_lt (by omega) (by omega)).mpr (by omega))]
    rfl
  | r + 1, a, fu + 1, c, h2, h3 => by
    have hn := hw.2.1
    rw [cR_whoIsBlocked_l4, h.2, if_neg (fun q => absurd ((P_lt (by omega) (by omega)).mp q) (by omega)), show cR_stateAt b 60 (nI a) σ = _ from stateAt_C (t := 60) hw h.1 (by omega) (by omega), nI_1]
    simp only [Option.bind_some]
    unfold xBl
    by_cases e1 : xSee (xRun P 60).1 a = 1
    · rw [if_pos e1, if_pos (Or.inl e1)]; exact blocked_C hw h r (a + 1) fu _ (by omega) (by omega)
    · rw [if_neg e1]
      by_cases e2 : xSee (xRun P 60).1 a = 2
      · rw [if_pos e2, if_pos (Or.inr e2)]; exact blocked_C hw h r (a + 1) fu _ (by omega) (by omega)
      · rw [if_neg e2, if_neg (fun q => q.elim e1 e2)]; exact blocked_C hw h r (a + 1) fu _ (by omega) (by omega)
end AskC
section AskM
variable {P : ZP} {τ : MS} {t s : Nat}
theorem i6 (t s : Nat) : (6 * nI t) + nI s = nI (6 * t + s) := by rw [show (6 : Int32) = nI 6 from rfl, pk_mul, nI_add]
theorem noted_M (hw : PW P) (h : QM P τ) (ht : t ≤ 60) (hs : s ≤ pn P) (hg : (zg (xRun P t).1 s).length ≤ (zg (xRun P 60).1 s).length) (r : Int32) : ∀ (k i fu : Nat), i + k = (zg (xRun P t).1 s).length → k < fu → m_hasNoted_l3 fu (nI t) (nI s) r (nI i) τ = some (anyB (fun i => (zg (xRun P 60).1 s).getD i 0) r k i, τ)
  | k, i, 0, _, h3 => by omega
  | 0, i, fu + 1, h2, _ => by
    have hn := hw.2.1
    have hl := run_len hw ht hs
    rw [m_hasNoted_l3, i6, P_in (show 6 * t + s < 366 by omega) (by decide), if_pos rfl, P_ix (show 6 * t + s < 2 ^ 31 by omega), ((h.2.2.1 t (by omega)).1 s hs).2, if_pos ((P_le (by omega) (by omega)).mpr (by omega))]
    rfl
  | k + 1, i, fu + 1, h2, h3 => by
    have hn := hw.2.1
    have hl := run_len hw ht hs
    have e7 : (20 * nI s) + nI i = nI (20 * s + i) := by rw [show (20 : Int32) = nI 20 from rfl, pk_mul, nI_add]
    rw [m_hasNoted_l3, i6, P_in (show 6 * t + s < 366 by omega) (by decide), if_pos rfl, P_ix (show 6 * t + s < 2 ^ 31 by omega), ((h.2.2.1 t (by omega)).1 s hs).2, if_neg (fun q => absurd ((P_le (by omega) (by omega)).mp q) (by omega)), e7, P_in (show 20 * s + i < 120 by omega) (by decide), if_pos rfl, P_ix (show 20 * s + i < 2 ^ 31 by omega), (h.2.2.2 s (by omega)).2.2 i (by omega), nI_1]
    unfold anyB
    by_cases e : (zg (xRun P 60).1 s).getD i 0 = r
    · rw [if_pos e, decide_eq_true e, Bool.true_or]
    · rw [if_neg e, decide_eq_false e, Bool.false_or]
      exact noted_M hw h ht hs hg r k (i + 1) fu (by omega) (by omega)
theorem decAt_M (hw : PW P) (h : QM P τ) (ht : t ≤ 60) (hs : s ≤ pn P) (hg : (zg (xRun P t).1 s).length ≤ (zg (xRun P 60).1 s).length) : m_decidedAt (nI t) (nI s) τ = some (xDec P t s, τ) := by
  have hn := hw.2.1
  have hl := run_len hw ht hs
  have hC : ∀ r, m_hasNoted (nI t) (nI s) r τ = some (anyB (fun i => (zg (xRun P 60).1 s).getD i 0) r (zg (xRun P t).1 s).length 0, τ) := fun r => noted_M hw h ht hs hg r (zg (xRun P t).1 s).length 0 4096 (by omega) (by omega)
  unfold m_decidedAt
  rw [hC 4]
  simp only [Option.bind_some, hC 5]
  rw [h.2.1]
  unfold xDec
  by_cases e1 : anyB (fun i => (zg (xRun P 60).1 s).getD i 0) 4 (zg (xRun P t).1 s).length 0 = true
  · rw [if_pos e1, if_pos e1]
  · rw [if_neg e1, if_neg e1]
    by_cases e2 : anyB (fun i => (zg (xRun P 60).1 s).getD i 0) 5 (zg (xRun P t).1 s).length 0 = true
    · rw [if_pos e2, if_pos e2]
    · rw [if_neg e2, if_neg e2]
      by_cases e3 : s = 0
      · subst e3
        rw [if_pos (show nI 0 = 0 from rfl)]
        have e6 : 6 * nI t = nI (6 * t) := by rw [show (6 : Int32) = nI 6 from rfl, pk_mul]
        rw [e6, P_in (show 6 * t < 366 by omega) (by decide), if_pos rfl, P_ix (show 6 * t < 2 ^ 31 by omega), show mA τ 25 (6 * t) = xSee (xRun P t).1 0 from ((h.2.2.1 t (by omega)).1 0 (Nat.zero_le _)).1]
        cases e4 : pz P
        · rw [if_neg (show ¬ bI false = 1 by decide), if_neg (fun q => absurd q.2.1 (by decide))]
        · rw [if_pos (show bI true = 1 from rfl)]
          by_cases e5 : xSee (xRun P t).1 0 = 5
          · rw [if_pos e5, if_pos ⟨rfl, rfl, e5⟩]
          · rw [if_neg e5, if_neg (fun q => e5 q.2.2)]
      · rw [if_neg (qI_ne0 e3 (by omega)), if_neg (fun q => e3 q.1)]
def codeB (w u v : Bool) : Int32 := (if w = true then 1 else 0) ||| (if u = true then 2 else 0) ||| (if v = true then 4 else 0)
theorem codeB_step : ∀ (w u v : Bool), codeB w u v ||| ((1 : Int32) <<< ((0 : Int32) &&& 31)) = codeB true u v ∧ codeB w u v ||| ((1 : Int32) <<< ((1 : Int32) &&& 31)) = codeB w true v ∧ codeB w u v ||| ((1 : Int32) <<< ((2 : Int32) &&& 31)) = codeB w u true := by decide
theorem codeB_end : ∀ (w u v : Bool), ((codeB w u v &&& 6) = 6 ↔ (u && v) = true) := by decide
theorem alike_M (hw : PW P) (h : QM P τ) (ht : t ≤ 60) (hg : ∀ s, s ≤ pn P → (zg (xRun P t).1 s).length ≤ (zg (xRun P 60).1 s).length) : ∀ (r a fu : Nat) (w u v : Bool), a + r = pn P + 1 → r < fu → m_areAlike_l4 fu (nI t) (codeB w u v) (nI a) τ = some (xAl (xDec P t) r a u v, τ)
  | r, a, 0, _, _, _, _, h3 => by omega
  | 0, a, fu + 1, w, u, v, h2, _ => by
    have hn := hw.2.1
    rw [m_areAlike_l4, h.1, if_pos ((P_lt (by omega) (by omega)).mpr (by omega))]
    unfold m_areAlike_b29 xAl
    by_cases e : (u && v) = true
    · rw [if_pos ((codeB_end w u v).mpr e), e]; rfl
    · rw [if_neg (fun q => e ((codeB_end w u v).mp q)), show (u && v) = false by simpa using e]; rfl
  | r + 1, a, fu + 1, w, u, v, h2, h3 => by
    have hn := hw.2.1
    rw [m_areAlike_l4, h.1, if_neg (fun q => absurd ((P_lt (by omega) (by omega)).mp q) (by omega)), decAt_M hw h ht (by omega) (hg a (by omega)), nI_1]
    simp only [Option.bind_some]
    have k := fun w => alike_M hw h ht hg r (a + 1) fu w (u || decide (xDec P t a = 1)) (v || decide (xDec P t a = 2)) (by omega) (by omega)
    have hc : ∃ w', codeB w u v ||| ((1 : Int32) <<< (xDec P t a &&& 31)) = codeB w' (u || decide (xDec P t a = 1)) (v || decide (xDec P t a = 2)) := by
      obtain ⟨c0, c1, c2⟩ := codeB_step w u v
      rcases xDec_or P t a with e | e | e <;> rw [e]
      · exact ⟨true, by rw [c0]; simp⟩
      · exact ⟨w, by rw [c1]; simp⟩
      · exact ⟨w, by rw [c2]; simp⟩
    obtain ⟨w', hc⟩ := hc
    exact (congrArg (fun z => m_areAlike_l4 fu (nI t) z (nI (a + 1)) τ) hc).trans (k w')
theorem or_0 (x : Int32) : x ||| 0 = x := by
  apply b_ext; intro i hi; rw [b_or, b_0, Bool.or_false]
theorem blocked_M (hw : PW P) (h : QM P τ) : ∀ (r a fu : Nat) (c : Int32), a + r = pn P + 1 → r < fu → m_blockedNow_l4 fu c (nI a) τ = some (xBl (xSee (xRun P 60).1) r a c, τ)
  | r, a, 0, _, _, h3 => by omega
  | 0, a, fu + 1, c, h2, _ => by
    have hn := hw.2.1
    rw [m_blockedNow_l4, h.1, if_pos ((P_lt (by omega) (by omega)).mpr (by omega))]
    rfl
  | r + 1, a, fu + 1, c, h2, h3 => by
    have hn := hw.2.1
    have e7 : 360 + nI a = nI (6 * 60 + a) := nI_add 360 a
    rw [m_blockedNow_l4, h.1, if_neg (fun q => absurd ((P_lt (by omega) (by omega)).mp q) (by omega)), e7, P_in (show 6 * 60 + a < 366 by omega) (by decide), if_pos rfl, P_ix (show 6 * 60 + a < 2 ^ 31 by omega), ((h.2.2.1 60 (by omega)).1 a (by omega)).1, or_0, nI_1]
    unfold xBl
    by_cases e1 : xSee (xRun P 60).1 a = 1
    · rw [if_pos e1, if_pos (Or.inl e1)]; exact blocked_M hw h r (a + 1) fu _ (by omega) (by omega)
    · rw [if_neg e1]
      by_cases e2 : xSee (xRun P 60).1 a = 2
      · rw [if_pos e2, if_pos (Or.inr e2)]; exact blocked_M hw h r (a + 1) fu _ (by omega) (by omega)
      · rw [if_neg e2, if_neg (fun q => q.elim e1 e2)]; exact blocked_M hw h r (a + 1) fu _ (by omega) (by omega)
end AskM
