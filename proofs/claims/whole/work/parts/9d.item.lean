/-! STEPS: a text is read: items -/
abbrev IT : Type := Nat × Nat × Nat × Nat
def xApp (P : ZP) (x : IT) : ZP :=
  if x.1 = 0 then (x.2.1, pp P, pw P, pz P, pv P, pl P, pd P) else if x.1 = 1 then (pn P, nI x.2.1, pw P, pz P, pv P, pl P, pd P) else if x.1 = 2 then (pn P, pp P, x.2.1, pz P, pv P, pl P, pd P)
  else if x.1 = 3 then xVote P x.2.1 true else if x.1 = 4 then xVote P x.2.1 false else if x.1 = 5 then xLoss P x.2.1 true else if x.1 = 6 then xLoss P x.2.1 false
  else if x.1 = 7 then xDown P x.2.1 (some (x.2.2.1, x.2.2.2)) else if x.1 = 8 then xDown P x.2.1 none else if x.1 = 9 then (pn P, pp P, pw P, true, pv P, pl P, pd P) else (pn P, pp P, pw P, false, pv P, pl P, pd P)
def itLo (w : Nat) : Nat := [1, 2, 2, 1, 1, 0, 0, 0, 0].getD w 0
def itHi (w : Nat) : Nat := [5, 3, 9, 5, 5, 59, 59, 5, 5].getD w 0
def xOkI (x : IT) : Prop := x.1 < 11 ∧ (x.1 < 9 → itLo x.1 ≤ x.2.1 ∧ x.2.1 ≤ itHi x.1) ∧ (x.1 = 7 → x.2.2.1 < x.2.2.2 ∧ x.2.2.2 ≤ 60)
theorem w11 {w : Nat} (h : w < 11) : w = 0 ∨ w = 1 ∨ w = 2 ∨ w = 3 ∨ w = 4 ∨ w = 5 ∨ w = 6 ∨ w = 7 ∨ w = 8 ∨ w = 9 ∨ w = 10 := by omega
theorem PW.app {P : ZP} (h : PW P) {x : IT} (hx : xOkI x) : PW (xApp P x) := by
  obtain ⟨w, a, b, c⟩ := x
  obtain ⟨h1, h2, h3⟩ := hx
  have h1' : w < 11 := h1
  rcases w11 h1' with rfl | rfl | rfl | rfl | rfl | rfl | rfl | rfl | rfl | rfl | rfl
  · have q : 1 ≤ a ∧ a ≤ 5 := h2 (show 0 < 9 by decide)
    exact ⟨q.1, q.2, h.2.2⟩
  · have q : 2 ≤ a ∧ a ≤ 3 := h2 (show 1 < 9 by decide)
    refine ⟨h.1, h.2.1, ?_, h.2.2.2⟩
    show nI a = 2 ∨ nI a = 3
    have : a = 2 ∨ a = 3 := by omega
    rcases this with rfl | rfl
    · exact Or.inl rfl
    · exact Or.inr rfl
  · have q : 2 ≤ a ∧ a ≤ 9 := h2 (show 2 < 9 by decide)
    exact ⟨h.1, h.2.1, h.2.2.1, q.1, q.2, h.2.2.2.2.2⟩
  · exact h
  · exact h
  · exact h
  · exact h
  · have q : b < c ∧ c ≤ 60 := h3 rfl
    exact PW.down h a (some (b, c)) (fun d u z => by cases z; exact q)
  · exact PW.down h a none (fun d u z => by cases z)
  · exact h
  · exact h
theorem SetF.num {q : Nat} {P : ZP} {sd : Int32} {σ : CS} (h : SetF q P sd σ) : (∀ v : Nat, SetF q (v, pp P, pw P, pz P, pv P, pl P, pd P) sd (tI σ q 0 (nI v))) ∧ (∀ v : Nat, SetF q (pn P, nI v, pw P, pz P, pv P, pl P, pd P) sd (tI σ q 1 (nI v))) ∧ (∀ v : Nat, SetF q (pn P, pp P, v, pz P, pv P, pl P, pd P) sd (tI σ q 2 (nI v))) ∧ ∀ y : Bool, SetF q (pn P, pp P, pw P, y, pv P, pl P, pd P) sd (tZ σ q 3 y) := by
  obtain ⟨⟨a1, a2, a3, a4, a5⟩, b1, b2, b3⟩ := h
  refine ⟨fun v => ⟨⟨cI_s, (cI_k (by decide)).trans a2, (cI_k (by decide)).trans a3, ?_, a5⟩, b1, b2, (cI_k (by decide)).trans b3⟩, fun v => ⟨⟨(cI_k (by decide)).trans a1, cI_s, (cI_k (by decide)).trans a3, ?_, a5⟩, b1, b2, (cI_k (by decide)).trans b3⟩, fun v => ⟨⟨(cI_k (by decide)).trans a1, (cI_k (by decide)).trans a2, cI_s, ?_, a5⟩, b1, b2, (cI_k (by decide)).trans b3⟩, fun y => ⟨⟨a1, a2, a3, a4, a5⟩, cZ_s, b2, b3⟩⟩
  · rw [cI_k (show (4 : Nat) ≠ 0 by decide)]; exact a4
  · rw [cI_k (show (4 : Nat) ≠ 1 by decide)]; exact a4
  · rw [cI_k (show (4 : Nat) ≠ 2 by decide)]; exact a4
/-- the draft takes an item -/
theorem app_C {P : ZP} {sd : Int32} {σ : CS} (h : SetF 10 P sd σ) {w a b c : Nat} (hx : xOkI (w, a, b, c)) {p2 p3 p4 : Int32} (h2 : w < 9 → p2 = nI a) (h7 : w = 7 → p3 = nI b ∧ p4 = nI c) : ∃ σ', cS_apply 10 w p2 p3 p4 σ = some ((), σ') ∧ SetF 10 (xApp P (w, a, b, c)) sd σ' ∧ ∀ i, i < 10 ∨ 12 < i → sl σ' i = sl σ i := by
  obtain ⟨g1, g2, g3⟩ := hx
  have h1' : w < 11 := g1
  obtain ⟨n0, n1, n2, n3⟩ := h.num
  rcases w11 h1' with rfl | rfl | rfl | rfl | rfl | rfl | rfl | rfl | rfl | rfl | rfl
  · rw [h2 (by decide)]; exact ⟨tI σ 10 0 (nI a), rfl, n0 a, fun i hi => tI_o i (by omega)⟩
  · rw [h2 (by decide)]; exact ⟨tI σ 10 1 (nI a), rfl, n1 a, fun i hi => tI_o i (by omega)⟩
  · rw [h2 (by decide)]; exact ⟨tI σ 10 2 (nI a), rfl, n2 a, fun i hi => tI_o i (by omega)⟩
  · have q : 1 ≤ a ∧ a ≤ 5 := g2 (show 3 < 9 by decide)
    obtain ⟨σ', v1, v2, v3⟩ := h.vote q.1 q.2 true
    refine ⟨σ', ?_, v2, fun i hi => v3 i (by omega)⟩
    rw [h2 (by decide)]
    show ((cS_giveVote 10 (nI a) true σ).bind fun a1 => some ((), a1.2)) = _
    rw [v1]; rfl
  · have q : 1 ≤ a ∧ a ≤ 5 := g2 (show 4 < 9 by decide)
    obtain ⟨σ', v1, v2, v3⟩ := h.vote q.1 q.2 false
    refine ⟨σ', ?_, v2, fun i hi => v3 i (by omega)⟩
    rw [h2 (by decide)]
    show ((cS_giveVote 10 (nI a) false σ).bind fun a1 => some ((), a1.2)) = _
    rw [v1]; rfl
  · have q : 0 ≤ a ∧ a ≤ 59 := g2 (show 5 < 9 by decide)
    obtain ⟨σ', v1, v2, v3⟩ := h.loss (m := a) (by omega) true
    refine ⟨σ', ?_, v2, fun i hi => v3 i (by omega)⟩
    rw [h2 (by decide)]
    show ((cS_giveLoss 10 (nI a) true σ).bind fun a1 => some ((), a1.2)) = _
    rw [v1]; rfl
  · have q : 0 ≤ a ∧ a ≤ 59 := g2 (show 6 < 9 by decide)
    obtain ⟨σ', v1, v2, v3⟩ := h.loss (m := a) (by omega) false
    refine ⟨σ', ?_, v2, fun i hi => v3 i (by omega)⟩
    rw [h2 (by decide)]
    show ((cS_giveLoss 10 (nI a) false σ).bind fun a1 => some ((), a1.2)) = _
    rw [v1]; rfl
  · have q : 0 ≤ a ∧ a ≤ 5 := g2 (show 7 < 9 by decide)
    obtain ⟨σ', v1, v2, v3⟩ := h.down (s := a) (by omega) (some (b, c)) (x := nI b) (y := nI c) (fun z => by cases z) (fun d u z => by cases z; exact ⟨rfl, rfl⟩)
    refine ⟨σ', ?_, v2, fun i hi => v3 i (by omega) (by omega)⟩
    rw [h2 (by decide), (h7 rfl).1, (h7 rfl).2]
    show ((cS_giveDown 10 (nI a) (nI b) (nI c) σ).bind fun a2 => some ((), a2.2)) = _
    rw [v1]; rfl
  · have q : 0 ≤ a ∧ a ≤ 5 := g2 (show 8 < 9 by decide)
    obtain ⟨σ', v1, v2, v3⟩ := h.down (s := a) (by omega) none (x := -1) (y := -1) (fun z => ⟨rfl, rfl⟩) (fun d u z => by cases z)
    refine ⟨σ', ?_, v2, fun i hi => v3 i (by omega) (by omega)⟩
    rw [h2 (by decide)]
    show ((cS_giveDown 10 (nI a) (-1) (-1) σ).bind fun a2 => some ((), a2.2)) = _
    rw [v1]; rfl
  · exact ⟨tZ σ 10 3 true, rfl, n3 true, fun i hi => tZ_o i (by omega)⟩
  · exact ⟨tZ σ 10 3 false, rfl, n3 false, fun i hi => tZ_o i (by omega)⟩
/-- an item as the reference keeps it -/
def StI (τ : MS) (k : Nat) (x : IT) : Prop := mA τ 31 k = nI x.1 ∧ (x.1 < 9 → mA τ 32 k = nI x.2.1) ∧ (x.1 = 7 → mA τ 33 k = nI x.2.2.1 ∧ mA τ 34 k = nI x.2.2.2)
def FrH (τ τ' : MS) : Prop := τ'.2.1 = τ.2.1 ∧ τ'.2.2.2 = τ.2.2.2 ∧ (∀ k, k < 5 ∨ 8 < k → mI τ' k = mI τ k) ∧ ∀ k, k < 1 ∨ 4 < k → mA τ' k = mA τ k
theorem FrH.rf {τ : MS} : FrH τ τ := ⟨rfl, rfl, fun _ _ => rfl, fun _ _ => rfl⟩
theorem FrH.tr {a b c : MS} (h : FrH a b) (k : FrH b c) : FrH a c := ⟨k.1.trans h.1, k.2.1.trans h.2.1, fun i h1 => (k.2.2.1 i h1).trans (h.2.2.1 i h1), fun i h1 => (k.2.2.2 i h1).trans (h.2.2.2 i h1)⟩
theorem FrH.sI {τ : MS} {k : Nat} (v : Int32) (h1 : 5 ≤ k) (h2 : k ≤ 8) : FrH τ (sI τ k v) := ⟨rfl, rfl, fun i hi => va_up_n _ _ (by omega), fun _ _ => rfl⟩
theorem FrH.sA {τ : MS} {k : Nat} (i : Nat) (v : Int32) (h1 : 1 ≤ k) (h2 : k ≤ 4) : FrH τ (sA τ k i v) := ⟨rfl, rfl, fun _ _ => rfl, fun q hq => va_up_n _ _ (by omega)⟩
theorem app_M {P : ZP} {τ : MS} (h : SetM P τ) {k : Nat} (hk : k < 60) {x : IT} (hx : xOkI x) (hs : StI τ k x) : ∃ τ', m_holdsItem (nI k) τ = some ((), τ') ∧ SetM (xApp P x) τ' ∧ FrH τ τ' := by
  obtain ⟨w, a, b, c⟩ := x
  obtain ⟨g1, g2, g3⟩ := hx
  obtain ⟨s1, s2, s3⟩ := hs
  have h1' : w < 11 := g1
  have s1' : mA τ 31 k = nI w := s1
  unfold m_holdsItem m_holdsItem_b88 m_holdsItem_b112
  rw [P_in hk (by decide), P_ix (show k < 2 ^ 31 by omega), s1']
  simp only [if_true, sw]
  rcases w11 h1' with rfl | rfl | rfl | rfl | rfl | rfl | rfl | rfl | rfl | rfl | rfl
  · rw [show mA τ 32 k = nI a from s2 (show 0 < 9 by decide)]
    exact ⟨sI τ 5 (nI a), rfl, ⟨rfl, h.2⟩, FrH.sI _ (by omega) (by omega)⟩
  · rw [show mA τ 32 k = nI a from s2 (show 1 < 9 by decide)]
    exact ⟨sI τ 6 (nI a), rfl, ⟨h.1, rfl, h.2.2⟩, FrH.sI _ (by omega) (by omega)⟩
  · rw [show mA τ 32 k = nI a from s2 (show 2 < 9 by decide)]
    exact ⟨sI τ 7 (nI a), rfl, ⟨h.1, h.2.1, rfl, h.2.2.2⟩, FrH.sI _ (by omega) (by omega)⟩
  · have q : 1 ≤ a ∧ a ≤ 5 := g2 (show 3 < 9 by decide)
    rw [show mA τ 32 k = nI a from s2 (show 3 < 9 by decide), P_in (show a < 6 by omega) (by decide), P_ix (show a < 2 ^ 31 by omega)]
    exact ⟨sA τ 1 a 1, rfl, h.vote a true, FrH.sA _ _ (by omega) (by omega)⟩
  · have q : 1 ≤ a ∧ a ≤ 5 := g2 (show 4 < 9 by decide)
    rw [show mA τ 32 k = nI a from s2 (show 4 < 9 by decide), P_in (show a < 6 by omega) (by decide), P_ix (show a < 2 ^ 31 by omega)]
    exact ⟨sA τ 1 a 0, rfl, h.vote a false, FrH.sA _ _ (by omega) (by omega)⟩
  · have q : 0 ≤ a ∧ a ≤ 59 := g2 (show 5 < 9 by decide)
    rw [show mA τ 32 k = nI a from s2 (show 5 < 9 by decide), P_in (show a < 60 by omega) (by decide), P_ix (show a < 2 ^ 31 by omega)]
    exact ⟨sA τ 2 a 1, rfl, h.loss a true, FrH.sA _ _ (by omega) (by omega)⟩
  · have q : 0 ≤ a ∧ a ≤ 59 := g2 (show 6 < 9 by decide)
    rw [show mA τ 32 k = nI a from s2 (show 6 < 9 by decide), P_in (show a < 60 by omega) (by decide), P_ix (show a < 2 ^ 31 by omega)]
    exact ⟨sA τ 2 a 0, rfl, h.loss a false, FrH.sA _ _ (by omega) (by omega)⟩
  · have q : 0 ≤ a ∧ a ≤ 5 := g2 (show 7 < 9 by decide)
    rw [show mA τ 32 k = nI a from s2 (show 7 < 9 by decide), show mA τ 33 k = nI b from (s3 rfl).1, show mA τ 34 k = nI c from (s3 rfl).2, P_in (show a < 6 by omega) (by decide), P_ix (show a < 2 ^ 31 by omega)]
    exact ⟨sA (sA τ 3 a (nI b)) 4 a (nI c), rfl, h.down a (some (b, c)) (fun z => by cases z) (fun d u z => by cases z; exact ⟨rfl, rfl⟩), (FrH.sA _ _ (by omega) (by omega)).tr (FrH.sA _ _ (by omega) (by omega))⟩
  · have q : 0 ≤ a ∧ a ≤ 5 := g2 (show 8 < 9 by decide)
    rw [show mA τ 32 k = nI a from s2 (show 8 < 9 by decide), P_in (show a < 6 by omega) (by decide), P_ix (show a < 2 ^ 31 by omega)]
    refine ⟨sA τ 3 a (-1), rfl, ?_, FrH.sA _ _ (by omega) (by omega)⟩
    obtain ⟨a1, a2, a3, a4, a5, a6, a7⟩ := h
    refine ⟨a1, a2, a3, a4, a5, a6, fun i hi => ?_⟩
    show (va_up (pd P) a none i = none → upd (mA τ 3) a (-1) i = -1) ∧ ∀ d u, va_up (pd P) a none i = some (d, u) → upd (mA τ 3) a (-1) i = nI d ∧ mA τ 4 i = nI u
    unfold va_up upd
    by_cases e : i = a
    · simp only [if_pos e]; exact ⟨fun _ => trivial, fun d u z => by cases z⟩
    · simp only [if_neg e]; exact a7 i hi
  · exact ⟨sI τ 8 1, rfl, ⟨h.1, h.2.1, h.2.2.1, rfl, h.2.2.2.2⟩, FrH.sI _ (by omega) (by omega)⟩
  · exact ⟨sI τ 8 0, rfl, ⟨h.1, h.2.1, h.2.2.1, rfl, h.2.2.2.2⟩, FrH.sI _ (by omega) (by omega)⟩
