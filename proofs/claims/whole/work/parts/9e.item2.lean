/-! STEPS: a text is read: one item, both sides -/
/-- nothing but the kept item changes in the reference -/
def KI (τ τ' : MS) (I : Nat) : Prop := mI τ' 37 = mI τ 37 ∧ ∀ r k, k ≠ I → mA τ' r k = mA τ r k
theorem KI.rf {τ : MS} {I : Nat} : KI τ τ I := ⟨rfl, fun _ _ _ => rfl⟩
theorem KI.tr {a b c : MS} {I : Nat} (h : KI a b I) (k : KI b c I) : KI a c I := ⟨k.1.trans h.1, fun r i hi => (k.2 r i hi).trans (h.2 r i hi)⟩
theorem KI.kr {τ τ' : MS} {I : Nat} (h : KR τ τ') : KI τ τ' I := ⟨h.1 37 (by decide), fun r k _ => congrFun (h.2 r) k⟩
theorem KI.sA {τ : MS} {I r : Nat} (v : Int32) : KI τ (sA τ r I v) I := ⟨rfl, fun q k hk => by
  show va_up τ.2.2.1 r (upd (τ.2.2.1 r) I v) q k = τ.2.2.1 q k
  unfold va_up
  by_cases e : q = r
  · rw [if_pos e, pk_un hk, e]
  · rw [if_neg e]⟩
section It
variable {j N : Nat} {σ0 : CS} {τ0 : MS}
/-- one number of an item, in the reference's row r, at its place I -/
theorem one_B (hx : TX j N σ0 τ0) {σ : CS} {τ : MS} {p k lo hi I : Nat} (h : RB σ0 τ0 N p σ τ) (hk : k < 3) (hlo : lo < 100) (hhi : hi < 100) (hI : mI τ 37 = nI I) :
    (∃ σ', cQ_readSign j 32 σ = some (false, σ') ∧ cI σ' 9 1 = nI p ∧ FQ σ0 σ' ∧ m_readsNumber (nI lo) (nI hi) τ = some (-1, τ) ∧ mI τ 35 = nI p) ∨
    (∃ σ1 σ' τ', cQ_readSign j 32 σ = some (true, σ1) ∧ cA σ1 13 = cA σ 13 ∧ cQ_readNumber j (nI k) (nI lo) (nI hi) σ1 = some (false, σ') ∧ cI σ' 9 1 = nI (p + 1) ∧ FQ σ0 σ' ∧ m_readsNumber (nI lo) (nI hi) τ = some (-1, τ') ∧ mI τ' 35 = nI (p + 1) ∧ mI τ' 37 = nI I ∧ FT τ0 τ') ∨
    (∃ v q σ1 σ' τ', lo ≤ v ∧ v ≤ hi ∧ p + 2 ≤ q ∧ cQ_readSign j 32 σ = some (true, σ1) ∧ cA σ1 13 = cA σ 13 ∧ cQ_readNumber j (nI k) (nI lo) (nI hi) σ1 = some (true, σ') ∧ m_readsNumber (nI lo) (nI hi) τ = some (nI v, τ') ∧ RB σ0 τ0 N q σ' τ' ∧ cA σ' 13 = upd (cA σ 13) k (nI v) ∧ (∀ i, 10 ≤ i → i ≤ 12 → sl σ' i = sl σ i) ∧ KR τ τ') := by
  rcases num_B hx h hk hlo hhi with ⟨σ', a1, a2, a3, a4, a5⟩ | ⟨σ1, a1, a2, a3, ⟨v, q, σ', τ', b1, b2, b3, b4, b5, b6, b7, b8, b9⟩ | ⟨σ', τ', b1, b2, b3, b4, b5, b6, b7⟩⟩
  · exact Or.inl ⟨σ', a1, a3, a5, a2, a4⟩
  · exact Or.inr (Or.inr ⟨v, q, σ1, σ', τ', b1, b2, by omega, a1, a2, b4, b5, b6, b7, b8, b9⟩)
  · exact Or.inr (Or.inl ⟨σ1, σ', τ', a1, a2, b1, b3, b5, b2, b4, (b7.1 37 (by decide)).trans hI, b6⟩)
/-- how reading an item ends -/
def ItO (σ0 : CS) (τ0 : MS) (N p I : Nat) (P : ZP) (sd : Int32) (τ : MS) (c : Option (Bool × CS)) (m : Option (Bool × MS)) : Prop :=
  (∃ x q σ' τ', xOkI x ∧ p + 2 ≤ q ∧ c = some (true, σ') ∧ m = some (true, τ') ∧ RB σ0 τ0 N q σ' τ' ∧ SetF 10 (xApp P x) sd σ' ∧ StI τ' I x ∧ KI τ τ' I) ∨
  (∃ f σ' τ', c = some (false, σ') ∧ m = some (false, τ') ∧ cI σ' 9 1 = nI f ∧ mI τ' 35 = nI f ∧ FQ σ0 σ' ∧ FT τ0 τ')
theorem b61_C {P : ZP} {sd : Int32} {σ : CS} (hF : SetF 10 P sd σ) {w a b c : Nat} (hx : xOkI (w, a, b, c)) (h2 : w < 9 → cA σ 13 0 = nI a) (h7 : w = 7 → cA σ 13 1 = nI b ∧ cA σ 13 2 = nI c) : ∃ σ', cQ_readItem_b61 j w σ = some (true, σ') ∧ SetF 10 (xApp P (w, a, b, c)) sd σ' ∧ ∀ i, i < 10 ∨ 12 < i → sl σ' i = sl σ i := by
  obtain ⟨σ', a1, a2, a3⟩ := app_C (p2 := cA σ 13 0) (p3 := cA σ 13 1) (p4 := cA σ 13 2) hF hx h2 h7
  refine ⟨σ', ?_, a2, a3⟩
  unfold cQ_readItem_b61
  rw [if_pos (show w < 11 from hx.1), if_pos (show inB 0 3 = true from rfl), if_pos (show inB 1 3 = true from rfl), if_pos (show inB 2 3 = true from rfl)]
  rw [show cS_apply 10 w (cA σ 13 (ix 0)) (cA σ 13 (ix 1)) (cA σ 13 (ix 2)) σ = some ((), σ') from a1, Option.bind_some]
theorem low_0 : ∀ w, w < 9 → itemLow.getD w 0 = nI (itLo w) ∧ itemHigh.getD w 0 = nI (itHi w) ∧ itLo w < 100 ∧ itHi w < 100 := by decide +kernel
theorem RB.upd10 {N p : Nat} {σ σ' : CS} {τ : MS} (h : RB σ0 τ0 N p σ τ) (hs : ∀ i, i < 10 ∨ 12 < i → sl σ' i = sl σ i) : RB σ0 τ0 N p σ' τ := ⟨fun c hc => (hs c (by omega)).trans (h.1 c hc), h.2.1, (sl_I (hs 9 (by omega)) 2).trans h.2.2.1, h.2.2.2.1, h.2.2.2.2.1, (sl_I (hs 9 (by omega)) 1).trans h.2.2.2.2.2⟩
/-- items with one number -/
theorem first_B (hx : TX j N σ0 τ0) {P : ZP} {sd : Int32} {σ : CS} {τ : MS} {p I w : Nat} (h : RB σ0 τ0 N p σ τ) (hF : SetF 10 P sd σ) (hw : w < 9) (h7 : w ≠ 7) (hI : mI τ 37 = nI I) (hI6 : I < 60) (h31 : mA τ 31 I = nI w) (fu : Nat) : ItO σ0 τ0 N p I P sd τ (cQ_readItem_l14 j (fu + 2) w 0 σ) (m_readsFirst (nI (itLo w)) (nI (itHi w)) τ) := by
  obtain ⟨l1, l2, l3, l4⟩ := low_0 w hw
  have n1 : itemNum.getD w 0 = 1 := by
    rcases w11 (show w < 11 by omega) with rfl | rfl | rfl | rfl | rfl | rfl | rfl | rfl | rfl | rfl | rfl <;> first | rfl | exact absurd rfl h7 | omega
  have hC : cQ_readItem_l14 j (fu + 2) w 0 σ = (cQ_readSign j 32 σ).bind fun a1 => if a1.1 = true then ((cQ_readNumber j 0 (nI (itLo w)) (nI (itHi w)) a1.2).bind fun a4 => if a4.1 = true then cQ_readItem_b61 j w a4.2 else some (false, a4.2)) else some (false, a1.2) := by
    rw [cQ_readItem_l14, if_pos (show w < 11 by omega), n1, if_neg (by decide)]
    refine congrArg (fun f => (cQ_readSign j 32 σ).bind f) (funext fun a1 => ?_)
    by_cases e : a1.1 = true
    · rw [if_pos e, if_pos e]
      unfold cQ_lowest cQ_highest
      rw [if_pos rfl, Option.bind_some, if_pos rfl, Option.bind_some, l1, l2]
      refine congrArg (fun f => (cQ_readNumber j 0 (nI (itLo w)) (nI (itHi w)) a1.2).bind f) (funext fun a4 => ?_)
      by_cases e4 : a4.1 = true
      · rw [if_pos e4, if_pos e4, cQ_readItem_l14, if_pos (show w < 11 by omega), n1, if_pos (by decide)]
      · rw [if_neg e4, if_neg e4]
    · rw [if_neg e, if_neg e]
  rw [hC]
  unfold m_readsFirst
  rcases one_B hx h (k := 0) (by omega) l3 l4 hI with ⟨σ', a1, a2, a3, a4, a5⟩ | ⟨σ1, σ', τ', a1, a2, a3, a4, a5, a6, a7, a8, a9⟩ | ⟨v, q, σ1, σ', τ', v1, v2, v3, a1, a2, a3, a4, a5, a6, a7, a8⟩
  · refine Or.inr ⟨p, σ', sA τ 32 I (-1), ?_, ?_, a2, a5, a3, h.2.1.row _ _ (by omega) (by omega)⟩
    · rw [a1, Option.bind_some, if_neg (show ¬ false = true by decide)]
    · rw [a4, Option.bind_some, hI, P_in hI6 (by decide), if_pos rfl, if_pos rfl, P_ix (show I < 2 ^ 31 by omega), mA_s, if_pos (show (-1 : Int32) < 0 by decide)]
  · refine Or.inr ⟨p + 1, σ', sA τ' 32 I (-1), ?_, ?_, a4, a7, a5, a9.row _ _ (by omega) (by omega)⟩
    · rw [a1, Option.bind_some, if_pos rfl]
      rw [show cQ_readNumber j 0 (nI (itLo w)) (nI (itHi w)) σ1 = some (false, σ') from a3, Option.bind_some, if_neg (show ¬ false = true by decide)]
    · rw [a6, Option.bind_some, a8, hI, P_in hI6 (by decide), if_pos rfl, if_pos rfl, P_ix (show I < 2 ^ 31 by omega), mA_s, if_pos (show (-1 : Int32) < 0 by decide)]
  · have hI' : mI τ' 37 = nI I := (a8.1 37 (by decide)).trans hI
    have ok : xOkI (w, v, 0, 0) := ⟨show w < 11 by omega, fun _ => ⟨v1, v2⟩, fun z => absurd z h7⟩
    have c13 : cA σ' 13 0 = nI v := by rw [a6]; exact pk_us
    obtain ⟨σ2, b1, b2, b3⟩ := b61_C (j := j) (hF.cong (a7 10 (by omega) (by omega)) (a7 11 (by omega) (by omega)) (a7 12 (by omega) (by omega))) ok (fun _ => c13) (fun z => absurd z h7)
    refine Or.inl ⟨(w, v, 0, 0), q, σ2, sA τ' 32 I (nI v), ok, v3, ?_, ?_, ?_, b2, ⟨?_, fun _ => mA_s, fun z => absurd z h7⟩, (KI.kr a8).tr (KI.sA _)⟩
    · rw [a1, Option.bind_some, if_pos rfl]
      rw [show cQ_readNumber j 0 (nI (itLo w)) (nI (itHi w)) σ1 = some (true, σ') from a3, Option.bind_some, if_pos rfl]
      exact b1
    · rw [a4, Option.bind_some, hI, P_in hI6 (by decide), if_pos rfl, hI', P_in hI6 (by decide), if_pos rfl, P_ix (show I < 2 ^ 31 by omega), mA_s, if_neg (Int32.not_lt.mpr (nI_pos' (by omega)))]
    · have r := a5.upd10 (σ' := σ2) b3
      exact ⟨r.1, r.2.1.row _ _ (by omega) (by omega), r.2.2⟩
    · show mA τ' 31 I = _
      rw [a8.2 31]; exact h31
end It
