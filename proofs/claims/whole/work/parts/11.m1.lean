abbrev M_m_no : JM := (cX10_no, 2, RX10, (some .int), 0, 0)
def m_no (p1 : Int32) (σ : MS) : Option (Int32 × MS) :=
  if inB (-p1) 8 = true then
  if inB (-p1) 8 = true then
  some (p1, sA σ 0 (ix (-p1)) (mA σ 0 (ix (-p1)) + 1))
  else none
  else none
theorem J_m_no {X : JX} {ad : Nat → Nat} (p1 : Int32) (σ : MS) : JO X M_m_no (QF X eI (wM ad (xZ X))) 0 [some (.ref (ad 0)), some (.int p1)] [] (wsM ad (xZ X) σ) (m_no p1 σ) := by
  unfold m_no
  refine JO.aloadn dX10_no_0 rfl ?_
  refine gM0 dX10_no_1 rfl ?_
  refine JO.iloadn dX10_no_4 rfl ?_
  refine JO.ineg dX10_no_5 ?_
  refine JO.dup2 dX10_no_6 rfl rfl ?_
  refine aM0 dX10_no_7 ?_
  refine JO.ic 1 dX10_no_8 (by decide) ?_
  refine JO.iadd dX10_no_9 ?_
  refine uM0 dX10_no_10 ?_
  refine JO.iloadn dX10_no_11 rfl ?_
  exact JO.iret dX10_no_12 rfl rfl rfl
theorem C_m_no {ad : Nat → Nat} {Z : ZT} (p1 : Int32) (σ : MS) : CO yX10_no M_m_no eI Z (wM ad Z) [.ref (ad 0), .int p1] (wsM ad Z σ) (m_no p1 σ) :=
  CO.of rfl rfl (Nat.le_of_ble_eq_true rfl) 0 (fun X hZ => by subst hZ; exact J_m_no _ σ)
theorem K_m_no : Kv yX10_no M_m_no RX10 1 := ⟨rfl, k5_139, s3_6, k1_10, k5_140, by decide +kernel⟩
abbrev M_m_isIn : JM := (cX10_isIn, 3, RX10, (some .boolean), 0, 0)
def m_isIn (p1 : Int32) (p2 : Int32) (p3 : Int32) (σ : MS) : Option (Bool × MS) :=
  if p1 < p2 then (
    some (false, σ))
  else (
    if p3 < p1 then (
      some (false, σ))
    else (
      some (true, σ)))
theorem J_m_isIn {X : JX} {ad : Nat → Nat} (p1 : Int32) (p2 : Int32) (p3 : Int32) (σ : MS) : JO X M_m_isIn (QF X eZ (wM ad (xZ X))) 0 [some (.int p1), some (.int p2), some (.int p3)] [] (wsM ad (xZ X) σ) (m_isIn p1 p2 p3 σ) := by
  unfold m_isIn
  refine JO.iloadn dX10_isIn_0 rfl ?_
  refine JO.iloadn dX10_isIn_1 rfl ?_
  refine JO.icmp_lt 14 dX10_isIn_2 rfl ?_ ?_
  · refine JO.ic 0 dX10_isIn_14 (by decide) ?_
    exact JO.zret (b := false) dX10_isIn_15 rfl rfl rfl
  · refine JO.iloadn dX10_isIn_5 rfl ?_
    refine JO.iloadn dX10_isIn_6 rfl ?_
    refine JO.icmp_gt 14 dX10_isIn_7 rfl ?_ ?_
    · refine JO.ic 0 dX10_isIn_14 (by decide) ?_
      exact JO.zret (b := false) dX10_isIn_15 rfl rfl rfl
    · refine JO.ic 1 dX10_isIn_10 (by decide) ?_
      refine JO.goto 15 dX10_isIn_11 rfl ?_
      exact JO.zret (b := true) dX10_isIn_15 rfl rfl rfl
theorem C_m_isIn {ad : Nat → Nat} {Z : ZT} (p1 : Int32) (p2 : Int32) (p3 : Int32) (σ : MS) : CO yX10_isIn M_m_isIn eZ Z (wM ad Z) [.int p1, .int p2, .int p3] (wsM ad Z σ) (m_isIn p1 p2 p3 σ) :=
  CO.of rfl rfl (Nat.le_of_ble_eq_true rfl) 0 (fun X hZ => by subst hZ; exact J_m_isIn _ _ _ σ)
theorem K_m_isIn : Ks yX10_isIn M_m_isIn 3 := ⟨k5_135, k1_10, k5_136, by decide +kernel⟩
abbrev M_m_isSite : JM := (cX10_isSite, 2, RX10, (some .boolean), 1, 22)
def m_isSite (p1 : Int32) (σ : MS) : Option (Bool × MS) :=
  (m_isIn p1 0 (mI σ 5) σ).bind fun a1 =>
  some (a1.1, a1.2)
theorem J_m_isSite {X : JX} {ad : Nat → Nat} (p1 : Int32) (σ : MS) : JO X M_m_isSite (QF X eZ (wM ad (xZ X))) 0 [some (.ref (ad 0)), some (.int p1)] [] (wsM ad (xZ X) σ) (m_isSite p1 σ) := by
  unfold m_isSite
  refine JO.iloadn dX10_isSite_0 rfl ?_
  refine JO.ic 0 dX10_isSite_1 (by decide) ?_
  refine JO.aloadn dX10_isSite_2 rfl ?_
  refine gM5 dX10_isSite_3 rfl ?_
  refine JO.msz (C_m_isIn _ _ _ _) K_m_isIn k5_134 rfl rfl rfl (Nat.le_of_ble_eq_true rfl) dX10_isSite_6 (fun a1 => ?_)
  exact JO.zret (b := a1.1) dX10_isSite_9 rfl rfl rfl
theorem C_m_isSite {ad : Nat → Nat} {Z : ZT} (p1 : Int32) (σ : MS) : CO yX10_isSite M_m_isSite eZ Z (wM ad Z) [.ref (ad 0), .int p1] (wsM ad Z σ) (m_isSite p1 σ) :=
  CO.of rfl rfl (Nat.le_of_ble_eq_true rfl) 0 (fun X hZ => by subst hZ; exact J_m_isSite _ σ)
theorem K_m_isSite : Kv yX10_isSite M_m_isSite RX10 1 := ⟨rfl, k6_153, s6_3, k1_10, k6_154, by decide +kernel⟩
abbrev M_m_isTick : JM := (cX10_isTick, 1, RX10, (some .boolean), 1, 22)
def m_isTick (p1 : Int32) (σ : MS) : Option (Bool × MS) :=
  (m_isIn p1 0 60 σ).bind fun a1 =>
  some (a1.1, a1.2)
theorem J_m_isTick {X : JX} {ad : Nat → Nat} (p1 : Int32) (σ : MS) : JO X M_m_isTick (QF X eZ (wM ad (xZ X))) 0 [some (.int p1)] [] (wsM ad (xZ X) σ) (m_isTick p1 σ) := by
  unfold m_isTick
  refine JO.iloadn dX10_isTick_0 rfl ?_
  refine JO.ic 0 dX10_isTick_1 (by decide) ?_
  refine JO.bip 60 dX10_isTick_2 (by decide) ?_
  refine JO.msz (C_m_isIn _ _ _ _) K_m_isIn k5_134 rfl rfl rfl (Nat.le_of_ble_eq_true rfl) dX10_isTick_4 (fun a1 => ?_)
  exact JO.zret (b := a1.1) dX10_isTick_7 rfl rfl rfl
theorem C_m_isTick {ad : Nat → Nat} {Z : ZT} (p1 : Int32) (σ : MS) : CO yX10_isTick M_m_isTick eZ Z (wM ad Z) [.int p1] (wsM ad Z σ) (m_isTick p1 σ) :=
  CO.of rfl rfl (Nat.le_of_ble_eq_true rfl) 0 (fun X hZ => by subst hZ; exact J_m_isTick _ σ)
theorem K_m_isTick : Ks yX10_isTick M_m_isTick 1 := ⟨k6_156, k1_10, k6_157, by decide +kernel⟩
abbrev M_m_isDown : JM := (cX10_isDown, 2, RX10, (some .boolean), 1, 22)
def m_isDown (p1 : Int32) (p2 : Int32) (σ : MS) : Option (Bool × MS) :=
  if p1 = (-1) then (
    some (true, σ))
  else (
    (m_isIn p1 0 60 σ).bind fun a1 =>
    if a1.1 = true then (
      (m_isIn p2 0 60 a1.2).bind fun a2 =>
      if a2.1 = true then (
        if p2 ≤ p1 then (
          some (false, a2.2))
        else (
          some (true, a2.2)))
      else (
        some (false, a2.2)))
    else (
      some (false, a1.2)))
theorem J_m_isDown {X : JX} {ad : Nat → Nat} (p1 : Int32) (p2 : Int32) (σ : MS) : JO X M_m_isDown (QF X eZ (wM ad (xZ X))) 0 [some (.int p1), some (.int p2)] [] (wsM ad (xZ X) σ) (m_isDown p1 p2 σ) := by
  unfold m_isDown
  refine JO.iloadn dX10_isDown_0 rfl ?_
  refine JO.ic (-1) dX10_isDown_1 (by decide) ?_
  refine JO.icmp_eq 30 dX10_isDown_2 rfl ?_ ?_
  · refine JO.ic 1 dX10_isDown_30 (by decide) ?_
    refine JO.goto 35 dX10_isDown_31 rfl ?_
    exact JO.zret (b := true) dX10_isDown_35 rfl rfl rfl
  · refine JO.iloadn dX10_isDown_5 rfl ?_
    refine JO.ic 0 dX10_isDown_6 (by decide) ?_
    refine JO.bip 60 dX10_isDown_7 (by decide) ?_
    refine JO.msz (C_m_isIn _ _ _ _) K_m_isIn k5_134 rfl rfl rfl (Nat.le_of_ble_eq_true rfl) dX10_isDown_9 (fun a1 => ?_)
    refine JO.zeq 34 dX10_isDown_12 rfl ?_ ?_
    · refine JO.ic 0 dX10_isDown_34 (by decide) ?_
      exact JO.zret (b := false) dX10_isDown_35 rfl rfl rfl
    · refine JO.iloadn dX10_isDown_15 rfl ?_
      refine JO.ic 0 dX10_isDown_16 (by decide) ?_
      refine JO.bip 60 dX10_isDown_17 (by decide) ?_
      refine JO.msz (C_m_isIn _ _ _ _) K_m_isIn k5_134 rfl rfl rfl (Nat.le_of_ble_eq_true rfl) dX10_isDown_19 (fun a2 => ?_)
      refine JO.zeq 34 dX10_isDown_22 rfl ?_ ?_
      · refine JO.ic 0 dX10_isDown_34 (by decide) ?_
        exact JO.zret (b := false) dX10_isDown_35 rfl rfl rfl
      · refine JO.iloadn dX10_isDown_25 rfl ?_
        refine JO.iloadn dX10_isDown_26 rfl ?_
        refine JO.icmp_ge 34 dX10_isDown_27 rfl ?_ ?_
        · refine JO.ic 0 dX10_isDown_34 (by decide) ?_
          exact JO.zret (b := false) dX10_isDown_35 rfl rfl rfl
        · refine JO.ic 1 dX10_isDown_30 (by decide) ?_
          refine JO.goto 35 dX10_isDown_31 rfl ?_
          exact JO.zret (b := true) dX10_isDown_35 rfl rfl rfl
theorem C_m_isDown {ad : Nat → Nat} {Z : ZT} (p1 : Int32) (p2 : Int32) (σ : MS) : CO yX10_isDown M_m_isDown eZ Z (wM ad Z) [.int p1, .int p2] (wsM ad Z σ) (m_isDown p1 p2 σ) :=
  CO.of rfl rfl (Nat.le_of_ble_eq_true rfl) 0 (fun X hZ => by subst hZ; exact J_m_isDown _ _ σ)
theorem K_m_isDown : Ks yX10_isDown M_m_isDown 2 := ⟨k6_140, k1_10, k6_141, by decide +kernel⟩
abbrev M_m_sends : JM := (cX10_sends, 4, RX10, none, 0, 0)
def m_sends (p1 : Int32) (p2 : Int32) (p3 : Int32) (σ : MS) : Option (Unit × MS) :=
  if mI σ 21 = 200 then (
    some ((), σ))
  else (
    if inB (mI σ 21) 200 = true then
    if inB (mI σ 21) 200 = true then
    if inB (mI σ 21) 200 = true then
    if inB (mI σ 21) 200 = true then
    if inB (mI σ 21) 200 = true then
    some ((), sI (sA (sA (sA (sA (sA σ 16 (ix (mI σ 21)) p1) 17 (ix (mI σ 21)) p2) 18 (ix (mI σ 21)) p3) 19 (ix (mI σ 21)) (mI σ 22)) 20 (ix (mI σ 21)) 3) 21 (mI σ 21 + 1))
    else none
    else none
    else none
    else none
    else none)
theorem J_m_sends {X : JX} {ad : Nat → Nat} (p1 : Int32) (p2 : Int32) (p3 : Int32) (σ : MS) : JO X M_m_sends (QF X eV (wM ad (xZ X))) 0 [some (.ref (ad 0)), some (.int p1), some (.int p2), some (.int p3)] [] (wsM ad (xZ X) σ) (m_sends p1 p2 p3 σ) := by
  unfold m_sends
  refine JO.aloadn dX10_sends_0 rfl ?_
  refine gM21 dX10_sends_1 rfl ?_
  refine JO.sip 200 dX10_sends_4 (by decide) ?_
  refine JO.icmp_ne 11 dX10_sends_7 rfl ?_ ?_
  · refine JO.aloadn dX10_sends_11 rfl ?_
    refine gM16 dX10_sends_12 rfl ?_
    refine JO.aloadn dX10_sends_15 rfl ?_
    refine gM21 dX10_sends_16 rfl ?_
    refine JO.iloadn dX10_sends_19 rfl ?_
    refine uM16 dX10_sends_20 ?_
    refine JO.aloadn dX10_sends_21 rfl ?_
    refine gM17 dX10_sends_22 rfl ?_
    refine JO.aloadn dX10_sends_25 rfl ?_
    refine gM21 dX10_sends_26 rfl ?_
    refine JO.iloadn dX10_sends_29 rfl ?_
    refine uM17 dX10_sends_30 ?_
    refine JO.aloadn dX10_sends_31 rfl ?_
    refine gM18 dX10_sends_32 rfl ?_
    refine JO.aloadn dX10_sends_35 rfl ?_
    refine gM21 dX10_sends_36 rfl ?_
    refine JO.iloadn dX10_sends_39 rfl ?_
    refine uM18 dX10_sends_40 ?_
    refine JO.aloadn dX10_sends_41 rfl ?_
    refine gM19 dX10_sends_42 rfl ?_
    refine JO.aloadn dX10_sends_45 rfl ?_
    refine gM21 dX10_sends_46 rfl ?_
    refine JO.aloadn dX10_sends_49 rfl ?_
    refine gM22 dX10_sends_50 rfl ?_
    refine uM19 dX10_sends_53 ?_
    refine JO.aloadn dX10_sends_54 rfl ?_
    refine gM20 dX10_sends_55 rfl ?_
    refine JO.aloadn dX10_sends_58 rfl ?_
    refine gM21 dX10_sends_59 rfl ?_
    refine JO.ic 3 dX10_sends_62 (by decide) ?_
    refine uM20 dX10_sends_63 ?_
    refine JO.aloadn dX10_sends_64 rfl ?_
    refine JO.dup dX10_sends_65 rfl ?_
    refine gM21 dX10_sends_66 rfl ?_
    refine JO.ic 1 dX10_sends_69 (by decide) ?_
    refine JO.iadd dX10_sends_70 ?_
    refine pM21 dX10_sends_71 rfl ?_
    exact JO.vret dX10_sends_74 rfl rfl rfl
  · exact JO.vret dX10_sends_10 rfl rfl rfl
theorem C_m_sends {ad : Nat → Nat} {Z : ZT} (p1 : Int32) (p2 : Int32) (p3 : Int32) (σ : MS) : CO yX10_sends M_m_sends eV Z (wM ad Z) [.ref (ad 0), .int p1, .int p2, .int p3] (wsM ad Z σ) (m_sends p1 p2 p3 σ) :=
  CO.of rfl rfl (Nat.le_of_ble_eq_true rfl) 0 (fun X hZ => by subst hZ; exact J_m_sends _ _ _ σ)
theorem K_m_sends : Kv yX10_sends M_m_sends RX10 3 := ⟨rfl, k5_202, s4_1, k1_10, k5_203, by decide +kernel⟩
abbrev M_m_sendsAll : JM := (cX10_sendsAll, 3, RX10, none, 1, 23)
def m_sendsAll_l2 : Nat → Int32 → Int32 → MS → Option (Unit × MS)
  | 0, _, _, _ => none
  | n + 1, x1, x2, σ =>
    if mI σ 5 < x2 then (
      some ((), σ))
    else (
      (m_sends x1 0 x2 σ).bind fun a1 =>
      m_sendsAll_l2 n x1 (x2 + 1) a1.2)
def m_sendsAll (p1 : Int32) (σ : MS) : Option (Unit × MS) :=
  m_sendsAll_l2 4096 p1 1 σ
theorem J_m_sendsAll_l2 {X : JX} {ad : Nat → Nat} : ∀ (n : Nat) (x1 : Int32) (x2 : Int32) (σ : MS), JO X M_m_sendsAll (QF X eV (wM ad (xZ X))) 2 [some (.ref (ad 0)), some (.int x1), some (.int x2)] [] (wsM ad (xZ X) σ) (m_sendsAll_l2 n x1 x2 σ) := by
  intro n
  induction n with
  | zero => intro x1 x2 σ; exact JO.nil
  | succ n ih =>
    intro x1 x2 σ
    unfold m_sendsAll_l2
    refine JO.iloadn dX10_sendsAll_2 rfl ?_
    refine JO.aloadn dX10_sendsAll_3 rfl ?_
    refine gM5 dX10_sendsAll_4 rfl ?_
    refine JO.icmp_gt 23 dX10_sendsAll_7 rfl ?_ ?_
    · exact JO.vret dX10_sendsAll_23 rfl rfl rfl
    · refine JO.aloadn dX10_sendsAll_10 rfl ?_
      refine JO.iloadn dX10_sendsAll_11 rfl ?_
      refine JO.ic 0 dX10_sendsAll_12 (by decide) ?_
      refine JO.iloadn dX10_sendsAll_13 rfl ?_
      refine JO.mvv (C_m_sends _ _ _ _) K_m_sends k5_200 rfl rfl rfl (Nat.le_of_ble_eq_true rfl) dX10_sendsAll_14 (fun a1 => ?_)
      refine JO.iinc dX10_sendsAll_17 rfl 1 (by decide) rfl rfl ?_
      refine JO.goto 2 dX10_sendsAll_20 rfl ?_
      exact (ih _ _ _).jump (lvLe.so rfl (lvLe.so rfl (lvLe.so rfl (lvLe.nil))))
theorem J_m_sendsAll {X : JX} {ad : Nat → Nat} (p1 : Int32) (σ : MS) : JO X M_m_sendsAll (QF X eV (wM ad (xZ X))) 0 [some (.ref (ad 0)), some (.int p1), none] [] (wsM ad (xZ X) σ) (m_sendsAll p1 σ) := by
  unfold m_sendsAll
  refine JO.ic 1 dX10_sendsAll_0 (by decide) ?_
  refine JO.istoren dX10_sendsAll_1 rfl rfl ?_
  exact (J_m_sendsAll_l2 4096 _ _ _).jump (lvLe.so rfl (lvLe.so rfl (lvLe.so rfl (lvLe.nil))))
theorem C_m_sendsAll {ad : Nat → Nat} {Z : ZT} (p1 : Int32) (σ : MS) : CO yX10_sendsAll M_m_sendsAll eV Z (wM ad Z) [.ref (ad 0), .int p1] (wsM ad Z σ) (m_sendsAll p1 σ) :=
  CO.of rfl rfl (Nat.le_of_ble_eq_true rfl) 1 (fun X hZ => by subst hZ; exact J_m_sendsAll _ σ)
theorem K_m_sendsAll : Kv yX10_sendsAll M_m_sendsAll RX10 1 := ⟨rfl, k5_198, s4_0, k1_10, k5_199, by decide +kernel⟩
abbrev M_m_notes : JM := (cX10_notes, 3, RX10, none, 0, 0)
def m_notes (p1 : Int32) (p2 : Int32) (σ : MS) : Option (Unit × MS) :=
  if inB p1 6 = true then
  if inB ((20 * p1) + mA σ 14 (ix p1)) 120 = true then
  if inB p1 6 = true then
  if inB p1 6 = true then
  some ((), sA (sA σ 13 (ix ((20 * p1) + mA σ 14 (ix p1))) p2) 14 (ix p1) (mA σ 14 (ix p1) + 1))
  else none
  else none
  else none
  else none
theorem J_m_notes {X : JX} {ad : Nat → Nat} (p1 : Int32) (p2 : Int32) (σ : MS) : JO X M_m_notes (QF X eV (wM ad (xZ X))) 0 [some (.ref (ad 0)), some (.int p1), some (.int p2)] [] (wsM ad (xZ X) σ) (m_notes p1 p2 σ) := by
  unfold m_notes
  refine JO.aloadn dX10_notes_0 rfl ?_
  refine gM13 dX10_notes_1 rfl ?_
  refine JO.bip 20 dX10_notes_4 (by decide) ?_
  refine JO.iloadn dX10_notes_6 rfl ?_
  refine JO.imul dX10_notes_7 ?_
  refine JO.aloadn dX10_notes_8 rfl ?_
  refine gM14 dX10_notes_9 rfl ?_
  refine JO.iloadn dX10_notes_12 rfl ?_
  refine aM14 dX10_notes_13 ?_
  refine JO.iadd dX10_notes_14 ?_
  refine JO.iloadn dX10_notes_15 rfl ?_
  refine uM13 dX10_notes_16 ?_
  refine JO.aloadn dX10_notes_17 rfl ?_
  refine gM14 dX10_notes_18 rfl ?_
  refine JO.iloadn dX10_notes_21 rfl ?_
  refine JO.dup2 dX10_notes_22 rfl rfl ?_
  refine aM14 dX10_notes_23 ?_
  refine JO.ic 1 dX10_notes_24 (by decide) ?_
  refine JO.iadd dX10_notes_25 ?_
  refine uM14 dX10_notes_26 ?_
  exact JO.vret dX10_notes_27 rfl rfl rfl
theorem C_m_notes {ad : Nat → Nat} {Z : ZT} (p1 : Int32) (p2 : Int32) (σ : MS) : CO yX10_notes M_m_notes eV Z (wM ad Z) [.ref (ad 0), .int p1, .int p2] (wsM ad Z σ) (m_notes p1 p2 σ) :=
  CO.of rfl rfl (Nat.le_of_ble_eq_true rfl) 0 (fun X hZ => by subst hZ; exact J_m_notes _ _ σ)
theorem K_m_notes : Kv yX10_notes M_m_notes RX10 2 := ⟨rfl, k5_214, s4_4, k1_10, k5_215, by decide +kernel⟩
abbrev M_m_startsTimer : JM := (cX10_startsTimer, 2, RX10, none, 0, 0)
def m_startsTimer (p1 : Int32) (σ : MS) : Option (Unit × MS) :=
  if inB p1 6 = true then
  some ((), sA σ 12 (ix p1) (mI σ 22 + mI σ 7))
  else none
theorem J_m_startsTimer {X : JX} {ad : Nat → Nat} (p1 : Int32) (σ : MS) : JO X M_m_startsTimer (QF X eV (wM ad (xZ X))) 0 [some (.ref (ad 0)), some (.int p1)] [] (wsM ad (xZ X) σ) (m_startsTimer p1 σ) := by
  unfold m_startsTimer
  refine JO.aloadn dX10_startsTimer_0 rfl ?_
  refine gM12 dX10_startsTimer_1 rfl ?_
  refine JO.iloadn dX10_startsTimer_4 rfl ?_
  refine JO.aloadn dX10_startsTimer_5 rfl ?_
  refine gM22 dX10_startsTimer_6 rfl ?_
  refine JO.aloadn dX10_startsTimer_9 rfl ?_
  refine gM7 dX10_startsTimer_10 rfl ?_
  refine JO.iadd dX10_startsTimer_13 ?_
  refine uM12 dX10_startsTimer_14 ?_
  exact JO.vret dX10_startsTimer_15 rfl rfl rfl
theorem C_m_startsTimer {ad : Nat → Nat} {Z : ZT} (p1 : Int32) (σ : MS) : CO yX10_startsTimer M_m_startsTimer eV Z (wM ad Z) [.ref (ad 0), .int p1] (wsM ad Z σ) (m_startsTimer p1 σ) :=
  CO.of rfl rfl (Nat.le_of_ble_eq_true rfl) 0 (fun X hZ => by subst hZ; exact J_m_startsTimer _ σ)
theorem K_m_startsTimer : Kv yX10_startsTimer M_m_startsTimer RX10 1 := ⟨rfl, k5_206, s4_2, k1_10, k5_207, by decide +kernel⟩
abbrev M_m_decidesCommit : JM := (cX10_decidesCommit, 1, RX10, none, 2, 45)
def m_decidesCommit (σ : MS) : Option (Unit × MS) :=
  (m_notes 0 4 (sI σ 24 6)).bind fun a1 =>
  if inB 0 6 = true then
  (m_sendsAll 6 (sA a1.2 10 (ix 0) 3)).bind fun a2 =>
  (m_startsTimer 0 a2.2).bind fun a3 =>
  some ((), a3.2)
  else none
theorem J_m_decidesCommit {X : JX} {ad : Nat → Nat} (σ : MS) : JO X M_m_decidesCommit (QF X eV (wM ad (xZ X))) 0 [some (.ref (ad 0))] [] (wsM ad (xZ X) σ) (m_decidesCommit σ) := by
  unfold m_decidesCommit
  refine JO.aloadn dX10_decidesCommit_0 rfl ?_
  refine JO.bip 6 dX10_decidesCommit_1 (by decide) ?_
  refine pM24 dX10_decidesCommit_3 rfl ?_
  refine JO.aloadn dX10_decidesCommit_6 rfl ?_
  refine JO.ic 0 dX10_decidesCommit_7 (by decide) ?_
  refine JO.ic 4 dX10_decidesCommit_8 (by decide) ?_
  refine JO.mvv (C_m_notes _ _ _) K_m_notes k5_212 rfl rfl rfl (Nat.le_of_ble_eq_true rfl) dX10_decidesCommit_9 (fun a1 => ?_)
  refine JO.aloadn dX10_decidesCommit_12 rfl ?_
  refine gM10 dX10_decidesCommit_13 rfl ?_
  refine JO.ic 0 dX10_decidesCommit_16 (by decide) ?_
  refine JO.ic 3 dX10_decidesCommit_17 (by decide) ?_
  refine uM10 dX10_decidesCommit_18 ?_
  refine JO.aloadn dX10_decidesCommit_19 rfl ?_
  refine JO.bip 6 dX10_decidesCommit_20 (by decide) ?_
  refine JO.mvv (C_m_sendsAll _ _) K_m_sendsAll k5_196 rfl rfl rfl (Nat.le_of_ble_eq_true rfl) dX10_decidesCommit_22 (fun a2 => ?_)
  refine JO.aloadn dX10_decidesCommit_25 rfl ?_
  refine JO.ic 0 dX10_decidesCommit_26 (by decide) ?_
  refine JO.mvv (C_m_startsTimer _ _) K_m_startsTimer k5_204 rfl rfl rfl (Nat.le_of_ble_eq_true rfl) dX10_decidesCommit_27 (fun a3 => ?_)
  exact JO.vret dX10_decidesCommit_30 rfl rfl rfl
theorem C_m_decidesCommit {ad : Nat → Nat} {Z : ZT} (σ : MS) : CO yX10_decidesCommit M_m_decidesCommit eV Z (wM ad Z) [.ref (ad 0)] (wsM ad Z σ) (m_decidesCommit σ) :=
  CO.of rfl rfl (Nat.le_of_ble_eq_true rfl) 0 (fun X hZ => by subst hZ; exact J_m_decidesCommit σ)
theorem K_m_decidesCommit : Kv yX10_decidesCommit M_m_decidesCommit RX10 0 := ⟨rfl, k5_234, s4_9, k1_10, k5_235, by decide +kernel⟩
abbrev M_m_decidesAbort : JM := (cX10_decidesAbort, 1, RX10, none, 2, 45)
def m_decidesAbort (σ : MS) : Option (Unit × MS) :=
  if mI σ 8 = 1 then (
    if inB 0 6 = true then
    (m_sendsAll 7 (sA (sI σ 24 7) 10 (ix 0) 5)).bind fun a4 =>
    if inB 0 6 = true then
    some ((), sA a4.2 12 (ix 0) 1000)
    else none
    else none)
  else (
    (m_notes 0 5 (sI σ 24 7)).bind fun a1 =>
    if inB 0 6 = true then
    (m_sendsAll 7 (sA a1.2 10 (ix 0) 4)).bind fun a2 =>
    (m_startsTimer 0 a2.2).bind fun a3 =>
    some ((), a3.2)
    else none)
theorem J_m_decidesAbort {X : JX} {ad : Nat → Nat} (σ : MS) : JO X M_m_decidesAbort (QF X eV (wM ad (xZ X))) 0 [some (.ref (ad 0))] [] (wsM ad (xZ X) σ) (m_decidesAbort σ) := by
  unfold m_decidesAbort
  refine JO.aloadn dX10_decidesAbort_0 rfl ?_
  refine JO.bip 7 dX10_decidesAbort_1 (by decide) ?_
  refine pM24 dX10_decidesAbort_3 rfl ?_
  refine JO.aloadn dX10_decidesAbort_6 rfl ?_
  refine gM8 dX10_decidesAbort_7 rfl ?_
  refine JO.ic 1 dX10_decidesAbort_10 (by decide) ?_
  refine JO.icmp_ne 37 dX10_decidesAbort_11 rfl ?_ ?_
  · refine JO.aloadn dX10_decidesAbort_37 rfl ?_
    refine JO.ic 0 dX10_decidesAbort_38 (by decide) ?_
    refine JO.ic 5 dX10_decidesAbort_39 (by decide) ?_
    refine JO.mvv (C_m_notes _ _ _) K_m_notes k5_212 rfl rfl rfl (Nat.le_of_ble_eq_true rfl) dX10_decidesAbort_40 (fun a1 => ?_)
    refine JO.aloadn dX10_decidesAbort_43 rfl ?_
    refine gM10 dX10_decidesAbort_44 rfl ?_
    refine JO.ic 0 dX10_decidesAbort_47 (by decide) ?_
    refine JO.ic 4 dX10_decidesAbort_48 (by decide) ?_
    refine uM10 dX10_decidesAbort_49 ?_
    refine JO.aloadn dX10_decidesAbort_50 rfl ?_
    refine JO.bip 7 dX10_decidesAbort_51 (by decide) ?_
    refine JO.mvv (C_m_sendsAll _ _) K_m_sendsAll k5_196 rfl rfl rfl (Nat.le_of_ble_eq_true rfl) dX10_decidesAbort_53 (fun a2 => ?_)
    refine JO.aloadn dX10_decidesAbort_56 rfl ?_
    refine JO.ic 0 dX10_decidesAbort_57 (by decide) ?_
    refine JO.mvv (C_m_startsTimer _ _) K_m_startsTimer k5_204 rfl rfl rfl (Nat.le_of_ble_eq_true rfl) dX10_decidesAbort_58 (fun a3 => ?_)
    exact JO.vret dX10_decidesAbort_61 rfl rfl rfl
  · refine JO.aloadn dX10_decidesAbort_14 rfl ?_
    refine gM10 dX10_decidesAbort_15 rfl ?_
    refine JO.ic 0 dX10_decidesAbort_18 (by decide) ?_
    refine JO.ic 5 dX10_decidesAbort_19 (by decide) ?_
    refine uM10 dX10_decidesAbort_20 ?_
    refine JO.aloadn dX10_decidesAbort_21 rfl ?_
    refine JO.bip 7 dX10_decidesAbort_22 (by decide) ?_
    refine JO.mvv (C_m_sendsAll _ _) K_m_sendsAll k5_196 rfl rfl rfl (Nat.le_of_ble_eq_true rfl) dX10_decidesAbort_24 (fun a4 => ?_)
    refine JO.aloadn dX10_decidesAbort_27 rfl ?_
    refine gM12 dX10_decidesAbort_28 rfl ?_
    refine JO.ic 0 dX10_decidesAbort_31 (by decide) ?_
    refine JO.sip 1000 dX10_decidesAbort_32 (by decide) ?_
    refine uM12 dX10_decidesAbort_35 ?_
    exact JO.vret dX10_decidesAbort_36 rfl rfl rfl
theorem C_m_decidesAbort {ad : Nat → Nat} {Z : ZT} (σ : MS) : CO yX10_decidesAbort M_m_decidesAbort eV Z (wM ad Z) [.ref (ad 0)] (wsM ad Z σ) (m_decidesAbort σ) :=
  CO.of rfl rfl (Nat.le_of_ble_eq_true rfl) 0 (fun X hZ => by subst hZ; exact J_m_decidesAbort σ)
theorem K_m_decidesAbort : Kv yX10_decidesAbort M_m_decidesAbort RX10 0 := ⟨rfl, k5_210, s4_3, k1_10, k5_211, by decide +kernel⟩
abbrev M_m_beginsCoordinator : JM := (cX10_beginsCoordinator, 1, RX10, none, 2, 45)
def m_beginsCoordinator (σ : MS) : Option (Unit × MS) :=
  (m_notes 0 1 σ).bind fun a1 =>
  if inB 0 6 = true then
  (m_sendsAll 1 (sA a1.2 10 (ix 0) 1)).bind fun a2 =>
  (m_startsTimer 0 a2.2).bind fun a3 =>
  some ((), a3.2)
  else none
theorem J_m_beginsCoordinator {X : JX} {ad : Nat → Nat} (σ : MS) : JO X M_m_beginsCoordinator (QF X eV (wM ad (xZ X))) 0 [some (.ref (ad 0))] [] (wsM ad (xZ X) σ) (m_beginsCoordinator σ) := by
  unfold m_beginsCoordinator
  refine JO.aloadn dX10_beginsCoordinator_0 rfl ?_
  refine JO.ic 0 dX10_beginsCoordinator_1 (by decide) ?_
  refine JO.ic 1 dX10_beginsCoordinator_2 (by decide) ?_
  refine JO.mvv (C_m_notes _ _ _) K_m_notes k5_212 rfl rfl rfl (Nat.le_of_ble_eq_true rfl) dX10_beginsCoordinator_3 (fun a1 => ?_)
  refine JO.aloadn dX10_beginsCoordinator_6 rfl ?_
  refine gM10 dX10_beginsCoordinator_7 rfl ?_
  refine JO.ic 0 dX10_beginsCoordinator_10 (by decide) ?_
  refine JO.ic 1 dX10_beginsCoordinator_11 (by decide) ?_
  refine uM10 dX10_beginsCoordinator_12 ?_
  refine JO.aloadn dX10_beginsCoordinator_13 rfl ?_
  refine JO.ic 1 dX10_beginsCoordinator_14 (by decide) ?_
  refine JO.mvv (C_m_sendsAll _ _) K_m_sendsAll k5_196 rfl rfl rfl (Nat.le_of_ble_eq_true rfl) dX10_beginsCoordinator_15 (fun a2 => ?_)
  refine JO.aloadn dX10_beginsCoordinator_18 rfl ?_
  refine JO.ic 0 dX10_beginsCoordinator_19 (by decide) ?_
  refine JO.mvv (C_m_startsTimer _ _) K_m_startsTimer k5_204 rfl rfl rfl (Nat.le_of_ble_eq_true rfl) dX10_beginsCoordinator_20 (fun a3 => ?_)
  exact JO.vret dX10_beginsCoordinator_23 rfl rfl rfl
theorem C_m_beginsCoordinator {ad : Nat → Nat} {Z : ZT} (σ : MS) : CO yX10_beginsCoordinator M_m_beginsCoordinator eV Z (wM ad Z) [.ref (ad 0)] (wsM ad Z σ) (m_beginsCoordinator σ) :=
  CO.of rfl rfl (Nat.le_of_ble_eq_true rfl) 0 (fun X hZ => by subst hZ; exact J_m_beginsCoordinator σ)
theorem K_m_beginsCoordinator : Kv yX10_beginsCoordinator M_m_beginsCoordinator RX10 0 := ⟨rfl, k6_30, s5_2, k1_10, k6_31, by decide +kernel⟩
abbrev M_m_becomesPre : JM := (cX10_becomesPre, 1, RX10, none, 2, 45)
def m_becomesPre (σ : MS) : Option (Unit × MS) :=
  (m_notes 0 3 σ).bind fun a1 =>
  if inB 0 6 = true then
  (m_sendsAll 4 (sA a1.2 10 (ix 0) 2)).bind fun a2 =>
  (m_startsTimer 0 a2.2).bind fun a3 =>
  some ((), a3.2)
  else none
theorem J_m_becomesPre {X : JX} {ad : Nat → Nat} (σ : MS) : JO X M_m_becomesPre (QF X eV (wM ad (xZ X))) 0 [some (.ref (ad 0))] [] (wsM ad (xZ X) σ) (m_becomesPre σ) := by
  unfold m_becomesPre
  refine JO.aloadn dX10_becomesPre_0 rfl ?_
  refine JO.ic 0 dX10_becomesPre_1 (by decide) ?_
  refine JO.ic 3 dX10_becomesPre_2 (by decide) ?_
  refine JO.mvv (C_m_notes _ _ _) K_m_notes k5_212 rfl rfl rfl (Nat.le_of_ble_eq_true rfl) dX10_becomesPre_3 (fun a1 => ?_)
  refine JO.aloadn dX10_becomesPre_6 rfl ?_
  refine gM10 dX10_becomesPre_7 rfl ?_
  refine JO.ic 0 dX10_becomesPre_10 (by decide) ?_
  refine JO.ic 2 dX10_becomesPre_11 (by decide) ?_
  refine uM10 dX10_becomesPre_12 ?_
  refine JO.aloadn dX10_becomesPre_13 rfl ?_
  refine JO.ic 4 dX10_becomesPre_14 (by decide) ?_
  refine JO.mvv (C_m_sendsAll _ _) K_m_sendsAll k5_196 rfl rfl rfl (Nat.le_of_ble_eq_true rfl) dX10_becomesPre_15 (fun a2 => ?_)
  refine JO.aloadn dX10_becomesPre_18 rfl ?_
  refine JO.ic 0 dX10_becomesPre_19 (by decide) ?_
  refine JO.mvv (C_m_startsTimer _ _) K_m_startsTimer k5_204 rfl rfl rfl (Nat.le_of_ble_eq_true rfl) dX10_becomesPre_20 (fun a3 => ?_)
  exact JO.vret dX10_becomesPre_23 rfl rfl rfl
theorem C_m_becomesPre {ad : Nat → Nat} {Z : ZT} (σ : MS) : CO yX10_becomesPre M_m_becomesPre eV Z (wM ad Z) [.ref (ad 0)] (wsM ad Z σ) (m_becomesPre σ) :=
  CO.of rfl rfl (Nat.le_of_ble_eq_true rfl) 0 (fun X hZ => by subst hZ; exact J_m_becomesPre σ)
theorem K_m_becomesPre : Kv yX10_becomesPre M_m_becomesPre RX10 0 := ⟨rfl, k5_238, s4_10, k1_10, k5_239, by decide +kernel⟩
abbrev M_m_countsAll : JM := (cX10_countsAll, 3, RX10, (some .boolean), 0, 0)
def m_countsAll (p1 : Int32) (p2 : Int32) (σ : MS) : Option (Bool × MS) :=
  if inB p1 3 = true then
  if inB p1 3 = true then
  if inB p1 3 = true then
  if mA (sA σ 15 (ix p1) (mA σ 15 (ix p1) ||| ((1 : Int32) <<< (p2 &&& 31)))) 15 (ix p1) = (((1 : Int32) <<< ((mI σ 5 + 1) &&& 31)) - 2) then (
    some (true, sA σ 15 (ix p1) (mA σ 15 (ix p1) ||| ((1 : Int32) <<< (p2 &&& 31)))))
  else (
    some (false, sA σ 15 (ix p1) (mA σ 15 (ix p1) ||| ((1 : Int32) <<< (p2 &&& 31)))))
  else none
  else none
  else none
theorem J_m_countsAll {X : JX} {ad : Nat → Nat} (p1 : Int32) (p2 : Int32) (σ : MS) : JO X M_m_countsAll (QF X eZ (wM ad (xZ X))) 0 [some (.ref (ad 0)), some (.int p1), some (.int p2)] [] (wsM ad (xZ X) σ) (m_countsAll p1 p2 σ) := by
  unfold m_countsAll
  refine JO.aloadn dX10_countsAll_0 rfl ?_
  refine gM15 dX10_countsAll_1 rfl ?_
  refine JO.iloadn dX10_countsAll_4 rfl ?_
  refine JO.dup2 dX10_countsAll_5 rfl rfl ?_
  refine aM15 dX10_countsAll_6 ?_
  refine JO.ic 1 dX10_countsAll_7 (by decide) ?_
  refine JO.iloadn dX10_countsAll_8 rfl ?_
  refine JO.ishl dX10_countsAll_9 ?_
  refine JO.ior dX10_countsAll_10 ?_
  refine uM15 dX10_countsAll_11 ?_
  refine JO.aloadn dX10_countsAll_12 rfl ?_
  refine gM15 dX10_countsAll_13 rfl ?_
  refine JO.iloadn dX10_countsAll_16 rfl ?_
  refine aM15 dX10_countsAll_17 ?_
  refine JO.ic 1 dX10_countsAll_18 (by decide) ?_
  refine JO.aloadn dX10_countsAll_19 rfl ?_
  refine gM5 dX10_countsAll_20 rfl ?_
  refine JO.ic 1 dX10_countsAll_23 (by decide) ?_
  refine JO.iadd dX10_countsAll_24 ?_
  refine JO.ishl dX10_countsAll_25 ?_
  refine JO.ic 2 dX10_countsAll_26 (by decide) ?_
  refine JO.isub dX10_countsAll_27 ?_
  refine JO.icmp_ne 35 dX10_countsAll_28 rfl ?_ ?_
  · refine JO.ic 0 dX10_countsAll_35 (by decide) ?_
    exact JO.zret (b := false) dX10_countsAll_36 rfl rfl rfl
  · refine JO.ic 1 dX10_countsAll_31 (by decide) ?_
    refine JO.goto 36 dX10_countsAll_32 rfl ?_
    exact JO.zret (b := true) dX10_countsAll_36 rfl rfl rfl
theorem C_m_countsAll {ad : Nat → Nat} {Z : ZT} (p1 : Int32) (p2 : Int32) (σ : MS) : CO yX10_countsAll M_m_countsAll eZ Z (wM ad Z) [.ref (ad 0), .int p1, .int p2] (wsM ad Z σ) (m_countsAll p1 p2 σ) :=
  CO.of rfl rfl (Nat.le_of_ble_eq_true rfl) 0 (fun X hZ => by subst hZ; exact J_m_countsAll _ _ σ)
theorem K_m_countsAll : Kv yX10_countsAll M_m_countsAll RX10 2 := ⟨rfl, k5_230, s4_8, k1_10, k5_231, by decide +kernel⟩
abbrev M_m_hasDecided : JM := (cX10_hasDecided, 1, RX10, (some .boolean), 0, 0)
def m_hasDecided (σ : MS) : Option (Bool × MS) :=
  if inB 0 6 = true then
  if mA σ 10 (ix 0) = 3 then (
    some (true, σ))
  else (
    if inB 0 6 = true then
    if mA σ 10 (ix 0) = 4 then (
      some (true, σ))
    else (
      some (false, σ))
    else none)
  else none
theorem J_m_hasDecided {X : JX} {ad : Nat → Nat} (σ : MS) : JO X M_m_hasDecided (QF X eZ (wM ad (xZ X))) 0 [some (.ref (ad 0))] [] (wsM ad (xZ X) σ) (m_hasDecided σ) := by
  unfold m_hasDecided
  refine JO.aloadn dX10_hasDecided_0 rfl ?_
  refine gM10 dX10_hasDecided_1 rfl ?_
  refine JO.ic 0 dX10_hasDecided_4 (by decide) ?_
  refine aM10 dX10_hasDecided_5 ?_
  refine JO.ic 3 dX10_hasDecided_6 (by decide) ?_
  refine JO.icmp_eq 20 dX10_hasDecided_7 rfl ?_ ?_
  · refine JO.ic 1 dX10_hasDecided_20 (by decide) ?_
    refine JO.goto 25 dX10_hasDecided_21 rfl ?_
    exact JO.zret (b := true) dX10_hasDecided_25 rfl rfl rfl
  · refine JO.aloadn dX10_hasDecided_10 rfl ?_
    refine gM10 dX10_hasDecided_11 rfl ?_
    refine JO.ic 0 dX10_hasDecided_14 (by decide) ?_
    refine aM10 dX10_hasDecided_15 ?_
    refine JO.ic 4 dX10_hasDecided_16 (by decide) ?_
    refine JO.icmp_ne 24 dX10_hasDecided_17 rfl ?_ ?_
    · refine JO.ic 0 dX10_hasDecided_24 (by decide) ?_
      exact JO.zret (b := false) dX10_hasDecided_25 rfl rfl rfl
    · refine JO.ic 1 dX10_hasDecided_20 (by decide) ?_
      refine JO.goto 25 dX10_hasDecided_21 rfl ?_
      exact JO.zret (b := true) dX10_hasDecided_25 rfl rfl rfl
theorem C_m_hasDecided {ad : Nat → Nat} {Z : ZT} (σ : MS) : CO yX10_hasDecided M_m_hasDecided eZ Z (wM ad Z) [.ref (ad 0)] (wsM ad Z σ) (m_hasDecided σ) :=
  CO.of rfl rfl (Nat.le_of_ble_eq_true rfl) 0 (fun X hZ => by subst hZ; exact J_m_hasDecided σ)
theorem K_m_hasDecided : Kv yX10_hasDecided M_m_hasDecided RX10 0 := ⟨rfl, k6_2, s4_11, k1_10, k6_3, by decide +kernel⟩
abbrev M_m_ends : JM := (cX10_ends, 1, RX10, none, 1, 22)
def m_ends (σ : MS) : Option (Unit × MS) :=
  (m_notes 0 6 σ).bind fun a1 =>
  if inB 0 6 = true then
  if inB 0 6 = true then
  some ((), sA (sA a1.2 10 (ix 0) 5) 12 (ix 0) 1000)
  else none
  else none
theorem J_m_ends {X : JX} {ad : Nat → Nat} (σ : MS) : JO X M_m_ends (QF X eV (wM ad (xZ X))) 0 [some (.ref (ad 0))] [] (wsM ad (xZ X) σ) (m_ends σ) := by
  unfold m_ends
  refine JO.aloadn dX10_ends_0 rfl ?_
  refine JO.ic 0 dX10_ends_1 (by decide) ?_
  refine JO.bip 6 dX10_ends_2 (by decide) ?_
  refine JO.mvv (C_m_notes _ _ _) K_m_notes k5_212 rfl rfl rfl (Nat.le_of_ble_eq_true rfl) dX10_ends_4 (fun a1 => ?_)
  refine JO.aloadn dX10_ends_7 rfl ?_
  refine gM10 dX10_ends_8 rfl ?_
  refine JO.ic 0 dX10_ends_11 (by decide) ?_
  refine JO.ic 5 dX10_ends_12 (by decide) ?_
  refine uM10 dX10_ends_13 ?_
  refine JO.aloadn dX10_ends_14 rfl ?_
  refine gM12 dX10_ends_15 rfl ?_
  refine JO.ic 0 dX10_ends_18 (by decide) ?_
  refine JO.sip 1000 dX10_ends_19 (by decide) ?_
  refine uM12 dX10_ends_22 ?_
  exact JO.vret dX10_ends_23 rfl rfl rfl
theorem C_m_ends {ad : Nat → Nat} {Z : ZT} (σ : MS) : CO yX10_ends M_m_ends eV Z (wM ad Z) [.ref (ad 0)] (wsM ad Z σ) (m_ends σ) :=
  CO.of rfl rfl (Nat.le_of_ble_eq_true rfl) 0 (fun X hZ => by subst hZ; exact J_m_ends σ)
theorem K_m_ends : Kv yX10_ends M_m_ends RX10 0 := ⟨rfl, k6_6, s4_12, k1_10, k6_7, by decide +kernel⟩
abbrev M_m_comesToCoordinator : JM := (cX10_comesToCoordinator, 3, RX10, none, 3, 65)
def m_comesToCoordinator (p1 : Int32) (p2 : Int32) (σ : MS) : Option (Unit × MS) :=
  sw p1 [(2, 48,
    if inB 0 6 = true then
    if mA σ 10 (ix 0) = 1 then (
      (m_countsAll 0 p2 σ).bind fun a1 =>
      if a1.1 = true then (
        if mI a1.2 6 = 2 then (
          (m_decidesCommit a1.2).bind fun a3 =>
          some ((), a3.2))
        else (
          (m_becomesPre a1.2).bind fun a2 =>
          some ((), a2.2)))
      else (
        some ((), a1.2)))
    else (
      some ((), σ))
    else none), (3, 90,
    if inB 0 6 = true then
    if mA σ 10 (ix 0) = 1 then (
      (m_decidesAbort σ).bind fun a4 =>
      some ((), a4.2))
    else (
      some ((), σ))
    else none), (5, 107,
    if inB 0 6 = true then
    if mA σ 10 (ix 0) = 2 then (
      (m_countsAll 1 p2 σ).bind fun a5 =>
      if a5.1 = true then (
        (m_decidesCommit a5.2).bind fun a6 =>
        some ((), a6.2))
      else (
        some ((), a5.2)))
    else (
      some ((), σ))
    else none), (8, 133,
    (m_hasDecided σ).bind fun a7 =>
    if a7.1 = true then (
      (m_countsAll 2 p2 a7.2).bind fun a8 =>
      if a8.1 = true then (
        (m_ends a8.2).bind fun a9 =>
        some ((), a9.2))
      else (
        some ((), a8.2)))
    else (
      some ((), a7.2))), (9, 156,
    if inB 0 6 = true then
    if mA σ 10 (ix 0) ≤ 2 then (
      some ((), σ))
    else (
      (m_sends (mI σ 24) 0 p2 σ).bind fun a10 =>
      some ((), a10.2))
    else none)] (
    some ((), σ))
theorem J_m_comesToCoordinator {X : JX} {ad : Nat → Nat} (p1 : Int32) (p2 : Int32) (σ : MS) : JO X M_m_comesToCoordinator (QF X eV (wM ad (xZ X))) 0 [some (.ref (ad 0)), some (.int p1), some (.int p2)] [] (wsM ad (xZ X) σ) (m_comesToCoordinator p1 p2 σ) := by
  unfold m_comesToCoordinator
  refine JO.iloadn dX10_comesToCoordinator_0 rfl ?_
  refine JO.tsw [(2, 48, _), (3, 90, _), (5, 107, _), (8, 133, _), (9, 156, _)] 179 [(2, 48), (3, 90), (5, 107), (8, 133), (9, 156)] dX10_comesToCoordinator_1 rfl (by decide) rfl (by decide) (JO.swCons ?_ (JO.swCons ?_ (JO.swCons ?_ (JO.swCons ?_ (JO.swCons ?_ (JO.swNil)))))) ?_
  · refine JO.aloadn dX10_comesToCoordinator_48 rfl ?_
    refine gM10 dX10_comesToCoordinator_49 rfl ?_
    refine JO.ic 0 dX10_comesToCoordinator_52 (by decide) ?_
    refine aM10 dX10_comesToCoordinator_53 ?_
    refine JO.ic 1 dX10_comesToCoordinator_54 (by decide) ?_
    refine JO.icmp_ne 67 dX10_comesToCoordinator_55 rfl ?_ ?_
    · exact JO.vret dX10_comesToCoordinator_67 rfl rfl rfl
    · refine JO.aloadn dX10_comesToCoordinator_58 rfl ?_
      refine JO.ic 0 dX10_comesToCoordinator_59 (by decide) ?_
      refine JO.iloadn dX10_comesToCoordinator_60 rfl ?_
      refine JO.mvz (C_m_countsAll _ _ _) K_m_countsAll k5_228 rfl rfl rfl (Nat.le_of_ble_eq_true rfl) dX10_comesToCoordinator_61 (fun a1 => ?_)
      refine JO.zne 68 dX10_comesToCoordinator_64 rfl ?_ ?_
      · refine JO.aloadn dX10_comesToCoordinator_68 rfl ?_
        refine gM6 dX10_comesToCoordinator_69 rfl ?_
        refine JO.ic 2 dX10_comesToCoordinator_72 (by decide) ?_
        refine JO.icmp_ne 83 dX10_comesToCoordinator_73 rfl ?_ ?_
        · refine JO.aloadn dX10_comesToCoordinator_83 rfl ?_
          refine JO.mvv (C_m_becomesPre _) K_m_becomesPre k5_236 rfl rfl rfl (Nat.le_of_ble_eq_true rfl) dX10_comesToCoordinator_84 (fun a2 => ?_)
          refine JO.goto 179 dX10_comesToCoordinator_87 rfl ?_
          exact JO.vret dX10_comesToCoordinator_179 rfl rfl rfl
        · refine JO.aloadn dX10_comesToCoordinator_76 rfl ?_
          refine JO.mvv (C_m_decidesCommit _) K_m_decidesCommit k5_232 rfl rfl rfl (Nat.le_of_ble_eq_true rfl) dX10_comesToCoordinator_77 (fun a3 => ?_)
          refine JO.goto 179 dX10_comesToCoordinator_80 rfl ?_
          exact JO.vret dX10_comesToCoordinator_179 rfl rfl rfl
      · exact JO.vret dX10_comesToCoordinator_67 rfl rfl rfl
  · refine JO.aloadn dX10_comesToCoordinator_90 rfl ?_
    refine gM10 dX10_comesToCoordinator_91 rfl ?_
    refine JO.ic 0 dX10_comesToCoordinator_94 (by decide) ?_
    refine aM10 dX10_comesToCoordinator_95 ?_
    refine JO.ic 1 dX10_comesToCoordinator_96 (by decide) ?_
    refine JO.icmp_ne 179 dX10_comesToCoordinator_97 rfl ?_ ?_
    · exact JO.vret dX10_comesToCoordinator_179 rfl rfl rfl
    · refine JO.aloadn dX10_comesToCoordinator_100 rfl ?_
      refine JO.mvv (C_m_decidesAbort _) K_m_decidesAbort k5_208 rfl rfl rfl (Nat.le_of_ble_eq_true rfl) dX10_comesToCoordinator_101 (fun a4 => ?_)
      refine JO.goto 179 dX10_comesToCoordinator_104 rfl ?_
      exact JO.vret dX10_comesToCoordinator_179 rfl rfl rfl
  · refine JO.aloadn dX10_comesToCoordinator_107 rfl ?_
    refine gM10 dX10_comesToCoordinator_108 rfl ?_
    refine JO.ic 0 dX10_comesToCoordinator_111 (by decide) ?_
    refine aM10 dX10_comesToCoordinator_112 ?_
    refine JO.ic 2 dX10_comesToCoordinator_113 (by decide) ?_
    refine JO.icmp_ne 179 dX10_comesToCoordinator_114 rfl ?_ ?_
    · exact JO.vret dX10_comesToCoordinator_179 rfl rfl rfl
    · refine JO.aloadn dX10_comesToCoordinator_117 rfl ?_
      refine JO.ic 1 dX10_comesToCoordinator_118 (by decide) ?_
      refine JO.iloadn dX10_comesToCoordinator_119 rfl ?_
      refine JO.mvz (C_m_countsAll _ _ _) K_m_countsAll k5_228 rfl rfl rfl (Nat.le_of_ble_eq_true rfl) dX10_comesToCoordinator_120 (fun a5 => ?_)
      refine JO.zeq 179 dX10_comesToCoordinator_123 rfl ?_ ?_
      · exact JO.vret dX10_comesToCoordinator_179 rfl rfl rfl
      · refine JO.aloadn dX10_comesToCoordinator_126 rfl ?_
        refine JO.mvv (C_m_decidesCommit _) K_m_decidesCommit k5_232 rfl rfl rfl (Nat.le_of_ble_eq_true rfl) dX10_comesToCoordinator_127 (fun a6 => ?_)
        refine JO.goto 179 dX10_comesToCoordinator_130 rfl ?_
        exact JO.vret dX10_comesToCoordinator_179 rfl rfl rfl
  · refine JO.aloadn dX10_comesToCoordinator_133 rfl ?_
    refine JO.mvz (C_m_hasDecided _) K_m_hasDecided k6_0 rfl rfl rfl (Nat.le_of_ble_eq_true rfl) dX10_comesToCoordinator_134 (fun a7 => ?_)
    refine JO.zeq 179 dX10_comesToCoordinator_137 rfl ?_ ?_
    · exact JO.vret dX10_comesToCoordinator_179 rfl rfl rfl
    · refine JO.aloadn dX10_comesToCoordinator_140 rfl ?_
      refine JO.ic 2 dX10_comesToCoordinator_141 (by decide) ?_
      refine JO.iloadn dX10_comesToCoordinator_142 rfl ?_
      refine JO.mvz (C_m_countsAll _ _ _) K_m_countsAll k5_228 rfl rfl rfl (Nat.le_of_ble_eq_true rfl) dX10_comesToCoordinator_143 (fun a8 => ?_)
      refine JO.zeq 179 dX10_comesToCoordinator_146 rfl ?_ ?_
      · exact JO.vret dX10_comesToCoordinator_179 rfl rfl rfl
      · refine JO.aloadn dX10_comesToCoordinator_149 rfl ?_
        refine JO.mvv (C_m_ends _) K_m_ends k6_4 rfl rfl rfl (Nat.le_of_ble_eq_true rfl) dX10_comesToCoordinator_150 (fun a9 => ?_)
        refine JO.goto 179 dX10_comesToCoordinator_153 rfl ?_
        exact JO.vret dX10_comesToCoordinator_179 rfl rfl rfl
  · refine JO.aloadn dX10_comesToCoordinator_156 rfl ?_
    refine gM10 dX10_comesToCoordinator_157 rfl ?_
    refine JO.ic 0 dX10_comesToCoordinator_160 (by decide) ?_
    refine aM10 dX10_comesToCoordinator_161 ?_
    refine JO.ic 2 dX10_comesToCoordinator_162 (by decide) ?_
    refine JO.icmp_le 179 dX10_comesToCoordinator_163 rfl ?_ ?_
    · exact JO.vret dX10_comesToCoordinator_179 rfl rfl rfl
    · refine JO.aloadn dX10_comesToCoordinator_166 rfl ?_
      refine JO.aloadn dX10_comesToCoordinator_167 rfl ?_
      refine gM24 dX10_comesToCoordinator_168 rfl ?_
      refine JO.ic 0 dX10_comesToCoordinator_171 (by decide) ?_
      refine JO.iloadn dX10_comesToCoordinator_172 rfl ?_
      refine JO.mvv (C_m_sends _ _ _ _) K_m_sends k5_200 rfl rfl rfl (Nat.le_of_ble_eq_true rfl) dX10_comesToCoordinator_173 (fun a10 => ?_)
      refine JO.goto 179 dX10_comesToCoordinator_176 rfl ?_
      exact JO.vret dX10_comesToCoordinator_179 rfl rfl rfl
  · exact JO.vret dX10_comesToCoordinator_179 rfl rfl rfl
theorem C_m_comesToCoordinator {ad : Nat → Nat} {Z : ZT} (p1 : Int32) (p2 : Int32) (σ : MS) : CO yX10_comesToCoordinator M_m_comesToCoordinator eV Z (wM ad Z) [.ref (ad 0), .int p1, .int p2] (wsM ad Z σ) (m_comesToCoordinator p1 p2 σ) :=
  CO.of rfl rfl (Nat.le_of_ble_eq_true rfl) 0 (fun X hZ => by subst hZ; exact J_m_comesToCoordinator _ _ σ)
theorem K_m_comesToCoordinator : Kv yX10_comesToCoordinator M_m_comesToCoordinator RX10 2 := ⟨rfl, k5_226, s4_7, k1_10, k5_227, by decide +kernel⟩
abbrev M_m_timesOutCoordinator : JM := (cX10_timesOutCoordinator, 2, RX10, none, 3, 65)
def m_timesOutCoordinator_b80 (σ : MS) : Option (Unit × MS) :=
  (m_startsTimer 0 σ).bind fun a1 =>
  some ((), a1.2)
def m_timesOutCoordinator_l43 : Nat → Int32 → MS → Option (Unit × MS)
  | 0, _, _ => none
  | n + 1, x1, σ =>
    if mI σ 5 < x1 then (
      m_timesOutCoordinator_b80 σ)
    else (
      if inB 2 3 = true then
      if ((mA σ 15 (ix 2) >>> (x1 &&& 31)) &&& 1) = 0 then (
        (m_sends (mI σ 24) 0 x1 σ).bind fun a1 =>
        m_timesOutCoordinator_l43 n (x1 + 1) a1.2)
      else (
        m_timesOutCoordinator_l43 n (x1 + 1) σ)
      else none)
def m_timesOutCoordinator (σ : MS) : Option (Unit × MS) :=
  if inB 0 6 = true then
  if mA σ 10 (ix 0) = 1 then (
    (m_decidesAbort σ).bind fun a3 =>
    some ((), a3.2))
  else (
    if inB 0 6 = true then
    if mA σ 10 (ix 0) = 2 then (
      (m_decidesCommit σ).bind fun a2 =>
      some ((), a2.2))
    else (
      (m_hasDecided σ).bind fun a1 =>
      if a1.1 = true then (
        m_timesOutCoordinator_l43 4096 1 a1.2)
      else (
        some ((), a1.2)))
    else none)
  else none
theorem J_m_timesOutCoordinator_b80 {X : JX} {ad : Nat → Nat} (σ : MS) : JO X M_m_timesOutCoordinator (QF X eV (wM ad (xZ X))) 80 [some (.ref (ad 0)), none] [] (wsM ad (xZ X) σ) (m_timesOutCoordinator_b80 σ) := by
  unfold m_timesOutCoordinator_b80
  refine JO.aloadn dX10_timesOutCoordinator_80 rfl ?_
  refine JO.ic 0 dX10_timesOutCoordinator_81 (by decide) ?_
  refine JO.mvv (C_m_startsTimer _ _) K_m_startsTimer k5_204 rfl rfl rfl (Nat.le_of_ble_eq_true rfl) dX10_timesOutCoordinator_82 (fun a1 => ?_)
  exact JO.vret dX10_timesOutCoordinator_85 rfl rfl rfl
theorem J_m_timesOutCoordinator_l43 {X : JX} {ad : Nat → Nat} : ∀ (n : Nat) (x1 : Int32) (σ : MS), JO X M_m_timesOutCoordinator (QF X eV (wM ad (xZ X))) 43 [some (.ref (ad 0)), some (.int x1)] [] (wsM ad (xZ X) σ) (m_timesOutCoordinator_l43 n x1 σ) := by
  intro n
  induction n with
  | zero => intro x1 σ; exact JO.nil
  | succ n ih =>
    intro x1 σ
    unfold m_timesOutCoordinator_l43
    refine JO.iloadn dX10_timesOutCoordinator_43 rfl ?_
    refine JO.aloadn dX10_timesOutCoordinator_44 rfl ?_
    refine gM5 dX10_timesOutCoordinator_45 rfl ?_
    refine JO.icmp_gt 80 dX10_timesOutCoordinator_48 rfl ?_ ?_
    · exact (J_m_timesOutCoordinator_b80 _).jump (lvLe.so rfl (lvLe.no (lvLe.nil)))
    · refine JO.aloadn dX10_timesOutCoordinator_51 rfl ?_
      refine gM15 dX10_timesOutCoordinator_52 rfl ?_
      refine JO.ic 2 dX10_timesOutCoordinator_55 (by decide) ?_
      refine aM15 dX10_timesOutCoordinator_56 ?_
      refine JO.iloadn dX10_timesOutCoordinator_57 rfl ?_
      refine JO.ishr dX10_timesOutCoordinator_58 ?_
      refine JO.ic 1 dX10_timesOutCoordinator_59 (by decide) ?_
      refine JO.iand dX10_timesOutCoordinator_60 ?_
      refine JO.if_ne 74 dX10_timesOutCoordinator_61 rfl ?_ ?_
      · refine JO.iinc dX10_timesOutCoordinator_74 rfl 1 (by decide) rfl rfl ?_
        refine JO.goto 43 dX10_timesOutCoordinator_77 rfl ?_
        exact (ih _ _).jump (lvLe.so rfl (lvLe.so rfl (lvLe.nil)))
      · refine JO.aloadn dX10_timesOutCoordinator_64 rfl ?_
        refine JO.aloadn dX10_timesOutCoordinator_65 rfl ?_
        refine gM24 dX10_timesOutCoordinator_66 rfl ?_
        refine JO.ic 0 dX10_timesOutCoordinator_69 (by decide) ?_
        refine JO.iloadn dX10_timesOutCoordinator_70 rfl ?_
        refine JO.mvv (C_m_sends _ _ _ _) K_m_sends k5_200 rfl rfl rfl (Nat.le_of_ble_eq_true rfl) dX10_timesOutCoordinator_71 (fun a1 => ?_)
        refine JO.iinc dX10_timesOutCoordinator_74 rfl 1 (by decide) rfl rfl ?_
        refine JO.goto 43 dX10_timesOutCoordinator_77 rfl ?_
        exact (ih _ _).jump (lvLe.so rfl (lvLe.so rfl (lvLe.nil)))
theorem J_m_timesOutCoordinator {X : JX} {ad : Nat → Nat} (σ : MS) : JO X M_m_timesOutCoordinator (QF X eV (wM ad (xZ X))) 0 [some (.ref (ad 0)), none] [] (wsM ad (xZ X) σ) (m_timesOutCoordinator σ) := by
  unfold m_timesOutCoordinator
  refine JO.aloadn dX10_timesOutCoordinator_0 rfl ?_
  refine gM10 dX10_timesOutCoordinator_1 rfl ?_
  refine JO.ic 0 dX10_timesOutCoordinator_4 (by decide) ?_
  refine aM10 dX10_timesOutCoordinator_5 ?_
  refine JO.ic 1 dX10_timesOutCoordinator_6 (by decide) ?_
  refine JO.icmp_ne 17 dX10_timesOutCoordinator_7 rfl ?_ ?_
  · refine JO.aloadn dX10_timesOutCoordinator_17 rfl ?_
    refine gM10 dX10_timesOutCoordinator_18 rfl ?_
    refine JO.ic 0 dX10_timesOutCoordinator_21 (by decide) ?_
    refine aM10 dX10_timesOutCoordinator_22 ?_
    refine JO.ic 2 dX10_timesOutCoordinator_23 (by decide) ?_
    refine JO.icmp_ne 34 dX10_timesOutCoordinator_24 rfl ?_ ?_
    · refine JO.aloadn dX10_timesOutCoordinator_34 rfl ?_
      refine JO.mvz (C_m_hasDecided _) K_m_hasDecided k6_0 rfl rfl rfl (Nat.le_of_ble_eq_true rfl) dX10_timesOutCoordinator_35 (fun a1 => ?_)
      refine JO.zeq 85 dX10_timesOutCoordinator_38 rfl ?_ ?_
      · exact JO.vret dX10_timesOutCoordinator_85 rfl rfl rfl
      · refine JO.ic 1 dX10_timesOutCoordinator_41 (by decide) ?_
        refine JO.istoren dX10_timesOutCoordinator_42 rfl rfl ?_
        exact (J_m_timesOutCoordinator_l43 4096 _ _).jump (lvLe.so rfl (lvLe.so rfl (lvLe.nil)))
    · refine JO.aloadn dX10_timesOutCoordinator_27 rfl ?_
      refine JO.mvv (C_m_decidesCommit _) K_m_decidesCommit k5_232 rfl rfl rfl (Nat.le_of_ble_eq_true rfl) dX10_timesOutCoordinator_28 (fun a2 => ?_)
      refine JO.goto 85 dX10_timesOutCoordinator_31 rfl ?_
      exact JO.vret dX10_timesOutCoordinator_85 rfl rfl rfl
  · refine JO.aloadn dX10_timesOutCoordinator_10 rfl ?_
    refine JO.mvv (C_m_decidesAbort _) K_m_decidesAbort k5_208 rfl rfl rfl (Nat.le_of_ble_eq_true rfl) dX10_timesOutCoordinator_11 (fun a3 => ?_)
    refine JO.goto 85 dX10_timesOutCoordinator_14 rfl ?_
    exact JO.vret dX10_timesOutCoordinator_85 rfl rfl rfl
theorem C_m_timesOutCoordinator {ad : Nat → Nat} {Z : ZT} (σ : MS) : CO yX10_timesOutCoordinator M_m_timesOutCoordinator eV Z (wM ad Z) [.ref (ad 0)] (wsM ad Z σ) (m_timesOutCoordinator σ) :=
  CO.of rfl rfl (Nat.le_of_ble_eq_true rfl) 1 (fun X hZ => by subst hZ; exact J_m_timesOutCoordinator σ)
theorem K_m_timesOutCoordinator : Kv yX10_timesOutCoordinator M_m_timesOutCoordinator RX10 0 := ⟨rfl, k6_38, s5_4, k1_10, k6_39, by decide +kernel⟩
abbrev M_m_comesPrepare : JM := (cX10_comesPrepare, 2, RX10, none, 1, 23)
def m_comesPrepare (p1 : Int32) (σ : MS) : Option (Unit × MS) :=
  if inB p1 6 = true then
  if mA σ 10 (ix p1) = 0 then (
    if inB p1 6 = true then
    if mA σ 1 (ix p1) = 1 then (
      (m_notes p1 2 σ).bind fun a3 =>
      if inB p1 6 = true then
      (m_sends 2 p1 0 (sA a3.2 10 (ix p1) 1)).bind fun a4 =>
      (m_startsTimer p1 a4.2).bind fun a5 =>
      some ((), a5.2)
      else none)
    else (
      (m_notes p1 5 σ).bind fun a1 =>
      if inB p1 6 = true then
      (m_sends 3 p1 0 (sA a1.2 10 (ix p1) 4)).bind fun a2 =>
      some ((), a2.2)
      else none)
    else none)
  else (
    some ((), σ))
  else none
theorem J_m_comesPrepare {X : JX} {ad : Nat → Nat} (p1 : Int32) (σ : MS) : JO X M_m_comesPrepare (QF X eV (wM ad (xZ X))) 0 [some (.ref (ad 0)), some (.int p1)] [] (wsM ad (xZ X) σ) (m_comesPrepare p1 σ) := by
  unfold m_comesPrepare
  refine JO.aloadn dX10_comesPrepare_0 rfl ?_
  refine gM10 dX10_comesPrepare_1 rfl ?_
  refine JO.iloadn dX10_comesPrepare_4 rfl ?_
  refine aM10 dX10_comesPrepare_5 ?_
  refine JO.if_eq 10 dX10_comesPrepare_6 rfl ?_ ?_
  · refine JO.aloadn dX10_comesPrepare_10 rfl ?_
    refine gM1 dX10_comesPrepare_11 rfl ?_
    refine JO.iloadn dX10_comesPrepare_14 rfl ?_
    refine aM1 dX10_comesPrepare_15 ?_
    refine JO.ic 1 dX10_comesPrepare_16 (by decide) ?_
    refine JO.icmp_ne 48 dX10_comesPrepare_17 rfl ?_ ?_
    · refine JO.aloadn dX10_comesPrepare_48 rfl ?_
      refine JO.iloadn dX10_comesPrepare_49 rfl ?_
      refine JO.ic 5 dX10_comesPrepare_50 (by decide) ?_
      refine JO.mvv (C_m_notes _ _ _) K_m_notes k5_212 rfl rfl rfl (Nat.le_of_ble_eq_true rfl) dX10_comesPrepare_51 (fun a1 => ?_)
      refine JO.aloadn dX10_comesPrepare_54 rfl ?_
      refine gM10 dX10_comesPrepare_55 rfl ?_
      refine JO.iloadn dX10_comesPrepare_58 rfl ?_
      refine JO.ic 4 dX10_comesPrepare_59 (by decide) ?_
      refine uM10 dX10_comesPrepare_60 ?_
      refine JO.aloadn dX10_comesPrepare_61 rfl ?_
      refine JO.ic 3 dX10_comesPrepare_62 (by decide) ?_
      refine JO.iloadn dX10_comesPrepare_63 rfl ?_
      refine JO.ic 0 dX10_comesPrepare_64 (by decide) ?_
      refine JO.mvv (C_m_sends _ _ _ _) K_m_sends k5_200 rfl rfl rfl (Nat.le_of_ble_eq_true rfl) dX10_comesPrepare_65 (fun a2 => ?_)
      exact JO.vret dX10_comesPrepare_68 rfl rfl rfl
    · refine JO.aloadn dX10_comesPrepare_20 rfl ?_
      refine JO.iloadn dX10_comesPrepare_21 rfl ?_
      refine JO.ic 2 dX10_comesPrepare_22 (by decide) ?_
      refine JO.mvv (C_m_notes _ _ _) K_m_notes k5_212 rfl rfl rfl (Nat.le_of_ble_eq_true rfl) dX10_comesPrepare_23 (fun a3 => ?_)
      refine JO.aloadn dX10_comesPrepare_26 rfl ?_
      refine gM10 dX10_comesPrepare_27 rfl ?_
      refine JO.iloadn dX10_comesPrepare_30 rfl ?_
      refine JO.ic 1 dX10_comesPrepare_31 (by decide) ?_
      refine uM10 dX10_comesPrepare_32 ?_
      refine JO.aloadn dX10_comesPrepare_33 rfl ?_
      refine JO.ic 2 dX10_comesPrepare_34 (by decide) ?_
      refine JO.iloadn dX10_comesPrepare_35 rfl ?_
      refine JO.ic 0 dX10_comesPrepare_36 (by decide) ?_
      refine JO.mvv (C_m_sends _ _ _ _) K_m_sends k5_200 rfl rfl rfl (Nat.le_of_ble_eq_true rfl) dX10_comesPrepare_37 (fun a4 => ?_)
      refine JO.aloadn dX10_comesPrepare_40 rfl ?_
      refine JO.iloadn dX10_comesPrepare_41 rfl ?_
      refine JO.mvv (C_m_startsTimer _ _) K_m_startsTimer k5_204 rfl rfl rfl (Nat.le_of_ble_eq_true rfl) dX10_comesPrepare_42 (fun a5 => ?_)
      refine JO.goto 68 dX10_comesPrepare_45 rfl ?_
      exact JO.vret dX10_comesPrepare_68 rfl rfl rfl
  · exact JO.vret dX10_comesPrepare_9 rfl rfl rfl
theorem C_m_comesPrepare {ad : Nat → Nat} {Z : ZT} (p1 : Int32) (σ : MS) : CO yX10_comesPrepare M_m_comesPrepare eV Z (wM ad Z) [.ref (ad 0), .int p1] (wsM ad Z σ) (m_comesPrepare p1 σ) :=
  CO.of rfl rfl (Nat.le_of_ble_eq_true rfl) 0 (fun X hZ => by subst hZ; exact J_m_comesPrepare _ σ)
theorem K_m_comesPrepare : Kv yX10_comesPrepare M_m_comesPrepare RX10 1 := ⟨rfl, k6_14, s4_14, k1_10, k6_15, by decide +kernel⟩
