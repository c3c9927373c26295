abbrev M_m_vote : JM := (cX10_vote, 4, RX10, (some .int), 1, 22)
def m_vote (p1 : Int32) (p2 : Bool) (σ : MS) : Option (Int32 × MS) :=
  (m_isIn p1 1 5 σ).bind fun a1 =>
  if a1.1 = true then (
    if inB p1 6 = true then
    if p2 = true then (
      if inB p1 6 = true then
      some (mA a1.2 1 (ix p1), sA a1.2 1 (ix p1) 1)
      else none)
    else (
      if inB p1 6 = true then
      some (mA a1.2 1 (ix p1), sA a1.2 1 (ix p1) 0)
      else none)
    else none)
  else (
    (m_no (-1) a1.2).bind fun a2 =>
    some (a2.1, a2.2))
theorem J_m_vote {X : JX} {ad : Nat → Nat} (p1 : Int32) (p2 : Bool) (σ : MS) : JO X M_m_vote (QF X eI (wM ad (xZ X))) 0 [some (.ref (ad 0)), some (.int p1), some (.int (bI p2)), none] [] (wsM ad (xZ X) σ) (m_vote p1 p2 σ) := by
  unfold m_vote
  refine JO.iloadn dX10_vote_0 rfl ?_
  refine JO.ic 1 dX10_vote_1 (by decide) ?_
  refine JO.ic 5 dX10_vote_2 (by decide) ?_
  refine JO.msz (C_m_isIn _ _ _ _) K_m_isIn k5_134 rfl rfl rfl (Nat.le_of_ble_eq_true rfl) dX10_vote_3 (fun a1 => ?_)
  refine JO.zne 15 dX10_vote_6 rfl ?_ ?_
  · refine JO.aloadn dX10_vote_15 rfl ?_
    refine gM1 dX10_vote_16 rfl ?_
    refine JO.iloadn dX10_vote_19 rfl ?_
    refine aM1 dX10_vote_20 ?_
    refine JO.istoren dX10_vote_21 rfl rfl ?_
    refine JO.aloadn dX10_vote_22 rfl ?_
    refine gM1 dX10_vote_23 rfl ?_
    refine JO.iloadn dX10_vote_26 rfl ?_
    refine JO.iloadn dX10_vote_27 rfl ?_
    refine JO.zeq 35 dX10_vote_28 rfl ?_ ?_
    · refine JO.ic 0 dX10_vote_35 (by decide) ?_
      refine uM1 dX10_vote_36 ?_
      refine JO.iloadn dX10_vote_37 rfl ?_
      exact JO.iret dX10_vote_38 rfl rfl rfl
    · refine JO.ic 1 dX10_vote_31 (by decide) ?_
      refine JO.goto 36 dX10_vote_32 rfl ?_
      refine uM1 dX10_vote_36 ?_
      refine JO.iloadn dX10_vote_37 rfl ?_
      exact JO.iret dX10_vote_38 rfl rfl rfl
  · refine JO.aloadn dX10_vote_9 rfl ?_
    refine JO.ic (-1) dX10_vote_10 (by decide) ?_
    refine JO.mvi (C_m_no _ _) K_m_no k5_137 rfl rfl rfl (Nat.le_of_ble_eq_true rfl) dX10_vote_11 (fun a2 => ?_)
    exact JO.iret dX10_vote_14 rfl rfl rfl
theorem C_m_vote {ad : Nat → Nat} {Z : ZT} (p1 : Int32) (p2 : Bool) (σ : MS) : CO yX10_vote M_m_vote eI Z (wM ad Z) [.ref (ad 0), .int p1, .int (bI p2)] (wsM ad Z σ) (m_vote p1 p2 σ) :=
  CO.of rfl rfl (Nat.le_of_ble_eq_true rfl) 1 (fun X hZ => by subst hZ; exact J_m_vote _ _ σ)
theorem K_m_vote : Kv yX10_vote M_m_vote RX10 2 := ⟨rfl, k6_128, k6_129, k1_10, k6_130, by decide +kernel⟩
abbrev M_m_lose : JM := (cX10_lose, 4, RX10, (some .int), 1, 22)
def m_lose (p1 : Int32) (p2 : Bool) (σ : MS) : Option (Int32 × MS) :=
  (m_isIn p1 0 59 σ).bind fun a1 =>
  if a1.1 = true then (
    if inB p1 60 = true then
    if p2 = true then (
      if inB p1 60 = true then
      some (mA a1.2 2 (ix p1), sA a1.2 2 (ix p1) 1)
      else none)
    else (
      if inB p1 60 = true then
      some (mA a1.2 2 (ix p1), sA a1.2 2 (ix p1) 0)
      else none)
    else none)
  else (
    (m_no (-1) a1.2).bind fun a2 =>
    some (a2.1, a2.2))
theorem J_m_lose {X : JX} {ad : Nat → Nat} (p1 : Int32) (p2 : Bool) (σ : MS) : JO X M_m_lose (QF X eI (wM ad (xZ X))) 0 [some (.ref (ad 0)), some (.int p1), some (.int (bI p2)), none] [] (wsM ad (xZ X) σ) (m_lose p1 p2 σ) := by
  unfold m_lose
  refine JO.iloadn dX10_lose_0 rfl ?_
  refine JO.ic 0 dX10_lose_1 (by decide) ?_
  refine JO.bip 59 dX10_lose_2 (by decide) ?_
  refine JO.msz (C_m_isIn _ _ _ _) K_m_isIn k5_134 rfl rfl rfl (Nat.le_of_ble_eq_true rfl) dX10_lose_4 (fun a1 => ?_)
  refine JO.zne 16 dX10_lose_7 rfl ?_ ?_
  · refine JO.aloadn dX10_lose_16 rfl ?_
    refine gM2 dX10_lose_17 rfl ?_
    refine JO.iloadn dX10_lose_20 rfl ?_
    refine aM2 dX10_lose_21 ?_
    refine JO.istoren dX10_lose_22 rfl rfl ?_
    refine JO.aloadn dX10_lose_23 rfl ?_
    refine gM2 dX10_lose_24 rfl ?_
    refine JO.iloadn dX10_lose_27 rfl ?_
    refine JO.iloadn dX10_lose_28 rfl ?_
    refine JO.zeq 36 dX10_lose_29 rfl ?_ ?_
    · refine JO.ic 0 dX10_lose_36 (by decide) ?_
      refine uM2 dX10_lose_37 ?_
      refine JO.iloadn dX10_lose_38 rfl ?_
      exact JO.iret dX10_lose_39 rfl rfl rfl
    · refine JO.ic 1 dX10_lose_32 (by decide) ?_
      refine JO.goto 37 dX10_lose_33 rfl ?_
      refine uM2 dX10_lose_37 ?_
      refine JO.iloadn dX10_lose_38 rfl ?_
      exact JO.iret dX10_lose_39 rfl rfl rfl
  · refine JO.aloadn dX10_lose_10 rfl ?_
    refine JO.ic (-1) dX10_lose_11 (by decide) ?_
    refine JO.mvi (C_m_no _ _) K_m_no k5_137 rfl rfl rfl (Nat.le_of_ble_eq_true rfl) dX10_lose_12 (fun a2 => ?_)
    exact JO.iret dX10_lose_15 rfl rfl rfl
theorem C_m_lose {ad : Nat → Nat} {Z : ZT} (p1 : Int32) (p2 : Bool) (σ : MS) : CO yX10_lose M_m_lose eI Z (wM ad Z) [.ref (ad 0), .int p1, .int (bI p2)] (wsM ad Z σ) (m_lose p1 p2 σ) :=
  CO.of rfl rfl (Nat.le_of_ble_eq_true rfl) 1 (fun X hZ => by subst hZ; exact J_m_lose _ _ σ)
theorem K_m_lose : Kv yX10_lose M_m_lose RX10 2 := ⟨rfl, k6_132, k6_133, k1_10, k6_134, by decide +kernel⟩
abbrev M_m_down : JM := (cX10_down, 5, RX10, (some .int), 2, 43)
def m_down_b27 (x1 : Int32) (x2 : Int32) (x3 : Int32) (t0 : Int32) (σ : MS) : Option (Int32 × MS) :=
  if t0 = 0 then (
    if inB x1 6 = true then
    if inB x1 6 = true then
    some (1, sA (sA σ 3 (ix x1) x2) 4 (ix x1) x3)
    else none
    else none)
  else (
    (m_no t0 σ).bind fun a1 =>
    some (a1.1, a1.2))
def m_down (p1 : Int32) (p2 : Int32) (p3 : Int32) (σ : MS) : Option (Int32 × MS) :=
  (m_isIn p1 0 5 σ).bind fun a1 =>
  if a1.1 = true then (
    (m_isDown p2 p3 a1.2).bind fun a2 =>
    if a2.1 = true then (
      m_down_b27 p1 p2 p3 0 a2.2)
    else (
      m_down_b27 p1 p2 p3 (-6) a2.2))
  else (
    m_down_b27 p1 p2 p3 (-1) a1.2)
theorem J_m_down_b27 {X : JX} {ad : Nat → Nat} (x1 : Int32) (x2 : Int32) (x3 : Int32) (t0 : Int32) (σ : MS) : JO X M_m_down (QF X eI (wM ad (xZ X))) 27 [some (.ref (ad 0)), some (.int x1), some (.int x2), some (.int x3), none] [.int t0] (wsM ad (xZ X) σ) (m_down_b27 x1 x2 x3 t0 σ) := by
  unfold m_down_b27
  refine JO.istore dX10_down_27 rfl rfl ?_
  refine JO.iload dX10_down_29 rfl ?_
  refine JO.if_eq 41 dX10_down_31 rfl ?_ ?_
  · refine JO.aloadn dX10_down_41 rfl ?_
    refine gM3 dX10_down_42 rfl ?_
    refine JO.iloadn dX10_down_45 rfl ?_
    refine JO.iloadn dX10_down_46 rfl ?_
    refine uM3 dX10_down_47 ?_
    refine JO.aloadn dX10_down_48 rfl ?_
    refine gM4 dX10_down_49 rfl ?_
    refine JO.iloadn dX10_down_52 rfl ?_
    refine JO.iloadn dX10_down_53 rfl ?_
    refine uM4 dX10_down_54 ?_
    refine JO.ic 1 dX10_down_55 (by decide) ?_
    exact JO.iret dX10_down_56 rfl rfl rfl
  · refine JO.aloadn dX10_down_34 rfl ?_
    refine JO.iload dX10_down_35 rfl ?_
    refine JO.mvi (C_m_no _ _) K_m_no k5_137 rfl rfl rfl (Nat.le_of_ble_eq_true rfl) dX10_down_37 (fun a1 => ?_)
    exact JO.iret dX10_down_40 rfl rfl rfl
theorem J_m_down {X : JX} {ad : Nat → Nat} (p1 : Int32) (p2 : Int32) (p3 : Int32) (σ : MS) : JO X M_m_down (QF X eI (wM ad (xZ X))) 0 [some (.ref (ad 0)), some (.int p1), some (.int p2), some (.int p3), none] [] (wsM ad (xZ X) σ) (m_down p1 p2 p3 σ) := by
  unfold m_down
  refine JO.iloadn dX10_down_0 rfl ?_
  refine JO.ic 0 dX10_down_1 (by decide) ?_
  refine JO.ic 5 dX10_down_2 (by decide) ?_
  refine JO.msz (C_m_isIn _ _ _ _) K_m_isIn k5_134 rfl rfl rfl (Nat.le_of_ble_eq_true rfl) dX10_down_3 (fun a1 => ?_)
  refine JO.zne 13 dX10_down_6 rfl ?_ ?_
  · refine JO.iloadn dX10_down_13 rfl ?_
    refine JO.iloadn dX10_down_14 rfl ?_
    refine JO.msz (C_m_isDown _ _ _) K_m_isDown k6_139 rfl rfl rfl (Nat.le_of_ble_eq_true rfl) dX10_down_15 (fun a2 => ?_)
    refine JO.zne 26 dX10_down_18 rfl ?_ ?_
    · refine JO.ic 0 dX10_down_26 (by decide) ?_
      exact (J_m_down_b27 _ _ _ _ _).jump (lvLe.so rfl (lvLe.so rfl (lvLe.so rfl (lvLe.so rfl (lvLe.no (lvLe.nil))))))
    · refine JO.bip (-6) dX10_down_21 (by decide) ?_
      refine JO.goto 27 dX10_down_23 rfl ?_
      exact (J_m_down_b27 _ _ _ _ _).jump (lvLe.so rfl (lvLe.so rfl (lvLe.so rfl (lvLe.so rfl (lvLe.no (lvLe.nil))))))
  · refine JO.ic (-1) dX10_down_9 (by decide) ?_
    refine JO.goto 27 dX10_down_10 rfl ?_
    exact (J_m_down_b27 _ _ _ _ _).jump (lvLe.so rfl (lvLe.so rfl (lvLe.so rfl (lvLe.so rfl (lvLe.no (lvLe.nil))))))
theorem C_m_down {ad : Nat → Nat} {Z : ZT} (p1 : Int32) (p2 : Int32) (p3 : Int32) (σ : MS) : CO yX10_down M_m_down eI Z (wM ad Z) [.ref (ad 0), .int p1, .int p2, .int p3] (wsM ad Z σ) (m_down p1 p2 p3 σ) :=
  CO.of rfl rfl (Nat.le_of_ble_eq_true rfl) 1 (fun X hZ => by subst hZ; exact J_m_down _ _ _ σ)
theorem K_m_down : Kv yX10_down M_m_down RX10 3 := ⟨rfl, k6_136, k6_137, k1_10, k6_138, by decide +kernel⟩
abbrev M_m_notThen : JM := (cX10_notThen, 3, RX10, (some .int), 2, 43)
def m_notThen (p1 : Int32) (p2 : Int32) (σ : MS) : Option (Int32 × MS) :=
  (m_isSite p2 σ).bind fun a1 =>
  if a1.1 = true then (
    (m_isTick p1 a1.2).bind fun a2 =>
    if a2.1 = true then (
      some (0, a2.2))
    else (
      some ((-6), a2.2)))
  else (
    some ((-1), a1.2))
theorem J_m_notThen {X : JX} {ad : Nat → Nat} (p1 : Int32) (p2 : Int32) (σ : MS) : JO X M_m_notThen (QF X eI (wM ad (xZ X))) 0 [some (.ref (ad 0)), some (.int p1), some (.int p2)] [] (wsM ad (xZ X) σ) (m_notThen p1 p2 σ) := by
  unfold m_notThen
  refine JO.aloadn dX10_notThen_0 rfl ?_
  refine JO.iloadn dX10_notThen_1 rfl ?_
  refine JO.mvz (C_m_isSite _ _) K_m_isSite k6_151 rfl rfl rfl (Nat.le_of_ble_eq_true rfl) dX10_notThen_2 (fun a1 => ?_)
  refine JO.zne 12 dX10_notThen_5 rfl ?_ ?_
  · refine JO.iloadn dX10_notThen_12 rfl ?_
    refine JO.msz (C_m_isTick _ _) K_m_isTick k6_155 rfl rfl rfl (Nat.le_of_ble_eq_true rfl) dX10_notThen_13 (fun a2 => ?_)
    refine JO.zne 24 dX10_notThen_16 rfl ?_ ?_
    · refine JO.ic 0 dX10_notThen_24 (by decide) ?_
      exact JO.iret dX10_notThen_25 rfl rfl rfl
    · refine JO.bip (-6) dX10_notThen_19 (by decide) ?_
      refine JO.goto 25 dX10_notThen_21 rfl ?_
      exact JO.iret dX10_notThen_25 rfl rfl rfl
  · refine JO.ic (-1) dX10_notThen_8 (by decide) ?_
    refine JO.goto 25 dX10_notThen_9 rfl ?_
    exact JO.iret dX10_notThen_25 rfl rfl rfl
theorem C_m_notThen {ad : Nat → Nat} {Z : ZT} (p1 : Int32) (p2 : Int32) (σ : MS) : CO yX10_notThen M_m_notThen eI Z (wM ad Z) [.ref (ad 0), .int p1, .int p2] (wsM ad Z σ) (m_notThen p1 p2 σ) :=
  CO.of rfl rfl (Nat.le_of_ble_eq_true rfl) 0 (fun X hZ => by subst hZ; exact J_m_notThen _ _ σ)
theorem K_m_notThen : Kv yX10_notThen M_m_notThen RX10 2 := ⟨rfl, k6_149, s6_2, k1_10, k6_150, by decide +kernel⟩
abbrev M_m_state : JM := (cX10_state, 4, RX10, (some .int), 8, 171)
def m_state (p1 : Int32) (p2 : Int32) (σ : MS) : Option (Int32 × MS) :=
  (m_notThen p1 p2 σ).bind fun a1 =>
  if a1.1 = 0 then (
    (m_runs a1.2).bind fun a2 =>
    if inB ((6 * p1) + p2) 366 = true then
    some (mA a2.2 25 (ix ((6 * p1) + p2)), a2.2)
    else none)
  else (
    (m_no a1.1 a1.2).bind fun a3 =>
    some (a3.1, a3.2))
theorem J_m_state {X : JX} {ad : Nat → Nat} (p1 : Int32) (p2 : Int32) (σ : MS) : JO X M_m_state (QF X eI (wM ad (xZ X))) 0 [some (.ref (ad 0)), some (.int p1), some (.int p2), none] [] (wsM ad (xZ X) σ) (m_state p1 p2 σ) := by
  unfold m_state
  refine JO.aloadn dX10_state_0 rfl ?_
  refine JO.iloadn dX10_state_1 rfl ?_
  refine JO.iloadn dX10_state_2 rfl ?_
  refine JO.mvi (C_m_notThen _ _ _) K_m_notThen k6_147 rfl rfl rfl (Nat.le_of_ble_eq_true rfl) dX10_state_3 (fun a1 => ?_)
  refine JO.istoren dX10_state_6 rfl rfl ?_
  refine JO.iloadn dX10_state_7 rfl ?_
  refine JO.if_eq 17 dX10_state_8 rfl ?_ ?_
  · refine JO.aloadn dX10_state_17 rfl ?_
    refine JO.mvv (C_m_runs _) K_m_runs k5_172 rfl rfl rfl (Nat.le_of_ble_eq_true rfl) dX10_state_18 (fun a2 => ?_)
    refine JO.aloadn dX10_state_21 rfl ?_
    refine gM25 dX10_state_22 rfl ?_
    refine JO.bip 6 dX10_state_25 (by decide) ?_
    refine JO.iloadn dX10_state_27 rfl ?_
    refine JO.imul dX10_state_28 ?_
    refine JO.iloadn dX10_state_29 rfl ?_
    refine JO.iadd dX10_state_30 ?_
    refine aM25 dX10_state_31 ?_
    exact JO.iret dX10_state_32 rfl rfl rfl
  · refine JO.aloadn dX10_state_11 rfl ?_
    refine JO.iloadn dX10_state_12 rfl ?_
    refine JO.mvi (C_m_no _ _) K_m_no k5_137 rfl rfl rfl (Nat.le_of_ble_eq_true rfl) dX10_state_13 (fun a3 => ?_)
    exact JO.iret dX10_state_16 rfl rfl rfl
theorem C_m_state {ad : Nat → Nat} {Z : ZT} (p1 : Int32) (p2 : Int32) (σ : MS) : CO yX10_state M_m_state eI Z (wM ad Z) [.ref (ad 0), .int p1, .int p2] (wsM ad Z σ) (m_state p1 p2 σ) :=
  CO.of rfl rfl (Nat.le_of_ble_eq_true rfl) 1 (fun X hZ => by subst hZ; exact J_m_state _ _ σ)
theorem K_m_state : Kv yX10_state M_m_state RX10 2 := ⟨rfl, k6_144, k6_145, k1_10, k6_146, by decide +kernel⟩
abbrev M_m_hasNoted : JM := (cX10_hasNoted, 5, RX10, (some .boolean), 0, 0)
def m_hasNoted_l3 : Nat → Int32 → Int32 → Int32 → Int32 → MS → Option (Bool × MS)
  | 0, _, _, _, _, _ => none
  | n + 1, x1, x2, x3, x4, σ =>
    if inB ((6 * x1) + x2) 366 = true then
    if mA σ 26 (ix ((6 * x1) + x2)) ≤ x4 then (
      some (false, σ))
    else (
      if inB ((20 * x2) + x4) 120 = true then
      if mA σ 13 (ix ((20 * x2) + x4)) = x3 then (
        some (true, σ))
      else (
        m_hasNoted_l3 n x1 x2 x3 (x4 + 1) σ)
      else none)
    else none
def m_hasNoted (p1 : Int32) (p2 : Int32) (p3 : Int32) (σ : MS) : Option (Bool × MS) :=
  m_hasNoted_l3 4096 p1 p2 p3 0 σ
theorem J_m_hasNoted_l3 {X : JX} {ad : Nat → Nat} : ∀ (n : Nat) (x1 : Int32) (x2 : Int32) (x3 : Int32) (x4 : Int32) (σ : MS), JO X M_m_hasNoted (QF X eZ (wM ad (xZ X))) 3 [some (.ref (ad 0)), some (.int x1), some (.int x2), some (.int x3), some (.int x4)] [] (wsM ad (xZ X) σ) (m_hasNoted_l3 n x1 x2 x3 x4 σ) := by
  intro n
  induction n with
  | zero => intro x1 x2 x3 x4 σ; exact JO.nil
  | succ n ih =>
    intro x1 x2 x3 x4 σ
    unfold m_hasNoted_l3
    refine JO.iload dX10_hasNoted_3 rfl ?_
    refine JO.aloadn dX10_hasNoted_5 rfl ?_
    refine gM26 dX10_hasNoted_6 rfl ?_
    refine JO.bip 6 dX10_hasNoted_9 (by decide) ?_
    refine JO.iloadn dX10_hasNoted_11 rfl ?_
    refine JO.imul dX10_hasNoted_12 ?_
    refine JO.iloadn dX10_hasNoted_13 rfl ?_
    refine JO.iadd dX10_hasNoted_14 ?_
    refine aM26 dX10_hasNoted_15 ?_
    refine JO.icmp_ge 43 dX10_hasNoted_16 rfl ?_ ?_
    · refine JO.ic 0 dX10_hasNoted_43 (by decide) ?_
      exact JO.zret (b := false) dX10_hasNoted_44 rfl rfl rfl
    · refine JO.aloadn dX10_hasNoted_19 rfl ?_
      refine gM13 dX10_hasNoted_20 rfl ?_
      refine JO.bip 20 dX10_hasNoted_23 (by decide) ?_
      refine JO.iloadn dX10_hasNoted_25 rfl ?_
      refine JO.imul dX10_hasNoted_26 ?_
      refine JO.iload dX10_hasNoted_27 rfl ?_
      refine JO.iadd dX10_hasNoted_29 ?_
      refine aM13 dX10_hasNoted_30 ?_
      refine JO.iloadn dX10_hasNoted_31 rfl ?_
      refine JO.icmp_ne 37 dX10_hasNoted_32 rfl ?_ ?_
      · refine JO.iinc dX10_hasNoted_37 rfl 1 (by decide) rfl rfl ?_
        refine JO.goto 3 dX10_hasNoted_40 rfl ?_
        exact (ih _ _ _ _ _).jump (lvLe.so rfl (lvLe.so rfl (lvLe.so rfl (lvLe.so rfl (lvLe.so rfl (lvLe.nil))))))
      · refine JO.ic 1 dX10_hasNoted_35 (by decide) ?_
        exact JO.zret (b := true) dX10_hasNoted_36 rfl rfl rfl
theorem J_m_hasNoted {X : JX} {ad : Nat → Nat} (p1 : Int32) (p2 : Int32) (p3 : Int32) (σ : MS) : JO X M_m_hasNoted (QF X eZ (wM ad (xZ X))) 0 [some (.ref (ad 0)), some (.int p1), some (.int p2), some (.int p3), none] [] (wsM ad (xZ X) σ) (m_hasNoted p1 p2 p3 σ) := by
  unfold m_hasNoted
  refine JO.ic 0 dX10_hasNoted_0 (by decide) ?_
  refine JO.istore dX10_hasNoted_1 rfl rfl ?_
  exact (J_m_hasNoted_l3 4096 _ _ _ _ _).jump (lvLe.so rfl (lvLe.so rfl (lvLe.so rfl (lvLe.so rfl (lvLe.so rfl (lvLe.nil))))))
theorem C_m_hasNoted {ad : Nat → Nat} {Z : ZT} (p1 : Int32) (p2 : Int32) (p3 : Int32) (σ : MS) : CO yX10_hasNoted M_m_hasNoted eZ Z (wM ad Z) [.ref (ad 0), .int p1, .int p2, .int p3] (wsM ad Z σ) (m_hasNoted p1 p2 p3 σ) :=
  CO.of rfl rfl (Nat.le_of_ble_eq_true rfl) 1 (fun X hZ => by subst hZ; exact J_m_hasNoted _ _ _ σ)
theorem K_m_hasNoted : Kv yX10_hasNoted M_m_hasNoted RX10 3 := ⟨rfl, k6_168, s6_5, k1_10, k6_169, by decide +kernel⟩
abbrev M_m_decidedAt : JM := (cX10_decidedAt, 3, RX10, (some .int), 1, 24)
def m_decidedAt (p1 : Int32) (p2 : Int32) (σ : MS) : Option (Int32 × MS) :=
  (m_hasNoted p1 p2 4 σ).bind fun a1 =>
  if a1.1 = true then (
    some (1, a1.2))
  else (
    (m_hasNoted p1 p2 5 a1.2).bind fun a2 =>
    if a2.1 = true then (
      some (2, a2.2))
    else (
      if p2 = 0 then (
        if mI a2.2 8 = 1 then (
          if inB (6 * p1) 366 = true then
          if mA a2.2 25 (ix (6 * p1)) = 5 then (
            some (2, a2.2))
          else (
            some (0, a2.2))
          else none)
        else (
          some (0, a2.2)))
      else (
        some (0, a2.2))))
theorem J_m_decidedAt {X : JX} {ad : Nat → Nat} (p1 : Int32) (p2 : Int32) (σ : MS) : JO X M_m_decidedAt (QF X eI (wM ad (xZ X))) 0 [some (.ref (ad 0)), some (.int p1), some (.int p2)] [] (wsM ad (xZ X) σ) (m_decidedAt p1 p2 σ) := by
  unfold m_decidedAt
  refine JO.aloadn dX10_decidedAt_0 rfl ?_
  refine JO.iloadn dX10_decidedAt_1 rfl ?_
  refine JO.iloadn dX10_decidedAt_2 rfl ?_
  refine JO.ic 4 dX10_decidedAt_3 (by decide) ?_
  refine JO.mvz (C_m_hasNoted _ _ _ _) K_m_hasNoted k6_166 rfl rfl rfl (Nat.le_of_ble_eq_true rfl) dX10_decidedAt_4 (fun a1 => ?_)
  refine JO.zeq 12 dX10_decidedAt_7 rfl ?_ ?_
  · refine JO.aloadn dX10_decidedAt_12 rfl ?_
    refine JO.iloadn dX10_decidedAt_13 rfl ?_
    refine JO.iloadn dX10_decidedAt_14 rfl ?_
    refine JO.ic 5 dX10_decidedAt_15 (by decide) ?_
    refine JO.mvz (C_m_hasNoted _ _ _ _) K_m_hasNoted k6_166 rfl rfl rfl (Nat.le_of_ble_eq_true rfl) dX10_decidedAt_16 (fun a2 => ?_)
    refine JO.zeq 24 dX10_decidedAt_19 rfl ?_ ?_
    · refine JO.iloadn dX10_decidedAt_24 rfl ?_
      refine JO.if_ne 53 dX10_decidedAt_25 rfl ?_ ?_
      · refine JO.ic 0 dX10_decidedAt_53 (by decide) ?_
        exact JO.iret dX10_decidedAt_54 rfl rfl rfl
      · refine JO.aloadn dX10_decidedAt_28 rfl ?_
        refine gM8 dX10_decidedAt_29 rfl ?_
        refine JO.ic 1 dX10_decidedAt_32 (by decide) ?_
        refine JO.icmp_ne 53 dX10_decidedAt_33 rfl ?_ ?_
        · refine JO.ic 0 dX10_decidedAt_53 (by decide) ?_
          exact JO.iret dX10_decidedAt_54 rfl rfl rfl
        · refine JO.aloadn dX10_decidedAt_36 rfl ?_
          refine gM25 dX10_decidedAt_37 rfl ?_
          refine JO.bip 6 dX10_decidedAt_40 (by decide) ?_
          refine JO.iloadn dX10_decidedAt_42 rfl ?_
          refine JO.imul dX10_decidedAt_43 ?_
          refine aM25 dX10_decidedAt_44 ?_
          refine JO.ic 5 dX10_decidedAt_45 (by decide) ?_
          refine JO.icmp_ne 53 dX10_decidedAt_46 rfl ?_ ?_
          · refine JO.ic 0 dX10_decidedAt_53 (by decide) ?_
            exact JO.iret dX10_decidedAt_54 rfl rfl rfl
          · refine JO.ic 2 dX10_decidedAt_49 (by decide) ?_
            refine JO.goto 54 dX10_decidedAt_50 rfl ?_
            exact JO.iret dX10_decidedAt_54 rfl rfl rfl
    · refine JO.ic 2 dX10_decidedAt_22 (by decide) ?_
      exact JO.iret dX10_decidedAt_23 rfl rfl rfl
  · refine JO.ic 1 dX10_decidedAt_10 (by decide) ?_
    exact JO.iret dX10_decidedAt_11 rfl rfl rfl
theorem C_m_decidedAt {ad : Nat → Nat} {Z : ZT} (p1 : Int32) (p2 : Int32) (σ : MS) : CO yX10_decidedAt M_m_decidedAt eI Z (wM ad Z) [.ref (ad 0), .int p1, .int p2] (wsM ad Z σ) (m_decidedAt p1 p2 σ) :=
  CO.of rfl rfl (Nat.le_of_ble_eq_true rfl) 0 (fun X hZ => by subst hZ; exact J_m_decidedAt _ _ σ)
theorem K_m_decidedAt : Kv yX10_decidedAt M_m_decidedAt RX10 2 := ⟨rfl, k6_164, s6_4, k1_10, k6_165, by decide +kernel⟩
abbrev M_m_decided : JM := (cX10_decided, 4, RX10, (some .int), 8, 171)
def m_decided (p1 : Int32) (p2 : Int32) (σ : MS) : Option (Int32 × MS) :=
  (m_notThen p1 p2 σ).bind fun a1 =>
  if a1.1 = 0 then (
    (m_runs a1.2).bind fun a2 =>
    (m_decidedAt p1 p2 a2.2).bind fun a3 =>
    some (a3.1, a3.2))
  else (
    (m_no a1.1 a1.2).bind fun a4 =>
    some (a4.1, a4.2))
theorem J_m_decided {X : JX} {ad : Nat → Nat} (p1 : Int32) (p2 : Int32) (σ : MS) : JO X M_m_decided (QF X eI (wM ad (xZ X))) 0 [some (.ref (ad 0)), some (.int p1), some (.int p2), none] [] (wsM ad (xZ X) σ) (m_decided p1 p2 σ) := by
  unfold m_decided
  refine JO.aloadn dX10_decided_0 rfl ?_
  refine JO.iloadn dX10_decided_1 rfl ?_
  refine JO.iloadn dX10_decided_2 rfl ?_
  refine JO.mvi (C_m_notThen _ _ _) K_m_notThen k6_147 rfl rfl rfl (Nat.le_of_ble_eq_true rfl) dX10_decided_3 (fun a1 => ?_)
  refine JO.istoren dX10_decided_6 rfl rfl ?_
  refine JO.iloadn dX10_decided_7 rfl ?_
  refine JO.if_eq 17 dX10_decided_8 rfl ?_ ?_
  · refine JO.aloadn dX10_decided_17 rfl ?_
    refine JO.mvv (C_m_runs _) K_m_runs k5_172 rfl rfl rfl (Nat.le_of_ble_eq_true rfl) dX10_decided_18 (fun a2 => ?_)
    refine JO.aloadn dX10_decided_21 rfl ?_
    refine JO.iloadn dX10_decided_22 rfl ?_
    refine JO.iloadn dX10_decided_23 rfl ?_
    refine JO.mvi (C_m_decidedAt _ _ _) K_m_decidedAt k6_162 rfl rfl rfl (Nat.le_of_ble_eq_true rfl) dX10_decided_24 (fun a3 => ?_)
    exact JO.iret dX10_decided_27 rfl rfl rfl
  · refine JO.aloadn dX10_decided_11 rfl ?_
    refine JO.iloadn dX10_decided_12 rfl ?_
    refine JO.mvi (C_m_no _ _) K_m_no k5_137 rfl rfl rfl (Nat.le_of_ble_eq_true rfl) dX10_decided_13 (fun a4 => ?_)
    exact JO.iret dX10_decided_16 rfl rfl rfl
theorem C_m_decided {ad : Nat → Nat} {Z : ZT} (p1 : Int32) (p2 : Int32) (σ : MS) : CO yX10_decided M_m_decided eI Z (wM ad Z) [.ref (ad 0), .int p1, .int p2] (wsM ad Z σ) (m_decided p1 p2 σ) :=
  CO.of rfl rfl (Nat.le_of_ble_eq_true rfl) 1 (fun X hZ => by subst hZ; exact J_m_decided _ _ σ)
theorem K_m_decided : Kv yX10_decided M_m_decided RX10 2 := ⟨rfl, k6_159, k6_160, k1_10, k6_161, by decide +kernel⟩
abbrev M_m_records : JM := (cX10_records, 4, RX10, (some .int), 8, 171)
def m_records (p1 : Int32) (p2 : Int32) (σ : MS) : Option (Int32 × MS) :=
  (m_notThen p1 p2 σ).bind fun a1 =>
  if a1.1 = 0 then (
    (m_runs a1.2).bind fun a2 =>
    if inB ((6 * p1) + p2) 366 = true then
    some (mA a2.2 26 (ix ((6 * p1) + p2)), a2.2)
    else none)
  else (
    (m_no a1.1 a1.2).bind fun a3 =>
    some (a3.1, a3.2))
theorem J_m_records {X : JX} {ad : Nat → Nat} (p1 : Int32) (p2 : Int32) (σ : MS) : JO X M_m_records (QF X eI (wM ad (xZ X))) 0 [some (.ref (ad 0)), some (.int p1), some (.int p2), none] [] (wsM ad (xZ X) σ) (m_records p1 p2 σ) := by
  unfold m_records
  refine JO.aloadn dX10_records_0 rfl ?_
  refine JO.iloadn dX10_records_1 rfl ?_
  refine JO.iloadn dX10_records_2 rfl ?_
  refine JO.mvi (C_m_notThen _ _ _) K_m_notThen k6_147 rfl rfl rfl (Nat.le_of_ble_eq_true rfl) dX10_records_3 (fun a1 => ?_)
  refine JO.istoren dX10_records_6 rfl rfl ?_
  refine JO.iloadn dX10_records_7 rfl ?_
  refine JO.if_eq 17 dX10_records_8 rfl ?_ ?_
  · refine JO.aloadn dX10_records_17 rfl ?_
    refine JO.mvv (C_m_runs _) K_m_runs k5_172 rfl rfl rfl (Nat.le_of_ble_eq_true rfl) dX10_records_18 (fun a2 => ?_)
    refine JO.aloadn dX10_records_21 rfl ?_
    refine gM26 dX10_records_22 rfl ?_
    refine JO.bip 6 dX10_records_25 (by decide) ?_
    refine JO.iloadn dX10_records_27 rfl ?_
    refine JO.imul dX10_records_28 ?_
    refine JO.iloadn dX10_records_29 rfl ?_
    refine JO.iadd dX10_records_30 ?_
    refine aM26 dX10_records_31 ?_
    exact JO.iret dX10_records_32 rfl rfl rfl
  · refine JO.aloadn dX10_records_11 rfl ?_
    refine JO.iloadn dX10_records_12 rfl ?_
    refine JO.mvi (C_m_no _ _) K_m_no k5_137 rfl rfl rfl (Nat.le_of_ble_eq_true rfl) dX10_records_13 (fun a3 => ?_)
    exact JO.iret dX10_records_16 rfl rfl rfl
theorem C_m_records {ad : Nat → Nat} {Z : ZT} (p1 : Int32) (p2 : Int32) (σ : MS) : CO yX10_records M_m_records eI Z (wM ad Z) [.ref (ad 0), .int p1, .int p2] (wsM ad Z σ) (m_records p1 p2 σ) :=
  CO.of rfl rfl (Nat.le_of_ble_eq_true rfl) 1 (fun X hZ => by subst hZ; exact J_m_records _ _ σ)
theorem K_m_records : Kv yX10_records M_m_records RX10 2 := ⟨rfl, k6_171, k6_172, k1_10, k6_173, by decide +kernel⟩
abbrev M_m_record : JM := (cX10_record, 3, RX10, (some .int), 8, 171)
def m_record (p1 : Int32) (p2 : Int32) (σ : MS) : Option (Int32 × MS) :=
  (m_isSite p1 σ).bind fun a1 =>
  if a1.1 = true then (
    (m_runs a1.2).bind fun a2 =>
    if inB p1 6 = true then
    (m_isIn p2 0 (mA a2.2 14 (ix p1) - 1) a2.2).bind fun a3 =>
    if a3.1 = true then (
      if inB ((20 * p1) + p2) 120 = true then
      some (mA a3.2 13 (ix ((20 * p1) + p2)), a3.2)
      else none)
    else (
      (m_no (-5) a3.2).bind fun a4 =>
      some (a4.1, a4.2))
    else none)
  else (
    (m_no (-1) a1.2).bind fun a5 =>
    some (a5.1, a5.2))
theorem J_m_record {X : JX} {ad : Nat → Nat} (p1 : Int32) (p2 : Int32) (σ : MS) : JO X M_m_record (QF X eI (wM ad (xZ X))) 0 [some (.ref (ad 0)), some (.int p1), some (.int p2)] [] (wsM ad (xZ X) σ) (m_record p1 p2 σ) := by
  unfold m_record
  refine JO.aloadn dX10_record_0 rfl ?_
  refine JO.iloadn dX10_record_1 rfl ?_
  refine JO.mvz (C_m_isSite _ _) K_m_isSite k6_151 rfl rfl rfl (Nat.le_of_ble_eq_true rfl) dX10_record_2 (fun a1 => ?_)
  refine JO.zne 14 dX10_record_5 rfl ?_ ?_
  · refine JO.aloadn dX10_record_14 rfl ?_
    refine JO.mvv (C_m_runs _) K_m_runs k5_172 rfl rfl rfl (Nat.le_of_ble_eq_true rfl) dX10_record_15 (fun a2 => ?_)
    refine JO.iloadn dX10_record_18 rfl ?_
    refine JO.ic 0 dX10_record_19 (by decide) ?_
    refine JO.aloadn dX10_record_20 rfl ?_
    refine gM14 dX10_record_21 rfl ?_
    refine JO.iloadn dX10_record_24 rfl ?_
    refine aM14 dX10_record_25 ?_
    refine JO.ic 1 dX10_record_26 (by decide) ?_
    refine JO.isub dX10_record_27 ?_
    refine JO.msz (C_m_isIn _ _ _ _) K_m_isIn k5_134 rfl rfl rfl (Nat.le_of_ble_eq_true rfl) dX10_record_28 (fun a3 => ?_)
    refine JO.zeq 48 dX10_record_31 rfl ?_ ?_
    · refine JO.aloadn dX10_record_48 rfl ?_
      refine JO.bip (-5) dX10_record_49 (by decide) ?_
      refine JO.mvi (C_m_no _ _) K_m_no k5_137 rfl rfl rfl (Nat.le_of_ble_eq_true rfl) dX10_record_51 (fun a4 => ?_)
      exact JO.iret dX10_record_54 rfl rfl rfl
    · refine JO.aloadn dX10_record_34 rfl ?_
      refine gM13 dX10_record_35 rfl ?_
      refine JO.bip 20 dX10_record_38 (by decide) ?_
      refine JO.iloadn dX10_record_40 rfl ?_
      refine JO.imul dX10_record_41 ?_
      refine JO.iloadn dX10_record_42 rfl ?_
      refine JO.iadd dX10_record_43 ?_
      refine aM13 dX10_record_44 ?_
      refine JO.goto 54 dX10_record_45 rfl ?_
      exact JO.iret dX10_record_54 rfl rfl rfl
  · refine JO.aloadn dX10_record_8 rfl ?_
    refine JO.ic (-1) dX10_record_9 (by decide) ?_
    refine JO.mvi (C_m_no _ _) K_m_no k5_137 rfl rfl rfl (Nat.le_of_ble_eq_true rfl) dX10_record_10 (fun a5 => ?_)
    exact JO.iret dX10_record_13 rfl rfl rfl
theorem C_m_record {ad : Nat → Nat} {Z : ZT} (p1 : Int32) (p2 : Int32) (σ : MS) : CO yX10_record M_m_record eI Z (wM ad Z) [.ref (ad 0), .int p1, .int p2] (wsM ad Z σ) (m_record p1 p2 σ) :=
  CO.of rfl rfl (Nat.le_of_ble_eq_true rfl) 0 (fun X hZ => by subst hZ; exact J_m_record _ _ σ)
theorem K_m_record : Kv yX10_record M_m_record RX10 2 := ⟨rfl, k6_175, k6_176, k1_10, k6_177, by decide +kernel⟩
abbrev M_m_sent : JM := (cX10_sent, 2, RX10, (some .int), 8, 171)
def m_sent (p1 : Int32) (σ : MS) : Option (Int32 × MS) :=
  (m_isTick p1 σ).bind fun a1 =>
  if a1.1 = true then (
    (m_runs a1.2).bind fun a2 =>
    if inB p1 61 = true then
    some (mA a2.2 27 (ix p1), a2.2)
    else none)
  else (
    (m_no (-6) a1.2).bind fun a3 =>
    some (a3.1, a3.2))
theorem J_m_sent {X : JX} {ad : Nat → Nat} (p1 : Int32) (σ : MS) : JO X M_m_sent (QF X eI (wM ad (xZ X))) 0 [some (.ref (ad 0)), some (.int p1)] [] (wsM ad (xZ X) σ) (m_sent p1 σ) := by
  unfold m_sent
  refine JO.iloadn dX10_sent_0 rfl ?_
  refine JO.msz (C_m_isTick _ _) K_m_isTick k6_155 rfl rfl rfl (Nat.le_of_ble_eq_true rfl) dX10_sent_1 (fun a1 => ?_)
  refine JO.zne 14 dX10_sent_4 rfl ?_ ?_
  · refine JO.aloadn dX10_sent_14 rfl ?_
    refine JO.mvv (C_m_runs _) K_m_runs k5_172 rfl rfl rfl (Nat.le_of_ble_eq_true rfl) dX10_sent_15 (fun a2 => ?_)
    refine JO.aloadn dX10_sent_18 rfl ?_
    refine gM27 dX10_sent_19 rfl ?_
    refine JO.iloadn dX10_sent_22 rfl ?_
    refine aM27 dX10_sent_23 ?_
    exact JO.iret dX10_sent_24 rfl rfl rfl
  · refine JO.aloadn dX10_sent_7 rfl ?_
    refine JO.bip (-6) dX10_sent_8 (by decide) ?_
    refine JO.mvi (C_m_no _ _) K_m_no k5_137 rfl rfl rfl (Nat.le_of_ble_eq_true rfl) dX10_sent_10 (fun a3 => ?_)
    exact JO.iret dX10_sent_13 rfl rfl rfl
theorem C_m_sent {ad : Nat → Nat} {Z : ZT} (p1 : Int32) (σ : MS) : CO yX10_sent M_m_sent eI Z (wM ad Z) [.ref (ad 0), .int p1] (wsM ad Z σ) (m_sent p1 σ) :=
  CO.of rfl rfl (Nat.le_of_ble_eq_true rfl) 0 (fun X hZ => by subst hZ; exact J_m_sent _ σ)
theorem K_m_sent : Kv yX10_sent M_m_sent RX10 1 := ⟨rfl, k6_179, k6_180, k1_10, k6_181, by decide +kernel⟩
abbrev M_m_message : JM := (cX10_message, 3, RX10, (some .int), 8, 171)
def m_message_b27 (σ : MS) : Option (Int32 × MS) :=
  (m_no (-5) σ).bind fun a1 =>
  some (a1.1, a1.2)
def m_message (p1 : Int32) (p2 : Int32) (σ : MS) : Option (Int32 × MS) :=
  (m_runs σ).bind fun a1 =>
  (m_isIn p1 0 (mI a1.2 21 - 1) a1.2).bind fun a2 =>
  if a2.1 = true then (
    (m_isIn p2 0 4 a2.2).bind fun a3 =>
    if a3.1 = true then (
      sw p2 [(0, 64,
        if inB p1 200 = true then
        some (mA a3.2 16 (ix p1), a3.2)
        else none), (1, 71,
        if inB p1 200 = true then
        some (mA a3.2 17 (ix p1), a3.2)
        else none), (2, 78,
        if inB p1 200 = true then
        some (mA a3.2 18 (ix p1), a3.2)
        else none), (3, 85,
        if inB p1 200 = true then
        some (mA a3.2 19 (ix p1), a3.2)
        else none)] (
        if inB p1 200 = true then
        some (mA a3.2 20 (ix p1), a3.2)
        else none))
    else (
      m_message_b27 a3.2))
  else (
    m_message_b27 a2.2)
theorem J_m_message_b27 {X : JX} {ad : Nat → Nat} (σ : MS) : JO X M_m_message (QF X eI (wM ad (xZ X))) 27 [some (.ref (ad 0)), none, none] [] (wsM ad (xZ X) σ) (m_message_b27 σ) := by
  unfold m_message_b27
  refine JO.aloadn dX10_message_27 rfl ?_
  refine JO.bip (-5) dX10_message_28 (by decide) ?_
  refine JO.mvi (C_m_no _ _) K_m_no k5_137 rfl rfl rfl (Nat.le_of_ble_eq_true rfl) dX10_message_30 (fun a1 => ?_)
  exact JO.iret dX10_message_33 rfl rfl rfl
theorem J_m_message {X : JX} {ad : Nat → Nat} (p1 : Int32) (p2 : Int32) (σ : MS) : JO X M_m_message (QF X eI (wM ad (xZ X))) 0 [some (.ref (ad 0)), some (.int p1), some (.int p2)] [] (wsM ad (xZ X) σ) (m_message p1 p2 σ) := by
  unfold m_message
  refine JO.aloadn dX10_message_0 rfl ?_
  refine JO.mvv (C_m_runs _) K_m_runs k5_172 rfl rfl rfl (Nat.le_of_ble_eq_true rfl) dX10_message_1 (fun a1 => ?_)
  refine JO.iloadn dX10_message_4 rfl ?_
  refine JO.ic 0 dX10_message_5 (by decide) ?_
  refine JO.aloadn dX10_message_6 rfl ?_
  refine gM21 dX10_message_7 rfl ?_
  refine JO.ic 1 dX10_message_10 (by decide) ?_
  refine JO.isub dX10_message_11 ?_
  refine JO.msz (C_m_isIn _ _ _ _) K_m_isIn k5_134 rfl rfl rfl (Nat.le_of_ble_eq_true rfl) dX10_message_12 (fun a2 => ?_)
  refine JO.zeq 27 dX10_message_15 rfl ?_ ?_
  · exact (J_m_message_b27 _).jump (lvLe.so rfl (lvLe.no (lvLe.no (lvLe.nil))))
  · refine JO.iloadn dX10_message_18 rfl ?_
    refine JO.ic 0 dX10_message_19 (by decide) ?_
    refine JO.ic 4 dX10_message_20 (by decide) ?_
    refine JO.msz (C_m_isIn _ _ _ _) K_m_isIn k5_134 rfl rfl rfl (Nat.le_of_ble_eq_true rfl) dX10_message_21 (fun a3 => ?_)
    refine JO.zne 34 dX10_message_24 rfl ?_ ?_
    · refine JO.iloadn dX10_message_34 rfl ?_
      refine JO.tsw [(0, 64, _), (1, 71, _), (2, 78, _), (3, 85, _)] 92 [(0, 64), (1, 71), (2, 78), (3, 85)] dX10_message_35 rfl (by decide) rfl (by decide) (JO.swCons ?_ (JO.swCons ?_ (JO.swCons ?_ (JO.swCons ?_ (JO.swNil))))) ?_
      · refine JO.aloadn dX10_message_64 rfl ?_
        refine gM16 dX10_message_65 rfl ?_
        refine JO.iloadn dX10_message_68 rfl ?_
        refine aM16 dX10_message_69 ?_
        exact JO.iret dX10_message_70 rfl rfl rfl
      · refine JO.aloadn dX10_message_71 rfl ?_
        refine gM17 dX10_message_72 rfl ?_
        refine JO.iloadn dX10_message_75 rfl ?_
        refine aM17 dX10_message_76 ?_
        exact JO.iret dX10_message_77 rfl rfl rfl
      · refine JO.aloadn dX10_message_78 rfl ?_
        refine gM18 dX10_message_79 rfl ?_
        refine JO.iloadn dX10_message_82 rfl ?_
        refine aM18 dX10_message_83 ?_
        exact JO.iret dX10_message_84 rfl rfl rfl
      · refine JO.aloadn dX10_message_85 rfl ?_
        refine gM19 dX10_message_86 rfl ?_
        refine JO.iloadn dX10_message_89 rfl ?_
        refine aM19 dX10_message_90 ?_
        exact JO.iret dX10_message_91 rfl rfl rfl
      · refine JO.aloadn dX10_message_92 rfl ?_
        refine gM20 dX10_message_93 rfl ?_
        refine JO.iloadn dX10_message_96 rfl ?_
        refine aM20 dX10_message_97 ?_
        exact JO.iret dX10_message_98 rfl rfl rfl
    · exact (J_m_message_b27 _).jump (lvLe.so rfl (lvLe.no (lvLe.no (lvLe.nil))))
theorem C_m_message {ad : Nat → Nat} {Z : ZT} (p1 : Int32) (p2 : Int32) (σ : MS) : CO yX10_message M_m_message eI Z (wM ad Z) [.ref (ad 0), .int p1, .int p2] (wsM ad Z σ) (m_message p1 p2 σ) :=
  CO.of rfl rfl (Nat.le_of_ble_eq_true rfl) 0 (fun X hZ => by subst hZ; exact J_m_message _ _ σ)
theorem K_m_message : Kv yX10_message M_m_message RX10 2 := ⟨rfl, k6_183, k6_184, k1_10, k6_185, by decide +kernel⟩
abbrev M_m_areAlike : JM := (cX10_areAlike, 4, RX10, (some .boolean), 2, 46)
def m_areAlike_b29 (x2 : Int32) (σ : MS) : Option (Bool × MS) :=
  if (x2 &&& 6) = 6 then (
    some (false, σ))
  else (
    some (true, σ))
def m_areAlike_l4 : Nat → Int32 → Int32 → Int32 → MS → Option (Bool × MS)
  | 0, _, _, _, _ => none
  | n + 1, x1, x2, x3, σ =>
    if mI σ 5 < x3 then (
      m_areAlike_b29 x2 σ)
    else (
      (m_decidedAt x1 x3 σ).bind fun a1 =>
      m_areAlike_l4 n x1 (x2 ||| ((1 : Int32) <<< (a1.1 &&& 31))) (x3 + 1) a1.2)
def m_areAlike (p1 : Int32) (σ : MS) : Option (Bool × MS) :=
  m_areAlike_l4 4096 p1 0 0 σ
theorem J_m_areAlike_b29 {X : JX} {ad : Nat → Nat} (x2 : Int32) (σ : MS) : JO X M_m_areAlike (QF X eZ (wM ad (xZ X))) 29 [none, none, some (.int x2), none] [] (wsM ad (xZ X) σ) (m_areAlike_b29 x2 σ) := by
  unfold m_areAlike_b29
  refine JO.iloadn dX10_areAlike_29 rfl ?_
  refine JO.bip 6 dX10_areAlike_30 (by decide) ?_
  refine JO.iand dX10_areAlike_32 ?_
  refine JO.bip 6 dX10_areAlike_33 (by decide) ?_
  refine JO.icmp_eq 42 dX10_areAlike_35 rfl ?_ ?_
  · refine JO.ic 0 dX10_areAlike_42 (by decide) ?_
    exact JO.zret (b := false) dX10_areAlike_43 rfl rfl rfl
  · refine JO.ic 1 dX10_areAlike_38 (by decide) ?_
    refine JO.goto 43 dX10_areAlike_39 rfl ?_
    exact JO.zret (b := true) dX10_areAlike_43 rfl rfl rfl
theorem J_m_areAlike_l4 {X : JX} {ad : Nat → Nat} : ∀ (n : Nat) (x1 : Int32) (x2 : Int32) (x3 : Int32) (σ : MS), JO X M_m_areAlike (QF X eZ (wM ad (xZ X))) 4 [some (.ref (ad 0)), some (.int x1), some (.int x2), some (.int x3)] [] (wsM ad (xZ X) σ) (m_areAlike_l4 n x1 x2 x3 σ) := by
  intro n
  induction n with
  | zero => intro x1 x2 x3 σ; exact JO.nil
  | succ n ih =>
    intro x1 x2 x3 σ
    unfold m_areAlike_l4
    refine JO.iloadn dX10_areAlike_4 rfl ?_
    refine JO.aloadn dX10_areAlike_5 rfl ?_
    refine gM5 dX10_areAlike_6 rfl ?_
    refine JO.icmp_gt 29 dX10_areAlike_9 rfl ?_ ?_
    · exact (J_m_areAlike_b29 _ _).jump (lvLe.no (lvLe.no (lvLe.so rfl (lvLe.no (lvLe.nil)))))
    · refine JO.iloadn dX10_areAlike_12 rfl ?_
      refine JO.ic 1 dX10_areAlike_13 (by decide) ?_
      refine JO.aloadn dX10_areAlike_14 rfl ?_
      refine JO.iloadn dX10_areAlike_15 rfl ?_
      refine JO.iloadn dX10_areAlike_16 rfl ?_
      refine JO.mvi (C_m_decidedAt _ _ _) K_m_decidedAt k6_162 rfl rfl rfl (Nat.le_of_ble_eq_true rfl) dX10_areAlike_17 (fun a1 => ?_)
      refine JO.ishl dX10_areAlike_20 ?_
      refine JO.ior dX10_areAlike_21 ?_
      refine JO.istoren dX10_areAlike_22 rfl rfl ?_
      refine JO.iinc dX10_areAlike_23 rfl 1 (by decide) rfl rfl ?_
      refine JO.goto 4 dX10_areAlike_26 rfl ?_
      exact (ih _ _ _ _).jump (lvLe.so rfl (lvLe.so rfl (lvLe.so rfl (lvLe.so rfl (lvLe.nil)))))
theorem J_m_areAlike {X : JX} {ad : Nat → Nat} (p1 : Int32) (σ : MS) : JO X M_m_areAlike (QF X eZ (wM ad (xZ X))) 0 [some (.ref (ad 0)), some (.int p1), none, none] [] (wsM ad (xZ X) σ) (m_areAlike p1 σ) := by
  unfold m_areAlike
  refine JO.ic 0 dX10_areAlike_0 (by decide) ?_
  refine JO.istoren dX10_areAlike_1 rfl rfl ?_
  refine JO.ic 0 dX10_areAlike_2 (by decide) ?_
  refine JO.istoren dX10_areAlike_3 rfl rfl ?_
  exact (J_m_areAlike_l4 4096 _ _ _ _).jump (lvLe.so rfl (lvLe.so rfl (lvLe.so rfl (lvLe.so rfl (lvLe.nil)))))
theorem C_m_areAlike {ad : Nat → Nat} {Z : ZT} (p1 : Int32) (σ : MS) : CO yX10_areAlike M_m_areAlike eZ Z (wM ad Z) [.ref (ad 0), .int p1] (wsM ad Z σ) (m_areAlike p1 σ) :=
  CO.of rfl rfl (Nat.le_of_ble_eq_true rfl) 2 (fun X hZ => by subst hZ; exact J_m_areAlike _ σ)
theorem K_m_areAlike : Kv yX10_areAlike M_m_areAlike RX10 1 := ⟨rfl, k6_192, s6_6, k1_10, k6_193, by decide +kernel⟩
abbrev M_m_alike : JM := (cX10_alike, 2, RX10, (some .int), 8, 171)
def m_alike (p1 : Int32) (σ : MS) : Option (Int32 × MS) :=
  (m_isTick p1 σ).bind fun a1 =>
  if a1.1 = true then (
    (m_runs a1.2).bind fun a2 =>
    (m_areAlike p1 a2.2).bind fun a3 =>
    if a3.1 = true then (
      some (1, a3.2))
    else (
      some (0, a3.2)))
  else (
    (m_no (-6) a1.2).bind fun a4 =>
    some (a4.1, a4.2))
theorem J_m_alike {X : JX} {ad : Nat → Nat} (p1 : Int32) (σ : MS) : JO X M_m_alike (QF X eI (wM ad (xZ X))) 0 [some (.ref (ad 0)), some (.int p1)] [] (wsM ad (xZ X) σ) (m_alike p1 σ) := by
  unfold m_alike
  refine JO.iloadn dX10_alike_0 rfl ?_
  refine JO.msz (C_m_isTick _ _) K_m_isTick k6_155 rfl rfl rfl (Nat.le_of_ble_eq_true rfl) dX10_alike_1 (fun a1 => ?_)
  refine JO.zne 14 dX10_alike_4 rfl ?_ ?_
  · refine JO.aloadn dX10_alike_14 rfl ?_
    refine JO.mvv (C_m_runs _) K_m_runs k5_172 rfl rfl rfl (Nat.le_of_ble_eq_true rfl) dX10_alike_15 (fun a2 => ?_)
    refine JO.aloadn dX10_alike_18 rfl ?_
    refine JO.iloadn dX10_alike_19 rfl ?_
    refine JO.mvz (C_m_areAlike _ _) K_m_areAlike k6_190 rfl rfl rfl (Nat.le_of_ble_eq_true rfl) dX10_alike_20 (fun a3 => ?_)
    refine JO.zeq 30 dX10_alike_23 rfl ?_ ?_
    · refine JO.ic 0 dX10_alike_30 (by decide) ?_
      exact JO.iret dX10_alike_31 rfl rfl rfl
    · refine JO.ic 1 dX10_alike_26 (by decide) ?_
      refine JO.goto 31 dX10_alike_27 rfl ?_
      exact JO.iret dX10_alike_31 rfl rfl rfl
  · refine JO.aloadn dX10_alike_7 rfl ?_
    refine JO.bip (-6) dX10_alike_8 (by decide) ?_
    refine JO.mvi (C_m_no _ _) K_m_no k5_137 rfl rfl rfl (Nat.le_of_ble_eq_true rfl) dX10_alike_10 (fun a4 => ?_)
    exact JO.iret dX10_alike_13 rfl rfl rfl
theorem C_m_alike {ad : Nat → Nat} {Z : ZT} (p1 : Int32) (σ : MS) : CO yX10_alike M_m_alike eI Z (wM ad Z) [.ref (ad 0), .int p1] (wsM ad Z σ) (m_alike p1 σ) :=
  CO.of rfl rfl (Nat.le_of_ble_eq_true rfl) 0 (fun X hZ => by subst hZ; exact J_m_alike _ σ)
theorem K_m_alike : Kv yX10_alike M_m_alike RX10 1 := ⟨rfl, k6_187, k6_188, k1_10, k6_189, by decide +kernel⟩
abbrev M_m_blockedNow : JM := (cX10_blockedNow, 4, RX10, (some .int), 0, 0)
def m_blockedNow_l4 : Nat → Int32 → Int32 → MS → Option (Int32 × MS)
  | 0, _, _, _ => none
  | n + 1, x1, x2, σ =>
    if mI σ 5 < x2 then (
      some (x1, σ))
    else (
      if inB (360 + x2) 366 = true then
      if mA σ 25 (ix (360 + x2)) = 1 then (
        m_blockedNow_l4 n (x1 ||| ((1 : Int32) <<< (x2 &&& 31))) (x2 + 1) σ)
      else (
        if mA σ 25 (ix (360 + x2)) = 2 then (
          m_blockedNow_l4 n (x1 ||| ((1 : Int32) <<< (x2 &&& 31))) (x2 + 1) σ)
        else (
          m_blockedNow_l4 n (x1 ||| 0) (x2 + 1) σ))
      else none)
def m_blockedNow (σ : MS) : Option (Int32 × MS) :=
  m_blockedNow_l4 4096 0 1 σ
theorem J_m_blockedNow_l4 {X : JX} {ad : Nat → Nat} : ∀ (n : Nat) (x1 : Int32) (x2 : Int32) (σ : MS), JO X M_m_blockedNow (QF X eI (wM ad (xZ X))) 4 [some (.ref (ad 0)), some (.int x1), some (.int x2), none] [] (wsM ad (xZ X) σ) (m_blockedNow_l4 n x1 x2 σ) := by
  intro n
  induction n with
  | zero => intro x1 x2 σ; exact JO.nil
  | succ n ih =>
    intro x1 x2 σ
    unfold m_blockedNow_l4
    refine JO.iloadn dX10_blockedNow_4 rfl ?_
    refine JO.aloadn dX10_blockedNow_5 rfl ?_
    refine gM5 dX10_blockedNow_6 rfl ?_
    refine JO.icmp_gt 49 dX10_blockedNow_9 rfl ?_ ?_
    · refine JO.iloadn dX10_blockedNow_49 rfl ?_
      exact JO.iret dX10_blockedNow_50 rfl rfl rfl
    · refine JO.aloadn dX10_blockedNow_12 rfl ?_
      refine gM25 dX10_blockedNow_13 rfl ?_
      refine JO.sip 360 dX10_blockedNow_16 (by decide) ?_
      refine JO.iloadn dX10_blockedNow_19 rfl ?_
      refine JO.iadd dX10_blockedNow_20 ?_
      refine aM25 dX10_blockedNow_21 ?_
      refine JO.istoren dX10_blockedNow_22 rfl rfl ?_
      refine JO.iloadn dX10_blockedNow_23 rfl ?_
      refine JO.iloadn dX10_blockedNow_24 rfl ?_
      refine JO.ic 1 dX10_blockedNow_25 (by decide) ?_
      refine JO.icmp_eq 34 dX10_blockedNow_26 rfl ?_ ?_
      · refine JO.ic 1 dX10_blockedNow_34 (by decide) ?_
        refine JO.iloadn dX10_blockedNow_35 rfl ?_
        refine JO.ishl dX10_blockedNow_36 ?_
        refine JO.goto 41 dX10_blockedNow_37 rfl ?_
        refine JO.ior dX10_blockedNow_41 ?_
        refine JO.istoren dX10_blockedNow_42 rfl rfl ?_
        refine JO.iinc dX10_blockedNow_43 rfl 1 (by decide) rfl rfl ?_
        refine JO.goto 4 dX10_blockedNow_46 rfl ?_
        exact (ih _ _ _).jump (lvLe.so rfl (lvLe.so rfl (lvLe.so rfl (lvLe.no (lvLe.nil)))))
      · refine JO.iloadn dX10_blockedNow_29 rfl ?_
        refine JO.ic 2 dX10_blockedNow_30 (by decide) ?_
        refine JO.icmp_ne 40 dX10_blockedNow_31 rfl ?_ ?_
        · refine JO.ic 0 dX10_blockedNow_40 (by decide) ?_
          refine JO.ior dX10_blockedNow_41 ?_
          refine JO.istoren dX10_blockedNow_42 rfl rfl ?_
          refine JO.iinc dX10_blockedNow_43 rfl 1 (by decide) rfl rfl ?_
          refine JO.goto 4 dX10_blockedNow_46 rfl ?_
          exact (ih _ _ _).jump (lvLe.so rfl (lvLe.so rfl (lvLe.so rfl (lvLe.no (lvLe.nil)))))
        · refine JO.ic 1 dX10_blockedNow_34 (by decide) ?_
          refine JO.iloadn dX10_blockedNow_35 rfl ?_
          refine JO.ishl dX10_blockedNow_36 ?_
          refine JO.goto 41 dX10_blockedNow_37 rfl ?_
          refine JO.ior dX10_blockedNow_41 ?_
          refine JO.istoren dX10_blockedNow_42 rfl rfl ?_
          refine JO.iinc dX10_blockedNow_43 rfl 1 (by decide) rfl rfl ?_
          refine JO.goto 4 dX10_blockedNow_46 rfl ?_
          exact (ih _ _ _).jump (lvLe.so rfl (lvLe.so rfl (lvLe.so rfl (lvLe.no (lvLe.nil)))))
theorem J_m_blockedNow {X : JX} {ad : Nat → Nat} (σ : MS) : JO X M_m_blockedNow (QF X eI (wM ad (xZ X))) 0 [some (.ref (ad 0)), none, none, none] [] (wsM ad (xZ X) σ) (m_blockedNow σ) := by
  unfold m_blockedNow
  refine JO.ic 0 dX10_blockedNow_0 (by decide) ?_
  refine JO.istoren dX10_blockedNow_1 rfl rfl ?_
  refine JO.ic 1 dX10_blockedNow_2 (by decide) ?_
  refine JO.istoren dX10_blockedNow_3 rfl rfl ?_
  exact (J_m_blockedNow_l4 4096 _ _ _).jump (lvLe.so rfl (lvLe.so rfl (lvLe.so rfl (lvLe.no (lvLe.nil)))))
theorem C_m_blockedNow {ad : Nat → Nat} {Z : ZT} (σ : MS) : CO yX10_blockedNow M_m_blockedNow eI Z (wM ad Z) [.ref (ad 0)] (wsM ad Z σ) (m_blockedNow σ) :=
  CO.of rfl rfl (Nat.le_of_ble_eq_true rfl) 3 (fun X hZ => by subst hZ; exact J_m_blockedNow σ)
theorem K_m_blockedNow : Kv yX10_blockedNow M_m_blockedNow RX10 0 := ⟨rfl, k6_200, s6_7, k1_10, k6_201, by decide +kernel⟩
abbrev M_m_blocked : JM := (cX10_blocked, 1, RX10, (some .int), 8, 171)
def m_blocked (σ : MS) : Option (Int32 × MS) :=
  (m_runs σ).bind fun a1 =>
  (m_blockedNow a1.2).bind fun a2 =>
  some (a2.1, a2.2)
theorem J_m_blocked {X : JX} {ad : Nat → Nat} (σ : MS) : JO X M_m_blocked (QF X eI (wM ad (xZ X))) 0 [some (.ref (ad 0))] [] (wsM ad (xZ X) σ) (m_blocked σ) := by
  unfold m_blocked
  refine JO.aloadn dX10_blocked_0 rfl ?_
  refine JO.mvv (C_m_runs _) K_m_runs k5_172 rfl rfl rfl (Nat.le_of_ble_eq_true rfl) dX10_blocked_1 (fun a1 => ?_)
  refine JO.aloadn dX10_blocked_4 rfl ?_
  refine JO.mvi (C_m_blockedNow _) K_m_blockedNow k6_198 rfl rfl rfl (Nat.le_of_ble_eq_true rfl) dX10_blocked_5 (fun a2 => ?_)
  exact JO.iret dX10_blocked_8 rfl rfl rfl
theorem C_m_blocked {ad : Nat → Nat} {Z : ZT} (σ : MS) : CO yX10_blocked M_m_blocked eI Z (wM ad Z) [.ref (ad 0)] (wsM ad Z σ) (m_blocked σ) :=
  CO.of rfl rfl (Nat.le_of_ble_eq_true rfl) 0 (fun X hZ => by subst hZ; exact J_m_blocked σ)
theorem K_m_blocked : Kv yX10_blocked M_m_blocked RX10 0 := ⟨rfl, k6_195, k6_196, k1_10, k6_197, by decide +kernel⟩
abbrev M_m_isAsLast : JM := (cX10_isAsLast, 3, RX10, (some .boolean), 0, 0)
def m_isAsLast_l2 : Nat → Int32 → Int32 → MS → Option (Bool × MS)
  | 0, _, _, _ => none
  | n + 1, x1, x2, σ =>
    if mI σ 5 < x2 then (
      some (true, σ))
    else (
      if inB ((6 * x1) + x2) 366 = true then
      if inB (360 + x2) 366 = true then
      if mA σ 25 (ix ((6 * x1) + x2)) = mA σ 25 (ix (360 + x2)) then (
        if inB ((6 * x1) + x2) 366 = true then
        if inB x2 6 = true then
        if mA σ 26 (ix ((6 * x1) + x2)) = mA σ 14 (ix x2) then (
          m_isAsLast_l2 n x1 (x2 + 1) σ)
        else (
          some (false, σ))
        else none
        else none)
      else (
        some (false, σ))
      else none
      else none)
def m_isAsLast (p1 : Int32) (σ : MS) : Option (Bool × MS) :=
  m_isAsLast_l2 4096 p1 0 σ
theorem J_m_isAsLast_l2 {X : JX} {ad : Nat → Nat} : ∀ (n : Nat) (x1 : Int32) (x2 : Int32) (σ : MS), JO X M_m_isAsLast (QF X eZ (wM ad (xZ X))) 2 [some (.ref (ad 0)), some (.int x1), some (.int x2)] [] (wsM ad (xZ X) σ) (m_isAsLast_l2 n x1 x2 σ) := by
  intro n
  induction n with
  | zero => intro x1 x2 σ; exact JO.nil
  | succ n ih =>
    intro x1 x2 σ
    unfold m_isAsLast_l2
    refine JO.iloadn dX10_isAsLast_2 rfl ?_
    refine JO.aloadn dX10_isAsLast_3 rfl ?_
    refine gM5 dX10_isAsLast_4 rfl ?_
    refine JO.icmp_gt 62 dX10_isAsLast_7 rfl ?_ ?_
    · refine JO.ic 1 dX10_isAsLast_62 (by decide) ?_
      exact JO.zret (b := true) dX10_isAsLast_63 rfl rfl rfl
    · refine JO.aloadn dX10_isAsLast_10 rfl ?_
      refine gM25 dX10_isAsLast_11 rfl ?_
      refine JO.bip 6 dX10_isAsLast_14 (by decide) ?_
      refine JO.iloadn dX10_isAsLast_16 rfl ?_
      refine JO.imul dX10_isAsLast_17 ?_
      refine JO.iloadn dX10_isAsLast_18 rfl ?_
      refine JO.iadd dX10_isAsLast_19 ?_
      refine aM25 dX10_isAsLast_20 ?_
      refine JO.aloadn dX10_isAsLast_21 rfl ?_
      refine gM25 dX10_isAsLast_22 rfl ?_
      refine JO.sip 360 dX10_isAsLast_25 (by decide) ?_
      refine JO.iloadn dX10_isAsLast_28 rfl ?_
      refine JO.iadd dX10_isAsLast_29 ?_
      refine aM25 dX10_isAsLast_30 ?_
      refine JO.icmp_ne 54 dX10_isAsLast_31 rfl ?_ ?_
      · refine JO.ic 0 dX10_isAsLast_54 (by decide) ?_
        exact JO.zret (b := false) dX10_isAsLast_55 rfl rfl rfl
      · refine JO.aloadn dX10_isAsLast_34 rfl ?_
        refine gM26 dX10_isAsLast_35 rfl ?_
        refine JO.bip 6 dX10_isAsLast_38 (by decide) ?_
        refine JO.iloadn dX10_isAsLast_40 rfl ?_
        refine JO.imul dX10_isAsLast_41 ?_
        refine JO.iloadn dX10_isAsLast_42 rfl ?_
        refine JO.iadd dX10_isAsLast_43 ?_
        refine aM26 dX10_isAsLast_44 ?_
        refine JO.aloadn dX10_isAsLast_45 rfl ?_
        refine gM14 dX10_isAsLast_46 rfl ?_
        refine JO.iloadn dX10_isAsLast_49 rfl ?_
        refine aM14 dX10_isAsLast_50 ?_
        refine JO.icmp_eq 56 dX10_isAsLast_51 rfl ?_ ?_
        · refine JO.iinc dX10_isAsLast_56 rfl 1 (by decide) rfl rfl ?_
          refine JO.goto 2 dX10_isAsLast_59 rfl ?_
          exact (ih _ _ _).jump (lvLe.so rfl (lvLe.so rfl (lvLe.so rfl (lvLe.nil))))
        · refine JO.ic 0 dX10_isAsLast_54 (by decide) ?_
          exact JO.zret (b := false) dX10_isAsLast_55 rfl rfl rfl
theorem J_m_isAsLast {X : JX} {ad : Nat → Nat} (p1 : Int32) (σ : MS) : JO X M_m_isAsLast (QF X eZ (wM ad (xZ X))) 0 [some (.ref (ad 0)), some (.int p1), none] [] (wsM ad (xZ X) σ) (m_isAsLast p1 σ) := by
  unfold m_isAsLast
  refine JO.ic 0 dX10_isAsLast_0 (by decide) ?_
  refine JO.istoren dX10_isAsLast_1 rfl rfl ?_
  exact (J_m_isAsLast_l2 4096 _ _ _).jump (lvLe.so rfl (lvLe.so rfl (lvLe.so rfl (lvLe.nil))))
theorem C_m_isAsLast {ad : Nat → Nat} {Z : ZT} (p1 : Int32) (σ : MS) : CO yX10_isAsLast M_m_isAsLast eZ Z (wM ad Z) [.ref (ad 0), .int p1] (wsM ad Z σ) (m_isAsLast p1 σ) :=
  CO.of rfl rfl (Nat.le_of_ble_eq_true rfl) 1 (fun X hZ => by subst hZ; exact J_m_isAsLast _ σ)
theorem K_m_isAsLast : Kv yX10_isAsLast M_m_isAsLast RX10 1 := ⟨rfl, k6_208, s6_8, k1_10, k6_209, by decide +kernel⟩
