abbrev M_m_comesPre : JM := (cX10_comesPre, 2, RX10, none, 1, 23)
def m_comesPre (p1 : Int32) (σ : MS) : Option (Unit × MS) :=
  if inB p1 6 = true then
  if mA σ 10 (ix p1) = 1 then (
    (m_notes p1 3 σ).bind fun a2 =>
    if inB p1 6 = true then
    (m_sends 5 p1 0 (sA a2.2 10 (ix p1) 2)).bind fun a3 =>
    (m_startsTimer p1 a3.2).bind fun a4 =>
    some ((), a4.2)
    else none)
  else (
    if inB p1 6 = true then
    if mA σ 10 (ix p1) = 2 then (
      (m_sends 5 p1 0 σ).bind fun a1 =>
      some ((), a1.2))
    else (
      some ((), σ))
    else none)
  else none
theorem J_m_comesPre {X : JX} {ad : Nat → Nat} (p1 : Int32) (σ : MS) : JO X M_m_comesPre (QF X eV (wM ad (xZ X))) 0 [some (.ref (ad 0)), some (.int p1)] [] (wsM ad (xZ X) σ) (m_comesPre p1 σ) := by
  unfold m_comesPre
  refine JO.aloadn dX10_comesPre_0 rfl ?_
  refine gM10 dX10_comesPre_1 rfl ?_
  refine JO.iloadn dX10_comesPre_4 rfl ?_
  refine aM10 dX10_comesPre_5 ?_
  refine JO.ic 1 dX10_comesPre_6 (by decide) ?_
  refine JO.icmp_ne 38 dX10_comesPre_7 rfl ?_ ?_
  · refine JO.aloadn dX10_comesPre_38 rfl ?_
    refine gM10 dX10_comesPre_39 rfl ?_
    refine JO.iloadn dX10_comesPre_42 rfl ?_
    refine aM10 dX10_comesPre_43 ?_
    refine JO.ic 2 dX10_comesPre_44 (by decide) ?_
    refine JO.icmp_ne 55 dX10_comesPre_45 rfl ?_ ?_
    · exact JO.vret dX10_comesPre_55 rfl rfl rfl
    · refine JO.aloadn dX10_comesPre_48 rfl ?_
      refine JO.ic 5 dX10_comesPre_49 (by decide) ?_
      refine JO.iloadn dX10_comesPre_50 rfl ?_
      refine JO.ic 0 dX10_comesPre_51 (by decide) ?_
      refine JO.mvv (C_m_sends _ _ _ _) K_m_sends k5_200 rfl rfl rfl (Nat.le_of_ble_eq_true rfl) dX10_comesPre_52 (fun a1 => ?_)
      exact JO.vret dX10_comesPre_55 rfl rfl rfl
  · refine JO.aloadn dX10_comesPre_10 rfl ?_
    refine JO.iloadn dX10_comesPre_11 rfl ?_
    refine JO.ic 3 dX10_comesPre_12 (by decide) ?_
    refine JO.mvv (C_m_notes _ _ _) K_m_notes k5_212 rfl rfl rfl (Nat.le_of_ble_eq_true rfl) dX10_comesPre_13 (fun a2 => ?_)
    refine JO.aloadn dX10_comesPre_16 rfl ?_
    refine gM10 dX10_comesPre_17 rfl ?_
    refine JO.iloadn dX10_comesPre_20 rfl ?_
    refine JO.ic 2 dX10_comesPre_21 (by decide) ?_
    refine uM10 dX10_comesPre_22 ?_
    refine JO.aloadn dX10_comesPre_23 rfl ?_
    refine JO.ic 5 dX10_comesPre_24 (by decide) ?_
    refine JO.iloadn dX10_comesPre_25 rfl ?_
    refine JO.ic 0 dX10_comesPre_26 (by decide) ?_
    refine JO.mvv (C_m_sends _ _ _ _) K_m_sends k5_200 rfl rfl rfl (Nat.le_of_ble_eq_true rfl) dX10_comesPre_27 (fun a3 => ?_)
    refine JO.aloadn dX10_comesPre_30 rfl ?_
    refine JO.iloadn dX10_comesPre_31 rfl ?_
    refine JO.mvv (C_m_startsTimer _ _) K_m_startsTimer k5_204 rfl rfl rfl (Nat.le_of_ble_eq_true rfl) dX10_comesPre_32 (fun a4 => ?_)
    refine JO.goto 55 dX10_comesPre_35 rfl ?_
    exact JO.vret dX10_comesPre_55 rfl rfl rfl
theorem C_m_comesPre {ad : Nat → Nat} {Z : ZT} (p1 : Int32) (σ : MS) : CO yX10_comesPre M_m_comesPre eV Z (wM ad Z) [.ref (ad 0), .int p1] (wsM ad Z σ) (m_comesPre p1 σ) :=
  CO.of rfl rfl (Nat.le_of_ble_eq_true rfl) 0 (fun X hZ => by subst hZ; exact J_m_comesPre _ σ)
theorem K_m_comesPre : Kv yX10_comesPre M_m_comesPre RX10 1 := ⟨rfl, k6_18, s4_15, k1_10, k6_19, by decide +kernel⟩
abbrev M_m_comesDecision : JM := (cX10_comesDecision, 3, RX10, none, 1, 23)
def m_comesDecision_b65 (x1 : Int32) (σ : MS) : Option (Unit × MS) :=
  (m_sends 8 x1 0 σ).bind fun a1 =>
  some ((), a1.2)
def m_comesDecision_b52 (x1 : Int32) (x2 : Int32) (σ : MS) : Option (Unit × MS) :=
  if x2 = 6 then (
    m_comesDecision_b65 x1 σ)
  else (
    if mI σ 8 = 0 then (
      m_comesDecision_b65 x1 σ)
    else (
      some ((), σ)))
def m_comesDecision_b23 (x1 : Int32) (x2 : Int32) (t0 : Int32) (t1 : Int32) (σ : MS) : Option (Unit × MS) :=
  (m_notes t1 t0 σ).bind fun a1 =>
  if x2 = 6 then (
    if inB x1 6 = true then
    if inB x1 6 = true then
    m_comesDecision_b52 x1 x2 (sA (sA a1.2 10 (ix x1) 3) 12 (ix x1) 1000)
    else none
    else none)
  else (
    if inB x1 6 = true then
    if inB x1 6 = true then
    m_comesDecision_b52 x1 x2 (sA (sA a1.2 10 (ix x1) 4) 12 (ix x1) 1000)
    else none
    else none)
def m_comesDecision (p1 : Int32) (p2 : Int32) (σ : MS) : Option (Unit × MS) :=
  if inB p1 6 = true then
  if 3 ≤ mA σ 10 (ix p1) then (
    m_comesDecision_b52 p1 p2 σ)
  else (
    if p2 = 6 then (
      m_comesDecision_b23 p1 p2 4 p1 σ)
    else (
      m_comesDecision_b23 p1 p2 5 p1 σ))
  else none
theorem J_m_comesDecision_b65 {X : JX} {ad : Nat → Nat} (x1 : Int32) (σ : MS) : JO X M_m_comesDecision (QF X eV (wM ad (xZ X))) 65 [some (.ref (ad 0)), some (.int x1), none] [] (wsM ad (xZ X) σ) (m_comesDecision_b65 x1 σ) := by
  unfold m_comesDecision_b65
  refine JO.aloadn dX10_comesDecision_65 rfl ?_
  refine JO.bip 8 dX10_comesDecision_66 (by decide) ?_
  refine JO.iloadn dX10_comesDecision_68 rfl ?_
  refine JO.ic 0 dX10_comesDecision_69 (by decide) ?_
  refine JO.mvv (C_m_sends _ _ _ _) K_m_sends k5_200 rfl rfl rfl (Nat.le_of_ble_eq_true rfl) dX10_comesDecision_70 (fun a1 => ?_)
  exact JO.vret dX10_comesDecision_73 rfl rfl rfl
theorem J_m_comesDecision_b52 {X : JX} {ad : Nat → Nat} (x1 : Int32) (x2 : Int32) (σ : MS) : JO X M_m_comesDecision (QF X eV (wM ad (xZ X))) 52 [some (.ref (ad 0)), some (.int x1), some (.int x2)] [] (wsM ad (xZ X) σ) (m_comesDecision_b52 x1 x2 σ) := by
  unfold m_comesDecision_b52
  refine JO.iloadn dX10_comesDecision_52 rfl ?_
  refine JO.bip 6 dX10_comesDecision_53 (by decide) ?_
  refine JO.icmp_eq 65 dX10_comesDecision_55 rfl ?_ ?_
  · exact (J_m_comesDecision_b65 _ _).jump (lvLe.so rfl (lvLe.so rfl (lvLe.no (lvLe.nil))))
  · refine JO.aloadn dX10_comesDecision_58 rfl ?_
    refine gM8 dX10_comesDecision_59 rfl ?_
    refine JO.if_ne 73 dX10_comesDecision_62 rfl ?_ ?_
    · exact JO.vret dX10_comesDecision_73 rfl rfl rfl
    · exact (J_m_comesDecision_b65 _ _).jump (lvLe.so rfl (lvLe.so rfl (lvLe.no (lvLe.nil))))
theorem J_m_comesDecision_b23 {X : JX} {ad : Nat → Nat} (x1 : Int32) (x2 : Int32) (t0 : Int32) (t1 : Int32) (σ : MS) : JO X M_m_comesDecision (QF X eV (wM ad (xZ X))) 23 [some (.ref (ad 0)), some (.int x1), some (.int x2)] [.int t0, .int t1, .ref (ad 0)] (wsM ad (xZ X) σ) (m_comesDecision_b23 x1 x2 t0 t1 σ) := by
  unfold m_comesDecision_b23
  refine JO.mvv (C_m_notes _ _ _) K_m_notes k5_212 rfl rfl rfl (Nat.le_of_ble_eq_true rfl) dX10_comesDecision_23 (fun a1 => ?_)
  refine JO.aloadn dX10_comesDecision_26 rfl ?_
  refine gM10 dX10_comesDecision_27 rfl ?_
  refine JO.iloadn dX10_comesDecision_30 rfl ?_
  refine JO.iloadn dX10_comesDecision_31 rfl ?_
  refine JO.bip 6 dX10_comesDecision_32 (by decide) ?_
  refine JO.icmp_ne 41 dX10_comesDecision_34 rfl ?_ ?_
  · refine JO.ic 4 dX10_comesDecision_41 (by decide) ?_
    refine uM10 dX10_comesDecision_42 ?_
    refine JO.aloadn dX10_comesDecision_43 rfl ?_
    refine gM12 dX10_comesDecision_44 rfl ?_
    refine JO.iloadn dX10_comesDecision_47 rfl ?_
    refine JO.sip 1000 dX10_comesDecision_48 (by decide) ?_
    refine uM12 dX10_comesDecision_51 ?_
    exact (J_m_comesDecision_b52 _ _ _).jump (lvLe.so rfl (lvLe.so rfl (lvLe.so rfl (lvLe.nil))))
  · refine JO.ic 3 dX10_comesDecision_37 (by decide) ?_
    refine JO.goto 42 dX10_comesDecision_38 rfl ?_
    refine uM10 dX10_comesDecision_42 ?_
    refine JO.aloadn dX10_comesDecision_43 rfl ?_
    refine gM12 dX10_comesDecision_44 rfl ?_
    refine JO.iloadn dX10_comesDecision_47 rfl ?_
    refine JO.sip 1000 dX10_comesDecision_48 (by decide) ?_
    refine uM12 dX10_comesDecision_51 ?_
    exact (J_m_comesDecision_b52 _ _ _).jump (lvLe.so rfl (lvLe.so rfl (lvLe.so rfl (lvLe.nil))))
theorem J_m_comesDecision {X : JX} {ad : Nat → Nat} (p1 : Int32) (p2 : Int32) (σ : MS) : JO X M_m_comesDecision (QF X eV (wM ad (xZ X))) 0 [some (.ref (ad 0)), some (.int p1), some (.int p2)] [] (wsM ad (xZ X) σ) (m_comesDecision p1 p2 σ) := by
  unfold m_comesDecision
  refine JO.aloadn dX10_comesDecision_0 rfl ?_
  refine gM10 dX10_comesDecision_1 rfl ?_
  refine JO.iloadn dX10_comesDecision_4 rfl ?_
  refine aM10 dX10_comesDecision_5 ?_
  refine JO.ic 3 dX10_comesDecision_6 (by decide) ?_
  refine JO.icmp_ge 52 dX10_comesDecision_7 rfl ?_ ?_
  · exact (J_m_comesDecision_b52 _ _ _).jump (lvLe.so rfl (lvLe.so rfl (lvLe.so rfl (lvLe.nil))))
  · refine JO.aloadn dX10_comesDecision_10 rfl ?_
    refine JO.iloadn dX10_comesDecision_11 rfl ?_
    refine JO.iloadn dX10_comesDecision_12 rfl ?_
    refine JO.bip 6 dX10_comesDecision_13 (by decide) ?_
    refine JO.icmp_ne 22 dX10_comesDecision_15 rfl ?_ ?_
    · refine JO.ic 5 dX10_comesDecision_22 (by decide) ?_
      exact (J_m_comesDecision_b23 _ _ _ _ _).jump (lvLe.so rfl (lvLe.so rfl (lvLe.so rfl (lvLe.nil))))
    · refine JO.ic 4 dX10_comesDecision_18 (by decide) ?_
      refine JO.goto 23 dX10_comesDecision_19 rfl ?_
      exact (J_m_comesDecision_b23 _ _ _ _ _).jump (lvLe.so rfl (lvLe.so rfl (lvLe.so rfl (lvLe.nil))))
theorem C_m_comesDecision {ad : Nat → Nat} {Z : ZT} (p1 : Int32) (p2 : Int32) (σ : MS) : CO yX10_comesDecision M_m_comesDecision eV Z (wM ad Z) [.ref (ad 0), .int p1, .int p2] (wsM ad Z σ) (m_comesDecision p1 p2 σ) :=
  CO.of rfl rfl (Nat.le_of_ble_eq_true rfl) 0 (fun X hZ => by subst hZ; exact J_m_comesDecision _ _ σ)
theorem K_m_comesDecision : Kv yX10_comesDecision M_m_comesDecision RX10 2 := ⟨rfl, k6_22, s5_0, k1_10, k6_23, by decide +kernel⟩
abbrev M_m_comesAsk : JM := (cX10_comesAsk, 3, RX10, none, 1, 23)
def m_comesAsk_b40 (x1 : Int32) (x2 : Int32) (σ : MS) : Option (Unit × MS) :=
  if inB x1 6 = true then
  if mA σ 10 (ix x1) = 4 then (
    (m_sends 7 x1 x2 σ).bind fun a1 =>
    some ((), a1.2))
  else (
    some ((), σ))
  else none
def m_comesAsk_b22 (x1 : Int32) (x2 : Int32) (σ : MS) : Option (Unit × MS) :=
  if inB x1 6 = true then
  if mA σ 10 (ix x1) = 3 then (
    (m_sends 6 x1 x2 σ).bind fun a1 =>
    m_comesAsk_b40 x1 x2 a1.2)
  else (
    m_comesAsk_b40 x1 x2 σ)
  else none
def m_comesAsk (p1 : Int32) (p2 : Int32) (σ : MS) : Option (Unit × MS) :=
  if inB p1 6 = true then
  if mA σ 10 (ix p1) = 0 then (
    (m_notes p1 5 σ).bind fun a1 =>
    if inB p1 6 = true then
    m_comesAsk_b22 p1 p2 (sA a1.2 10 (ix p1) 4)
    else none)
  else (
    m_comesAsk_b22 p1 p2 σ)
  else none
theorem J_m_comesAsk_b40 {X : JX} {ad : Nat → Nat} (x1 : Int32) (x2 : Int32) (σ : MS) : JO X M_m_comesAsk (QF X eV (wM ad (xZ X))) 40 [some (.ref (ad 0)), some (.int x1), some (.int x2)] [] (wsM ad (xZ X) σ) (m_comesAsk_b40 x1 x2 σ) := by
  unfold m_comesAsk_b40
  refine JO.aloadn dX10_comesAsk_40 rfl ?_
  refine gM10 dX10_comesAsk_41 rfl ?_
  refine JO.iloadn dX10_comesAsk_44 rfl ?_
  refine aM10 dX10_comesAsk_45 ?_
  refine JO.ic 4 dX10_comesAsk_46 (by decide) ?_
  refine JO.icmp_ne 58 dX10_comesAsk_47 rfl ?_ ?_
  · exact JO.vret dX10_comesAsk_58 rfl rfl rfl
  · refine JO.aloadn dX10_comesAsk_50 rfl ?_
    refine JO.bip 7 dX10_comesAsk_51 (by decide) ?_
    refine JO.iloadn dX10_comesAsk_53 rfl ?_
    refine JO.iloadn dX10_comesAsk_54 rfl ?_
    refine JO.mvv (C_m_sends _ _ _ _) K_m_sends k5_200 rfl rfl rfl (Nat.le_of_ble_eq_true rfl) dX10_comesAsk_55 (fun a1 => ?_)
    exact JO.vret dX10_comesAsk_58 rfl rfl rfl
theorem J_m_comesAsk_b22 {X : JX} {ad : Nat → Nat} (x1 : Int32) (x2 : Int32) (σ : MS) : JO X M_m_comesAsk (QF X eV (wM ad (xZ X))) 22 [some (.ref (ad 0)), some (.int x1), some (.int x2)] [] (wsM ad (xZ X) σ) (m_comesAsk_b22 x1 x2 σ) := by
  unfold m_comesAsk_b22
  refine JO.aloadn dX10_comesAsk_22 rfl ?_
  refine gM10 dX10_comesAsk_23 rfl ?_
  refine JO.iloadn dX10_comesAsk_26 rfl ?_
  refine aM10 dX10_comesAsk_27 ?_
  refine JO.ic 3 dX10_comesAsk_28 (by decide) ?_
  refine JO.icmp_ne 40 dX10_comesAsk_29 rfl ?_ ?_
  · exact (J_m_comesAsk_b40 _ _ _).jump (lvLe.so rfl (lvLe.so rfl (lvLe.so rfl (lvLe.nil))))
  · refine JO.aloadn dX10_comesAsk_32 rfl ?_
    refine JO.bip 6 dX10_comesAsk_33 (by decide) ?_
    refine JO.iloadn dX10_comesAsk_35 rfl ?_
    refine JO.iloadn dX10_comesAsk_36 rfl ?_
    refine JO.mvv (C_m_sends _ _ _ _) K_m_sends k5_200 rfl rfl rfl (Nat.le_of_ble_eq_true rfl) dX10_comesAsk_37 (fun a1 => ?_)
    exact (J_m_comesAsk_b40 _ _ _).jump (lvLe.so rfl (lvLe.so rfl (lvLe.so rfl (lvLe.nil))))
theorem J_m_comesAsk {X : JX} {ad : Nat → Nat} (p1 : Int32) (p2 : Int32) (σ : MS) : JO X M_m_comesAsk (QF X eV (wM ad (xZ X))) 0 [some (.ref (ad 0)), some (.int p1), some (.int p2)] [] (wsM ad (xZ X) σ) (m_comesAsk p1 p2 σ) := by
  unfold m_comesAsk
  refine JO.aloadn dX10_comesAsk_0 rfl ?_
  refine gM10 dX10_comesAsk_1 rfl ?_
  refine JO.iloadn dX10_comesAsk_4 rfl ?_
  refine aM10 dX10_comesAsk_5 ?_
  refine JO.if_ne 22 dX10_comesAsk_6 rfl ?_ ?_
  · exact (J_m_comesAsk_b22 _ _ _).jump (lvLe.so rfl (lvLe.so rfl (lvLe.so rfl (lvLe.nil))))
  · refine JO.aloadn dX10_comesAsk_9 rfl ?_
    refine JO.iloadn dX10_comesAsk_10 rfl ?_
    refine JO.ic 5 dX10_comesAsk_11 (by decide) ?_
    refine JO.mvv (C_m_notes _ _ _) K_m_notes k5_212 rfl rfl rfl (Nat.le_of_ble_eq_true rfl) dX10_comesAsk_12 (fun a1 => ?_)
    refine JO.aloadn dX10_comesAsk_15 rfl ?_
    refine gM10 dX10_comesAsk_16 rfl ?_
    refine JO.iloadn dX10_comesAsk_19 rfl ?_
    refine JO.ic 4 dX10_comesAsk_20 (by decide) ?_
    refine uM10 dX10_comesAsk_21 ?_
    exact (J_m_comesAsk_b22 _ _ _).jump (lvLe.so rfl (lvLe.so rfl (lvLe.so rfl (lvLe.nil))))
theorem C_m_comesAsk {ad : Nat → Nat} {Z : ZT} (p1 : Int32) (p2 : Int32) (σ : MS) : CO yX10_comesAsk M_m_comesAsk eV Z (wM ad Z) [.ref (ad 0), .int p1, .int p2] (wsM ad Z σ) (m_comesAsk p1 p2 σ) :=
  CO.of rfl rfl (Nat.le_of_ble_eq_true rfl) 0 (fun X hZ => by subst hZ; exact J_m_comesAsk _ _ σ)
theorem K_m_comesAsk : Kv yX10_comesAsk M_m_comesAsk RX10 2 := ⟨rfl, k6_26, s5_1, k1_10, k6_27, by decide +kernel⟩
abbrev M_m_comesToParticipant : JM := (cX10_comesToParticipant, 4, RX10, none, 2, 45)
def m_comesToParticipant_b68 (x1 : Int32) (x2 : Int32) (σ : MS) : Option (Unit × MS) :=
  (m_comesDecision x1 x2 σ).bind fun a1 =>
  some ((), a1.2)
def m_comesToParticipant (p1 : Int32) (p2 : Int32) (p3 : Int32) (σ : MS) : Option (Unit × MS) :=
  sw p2 [(1, 52,
    (m_comesPrepare p1 σ).bind fun a1 =>
    some ((), a1.2)), (4, 60,
    (m_comesPre p1 σ).bind fun a2 =>
    some ((), a2.2)), (6, 68,
    m_comesToParticipant_b68 p1 p2 σ), (7, 68,
    m_comesToParticipant_b68 p1 p2 σ), (9, 77,
    (m_comesAsk p1 p3 σ).bind fun a3 =>
    some ((), a3.2))] (
    some ((), σ))
theorem J_m_comesToParticipant_b68 {X : JX} {ad : Nat → Nat} (x1 : Int32) (x2 : Int32) (σ : MS) : JO X M_m_comesToParticipant (QF X eV (wM ad (xZ X))) 68 [some (.ref (ad 0)), some (.int x1), some (.int x2), none] [] (wsM ad (xZ X) σ) (m_comesToParticipant_b68 x1 x2 σ) := by
  unfold m_comesToParticipant_b68
  refine JO.aloadn dX10_comesToParticipant_68 rfl ?_
  refine JO.iloadn dX10_comesToParticipant_69 rfl ?_
  refine JO.iloadn dX10_comesToParticipant_70 rfl ?_
  refine JO.mvv (C_m_comesDecision _ _ _) K_m_comesDecision k6_20 rfl rfl rfl (Nat.le_of_ble_eq_true rfl) dX10_comesToParticipant_71 (fun a1 => ?_)
  refine JO.goto 86 dX10_comesToParticipant_74 rfl ?_
  exact JO.vret dX10_comesToParticipant_86 rfl rfl rfl
theorem J_m_comesToParticipant {X : JX} {ad : Nat → Nat} (p1 : Int32) (p2 : Int32) (p3 : Int32) (σ : MS) : JO X M_m_comesToParticipant (QF X eV (wM ad (xZ X))) 0 [some (.ref (ad 0)), some (.int p1), some (.int p2), some (.int p3)] [] (wsM ad (xZ X) σ) (m_comesToParticipant p1 p2 p3 σ) := by
  unfold m_comesToParticipant
  refine JO.iloadn dX10_comesToParticipant_0 rfl ?_
  refine JO.tsw [(1, 52, _), (4, 60, _), (6, 68, _), (7, 68, _), (9, 77, _)] 86 [(1, 52), (4, 60), (6, 68), (7, 68), (9, 77)] dX10_comesToParticipant_1 rfl (by decide) rfl (by decide) (JO.swCons ?_ (JO.swCons ?_ (JO.swCons ?_ (JO.swCons ?_ (JO.swCons ?_ (JO.swNil)))))) ?_
  · refine JO.aloadn dX10_comesToParticipant_52 rfl ?_
    refine JO.iloadn dX10_comesToParticipant_53 rfl ?_
    refine JO.mvv (C_m_comesPrepare _ _) K_m_comesPrepare k6_12 rfl rfl rfl (Nat.le_of_ble_eq_true rfl) dX10_comesToParticipant_54 (fun a1 => ?_)
    refine JO.goto 86 dX10_comesToParticipant_57 rfl ?_
    exact JO.vret dX10_comesToParticipant_86 rfl rfl rfl
  · refine JO.aloadn dX10_comesToParticipant_60 rfl ?_
    refine JO.iloadn dX10_comesToParticipant_61 rfl ?_
    refine JO.mvv (C_m_comesPre _ _) K_m_comesPre k6_16 rfl rfl rfl (Nat.le_of_ble_eq_true rfl) dX10_comesToParticipant_62 (fun a2 => ?_)
    refine JO.goto 86 dX10_comesToParticipant_65 rfl ?_
    exact JO.vret dX10_comesToParticipant_86 rfl rfl rfl
  · exact (J_m_comesToParticipant_b68 _ _ _).jump (lvLe.so rfl (lvLe.so rfl (lvLe.so rfl (lvLe.no (lvLe.nil)))))
  · exact (J_m_comesToParticipant_b68 _ _ _).jump (lvLe.so rfl (lvLe.so rfl (lvLe.so rfl (lvLe.no (lvLe.nil)))))
  · refine JO.aloadn dX10_comesToParticipant_77 rfl ?_
    refine JO.iloadn dX10_comesToParticipant_78 rfl ?_
    refine JO.iloadn dX10_comesToParticipant_79 rfl ?_
    refine JO.mvv (C_m_comesAsk _ _ _) K_m_comesAsk k6_24 rfl rfl rfl (Nat.le_of_ble_eq_true rfl) dX10_comesToParticipant_80 (fun a3 => ?_)
    refine JO.goto 86 dX10_comesToParticipant_83 rfl ?_
    exact JO.vret dX10_comesToParticipant_86 rfl rfl rfl
  · exact JO.vret dX10_comesToParticipant_86 rfl rfl rfl
theorem C_m_comesToParticipant {ad : Nat → Nat} {Z : ZT} (p1 : Int32) (p2 : Int32) (p3 : Int32) (σ : MS) : CO yX10_comesToParticipant M_m_comesToParticipant eV Z (wM ad Z) [.ref (ad 0), .int p1, .int p2, .int p3] (wsM ad Z σ) (m_comesToParticipant p1 p2 p3 σ) :=
  CO.of rfl rfl (Nat.le_of_ble_eq_true rfl) 0 (fun X hZ => by subst hZ; exact J_m_comesToParticipant _ _ _ σ)
theorem K_m_comesToParticipant : Kv yX10_comesToParticipant M_m_comesToParticipant RX10 3 := ⟨rfl, k6_10, s4_13, k1_10, k6_11, by decide +kernel⟩
abbrev M_m_asksAll : JM := (cX10_asksAll, 3, RX10, none, 1, 23)
def m_asksAll_b37 (x1 : Int32) (σ : MS) : Option (Unit × MS) :=
  (m_startsTimer x1 σ).bind fun a1 =>
  some ((), a1.2)
def m_asksAll_l10 : Nat → Int32 → Int32 → MS → Option (Unit × MS)
  | 0, _, _, _ => none
  | n + 1, x1, x2, σ =>
    if mI σ 5 < x2 then (
      m_asksAll_b37 x1 σ)
    else (
      if x2 = x1 then (
        m_asksAll_l10 n x1 (x2 + 1) σ)
      else (
        (m_sends 9 x1 x2 σ).bind fun a1 =>
        m_asksAll_l10 n x1 (x2 + 1) a1.2))
def m_asksAll (p1 : Int32) (σ : MS) : Option (Unit × MS) :=
  (m_sends 9 p1 0 σ).bind fun a1 =>
  m_asksAll_l10 4096 p1 1 a1.2
theorem J_m_asksAll_b37 {X : JX} {ad : Nat → Nat} (x1 : Int32) (σ : MS) : JO X M_m_asksAll (QF X eV (wM ad (xZ X))) 37 [some (.ref (ad 0)), some (.int x1), none] [] (wsM ad (xZ X) σ) (m_asksAll_b37 x1 σ) := by
  unfold m_asksAll_b37
  refine JO.aloadn dX10_asksAll_37 rfl ?_
  refine JO.iloadn dX10_asksAll_38 rfl ?_
  refine JO.mvv (C_m_startsTimer _ _) K_m_startsTimer k5_204 rfl rfl rfl (Nat.le_of_ble_eq_true rfl) dX10_asksAll_39 (fun a1 => ?_)
  exact JO.vret dX10_asksAll_42 rfl rfl rfl
theorem J_m_asksAll_l10 {X : JX} {ad : Nat → Nat} : ∀ (n : Nat) (x1 : Int32) (x2 : Int32) (σ : MS), JO X M_m_asksAll (QF X eV (wM ad (xZ X))) 10 [some (.ref (ad 0)), some (.int x1), some (.int x2)] [] (wsM ad (xZ X) σ) (m_asksAll_l10 n x1 x2 σ) := by
  intro n
  induction n with
  | zero => intro x1 x2 σ; exact JO.nil
  | succ n ih =>
    intro x1 x2 σ
    unfold m_asksAll_l10
    refine JO.iloadn dX10_asksAll_10 rfl ?_
    refine JO.aloadn dX10_asksAll_11 rfl ?_
    refine gM5 dX10_asksAll_12 rfl ?_
    refine JO.icmp_gt 37 dX10_asksAll_15 rfl ?_ ?_
    · exact (J_m_asksAll_b37 _ _).jump (lvLe.so rfl (lvLe.so rfl (lvLe.no (lvLe.nil))))
    · refine JO.iloadn dX10_asksAll_18 rfl ?_
      refine JO.iloadn dX10_asksAll_19 rfl ?_
      refine JO.icmp_eq 31 dX10_asksAll_20 rfl ?_ ?_
      · refine JO.iinc dX10_asksAll_31 rfl 1 (by decide) rfl rfl ?_
        refine JO.goto 10 dX10_asksAll_34 rfl ?_
        exact (ih _ _ _).jump (lvLe.so rfl (lvLe.so rfl (lvLe.so rfl (lvLe.nil))))
      · refine JO.aloadn dX10_asksAll_23 rfl ?_
        refine JO.bip 9 dX10_asksAll_24 (by decide) ?_
        refine JO.iloadn dX10_asksAll_26 rfl ?_
        refine JO.iloadn dX10_asksAll_27 rfl ?_
        refine JO.mvv (C_m_sends _ _ _ _) K_m_sends k5_200 rfl rfl rfl (Nat.le_of_ble_eq_true rfl) dX10_asksAll_28 (fun a1 => ?_)
        refine JO.iinc dX10_asksAll_31 rfl 1 (by decide) rfl rfl ?_
        refine JO.goto 10 dX10_asksAll_34 rfl ?_
        exact (ih _ _ _).jump (lvLe.so rfl (lvLe.so rfl (lvLe.so rfl (lvLe.nil))))
theorem J_m_asksAll {X : JX} {ad : Nat → Nat} (p1 : Int32) (σ : MS) : JO X M_m_asksAll (QF X eV (wM ad (xZ X))) 0 [some (.ref (ad 0)), some (.int p1), none] [] (wsM ad (xZ X) σ) (m_asksAll p1 σ) := by
  unfold m_asksAll
  refine JO.aloadn dX10_asksAll_0 rfl ?_
  refine JO.bip 9 dX10_asksAll_1 (by decide) ?_
  refine JO.iloadn dX10_asksAll_3 rfl ?_
  refine JO.ic 0 dX10_asksAll_4 (by decide) ?_
  refine JO.mvv (C_m_sends _ _ _ _) K_m_sends k5_200 rfl rfl rfl (Nat.le_of_ble_eq_true rfl) dX10_asksAll_5 (fun a1 => ?_)
  refine JO.ic 1 dX10_asksAll_8 (by decide) ?_
  refine JO.istoren dX10_asksAll_9 rfl rfl ?_
  exact (J_m_asksAll_l10 4096 _ _ _).jump (lvLe.so rfl (lvLe.so rfl (lvLe.so rfl (lvLe.nil))))
theorem C_m_asksAll {ad : Nat → Nat} {Z : ZT} (p1 : Int32) (σ : MS) : CO yX10_asksAll M_m_asksAll eV Z (wM ad Z) [.ref (ad 0), .int p1] (wsM ad Z σ) (m_asksAll p1 σ) :=
  CO.of rfl rfl (Nat.le_of_ble_eq_true rfl) 1 (fun X hZ => by subst hZ; exact J_m_asksAll _ σ)
theorem K_m_asksAll : Kv yX10_asksAll M_m_asksAll RX10 1 := ⟨rfl, k6_46, s5_6, k1_10, k6_47, by decide +kernel⟩
abbrev M_m_timesOutParticipant : JM := (cX10_timesOutParticipant, 2, RX10, none, 2, 45)
def m_timesOutParticipant_b26 (x1 : Int32) (σ : MS) : Option (Unit × MS) :=
  if inB x1 6 = true then
  if mA σ 10 (ix x1) = 1 then (
    (m_notes x1 5 σ).bind fun a2 =>
    if inB x1 6 = true then
    some ((), sA a2.2 10 (ix x1) 4)
    else none)
  else (
    if inB x1 6 = true then
    if mA σ 10 (ix x1) = 2 then (
      (m_notes x1 4 σ).bind fun a1 =>
      if inB x1 6 = true then
      some ((), sA a1.2 10 (ix x1) 3)
      else none)
    else (
      some ((), σ))
    else none)
  else none
def m_timesOutParticipant (p1 : Int32) (σ : MS) : Option (Unit × MS) :=
  if inB p1 6 = true then
  if mA σ 10 (ix p1) = 1 then (
    if mI σ 6 = 2 then (
      (m_asksAll p1 σ).bind fun a1 =>
      some ((), a1.2))
    else (
      m_timesOutParticipant_b26 p1 σ))
  else (
    m_timesOutParticipant_b26 p1 σ)
  else none
theorem J_m_timesOutParticipant_b26 {X : JX} {ad : Nat → Nat} (x1 : Int32) (σ : MS) : JO X M_m_timesOutParticipant (QF X eV (wM ad (xZ X))) 26 [some (.ref (ad 0)), some (.int x1)] [] (wsM ad (xZ X) σ) (m_timesOutParticipant_b26 x1 σ) := by
  unfold m_timesOutParticipant_b26
  refine JO.aloadn dX10_timesOutParticipant_26 rfl ?_
  refine gM10 dX10_timesOutParticipant_27 rfl ?_
  refine JO.iloadn dX10_timesOutParticipant_30 rfl ?_
  refine aM10 dX10_timesOutParticipant_31 ?_
  refine JO.ic 1 dX10_timesOutParticipant_32 (by decide) ?_
  refine JO.icmp_ne 52 dX10_timesOutParticipant_33 rfl ?_ ?_
  · refine JO.aloadn dX10_timesOutParticipant_52 rfl ?_
    refine gM10 dX10_timesOutParticipant_53 rfl ?_
    refine JO.iloadn dX10_timesOutParticipant_56 rfl ?_
    refine aM10 dX10_timesOutParticipant_57 ?_
    refine JO.ic 2 dX10_timesOutParticipant_58 (by decide) ?_
    refine JO.icmp_ne 75 dX10_timesOutParticipant_59 rfl ?_ ?_
    · exact JO.vret dX10_timesOutParticipant_75 rfl rfl rfl
    · refine JO.aloadn dX10_timesOutParticipant_62 rfl ?_
      refine JO.iloadn dX10_timesOutParticipant_63 rfl ?_
      refine JO.ic 4 dX10_timesOutParticipant_64 (by decide) ?_
      refine JO.mvv (C_m_notes _ _ _) K_m_notes k5_212 rfl rfl rfl (Nat.le_of_ble_eq_true rfl) dX10_timesOutParticipant_65 (fun a1 => ?_)
      refine JO.aloadn dX10_timesOutParticipant_68 rfl ?_
      refine gM10 dX10_timesOutParticipant_69 rfl ?_
      refine JO.iloadn dX10_timesOutParticipant_72 rfl ?_
      refine JO.ic 3 dX10_timesOutParticipant_73 (by decide) ?_
      refine uM10 dX10_timesOutParticipant_74 ?_
      exact JO.vret dX10_timesOutParticipant_75 rfl rfl rfl
  · refine JO.aloadn dX10_timesOutParticipant_36 rfl ?_
    refine JO.iloadn dX10_timesOutParticipant_37 rfl ?_
    refine JO.ic 5 dX10_timesOutParticipant_38 (by decide) ?_
    refine JO.mvv (C_m_notes _ _ _) K_m_notes k5_212 rfl rfl rfl (Nat.le_of_ble_eq_true rfl) dX10_timesOutParticipant_39 (fun a2 => ?_)
    refine JO.aloadn dX10_timesOutParticipant_42 rfl ?_
    refine gM10 dX10_timesOutParticipant_43 rfl ?_
    refine JO.iloadn dX10_timesOutParticipant_46 rfl ?_
    refine JO.ic 4 dX10_timesOutParticipant_47 (by decide) ?_
    refine uM10 dX10_timesOutParticipant_48 ?_
    refine JO.goto 75 dX10_timesOutParticipant_49 rfl ?_
    exact JO.vret dX10_timesOutParticipant_75 rfl rfl rfl
theorem J_m_timesOutParticipant {X : JX} {ad : Nat → Nat} (p1 : Int32) (σ : MS) : JO X M_m_timesOutParticipant (QF X eV (wM ad (xZ X))) 0 [some (.ref (ad 0)), some (.int p1)] [] (wsM ad (xZ X) σ) (m_timesOutParticipant p1 σ) := by
  unfold m_timesOutParticipant
  refine JO.aloadn dX10_timesOutParticipant_0 rfl ?_
  refine gM10 dX10_timesOutParticipant_1 rfl ?_
  refine JO.iloadn dX10_timesOutParticipant_4 rfl ?_
  refine aM10 dX10_timesOutParticipant_5 ?_
  refine JO.ic 1 dX10_timesOutParticipant_6 (by decide) ?_
  refine JO.icmp_ne 26 dX10_timesOutParticipant_7 rfl ?_ ?_
  · exact (J_m_timesOutParticipant_b26 _ _).jump (lvLe.so rfl (lvLe.so rfl (lvLe.nil)))
  · refine JO.aloadn dX10_timesOutParticipant_10 rfl ?_
    refine gM6 dX10_timesOutParticipant_11 rfl ?_
    refine JO.ic 2 dX10_timesOutParticipant_14 (by decide) ?_
    refine JO.icmp_ne 26 dX10_timesOutParticipant_15 rfl ?_ ?_
    · exact (J_m_timesOutParticipant_b26 _ _).jump (lvLe.so rfl (lvLe.so rfl (lvLe.nil)))
    · refine JO.aloadn dX10_timesOutParticipant_18 rfl ?_
      refine JO.iloadn dX10_timesOutParticipant_19 rfl ?_
      refine JO.mvv (C_m_asksAll _ _) K_m_asksAll k6_44 rfl rfl rfl (Nat.le_of_ble_eq_true rfl) dX10_timesOutParticipant_20 (fun a1 => ?_)
      refine JO.goto 75 dX10_timesOutParticipant_23 rfl ?_
      exact JO.vret dX10_timesOutParticipant_75 rfl rfl rfl
theorem C_m_timesOutParticipant {ad : Nat → Nat} {Z : ZT} (p1 : Int32) (σ : MS) : CO yX10_timesOutParticipant M_m_timesOutParticipant eV Z (wM ad Z) [.ref (ad 0), .int p1] (wsM ad Z σ) (m_timesOutParticipant p1 σ) :=
  CO.of rfl rfl (Nat.le_of_ble_eq_true rfl) 0 (fun X hZ => by subst hZ; exact J_m_timesOutParticipant _ σ)
theorem K_m_timesOutParticipant : Kv yX10_timesOutParticipant M_m_timesOutParticipant RX10 1 := ⟨rfl, k6_42, s5_5, k1_10, k6_43, by decide +kernel⟩
abbrev M_m_lastOf : JM := (cX10_lastOf, 3, RX10, (some .int), 0, 0)
def m_lastOf (p1 : Int32) (p2 : Int32) (σ : MS) : Option (Int32 × MS) :=
  if p2 = 0 then (
    some (0, σ))
  else (
    if inB (((20 * p1) + p2) - 1) 120 = true then
    some (mA σ 13 (ix (((20 * p1) + p2) - 1)), σ)
    else none)
theorem J_m_lastOf {X : JX} {ad : Nat → Nat} (p1 : Int32) (p2 : Int32) (σ : MS) : JO X M_m_lastOf (QF X eI (wM ad (xZ X))) 0 [some (.ref (ad 0)), some (.int p1), some (.int p2)] [] (wsM ad (xZ X) σ) (m_lastOf p1 p2 σ) := by
  unfold m_lastOf
  refine JO.iloadn dX10_lastOf_0 rfl ?_
  refine JO.if_ne 8 dX10_lastOf_1 rfl ?_ ?_
  · refine JO.aloadn dX10_lastOf_8 rfl ?_
    refine gM13 dX10_lastOf_9 rfl ?_
    refine JO.bip 20 dX10_lastOf_12 (by decide) ?_
    refine JO.iloadn dX10_lastOf_14 rfl ?_
    refine JO.imul dX10_lastOf_15 ?_
    refine JO.iloadn dX10_lastOf_16 rfl ?_
    refine JO.iadd dX10_lastOf_17 ?_
    refine JO.ic 1 dX10_lastOf_18 (by decide) ?_
    refine JO.isub dX10_lastOf_19 ?_
    refine aM13 dX10_lastOf_20 ?_
    exact JO.iret dX10_lastOf_21 rfl rfl rfl
  · refine JO.ic 0 dX10_lastOf_4 (by decide) ?_
    refine JO.goto 21 dX10_lastOf_5 rfl ?_
    exact JO.iret dX10_lastOf_21 rfl rfl rfl
theorem C_m_lastOf {ad : Nat → Nat} {Z : ZT} (p1 : Int32) (p2 : Int32) (σ : MS) : CO yX10_lastOf M_m_lastOf eI Z (wM ad Z) [.ref (ad 0), .int p1, .int p2] (wsM ad Z σ) (m_lastOf p1 p2 σ) :=
  CO.of rfl rfl (Nat.le_of_ble_eq_true rfl) 0 (fun X hZ => by subst hZ; exact J_m_lastOf _ _ σ)
theorem K_m_lastOf : Kv yX10_lastOf M_m_lastOf RX10 2 := ⟨rfl, k5_194, s3_15, k1_10, k5_195, by decide +kernel⟩
abbrev M_m_recoversCoordinator : JM := (cX10_recoversCoordinator, 2, RX10, none, 3, 65)
def m_recoversCoordinator_b20 (σ : MS) : Option (Unit × MS) :=
  if inB 0 6 = true then
  (m_lastOf 0 (mA σ 14 (ix 0)) σ).bind fun a1 =>
  sw a1.1 [(3, 60,
    if inB 0 6 = true then
    (m_sendsAll 4 (sA a1.2 10 (ix 0) 2)).bind fun a2 =>
    (m_startsTimer 0 a2.2).bind fun a3 =>
    some ((), a3.2)
    else none), (4, 80,
    if inB 0 6 = true then
    (m_sendsAll 6 (sI (sA a1.2 10 (ix 0) 3) 24 6)).bind fun a4 =>
    (m_startsTimer 0 a4.2).bind fun a5 =>
    some ((), a5.2)
    else none), (5, 107,
    if inB 0 6 = true then
    (m_sendsAll 7 (sI (sA a1.2 10 (ix 0) 4) 24 7)).bind fun a6 =>
    (m_startsTimer 0 a6.2).bind fun a7 =>
    some ((), a7.2)
    else none), (6, 134,
    if inB 0 6 = true then
    if inB 0 6 = true then
    (m_lastOf 0 (mA a1.2 14 (ix 0) - 1) (sA a1.2 10 (ix 0) 5)).bind fun a8 =>
    if a8.1 = 4 then (
      some ((), sI a8.2 24 6))
    else (
      some ((), sI a8.2 24 7))
    else none
    else none)] (
    (m_decidesAbort a1.2).bind fun a9 =>
    some ((), a9.2))
  else none
def m_recoversCoordinator_l2 : Nat → Int32 → MS → Option (Unit × MS)
  | 0, _, _ => none
  | n + 1, x1, σ =>
    if 3 ≤ x1 then (
      m_recoversCoordinator_b20 σ)
    else (
      if inB x1 3 = true then
      m_recoversCoordinator_l2 n (x1 + 1) (sA σ 15 (ix x1) 0)
      else none)
def m_recoversCoordinator (σ : MS) : Option (Unit × MS) :=
  m_recoversCoordinator_l2 4096 0 σ
theorem J_m_recoversCoordinator_b20 {X : JX} {ad : Nat → Nat} (σ : MS) : JO X M_m_recoversCoordinator (QF X eV (wM ad (xZ X))) 20 [some (.ref (ad 0)), none] [] (wsM ad (xZ X) σ) (m_recoversCoordinator_b20 σ) := by
  unfold m_recoversCoordinator_b20
  refine JO.aloadn dX10_recoversCoordinator_20 rfl ?_
  refine JO.ic 0 dX10_recoversCoordinator_21 (by decide) ?_
  refine JO.aloadn dX10_recoversCoordinator_22 rfl ?_
  refine gM14 dX10_recoversCoordinator_23 rfl ?_
  refine JO.ic 0 dX10_recoversCoordinator_26 (by decide) ?_
  refine aM14 dX10_recoversCoordinator_27 ?_
  refine JO.mvi (C_m_lastOf _ _ _) K_m_lastOf k5_192 rfl rfl rfl (Nat.le_of_ble_eq_true rfl) dX10_recoversCoordinator_28 (fun a1 => ?_)
  refine JO.tsw [(3, 60, _), (4, 80, _), (5, 107, _), (6, 134, _)] 172 [(3, 60), (4, 80), (5, 107), (6, 134)] dX10_recoversCoordinator_31 rfl (by decide) rfl (by decide) (JO.swCons ?_ (JO.swCons ?_ (JO.swCons ?_ (JO.swCons ?_ (JO.swNil))))) ?_
  · refine JO.aloadn dX10_recoversCoordinator_60 rfl ?_
    refine gM10 dX10_recoversCoordinator_61 rfl ?_
    refine JO.ic 0 dX10_recoversCoordinator_64 (by decide) ?_
    refine JO.ic 2 dX10_recoversCoordinator_65 (by decide) ?_
    refine uM10 dX10_recoversCoordinator_66 ?_
    refine JO.aloadn dX10_recoversCoordinator_67 rfl ?_
    refine JO.ic 4 dX10_recoversCoordinator_68 (by decide) ?_
    refine JO.mvv (C_m_sendsAll _ _) K_m_sendsAll k5_196 rfl rfl rfl (Nat.le_of_ble_eq_true rfl) dX10_recoversCoordinator_69 (fun a2 => ?_)
    refine JO.aloadn dX10_recoversCoordinator_72 rfl ?_
    refine JO.ic 0 dX10_recoversCoordinator_73 (by decide) ?_
    refine JO.mvv (C_m_startsTimer _ _) K_m_startsTimer k5_204 rfl rfl rfl (Nat.le_of_ble_eq_true rfl) dX10_recoversCoordinator_74 (fun a3 => ?_)
    refine JO.goto 176 dX10_recoversCoordinator_77 rfl ?_
    exact JO.vret dX10_recoversCoordinator_176 rfl rfl rfl
  · refine JO.aloadn dX10_recoversCoordinator_80 rfl ?_
    refine gM10 dX10_recoversCoordinator_81 rfl ?_
    refine JO.ic 0 dX10_recoversCoordinator_84 (by decide) ?_
    refine JO.ic 3 dX10_recoversCoordinator_85 (by decide) ?_
    refine uM10 dX10_recoversCoordinator_86 ?_
    refine JO.aloadn dX10_recoversCoordinator_87 rfl ?_
    refine JO.bip 6 dX10_recoversCoordinator_88 (by decide) ?_
    refine pM24 dX10_recoversCoordinator_90 rfl ?_
    refine JO.aloadn dX10_recoversCoordinator_93 rfl ?_
    refine JO.bip 6 dX10_recoversCoordinator_94 (by decide) ?_
    refine JO.mvv (C_m_sendsAll _ _) K_m_sendsAll k5_196 rfl rfl rfl (Nat.le_of_ble_eq_true rfl) dX10_recoversCoordinator_96 (fun a4 => ?_)
    refine JO.aloadn dX10_recoversCoordinator_99 rfl ?_
    refine JO.ic 0 dX10_recoversCoordinator_100 (by decide) ?_
    refine JO.mvv (C_m_startsTimer _ _) K_m_startsTimer k5_204 rfl rfl rfl (Nat.le_of_ble_eq_true rfl) dX10_recoversCoordinator_101 (fun a5 => ?_)
    refine JO.goto 176 dX10_recoversCoordinator_104 rfl ?_
    exact JO.vret dX10_recoversCoordinator_176 rfl rfl rfl
  · refine JO.aloadn dX10_recoversCoordinator_107 rfl ?_
    refine gM10 dX10_recoversCoordinator_108 rfl ?_
    refine JO.ic 0 dX10_recoversCoordinator_111 (by decide) ?_
    refine JO.ic 4 dX10_recoversCoordinator_112 (by decide) ?_
    refine uM10 dX10_recoversCoordinator_113 ?_
    refine JO.aloadn dX10_recoversCoordinator_114 rfl ?_
    refine JO.bip 7 dX10_recoversCoordinator_115 (by decide) ?_
    refine pM24 dX10_recoversCoordinator_117 rfl ?_
    refine JO.aloadn dX10_recoversCoordinator_120 rfl ?_
    refine JO.bip 7 dX10_recoversCoordinator_121 (by decide) ?_
    refine JO.mvv (C_m_sendsAll _ _) K_m_sendsAll k5_196 rfl rfl rfl (Nat.le_of_ble_eq_true rfl) dX10_recoversCoordinator_123 (fun a6 => ?_)
    refine JO.aloadn dX10_recoversCoordinator_126 rfl ?_
    refine JO.ic 0 dX10_recoversCoordinator_127 (by decide) ?_
    refine JO.mvv (C_m_startsTimer _ _) K_m_startsTimer k5_204 rfl rfl rfl (Nat.le_of_ble_eq_true rfl) dX10_recoversCoordinator_128 (fun a7 => ?_)
    refine JO.goto 176 dX10_recoversCoordinator_131 rfl ?_
    exact JO.vret dX10_recoversCoordinator_176 rfl rfl rfl
  · refine JO.aloadn dX10_recoversCoordinator_134 rfl ?_
    refine gM10 dX10_recoversCoordinator_135 rfl ?_
    refine JO.ic 0 dX10_recoversCoordinator_138 (by decide) ?_
    refine JO.ic 5 dX10_recoversCoordinator_139 (by decide) ?_
    refine uM10 dX10_recoversCoordinator_140 ?_
    refine JO.aloadn dX10_recoversCoordinator_141 rfl ?_
    refine JO.aloadn dX10_recoversCoordinator_142 rfl ?_
    refine JO.ic 0 dX10_recoversCoordinator_143 (by decide) ?_
    refine JO.aloadn dX10_recoversCoordinator_144 rfl ?_
    refine gM14 dX10_recoversCoordinator_145 rfl ?_
    refine JO.ic 0 dX10_recoversCoordinator_148 (by decide) ?_
    refine aM14 dX10_recoversCoordinator_149 ?_
    refine JO.ic 1 dX10_recoversCoordinator_150 (by decide) ?_
    refine JO.isub dX10_recoversCoordinator_151 ?_
    refine JO.mvi (C_m_lastOf _ _ _) K_m_lastOf k5_192 rfl rfl rfl (Nat.le_of_ble_eq_true rfl) dX10_recoversCoordinator_152 (fun a8 => ?_)
    refine JO.ic 4 dX10_recoversCoordinator_155 (by decide) ?_
    refine JO.icmp_ne 164 dX10_recoversCoordinator_156 rfl ?_ ?_
    · refine JO.bip 7 dX10_recoversCoordinator_164 (by decide) ?_
      refine pM24 dX10_recoversCoordinator_166 rfl ?_
      refine JO.goto 176 dX10_recoversCoordinator_169 rfl ?_
      exact JO.vret dX10_recoversCoordinator_176 rfl rfl rfl
    · refine JO.bip 6 dX10_recoversCoordinator_159 (by decide) ?_
      refine JO.goto 166 dX10_recoversCoordinator_161 rfl ?_
      refine pM24 dX10_recoversCoordinator_166 rfl ?_
      refine JO.goto 176 dX10_recoversCoordinator_169 rfl ?_
      exact JO.vret dX10_recoversCoordinator_176 rfl rfl rfl
  · refine JO.aloadn dX10_recoversCoordinator_172 rfl ?_
    refine JO.mvv (C_m_decidesAbort _) K_m_decidesAbort k5_208 rfl rfl rfl (Nat.le_of_ble_eq_true rfl) dX10_recoversCoordinator_173 (fun a9 => ?_)
    exact JO.vret dX10_recoversCoordinator_176 rfl rfl rfl
theorem J_m_recoversCoordinator_l2 {X : JX} {ad : Nat → Nat} : ∀ (n : Nat) (x1 : Int32) (σ : MS), JO X M_m_recoversCoordinator (QF X eV (wM ad (xZ X))) 2 [some (.ref (ad 0)), some (.int x1)] [] (wsM ad (xZ X) σ) (m_recoversCoordinator_l2 n x1 σ) := by
  intro n
  induction n with
  | zero => intro x1 σ; exact JO.nil
  | succ n ih =>
    intro x1 σ
    unfold m_recoversCoordinator_l2
    refine JO.iloadn dX10_recoversCoordinator_2 rfl ?_
    refine JO.ic 3 dX10_recoversCoordinator_3 (by decide) ?_
    refine JO.icmp_ge 20 dX10_recoversCoordinator_4 rfl ?_ ?_
    · exact (J_m_recoversCoordinator_b20 _).jump (lvLe.so rfl (lvLe.no (lvLe.nil)))
    · refine JO.aloadn dX10_recoversCoordinator_7 rfl ?_
      refine gM15 dX10_recoversCoordinator_8 rfl ?_
      refine JO.iloadn dX10_recoversCoordinator_11 rfl ?_
      refine JO.ic 0 dX10_recoversCoordinator_12 (by decide) ?_
      refine uM15 dX10_recoversCoordinator_13 ?_
      refine JO.iinc dX10_recoversCoordinator_14 rfl 1 (by decide) rfl rfl ?_
      refine JO.goto 2 dX10_recoversCoordinator_17 rfl ?_
      exact (ih _ _).jump (lvLe.so rfl (lvLe.so rfl (lvLe.nil)))
theorem J_m_recoversCoordinator {X : JX} {ad : Nat → Nat} (σ : MS) : JO X M_m_recoversCoordinator (QF X eV (wM ad (xZ X))) 0 [some (.ref (ad 0)), none] [] (wsM ad (xZ X) σ) (m_recoversCoordinator σ) := by
  unfold m_recoversCoordinator
  refine JO.ic 0 dX10_recoversCoordinator_0 (by decide) ?_
  refine JO.istoren dX10_recoversCoordinator_1 rfl rfl ?_
  exact (J_m_recoversCoordinator_l2 4096 _ _).jump (lvLe.so rfl (lvLe.so rfl (lvLe.nil)))
theorem C_m_recoversCoordinator {ad : Nat → Nat} {Z : ZT} (σ : MS) : CO yX10_recoversCoordinator M_m_recoversCoordinator eV Z (wM ad Z) [.ref (ad 0)] (wsM ad Z σ) (m_recoversCoordinator σ) :=
  CO.of rfl rfl (Nat.le_of_ble_eq_true rfl) 1 (fun X hZ => by subst hZ; exact J_m_recoversCoordinator σ)
theorem K_m_recoversCoordinator : Kv yX10_recoversCoordinator M_m_recoversCoordinator RX10 0 := ⟨rfl, k5_190, s3_14, k1_10, k5_191, by decide +kernel⟩
abbrev M_m_recoversParticipant : JM := (cX10_recoversParticipant, 2, RX10, none, 1, 22)
def m_recoversParticipant_b91 (x1 : Int32) (σ : MS) : Option (Unit × MS) :=
  if inB x1 6 = true then
  (m_lastOf x1 (mA σ 14 (ix x1)) σ).bind fun a1 =>
  if a1.1 = 4 then (
    if inB x1 6 = true then
    some ((), sA a1.2 10 (ix x1) 3)
    else none)
  else (
    if inB x1 6 = true then
    some ((), sA a1.2 10 (ix x1) 4)
    else none)
  else none
def m_recoversParticipant (p1 : Int32) (σ : MS) : Option (Unit × MS) :=
  if inB p1 6 = true then
  (m_lastOf p1 (mA σ 14 (ix p1)) σ).bind fun a1 =>
  sw a1.1 [(0, 40,
    (m_notes p1 5 a1.2).bind fun a2 =>
    if inB p1 6 = true then
    some ((), sA a2.2 10 (ix p1) 4)
    else none), (2, 56,
    if inB p1 6 = true then
    if inB p1 6 = true then
    some ((), sA (sA a1.2 10 (ix p1) 1) 12 (ix p1) (mI a1.2 22))
    else none
    else none), (3, 76,
    if inB p1 6 = true then
    (m_startsTimer p1 (sA a1.2 10 (ix p1) 2)).bind fun a3 =>
    some ((), a3.2)
    else none)] (
    m_recoversParticipant_b91 p1 a1.2)
  else none
theorem J_m_recoversParticipant_b91 {X : JX} {ad : Nat → Nat} (x1 : Int32) (σ : MS) : JO X M_m_recoversParticipant (QF X eV (wM ad (xZ X))) 91 [some (.ref (ad 0)), some (.int x1)] [] (wsM ad (xZ X) σ) (m_recoversParticipant_b91 x1 σ) := by
  unfold m_recoversParticipant_b91
  refine JO.aloadn dX10_recoversParticipant_91 rfl ?_
  refine gM10 dX10_recoversParticipant_92 rfl ?_
  refine JO.iloadn dX10_recoversParticipant_95 rfl ?_
  refine JO.aloadn dX10_recoversParticipant_96 rfl ?_
  refine JO.iloadn dX10_recoversParticipant_97 rfl ?_
  refine JO.aloadn dX10_recoversParticipant_98 rfl ?_
  refine gM14 dX10_recoversParticipant_99 rfl ?_
  refine JO.iloadn dX10_recoversParticipant_102 rfl ?_
  refine aM14 dX10_recoversParticipant_103 ?_
  refine JO.mvi (C_m_lastOf _ _ _) K_m_lastOf k5_192 rfl rfl rfl (Nat.le_of_ble_eq_true rfl) dX10_recoversParticipant_104 (fun a1 => ?_)
  refine JO.ic 4 dX10_recoversParticipant_107 (by decide) ?_
  refine JO.icmp_ne 115 dX10_recoversParticipant_108 rfl ?_ ?_
  · refine JO.ic 4 dX10_recoversParticipant_115 (by decide) ?_
    refine uM10 dX10_recoversParticipant_116 ?_
    exact JO.vret dX10_recoversParticipant_117 rfl rfl rfl
  · refine JO.ic 3 dX10_recoversParticipant_111 (by decide) ?_
    refine JO.goto 116 dX10_recoversParticipant_112 rfl ?_
    refine uM10 dX10_recoversParticipant_116 ?_
    exact JO.vret dX10_recoversParticipant_117 rfl rfl rfl
theorem J_m_recoversParticipant {X : JX} {ad : Nat → Nat} (p1 : Int32) (σ : MS) : JO X M_m_recoversParticipant (QF X eV (wM ad (xZ X))) 0 [some (.ref (ad 0)), some (.int p1)] [] (wsM ad (xZ X) σ) (m_recoversParticipant p1 σ) := by
  unfold m_recoversParticipant
  refine JO.aloadn dX10_recoversParticipant_0 rfl ?_
  refine JO.iloadn dX10_recoversParticipant_1 rfl ?_
  refine JO.aloadn dX10_recoversParticipant_2 rfl ?_
  refine gM14 dX10_recoversParticipant_3 rfl ?_
  refine JO.iloadn dX10_recoversParticipant_6 rfl ?_
  refine aM14 dX10_recoversParticipant_7 ?_
  refine JO.mvi (C_m_lastOf _ _ _) K_m_lastOf k5_192 rfl rfl rfl (Nat.le_of_ble_eq_true rfl) dX10_recoversParticipant_8 (fun a1 => ?_)
  refine JO.tsw [(0, 40, _), (2, 56, _), (3, 76, _)] 91 [(0, 40), (2, 56), (3, 76)] dX10_recoversParticipant_11 rfl (by decide) rfl (by decide) (JO.swCons ?_ (JO.swCons ?_ (JO.swCons ?_ (JO.swNil)))) ?_
  · refine JO.aloadn dX10_recoversParticipant_40 rfl ?_
    refine JO.iloadn dX10_recoversParticipant_41 rfl ?_
    refine JO.ic 5 dX10_recoversParticipant_42 (by decide) ?_
    refine JO.mvv (C_m_notes _ _ _) K_m_notes k5_212 rfl rfl rfl (Nat.le_of_ble_eq_true rfl) dX10_recoversParticipant_43 (fun a2 => ?_)
    refine JO.aloadn dX10_recoversParticipant_46 rfl ?_
    refine gM10 dX10_recoversParticipant_47 rfl ?_
    refine JO.iloadn dX10_recoversParticipant_50 rfl ?_
    refine JO.ic 4 dX10_recoversParticipant_51 (by decide) ?_
    refine uM10 dX10_recoversParticipant_52 ?_
    refine JO.goto 117 dX10_recoversParticipant_53 rfl ?_
    exact JO.vret dX10_recoversParticipant_117 rfl rfl rfl
  · refine JO.aloadn dX10_recoversParticipant_56 rfl ?_
    refine gM10 dX10_recoversParticipant_57 rfl ?_
    refine JO.iloadn dX10_recoversParticipant_60 rfl ?_
    refine JO.ic 1 dX10_recoversParticipant_61 (by decide) ?_
    refine uM10 dX10_recoversParticipant_62 ?_
    refine JO.aloadn dX10_recoversParticipant_63 rfl ?_
    refine gM12 dX10_recoversParticipant_64 rfl ?_
    refine JO.iloadn dX10_recoversParticipant_67 rfl ?_
    refine JO.aloadn dX10_recoversParticipant_68 rfl ?_
    refine gM22 dX10_recoversParticipant_69 rfl ?_
    refine uM12 dX10_recoversParticipant_72 ?_
    refine JO.goto 117 dX10_recoversParticipant_73 rfl ?_
    exact JO.vret dX10_recoversParticipant_117 rfl rfl rfl
  · refine JO.aloadn dX10_recoversParticipant_76 rfl ?_
    refine gM10 dX10_recoversParticipant_77 rfl ?_
    refine JO.iloadn dX10_recoversParticipant_80 rfl ?_
    refine JO.ic 2 dX10_recoversParticipant_81 (by decide) ?_
    refine uM10 dX10_recoversParticipant_82 ?_
    refine JO.aloadn dX10_recoversParticipant_83 rfl ?_
    refine JO.iloadn dX10_recoversParticipant_84 rfl ?_
    refine JO.mvv (C_m_startsTimer _ _) K_m_startsTimer k5_204 rfl rfl rfl (Nat.le_of_ble_eq_true rfl) dX10_recoversParticipant_85 (fun a3 => ?_)
    refine JO.goto 117 dX10_recoversParticipant_88 rfl ?_
    exact JO.vret dX10_recoversParticipant_117 rfl rfl rfl
  · exact (J_m_recoversParticipant_b91 _ _).jump (lvLe.so rfl (lvLe.so rfl (lvLe.nil)))
theorem C_m_recoversParticipant {ad : Nat → Nat} {Z : ZT} (p1 : Int32) (σ : MS) : CO yX10_recoversParticipant M_m_recoversParticipant eV Z (wM ad Z) [.ref (ad 0), .int p1] (wsM ad Z σ) (m_recoversParticipant p1 σ) :=
  CO.of rfl rfl (Nat.le_of_ble_eq_true rfl) 0 (fun X hZ => by subst hZ; exact J_m_recoversParticipant _ σ)
theorem K_m_recoversParticipant : Kv yX10_recoversParticipant M_m_recoversParticipant RX10 1 := ⟨rfl, k5_218, s4_5, k1_10, k5_219, by decide +kernel⟩
abbrev M_m_recovers : JM := (cX10_recovers, 2, RX10, none, 4, 86)
def m_recovers (p1 : Int32) (σ : MS) : Option (Unit × MS) :=
  if inB p1 6 = true then
  if inB p1 6 = true then
  if p1 = 0 then (
    (m_recoversCoordinator (sA (sA σ 11 (ix p1) 1) 12 (ix p1) 1000)).bind fun a2 =>
    some ((), a2.2))
  else (
    (m_recoversParticipant p1 (sA (sA σ 11 (ix p1) 1) 12 (ix p1) 1000)).bind fun a1 =>
    some ((), a1.2))
  else none
  else none
theorem J_m_recovers {X : JX} {ad : Nat → Nat} (p1 : Int32) (σ : MS) : JO X M_m_recovers (QF X eV (wM ad (xZ X))) 0 [some (.ref (ad 0)), some (.int p1)] [] (wsM ad (xZ X) σ) (m_recovers p1 σ) := by
  unfold m_recovers
  refine JO.aloadn dX10_recovers_0 rfl ?_
  refine gM11 dX10_recovers_1 rfl ?_
  refine JO.iloadn dX10_recovers_4 rfl ?_
  refine JO.ic 1 dX10_recovers_5 (by decide) ?_
  refine uM11 dX10_recovers_6 ?_
  refine JO.aloadn dX10_recovers_7 rfl ?_
  refine gM12 dX10_recovers_8 rfl ?_
  refine JO.iloadn dX10_recovers_11 rfl ?_
  refine JO.sip 1000 dX10_recovers_12 (by decide) ?_
  refine uM12 dX10_recovers_15 ?_
  refine JO.iloadn dX10_recovers_16 rfl ?_
  refine JO.if_ne 27 dX10_recovers_17 rfl ?_ ?_
  · refine JO.aloadn dX10_recovers_27 rfl ?_
    refine JO.iloadn dX10_recovers_28 rfl ?_
    refine JO.mvv (C_m_recoversParticipant _ _) K_m_recoversParticipant k5_216 rfl rfl rfl (Nat.le_of_ble_eq_true rfl) dX10_recovers_29 (fun a1 => ?_)
    exact JO.vret dX10_recovers_32 rfl rfl rfl
  · refine JO.aloadn dX10_recovers_20 rfl ?_
    refine JO.mvv (C_m_recoversCoordinator _) K_m_recoversCoordinator k5_188 rfl rfl rfl (Nat.le_of_ble_eq_true rfl) dX10_recovers_21 (fun a2 => ?_)
    refine JO.goto 32 dX10_recovers_24 rfl ?_
    exact JO.vret dX10_recovers_32 rfl rfl rfl
theorem C_m_recovers {ad : Nat → Nat} {Z : ZT} (p1 : Int32) (σ : MS) : CO yX10_recovers M_m_recovers eV Z (wM ad Z) [.ref (ad 0), .int p1] (wsM ad Z σ) (m_recovers p1 σ) :=
  CO.of rfl rfl (Nat.le_of_ble_eq_true rfl) 0 (fun X hZ => by subst hZ; exact J_m_recovers _ σ)
theorem K_m_recovers : Kv yX10_recovers M_m_recovers RX10 1 := ⟨rfl, k5_186, s3_13, k1_10, k5_187, by decide +kernel⟩
abbrev M_m_arrives : JM := (cX10_arrives, 3, RX10, none, 4, 87)
def m_arrives_b33 (x1 : Int32) (x2 : Int32) (σ : MS) : Option (Unit × MS) :=
  if inB x2 6 = true then
  if mA σ 11 (ix x2) = 0 then (
    if inB x1 200 = true then
    some ((), sA σ 20 (ix x1) 2)
    else none)
  else (
    if inB x1 200 = true then
    if x2 = 0 then (
      if inB x1 200 = true then
      if inB x1 200 = true then
      (m_comesToCoordinator (mA σ 16 (ix x1)) (mA σ 17 (ix x1)) (sA σ 20 (ix x1) 0)).bind fun a2 =>
      some ((), a2.2)
      else none
      else none)
    else (
      if inB x1 200 = true then
      if inB x1 200 = true then
      (m_comesToParticipant x2 (mA σ 16 (ix x1)) (mA σ 17 (ix x1)) (sA σ 20 (ix x1) 0)).bind fun a1 =>
      some ((), a1.2)
      else none
      else none)
    else none)
  else none
def m_arrives (p1 : Int32) (σ : MS) : Option (Unit × MS) :=
  if inB p1 200 = true then
  if 60 ≤ p1 then (
    m_arrives_b33 p1 (mA σ 18 (ix p1)) σ)
  else (
    if inB p1 60 = true then
    if mA σ 2 (ix p1) = 1 then (
      if inB p1 200 = true then
      some ((), sA σ 20 (ix p1) 1)
      else none)
    else (
      m_arrives_b33 p1 (mA σ 18 (ix p1)) σ)
    else none)
  else none
theorem J_m_arrives_b33 {X : JX} {ad : Nat → Nat} (x1 : Int32) (x2 : Int32) (σ : MS) : JO X M_m_arrives (QF X eV (wM ad (xZ X))) 33 [some (.ref (ad 0)), some (.int x1), some (.int x2)] [] (wsM ad (xZ X) σ) (m_arrives_b33 x1 x2 σ) := by
  unfold m_arrives_b33
  refine JO.aloadn dX10_arrives_33 rfl ?_
  refine gM11 dX10_arrives_34 rfl ?_
  refine JO.iloadn dX10_arrives_37 rfl ?_
  refine aM11 dX10_arrives_38 ?_
  refine JO.if_ne 52 dX10_arrives_39 rfl ?_ ?_
  · refine JO.aloadn dX10_arrives_52 rfl ?_
    refine gM20 dX10_arrives_53 rfl ?_
    refine JO.iloadn dX10_arrives_56 rfl ?_
    refine JO.ic 0 dX10_arrives_57 (by decide) ?_
    refine uM20 dX10_arrives_58 ?_
    refine JO.iloadn dX10_arrives_59 rfl ?_
    refine JO.if_ne 82 dX10_arrives_60 rfl ?_ ?_
    · refine JO.aloadn dX10_arrives_82 rfl ?_
      refine JO.iloadn dX10_arrives_83 rfl ?_
      refine JO.aloadn dX10_arrives_84 rfl ?_
      refine gM16 dX10_arrives_85 rfl ?_
      refine JO.iloadn dX10_arrives_88 rfl ?_
      refine aM16 dX10_arrives_89 ?_
      refine JO.aloadn dX10_arrives_90 rfl ?_
      refine gM17 dX10_arrives_91 rfl ?_
      refine JO.iloadn dX10_arrives_94 rfl ?_
      refine aM17 dX10_arrives_95 ?_
      refine JO.mvv (C_m_comesToParticipant _ _ _ _) K_m_comesToParticipant k6_8 rfl rfl rfl (Nat.le_of_ble_eq_true rfl) dX10_arrives_96 (fun a1 => ?_)
      exact JO.vret dX10_arrives_99 rfl rfl rfl
    · refine JO.aloadn dX10_arrives_63 rfl ?_
      refine JO.aloadn dX10_arrives_64 rfl ?_
      refine gM16 dX10_arrives_65 rfl ?_
      refine JO.iloadn dX10_arrives_68 rfl ?_
      refine aM16 dX10_arrives_69 ?_
      refine JO.aloadn dX10_arrives_70 rfl ?_
      refine gM17 dX10_arrives_71 rfl ?_
      refine JO.iloadn dX10_arrives_74 rfl ?_
      refine aM17 dX10_arrives_75 ?_
      refine JO.mvv (C_m_comesToCoordinator _ _ _) K_m_comesToCoordinator k5_224 rfl rfl rfl (Nat.le_of_ble_eq_true rfl) dX10_arrives_76 (fun a2 => ?_)
      refine JO.goto 99 dX10_arrives_79 rfl ?_
      exact JO.vret dX10_arrives_99 rfl rfl rfl
  · refine JO.aloadn dX10_arrives_42 rfl ?_
    refine gM20 dX10_arrives_43 rfl ?_
    refine JO.iloadn dX10_arrives_46 rfl ?_
    refine JO.ic 2 dX10_arrives_47 (by decide) ?_
    refine uM20 dX10_arrives_48 ?_
    refine JO.goto 99 dX10_arrives_49 rfl ?_
    exact JO.vret dX10_arrives_99 rfl rfl rfl
theorem J_m_arrives {X : JX} {ad : Nat → Nat} (p1 : Int32) (σ : MS) : JO X M_m_arrives (QF X eV (wM ad (xZ X))) 0 [some (.ref (ad 0)), some (.int p1), none] [] (wsM ad (xZ X) σ) (m_arrives p1 σ) := by
  unfold m_arrives
  refine JO.aloadn dX10_arrives_0 rfl ?_
  refine gM18 dX10_arrives_1 rfl ?_
  refine JO.iloadn dX10_arrives_4 rfl ?_
  refine aM18 dX10_arrives_5 ?_
  refine JO.istoren dX10_arrives_6 rfl rfl ?_
  refine JO.iloadn dX10_arrives_7 rfl ?_
  refine JO.bip 60 dX10_arrives_8 (by decide) ?_
  refine JO.icmp_ge 33 dX10_arrives_10 rfl ?_ ?_
  · exact (J_m_arrives_b33 _ _ _).jump (lvLe.so rfl (lvLe.so rfl (lvLe.so rfl (lvLe.nil))))
  · refine JO.aloadn dX10_arrives_13 rfl ?_
    refine gM2 dX10_arrives_14 rfl ?_
    refine JO.iloadn dX10_arrives_17 rfl ?_
    refine aM2 dX10_arrives_18 ?_
    refine JO.ic 1 dX10_arrives_19 (by decide) ?_
    refine JO.icmp_ne 33 dX10_arrives_20 rfl ?_ ?_
    · exact (J_m_arrives_b33 _ _ _).jump (lvLe.so rfl (lvLe.so rfl (lvLe.so rfl (lvLe.nil))))
    · refine JO.aloadn dX10_arrives_23 rfl ?_
      refine gM20 dX10_arrives_24 rfl ?_
      refine JO.iloadn dX10_arrives_27 rfl ?_
      refine JO.ic 1 dX10_arrives_28 (by decide) ?_
      refine uM20 dX10_arrives_29 ?_
      refine JO.goto 99 dX10_arrives_30 rfl ?_
      exact JO.vret dX10_arrives_99 rfl rfl rfl
theorem C_m_arrives {ad : Nat → Nat} {Z : ZT} (p1 : Int32) (σ : MS) : CO yX10_arrives M_m_arrives eV Z (wM ad Z) [.ref (ad 0), .int p1] (wsM ad Z σ) (m_arrives p1 σ) :=
  CO.of rfl rfl (Nat.le_of_ble_eq_true rfl) 1 (fun X hZ => by subst hZ; exact J_m_arrives _ σ)
theorem K_m_arrives : Kv yX10_arrives M_m_arrives RX10 1 := ⟨rfl, k5_222, s4_6, k1_10, k5_223, by decide +kernel⟩
