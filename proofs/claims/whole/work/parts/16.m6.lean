abbrev M_m_decided : JM := (cX10_decided, 4, RX10, (some .int), 8, 171)
def m_decided (p1 : Int32) (p2 : Int32) (σ : MS) : Option (Int32 × MS) :=
  (m_notThen p1 p2 σ).bind fun a1 =>
  if a1.1 = 0 then (
    (m_runs a1.2).bind fun a2 =>
    (m_decidedAt p1 p2 a2.2).bind fun a3 =>
    some (a3.1, a3.2))
  else (
    (m_no a1.1 a1.2).bind fun a4 =>
    some (a4.1, a4.2))
theorem J_m_decided {X : JX} {ad : Nat → Nat} (p1 : Int32) (p2 : Int32) (σ : MS) : JO X M_m_decided (QF X eI (wM ad (xZ X))) 0 [some (.ref (ad 0)), some (.int p1), some (.int p2), none] [] (wsM ad (xZ X) σ) (m_decided p1 p2 σ) := by
  unfold m_decided
  refine JO.aloadn dX10_decided_0 rfl ?_
  refine JO.iloadn dX10_decided_1 rfl ?_
  refine JO.iloadn dX10_decided_2 rfl ?_
  refine JO.mvi (C_m_notThen _ _ _) K_m_notThen k6_147 rfl rfl rfl (Nat.le_of_ble_eq_true rfl) dX10_decided_3 (fun a1 => ?_)
  refine JO.istoren dX10_decided_6 rfl rfl ?_
  refine JO.iloadn dX10_decided_7 rfl ?_
  refine JO.if_eq 17 dX10_decided_8 rfl ?_ ?_
  · refine JO.aloadn dX10_decided_17 rfl ?_
    refine JO.mvv (C_m_runs _) K_m_runs k5_172 rfl rfl rfl (Nat.le_of_ble_eq_true rfl) dX10_decided_18 (fun a2 => ?_)
    refine JO.aloadn dX10_decided_21 rfl ?_
    refine JO.iloadn dX10_decided_22 rfl ?_
    refine JO.iloadn dX10_decided_23 rfl ?_
    refine JO.mvi (C_m_decidedAt _ _ _) K_m_decidedAt k6_162 rfl rfl rfl (Nat.le_of_ble_eq_true rfl) dX10_decided_24 (fun a3 => ?_)
    exact JO.iret dX10_decided_27 rfl rfl rfl
  · refine JO.aloadn dX10_decided_11 rfl ?_
    refine JO.iloadn dX10_decided_12 rfl ?_
    refine JO.mvi (C_m_no _ _) K_m_no k5_137 rfl rfl rfl (Nat.le_of_ble_eq_true rfl) dX10_decided_13 (fun a4 => ?_)
    exact JO.iret dX10_decided_16 rfl rfl rfl
theorem C_m_decided {ad : Nat → Nat} {Z : ZT} (p1 : Int32) (p2 : Int32) (σ : MS) : CO yX10_decided M_m_decided eI Z (wM ad Z) [.ref (ad 0), .int p1, .int p2] (wsM ad Z σ) (m_decided p1 p2 σ) :=
  CO.of rfl rfl (Nat.le_of_ble_eq_true rfl) 1 (fun X hZ => by subst hZ; exact J_m_decided _ _ σ)
theorem K_m_decided : Kv yX10_decided M_m_decided RX10 2 := ⟨rfl, k6_159, k6_160, k1_10, k6_161, by decide +kernel⟩
abbrev M_m_records : JM := (cX10_records, 4, RX10, (some .int), 8, 171)
def m_records (p1 : Int32) (p2 : Int32) (σ : MS) : Option (Int32 × MS) :=
  (m_notThen p1 p2 σ).bind fun a1 =>
  if a1.1 = 0 then (
    (m_runs a1.2).bind fun a2 =>
    if inB ((6 * p1) + p2) 366 = true then
    some (mA a2.2 26 (ix ((6 * p1) + p2)), a2.2)
    else none)
  else (
    (m_no a1.1 a1.2).bind fun a3 =>
    some (a3.1, a3.2))
theorem J_m_records {X : JX} {ad : Nat → Nat} (p1 : Int32) (p2 : Int32) (σ : MS) : JO X M_m_records (QF X eI (wM ad (xZ X))) 0 [some (.ref (ad 0)), some (.int p1), some (.int p2), none] [] (wsM ad (xZ X) σ) (m_records p1 p2 σ) := by
  unfold m_records
  refine JO.aloadn dX10_records_0 rfl ?_
  refine JO.iloadn dX10_records_1 rfl ?_
  refine JO.iloadn dX10_records_2 rfl ?_
  refine JO.mvi (C_m_notThen _ _ _) K_m_notThen k6_147 rfl rfl rfl (Nat.le_of_ble_eq_true rfl) dX10_records_3 (fun a1 => ?_)
  refine JO.istoren dX10_records_6 rfl rfl ?_
  refine JO.iloadn dX10_records_7 rfl ?_
  refine JO.if_eq 17 dX10_records_8 rfl ?_ ?_
  · refine JO.aloadn dX10_records_17 rfl ?_
    refine JO.mvv (C_m_runs _) K_m_runs k5_172 rfl rfl rfl (Nat.le_of_ble_eq_true rfl) dX10_records_18 (fun a2 => ?_)
    refine JO.aloadn dX10_records_21 rfl ?_
    refine gM26 dX10_records_22 rfl ?_
    refine JO.bip 6 dX10_records_25 (by decide) ?_
    refine JO.iloadn dX10_records_27 rfl ?_
    refine JO.imul dX10_records_28 ?_
    refine JO.iloadn dX10_records_29 rfl ?_
    refine JO.iadd dX10_records_30 ?_
    refine aM26 dX10_records_31 ?_
    exact JO.iret dX10_records_32 rfl rfl rfl
  · refine JO.aloadn dX10_records_11 rfl ?_
    refine JO.iloadn dX10_records_12 rfl ?_
    refine JO.mvi (C_m_no _ _) K_m_no k5_137 rfl rfl rfl (Nat.le_of_ble_eq_true rfl) dX10_records_13 (fun a3 => ?_)
    exact JO.iret dX10_records_16 rfl rfl rfl
theorem C_m_records {ad : Nat → Nat} {Z : ZT} (p1 : Int32) (p2 : Int32) (σ : MS) : CO yX10_records M_m_records eI Z (wM ad Z) [.ref (ad 0), .int p1, .int p2] (wsM ad Z σ) (m_records p1 p2 σ) :=
  CO.of rfl rfl (Nat.le_of_ble_eq_true rfl) 1 (fun X hZ => by subst hZ; exact J_m_records _ _ σ)
theorem K_m_records : Kv yX10_records M_m_records RX10 2 := ⟨rfl, k6_171, k6_172, k1_10, k6_173, by decide +kernel⟩
abbrev M_m_record : JM := (cX10_record, 3, RX10, (some .int), 8, 171)
def m_record (p1 : Int32) (p2 : Int32) (σ : MS) : Option (Int32 × MS) :=
  (m_isSite p1 σ).bind fun a1 =>
  if a1.1 = true then (
    (m_runs a1.2).bind fun a2 =>
    if inB p1 6 = true then
    (m_isIn p2 0 (mA a2.2 14 (ix p1) - 1) a2.2).bind fun a3 =>
    if a3.1 = true then (
      if inB ((20 * p1) + p2) 120 = true then
      some (mA a3.2 13 (ix ((20 * p1) + p2)), a3.2)
      else none)
    else (
      (m_no (-5) a3.2).bind fun a4 =>
      some (a4.1, a4.2))
    else none)
  else (
    (m_no (-1) a1.2).bind fun a5 =>
    some (a5.1, a5.2))
theorem J_m_record {X : JX} {ad : Nat → Nat} (p1 : Int32) (p2 : Int32) (σ : MS) : JO X M_m_record (QF X eI (wM ad (xZ X))) 0 [some (.ref (ad 0)), some (.int p1), some (.int p2)] [] (wsM ad (xZ X) σ) (m_record p1 p2 σ) := by
  unfold m_record
  refine JO.aloadn dX10_record_0 rfl ?_
  refine JO.iloadn dX10_record_1 rfl ?_
  refine JO.mvz (C_m_isSite _ _) K_m_isSite k6_151 rfl rfl rfl (Nat.le_of_ble_eq_true rfl) dX10_record_2 (fun a1 => ?_)
  refine JO.zne 14 dX10_record_5 rfl ?_ ?_
  · refine JO.aloadn dX10_record_14 rfl ?_
    refine JO.mvv (C_m_runs _) K_m_runs k5_172 rfl rfl rfl (Nat.le_of_ble_eq_true rfl) dX10_record_15 (fun a2 => ?_)
    refine JO.iloadn dX10_record_18 rfl ?_
    refine JO.ic 0 dX10_record_19 (by decide) ?_
    refine JO.aloadn dX10_record_20 rfl ?_
    refine gM14 dX10_record_21 rfl ?_
    refine JO.iloadn dX10_record_24 rfl ?_
    refine aM14 dX10_record_25 ?_
    refine JO.ic 1 dX10_record_26 (by decide) ?_
    refine JO.isub dX10_record_27 ?_
    refine JO.msz (C_m_isIn _ _ _ _) K_m_isIn k5_134 rfl rfl rfl (Nat.le_of_ble_eq_true rfl) dX10_record_28 (fun a3 => ?_)
    refine JO.zeq 48 dX10_record_31 rfl ?_ ?_
    · refine JO.aloadn dX10_record_48 rfl ?_
      refine JO.bip (-5) dX10_record_49 (by decide) ?_
      refine JO.mvi (C_m_no _ _) K_m_no k5_137 rfl rfl rfl (Nat.le_of_ble_eq_true rfl) dX10_record_51 (fun a4 => ?_)
      exact JO.iret dX10_record_54 rfl rfl rfl
    · refine JO.aloadn dX10_record_34 rfl ?_
      refine gM13 dX10_record_35 rfl ?_
      refine JO.bip 20 dX10_record_38 (by decide) ?_
      refine JO.iloadn dX10_record_40 rfl ?_
      refine JO.imul dX10_record_41 ?_
      refine JO.iloadn dX10_record_42 rfl ?_
      refine JO.iadd dX10_record_43 ?_
      refine aM13 dX10_record_44 ?_
      refine JO.goto 54 dX10_record_45 rfl ?_
      exact JO.iret dX10_record_54 rfl rfl rfl
  · refine JO.aloadn dX10_record_8 rfl ?_
    refine JO.ic (-1) dX10_record_9 (by decide) ?_
    refine JO.mvi (C_m_no _ _) K_m_no k5_137 rfl rfl rfl (Nat.le_of_ble_eq_true rfl) dX10_record_10 (fun a5 => ?_)
    exact JO.iret dX10_record_13 rfl rfl rfl
theorem C_m_record {ad : Nat → Nat} {Z : ZT} (p1 : Int32) (p2 : Int32) (σ : MS) : CO yX10_record M_m_record eI Z (wM ad Z) [.ref (ad 0), .int p1, .int p2] (wsM ad Z σ) (m_record p1 p2 σ) :=
  CO.of rfl rfl (Nat.le_of_ble_eq_true rfl) 0 (fun X hZ => by subst hZ; exact J_m_record _ _ σ)
theorem K_m_record : Kv yX10_record M_m_record RX10 2 := ⟨rfl, k6_175, k6_176, k1_10, k6_177, by decide +kernel⟩
abbrev M_m_sent : JM := (cX10_sent, 2, RX10, (some .int), 8, 171)
def m_sent (p1 : Int32) (σ : MS) : Option (Int32 × MS) :=
  (m_isTick p1 σ).bind fun a1 =>
  if a1.1 = true then (
    (m_runs a1.2).bind fun a2 =>
    if inB p1 61 = true then
    some (mA a2.2 27 (ix p1), a2.2)
    else none)
  else (
    (m_no (-6) a1.2).bind fun a3 =>
    some (a3.1, a3.2))
theorem J_m_sent {X : JX} {ad : Nat → Nat} (p1 : Int32) (σ : MS) : JO X M_m_sent (QF X eI (wM ad (xZ X))) 0 [some (.ref (ad 0)), some (.int p1)] [] (wsM ad (xZ X) σ) (m_sent p1 σ) := by
  unfold m_sent
  refine JO.iloadn dX10_sent_0 rfl ?_
  refine JO.msz (C_m_isTick _ _) K_m_isTick k6_155 rfl rfl rfl (Nat.le_of_ble_eq_true rfl) dX10_sent_1 (fun a1 => ?_)
  refine JO.zne 14 dX10_sent_4 rfl ?_ ?_
  · refine JO.aloadn dX10_sent_14 rfl ?_
    refine JO.mvv (C_m_runs _) K_m_runs k5_172 rfl rfl rfl (Nat.le_of_ble_eq_true rfl) dX10_sent_15 (fun a2 => ?_)
    refine JO.aloadn dX10_sent_18 rfl ?_
    refine gM27 dX10_sent_19 rfl ?_
    refine JO.iloadn dX10_sent_22 rfl ?_
    refine aM27 dX10_sent_23 ?_
    exact JO.iret dX10_sent_24 rfl rfl rfl
  · refine JO.aloadn dX10_sent_7 rfl ?_
    refine JO.bip (-6) dX10_sent_8 (by decide) ?_
    refine JO.mvi (C_m_no _ _) K_m_no k5_137 rfl rfl rfl (Nat.le_of_ble_eq_true rfl) dX10_sent_10 (fun a3 => ?_)
    exact JO.iret dX10_sent_13 rfl rfl rfl
theorem C_m_sent {ad : Nat → Nat} {Z : ZT} (p1 : Int32) (σ : MS) : CO yX10_sent M_m_sent eI Z (wM ad Z) [.ref (ad 0), .int p1] (wsM ad Z σ) (m_sent p1 σ) :=
  CO.of rfl rfl (Nat.le_of_ble_eq_true rfl) 0 (fun X hZ => by subst hZ; exact J_m_sent _ σ)
theorem K_m_sent : Kv yX10_sent M_m_sent RX10 1 := ⟨rfl, k6_179, k6_180, k1_10, k6_181, by decide +kernel⟩
abbrev M_m_message : JM := (cX10_message, 3, RX10, (some .int), 8, 171)
def m_message_b27 (σ : MS) : Option (Int32 × MS) :=
  (m_no (-5) σ).bind fun a1 =>
  some (a1.1, a1.2)
def m_message (p1 : Int32) (p2 : Int32) (σ : MS) : Option (Int32 × MS) :=
  (m_runs σ).bind fun a1 =>
  (m_isIn p1 0 (mI a1.2 21 - 1) a1.2).bind fun a2 =>
  if a2.1 = true then (
    (m_isIn p2 0 4 a2.2).bind fun a3 =>
    if a3.1 = true then (
      sw p2 [(0, 64,
        if inB p1 200 = true then
        some (mA a3.2 16 (ix p1), a3.2)
        else none), (1, 71,
        if inB p1 200 = true then
        some (mA a3.2 17 (ix p1), a3.2)
        else none), (2, 78,
        if inB p1 200 = true then
        some (mA a3.2 18 (ix p1), a3.2)
        else none), (3, 85,
        if inB p1 200 = true then
        some (mA a3.2 19 (ix p1), a3.2)
        else none)] (
        if inB p1 200 = true then
        some (mA a3.2 20 (ix p1), a3.2)
        else none))
    else (
      m_message_b27 a3.2))
  else (
    m_message_b27 a2.2)
theorem J_m_message_b27 {X : JX} {ad : Nat → Nat} (σ : MS) : JO X M_m_message (QF X eI (wM ad (xZ X))) 27 [some (.ref (ad 0)), none, none] [] (wsM ad (xZ X) σ) (m_message_b27 σ) := by
  unfold m_message_b27
  refine JO.aloadn dX10_message_27 rfl ?_
  refine JO.bip (-5) dX10_message_28 (by decide) ?_
  refine JO.mvi (C_m_no _ _) K_m_no k5_137 rfl rfl rfl (Nat.le_of_ble_eq_true rfl) dX10_message_30 (fun a1 => ?_)
  exact JO.iret dX10_message_33 rfl rfl rfl
theorem J_m_message {X : JX} {ad : Nat → Nat} (p1 : Int32) (p2 : Int32) (σ : MS) : JO X M_m_message (QF X eI (wM ad (xZ X))) 0 [some (.ref (ad 0)), some (.int p1), some (.int p2)] [] (wsM ad (xZ X) σ) (m_message p1 p2 σ) := by
  unfold m_message
  refine JO.aloadn dX10_message_0 rfl ?_
  refine JO.mvv (C_m_runs _) K_m_runs k5_172 rfl rfl rfl (Nat.le_of_ble_eq_true rfl) dX10_message_1 (fun a1 => ?_)
  refine JO.iloadn dX10_message_4 rfl ?_
  refine JO.ic 0 dX10_message_5 (by decide) ?_
  refine JO.aloadn dX10_message_6 rfl ?_
  refine gM21 dX10_message_7 rfl ?_
  refine JO.ic 1 dX10_message_10 (by decide) ?_
  refine JO.isub dX10_message_11 ?_
  refine JO.msz (C_m_isIn _ _ _ _) K_m_isIn k5_134 rfl rfl rfl (Nat.le_of_ble_eq_true rfl) dX10_message_12 (fun a2 => ?_)
  refine JO.zeq 27 dX10_message_15 rfl ?_ ?_
  · exact (J_m_message_b27 _).jump (lvLe.so rfl (lvLe.no (lvLe.no (lvLe.nil))))
  · refine JO.iloadn dX10_message_18 rfl ?_
    refine JO.ic 0 dX10_message_19 (by decide) ?_
    refine JO.ic 4 dX10_message_20 (by decide) ?_
    refine JO.msz (C_m_isIn _ _ _ _) K_m_isIn k5_134 rfl rfl rfl (Nat.le_of_ble_eq_true rfl) dX10_message_21 (fun a3 => ?_)
    refine JO.zne 34 dX10_message_24 rfl ?_ ?_
    · refine JO.iloadn dX10_message_34 rfl ?_
      refine JO.tsw [(0, 64, _), (1, 71, _), (2, 78, _), (3, 85, _)] 92 [(0, 64), (1, 71), (2, 78), (3, 85)] dX10_message_35 rfl (by decide) rfl (by decide) (JO.swCons ?_ (JO.swCons ?_ (JO.swCons ?_ (JO.swCons ?_ (JO.swNil))))) ?_
      · refine JO.aloadn dX10_message_64 rfl ?_
        refine gM16 dX10_message_65 rfl ?_
        refine JO.iloadn dX10_message_68 rfl ?_
        refine aM16 dX10_message_69 ?_
        exact JO.iret dX10_message_70 rfl rfl rfl
      · refine JO.aloadn dX10_message_71 rfl ?_
        refine gM17 dX10_message_72 rfl ?_
        refine JO.iloadn dX10_message_75 rfl ?_
        refine aM17 dX10_message_76 ?_
        exact JO.iret dX10_message_77 rfl rfl rfl
      · refine JO.aloadn dX10_message_78 rfl ?_
        refine gM18 dX10_message_79 rfl ?_
        refine JO.iloadn dX10_message_82 rfl ?_
        refine aM18 dX10_message_83 ?_
        exact JO.iret dX10_message_84 rfl rfl rfl
      · refine JO.aloadn dX10_message_85 rfl ?_
        refine gM19 dX10_message_86 rfl ?_
        refine JO.iloadn dX10_message_89 rfl ?_
        refine aM19 dX10_message_90 ?_
        exact JO.iret dX10_message_91 rfl rfl rfl
      · refine JO.aloadn dX10_message_92 rfl ?_
        refine gM20 dX10_message_93 rfl ?_
        refine JO.iloadn dX10_message_96 rfl ?_
        refine aM20 dX10_message_97 ?_
        exact JO.iret dX10_message_98 rfl rfl rfl
    · exact (J_m_message_b27 _).jump (lvLe.so rfl (lvLe.no (lvLe.no (lvLe.nil))))
theorem C_m_message {ad : Nat → Nat} {Z : ZT} (p1 : Int32) (p2 : Int32) (σ : MS) : CO yX10_message M_m_message eI Z (wM ad Z) [.ref (ad 0), .int p1, .int p2] (wsM ad Z σ) (m_message p1 p2 σ) :=
  CO.of rfl rfl (Nat.le_of_ble_eq_true rfl) 0 (fun X hZ => by subst hZ; exact J_m_message _ _ σ)
theorem K_m_message : Kv yX10_message M_m_message RX10 2 := ⟨rfl, k6_183, k6_184, k1_10, k6_185, by decide +kernel⟩
abbrev M_m_areAlike : JM := (cX10_areAlike, 4, RX10, (some .boolean), 2, 46)
def m_areAlike_b29 (x2 : Int32) (σ : MS) : Option (Bool × MS) :=
  if (x2 &&& 6) = 6 then (
    some (false, σ))
  else (
    some (true, σ))
def m_areAlike_l4 : Nat → Int32 → Int32 → Int32 → MS → Option (Bool × MS)
  | 0, _, _, _, _ => none
  | n + 1, x1, x2, x3, σ =>
    if mI σ 5 < x3 then (
      m_areAlike_b29 x2 σ)
    else (
      (m_decidedAt x1 x3 σ).bind fun a1 =>
      m_areAlike_l4 n x1 (x2 ||| (1 <<< (a1.1 &&& 31))) (x3 + 1) a1.2)
def m_areAlike (p1 : Int32) (σ : MS) : Option (Bool × MS) :=
  m_areAlike_l4 4096 p1 0 0 σ
theorem J_m_areAlike_b29 {X : JX} {ad : Nat → Nat} (x2 : Int32) (σ : MS) : JO X M_m_areAlike (QF X eZ (wM ad (xZ X))) 29 [none, none, some (.int x2), none] [] (wsM ad (xZ X) σ) (m_areAlike_b29 x2 σ) := by
  unfold m_areAlike_b29
  refine JO.iloadn dX10_areAlike_29 rfl ?_
  refine JO.bip 6 dX10_areAlike_30 (by decide) ?_
  refine JO.iand dX10_areAlike_32 ?_
  refine JO.bip 6 dX10_areAlike_33 (by decide) ?_
  refine JO.icmp_eq 42 dX10_areAlike_35 rfl ?_ ?_
  · refine JO.ic 0 dX10_areAlike_42 (by decide) ?_
    exact JO.zret (b := false) dX10_areAlike_43 rfl rfl rfl
  · refine JO.ic 1 dX10_areAlike_38 (by decide) ?_
    refine JO.goto 43 dX10_areAlike_39 rfl ?_
    exact JO.zret (b := true) dX10_areAlike_43 rfl rfl rfl
theorem J_m_areAlike_l4 {X : JX} {ad : Nat → Nat} : ∀ (n : Nat) (x1 : Int32) (x2 : Int32) (x3 : Int32) (σ : MS), JO X M_m_areAlike (QF X eZ (wM ad (xZ X))) 4 [some (.ref (ad 0)), some (.int x1), some (.int x2), some (.int x3)] [] (wsM ad (xZ X) σ) (m_areAlike_l4 n x1 x2 x3 σ) := by
  intro n
  induction n with
  | zero => intro x1 x2 x3 σ; exact JO.nil
  | succ n ih =>
    intro x1 x2 x3 σ
    unfold m_areAlike_l4
    refine JO.iloadn dX10_areAlike_4 rfl ?_
    refine JO.aloadn dX10_areAlike_5 rfl ?_
    refine gM5 dX10_areAlike_6 rfl ?_
    refine JO.icmp_gt 29 dX10_areAlike_9 rfl ?_ ?_
    · exact (J_m_areAlike_b29 _ _).jump (lvLe.no (lvLe.no (lvLe.so rfl (lvLe.no (lvLe.nil)))))
    · refine JO.iloadn dX10_areAlike_12 rfl ?_
      refine JO.ic 1 dX10_areAlike_13 (by decide) ?_
      refine JO.aloadn dX10_areAlike_14 rfl ?_
      refine JO.iloadn dX10_areAlike_15 rfl ?_
      refine JO.iloadn dX10_areAlike_16 rfl ?_
      refine JO.mvi (C_m_decidedAt _ _ _) K_m_decidedAt k6_162 rfl rfl rfl (Nat.le_of_ble_eq_true rfl) dX10_areAlike_17 (fun a1 => ?_)
      refine JO.ishl dX10_areAlike_20 ?_
      refine JO.ior dX10_areAlike_21 ?_
      refine JO.istoren dX10_areAlike_22 rfl rfl ?_
      refine JO.iinc dX10_areAlike_23 rfl 1 (by decide) rfl rfl ?_
      refine JO.goto 4 dX10_areAlike_26 rfl ?_
      exact (ih _ _ _ _).jump (lvLe.so rfl (lvLe.so rfl (lvLe.so rfl (lvLe.so rfl (lvLe.nil)))))
theorem J_m_areAlike {X : JX} {ad : Nat → Nat} (p1 : Int32) (σ : MS) : JO X M_m_areAlike (QF X eZ (wM ad (xZ X))) 0 [some (.ref (ad 0)), some (.int p1), none, none] [] (wsM ad (xZ X) σ) (m_areAlike p1 σ) := by
  unfold m_areAlike
  refine JO.ic 0 dX10_areAlike_0 (by decide) ?_
  refine JO.istoren dX10_areAlike_1 rfl rfl ?_
  refine JO.ic 0 dX10_areAlike_2 (by decide) ?_
  refine JO.istoren dX10_areAlike_3 rfl rfl ?_
  exact (J_m_areAlike_l4 4096 _ _ _ _).jump (lvLe.so rfl (lvLe.so rfl (lvLe.so rfl (lvLe.so rfl (lvLe.nil)))))
theorem C_m_areAlike {ad : Nat → Nat} {Z : ZT} (p1 : Int32) (σ : MS) : CO yX10_areAlike M_m_areAlike eZ Z (wM ad Z) [.ref (ad 0), .int p1] (wsM ad Z σ) (m_areAlike p1 σ) :=
  CO.of rfl rfl (Nat.le_of_ble_eq_true rfl) 2 (fun X hZ => by subst hZ; exact J_m_areAlike _ σ)
theorem K_m_areAlike : Kv yX10_areAlike M_m_areAlike RX10 1 := ⟨rfl, k6_192, s6_6, k1_10, k6_193, by decide +kernel⟩
abbrev M_m_alike : JM := (cX10_alike, 2, RX10, (some .int), 8, 171)
def m_alike (p1 : Int32) (σ : MS) : Option (Int32 × MS) :=
  (m_isTick p1 σ).bind fun a1 =>
  if a1.1 = true then (
    (m_runs a1.2).bind fun a2 =>
    (m_areAlike p1 a2.2).bind fun a3 =>
    if a3.1 = true then (
      some (1, a3.2))
    else (
      some (0, a3.2)))
  else (
    (m_no (-6) a1.2).bind fun a4 =>
    some (a4.1, a4.2))
theorem J_m_alike {X : JX} {ad : Nat → Nat} (p1 : Int32) (σ : MS) : JO X M_m_alike (QF X eI (wM ad (xZ X))) 0 [some (.ref (ad 0)), some (.int p1)] [] (wsM ad (xZ X) σ) (m_alike p1 σ) := by
  unfold m_alike
  refine JO.iloadn dX10_alike_0 rfl ?_
  refine JO.msz (C_m_isTick _ _) K_m_isTick k6_155 rfl rfl rfl (Nat.le_of_ble_eq_true rfl) dX10_alike_1 (fun a1 => ?_)
  refine JO.zne 14 dX10_alike_4 rfl ?_ ?_
  · refine JO.aloadn dX10_alike_14 rfl ?_
    refine JO.mvv (C_m_runs _) K_m_runs k5_172 rfl rfl rfl (Nat.le_of_ble_eq_true rfl) dX10_alike_15 (fun a2 => ?_)
    refine JO.aloadn dX10_alike_18 rfl ?_
    refine JO.iloadn dX10_alike_19 rfl ?_
    refine JO.mvz (C_m_areAlike _ _) K_m_areAlike k6_190 rfl rfl rfl (Nat.le_of_ble_eq_true rfl) dX10_alike_20 (fun a3 => ?_)
    refine JO.zeq 30 dX10_alike_23 rfl ?_ ?_
    · refine JO.ic 0 dX10_alike_30 (by decide) ?_
      exact JO.iret dX10_alike_31 rfl rfl rfl
    · refine JO.ic 1 dX10_alike_26 (by decide) ?_
      refine JO.goto 31 dX10_alike_27 rfl ?_
      exact JO.iret dX10_alike_31 rfl rfl rfl
  · refine JO.aloadn dX10_alike_7 rfl ?_
    refine JO.bip (-6) dX10_alike_8 (by decide) ?_
    refine JO.mvi (C_m_no _ _) K_m_no k5_137 rfl rfl rfl (Nat.le_of_ble_eq_true rfl) dX10_alike_10 (fun a4 => ?_)
    exact JO.iret dX10_alike_13 rfl rfl rfl
theorem C_m_alike {ad : Nat → Nat} {Z : ZT} (p1 : Int32) (σ : MS) : CO yX10_alike M_m_alike eI Z (wM ad Z) [.ref (ad 0), .int p1] (wsM ad Z σ) (m_alike p1 σ) :=
  CO.of rfl rfl (Nat.le_of_ble_eq_true rfl) 0 (fun X hZ => by subst hZ; exact J_m_alike _ σ)
theorem K_m_alike : Kv yX10_alike M_m_alike RX10 1 := ⟨rfl, k6_187, k6_188, k1_10, k6_189, by decide +kernel⟩
abbrev M_m_blockedNow : JM := (cX10_blockedNow, 4, RX10, (some .int), 0, 0)
def m_blockedNow_l4 : Nat → Int32 → Int32 → MS → Option (Int32 × MS)
  | 0, _, _, _ => none
  | n + 1, x1, x2, σ =>
    if mI σ 5 < x2 then (
      some (x1, σ))
    else (
      if inB (360 + x2) 366 = true then
      if mA σ 25 (ix (360 + x2)) = 1 then (
        m_blockedNow_l4 n (x1 ||| (1 <<< (x2 &&& 31))) (x2 + 1) σ)
      else (
        if mA σ 25 (ix (360 + x2)) = 2 then (
          m_blockedNow_l4 n (x1 ||| (1 <<< (x2 &&& 31))) (x2 + 1) σ)
        else (
          m_blockedNow_l4 n (x1 ||| 0) (x2 + 1) σ))
      else none)
def m_blockedNow (σ : MS) : Option (Int32 × MS) :=
  m_blockedNow_l4 4096 0 1 σ
theorem J_m_blockedNow_l4 {X : JX} {ad : Nat → Nat} : ∀ (n : Nat) (x1 : Int32) (x2 : Int32) (σ : MS), JO X M_m_blockedNow (QF X eI (wM ad (xZ X))) 4 [some (.ref (ad 0)), some (.int x1), some (.int x2), none] [] (wsM ad (xZ X) σ) (m_blockedNow_l4 n x1 x2 σ) := by
  intro n
  induction n with
  | zero => intro x1 x2 σ; exact JO.nil
  | succ n ih =>
    intro x1 x2 σ
    unfold m_blockedNow_l4
    refine JO.iloadn dX10_blockedNow_4 rfl ?_
    refine JO.aloadn dX10_blockedNow_5 rfl ?_
    refine gM5 dX10_blockedNow_6 rfl ?_
    refine JO.icmp_gt 49 dX10_blockedNow_9 rfl ?_ ?_
    · refine JO.iloadn dX10_blockedNow_49 rfl ?_
      exact JO.iret dX10_blockedNow_50 rfl rfl rfl
    · refine JO.aloadn dX10_blockedNow_12 rfl ?_
      refine gM25 dX10_blockedNow_13 rfl ?_
      refine JO.sip 360 dX10_blockedNow_16 (by decide) ?_
      refine JO.iloadn dX10_blockedNow_19 rfl ?_
      refine JO.iadd dX10_blockedNow_20 ?_
      refine aM25 dX10_blockedNow_21 ?_
      refine JO.istoren dX10_blockedNow_22 rfl rfl ?_
      refine JO.iloadn dX10_blockedNow_23 rfl ?_
      refine JO.iloadn dX10_blockedNow_24 rfl ?_
      refine JO.ic 1 dX10_blockedNow_25 (by decide) ?_
      refine JO.icmp_eq 34 dX10_blockedNow_26 rfl ?_ ?_
      · refine JO.ic 1 dX10_blockedNow_34 (by decide) ?_
        refine JO.iloadn dX10_blockedNow_35 rfl ?_
        refine JO.ishl dX10_blockedNow_36 ?_
        refine JO.goto 41 dX10_blockedNow_37 rfl ?_
        refine JO.ior dX10_blockedNow_41 ?_
        refine JO.istoren dX10_blockedNow_42 rfl rfl ?_
        refine JO.iinc dX10_blockedNow_43 rfl 1 (by decide) rfl rfl ?_
        refine JO.goto 4 dX10_blockedNow_46 rfl ?_
        exact (ih _ _ _).jump (lvLe.so rfl (lvLe.so rfl (lvLe.so rfl (lvLe.no (lvLe.nil)))))
      · refine JO.iloadn dX10_blockedNow_29 rfl ?_
        refine JO.ic 2 dX10_blockedNow_30 (by decide) ?_
        refine JO.icmp_ne 40 dX10_blockedNow_31 rfl ?_ ?_
        · refine JO.ic 0 dX10_blockedNow_40 (by decide) ?_
          refine JO.ior dX10_blockedNow_41 ?_
          refine JO.istoren dX10_blockedNow_42 rfl rfl ?_
          refine JO.iinc dX10_blockedNow_43 rfl 1 (by decide) rfl rfl ?_
          refine JO.goto 4 dX10_blockedNow_46 rfl ?_
          exact (ih _ _ _).jump (lvLe.so rfl (lvLe.so rfl (lvLe.so rfl (lvLe.no (lvLe.nil)))))
        · refine JO.ic 1 dX10_blockedNow_34 (by decide) ?_
          refine JO.iloadn dX10_blockedNow_35 rfl ?_
          refine JO.ishl dX10_blockedNow_36 ?_
          refine JO.goto 41 dX10_blockedNow_37 rfl ?_
          refine JO.ior dX10_blockedNow_41 ?_
          refine JO.istoren dX10_blockedNow_42 rfl rfl ?_
          refine JO.iinc dX10_blockedNow_43 rfl 1 (by decide) rfl rfl ?_
          refine JO.goto 4 dX10_blockedNow_46 rfl ?_
          exact (ih _ _ _).jump (lvLe.so rfl (lvLe.so rfl (lvLe.so rfl (lvLe.no (lvLe.nil)))))
theorem J_m_blockedNow {X : JX} {ad : Nat → Nat} (σ : MS) : JO X M_m_blockedNow (QF X eI (wM ad (xZ X))) 0 [some (.ref (ad 0)), none, none, none] [] (wsM ad (xZ X) σ) (m_blockedNow σ) := by
  unfold m_blockedNow
  refine JO.ic 0 dX10_blockedNow_0 (by decide) ?_
  refine JO.istoren dX10_blockedNow_1 rfl rfl ?_
  refine JO.ic 1 dX10_blockedNow_2 (by decide) ?_
  refine JO.istoren dX10_blockedNow_3 rfl rfl ?_
  exact (J_m_blockedNow_l4 4096 _ _ _).jump (lvLe.so rfl (lvLe.so rfl (lvLe.so rfl (lvLe.no (lvLe.nil)))))
theorem C_m_blockedNow {ad : Nat → Nat} {Z : ZT} (σ : MS) : CO yX10_blockedNow M_m_blockedNow eI Z (wM ad Z) [.ref (ad 0)] (wsM ad Z σ) (m_blockedNow σ) :=
  CO.of rfl rfl (Nat.le_of_ble_eq_true rfl) 3 (fun X hZ => by subst hZ; exact J_m_blockedNow σ)
theorem K_m_blockedNow : Kv yX10_blockedNow M_m_blockedNow RX10 0 := ⟨rfl, k6_200, s6_7, k1_10, k6_201, by decide +kernel⟩
abbrev M_m_blocked : JM := (cX10_blocked, 1, RX10, (some .int), 8, 171)
def m_blocked (σ : MS) : Option (Int32 × MS) :=
  (m_runs σ).bind fun a1 =>
  (m_blockedNow a1.2).bind fun a2 =>
  some (a2.1, a2.2)
theorem J_m_blocked {X : JX} {ad : Nat → Nat} (σ : MS) : JO X M_m_blocked (QF X eI (wM ad (xZ X))) 0 [some (.ref (ad 0))] [] (wsM ad (xZ X) σ) (m_blocked σ) := by
  unfold m_blocked
  refine JO.aloadn dX10_blocked_0 rfl ?_
  refine JO.mvv (C_m_runs _) K_m_runs k5_172 rfl rfl rfl (Nat.le_of_ble_eq_true rfl) dX10_blocked_1 (fun a1 => ?_)
  refine JO.aloadn dX10_blocked_4 rfl ?_
  refine JO.mvi (C_m_blockedNow _) K_m_blockedNow k6_198 rfl rfl rfl (Nat.le_of_ble_eq_true rfl) dX10_blocked_5 (fun a2 => ?_)
  exact JO.iret dX10_blocked_8 rfl rfl rfl
theorem C_m_blocked {ad : Nat → Nat} {Z : ZT} (σ : MS) : CO yX10_blocked M_m_blocked eI Z (wM ad Z) [.ref (ad 0)] (wsM ad Z σ) (m_blocked σ) :=
  CO.of rfl rfl (Nat.le_of_ble_eq_true rfl) 0 (fun X hZ => by subst hZ; exact J_m_blocked σ)
theorem K_m_blocked : Kv yX10_blocked M_m_blocked RX10 0 := ⟨rfl, k6_195, k6_196, k1_10, k6_197, by decide +kernel⟩
abbrev M_m_isAsLast : JM := (cX10_isAsLast, 3, RX10, (some .boolean), 0, 0)
def m_isAsLast_l2 : Nat → Int32 → Int32 → MS → Option (Bool × MS)
  | 0, _, _, _ => none
  | n + 1, x1, x2, σ =>
    if mI σ 5 < x2 then (
      some (true, σ))
    else (
      if inB ((6 * x1) + x2) 366 = true then
      if inB (360 + x2) 366 = true then
      if mA σ 25 (ix ((6 * x1) + x2)) = mA σ 25 (ix (360 + x2)) then (
        if inB ((6 * x1) + x2) 366 = true then
        if inB x2 6 = true then
        if mA σ 26 (ix ((6 * x1) + x2)) = mA σ 14 (ix x2) then (
          m_isAsLast_l2 n x1 (x2 + 1) σ)
        else (
          some (false, σ))
        else none
        else none)
      else (
        some (false, σ))
      else none
      else none)
def m_isAsLast (p1 : Int32) (σ : MS) : Option (Bool × MS) :=
  m_isAsLast_l2 4096 p1 0 σ
theorem J_m_isAsLast_l2 {X : JX} {ad : Nat → Nat} : ∀ (n : Nat) (x1 : Int32) (x2 : Int32) (σ : MS), JO X M_m_isAsLast (QF X eZ (wM ad (xZ X))) 2 [some (.ref (ad 0)), some (.int x1), some (.int x2)] [] (wsM ad (xZ X) σ) (m_isAsLast_l2 n x1 x2 σ) := by
  intro n
  induction n with
  | zero => intro x1 x2 σ; exact JO.nil
  | succ n ih =>
    intro x1 x2 σ
    unfold m_isAsLast_l2
    refine JO.iloadn dX10_isAsLast_2 rfl ?_
    refine JO.aloadn dX10_isAsLast_3 rfl ?_
    refine gM5 dX10_isAsLast_4 rfl ?_
    refine JO.icmp_gt 62 dX10_isAsLast_7 rfl ?_ ?_
    · refine JO.ic 1 dX10_isAsLast_62 (by decide) ?_
      exact JO.zret (b := true) dX10_isAsLast_63 rfl rfl rfl
    · refine JO.aloadn dX10_isAsLast_10 rfl ?_
      refine gM25 dX10_isAsLast_11 rfl ?_
      refine JO.bip 6 dX10_isAsLast_14 (by decide) ?_
      refine JO.iloadn dX10_isAsLast_16 rfl ?_
      refine JO.imul dX10_isAsLast_17 ?_
      refine JO.iloadn dX10_isAsLast_18 rfl ?_
      refine JO.iadd dX10_isAsLast_19 ?_
      refine aM25 dX10_isAsLast_20 ?_
      refine JO.aloadn dX10_isAsLast_21 rfl ?_
      refine gM25 dX10_isAsLast_22 rfl ?_
      refine JO.sip 360 dX10_isAsLast_25 (by decide) ?_
      refine JO.iloadn dX10_isAsLast_28 rfl ?_
      refine JO.iadd dX10_isAsLast_29 ?_
      refine aM25 dX10_isAsLast_30 ?_
      refine JO.icmp_ne 54 dX10_isAsLast_31 rfl ?_ ?_
      · refine JO.ic 0 dX10_isAsLast_54 (by decide) ?_
        exact JO.zret (b := false) dX10_isAsLast_55 rfl rfl rfl
      · refine JO.aloadn dX10_isAsLast_34 rfl ?_
        refine gM26 dX10_isAsLast_35 rfl ?_
        refine JO.bip 6 dX10_isAsLast_38 (by decide) ?_
        refine JO.iloadn dX10_isAsLast_40 rfl ?_
        refine JO.imul dX10_isAsLast_41 ?_
        refine JO.iloadn dX10_isAsLast_42 rfl ?_
        refine JO.iadd dX10_isAsLast_43 ?_
        refine aM26 dX10_isAsLast_44 ?_
        refine JO.aloadn dX10_isAsLast_45 rfl ?_
        refine gM14 dX10_isAsLast_46 rfl ?_
        refine JO.iloadn dX10_isAsLast_49 rfl ?_
        refine aM14 dX10_isAsLast_50 ?_
        refine JO.icmp_eq 56 dX10_isAsLast_51 rfl ?_ ?_
        · refine JO.iinc dX10_isAsLast_56 rfl 1 (by decide) rfl rfl ?_
          refine JO.goto 2 dX10_isAsLast_59 rfl ?_
          exact (ih _ _ _).jump (lvLe.so rfl (lvLe.so rfl (lvLe.so rfl (lvLe.nil))))
        · refine JO.ic 0 dX10_isAsLast_54 (by decide) ?_
          exact JO.zret (b := false) dX10_isAsLast_55 rfl rfl rfl
theorem J_m_isAsLast {X : JX} {ad : Nat → Nat} (p1 : Int32) (σ : MS) : JO X M_m_isAsLast (QF X eZ (wM ad (xZ X))) 0 [some (.ref (ad 0)), some (.int p1), none] [] (wsM ad (xZ X) σ) (m_isAsLast p1 σ) := by
  unfold m_isAsLast
  refine JO.ic 0 dX10_isAsLast_0 (by decide) ?_
  refine JO.istoren dX10_isAsLast_1 rfl rfl ?_
  exact (J_m_isAsLast_l2 4096 _ _ _).jump (lvLe.so rfl (lvLe.so rfl (lvLe.so rfl (lvLe.nil))))
theorem C_m_isAsLast {ad : Nat → Nat} {Z : ZT} (p1 : Int32) (σ : MS) : CO yX10_isAsLast M_m_isAsLast eZ Z (wM ad Z) [.ref (ad 0), .int p1] (wsM ad Z σ) (m_isAsLast p1 σ) :=
  CO.of rfl rfl (Nat.le_of_ble_eq_true rfl) 1 (fun X hZ => by subst hZ; exact J_m_isAsLast _ σ)
theorem K_m_isAsLast : Kv yX10_isAsLast M_m_isAsLast RX10 1 := ⟨rfl, k6_208, s6_8, k1_10, k6_209, by decide +kernel⟩
abbrev M_m_quiet : JM := (cX10_quiet, 2, RX10, (some .int), 8, 171)
def m_quiet_l7 : Nat → Int32 → MS → Option (Int32 × MS)
  | 0, _, _ => none
  | n + 1, x1, σ =>
    if x1 ≤ 0 then (
      some (x1, σ))
    else (
      (m_isAsLast (x1 - 1) σ).bind fun a1 =>
      if a1.1 = true then (
        m_quiet_l7 n (x1 + (-1)) a1.2)
      else (
        some (x1, a1.2)))
def m_quiet (σ : MS) : Option (Int32 × MS) :=
  (m_runs σ).bind fun a1 =>
  m_quiet_l7 4096 60 a1.2
theorem J_m_quiet_l7 {X : JX} {ad : Nat → Nat} : ∀ (n : Nat) (x1 : Int32) (σ : MS), JO X M_m_quiet (QF X eI (wM ad (xZ X))) 7 [some (.ref (ad 0)), some (.int x1)] [] (wsM ad (xZ X) σ) (m_quiet_l7 n x1 σ) := by
  intro n
  induction n with
  | zero => intro x1 σ; exact JO.nil
  | succ n ih =>
    intro x1 σ
    unfold m_quiet_l7
    refine JO.iloadn dX10_quiet_7 rfl ?_
    refine JO.if_le 27 dX10_quiet_8 rfl ?_ ?_
    · refine JO.iloadn dX10_quiet_27 rfl ?_
      exact JO.iret dX10_quiet_28 rfl rfl rfl
    · refine JO.aloadn dX10_quiet_11 rfl ?_
      refine JO.iloadn dX10_quiet_12 rfl ?_
      refine JO.ic 1 dX10_quiet_13 (by decide) ?_
      refine JO.isub dX10_quiet_14 ?_
      refine JO.mvz (C_m_isAsLast _ _) K_m_isAsLast k6_206 rfl rfl rfl (Nat.le_of_ble_eq_true rfl) dX10_quiet_15 (fun a1 => ?_)
      refine JO.zeq 27 dX10_quiet_18 rfl ?_ ?_
      · refine JO.iloadn dX10_quiet_27 rfl ?_
        exact JO.iret dX10_quiet_28 rfl rfl rfl
      · refine JO.iinc dX10_quiet_21 rfl (-1) (by decide) rfl rfl ?_
        refine JO.goto 7 dX10_quiet_24 rfl ?_
        exact (ih _ _).jump (lvLe.so rfl (lvLe.so rfl (lvLe.nil)))
theorem J_m_quiet {X : JX} {ad : Nat → Nat} (σ : MS) : JO X M_m_quiet (QF X eI (wM ad (xZ X))) 0 [some (.ref (ad 0)), none] [] (wsM ad (xZ X) σ) (m_quiet σ) := by
  unfold m_quiet
  refine JO.aloadn dX10_quiet_0 rfl ?_
  refine JO.mvv (C_m_runs _) K_m_runs k5_172 rfl rfl rfl (Nat.le_of_ble_eq_true rfl) dX10_quiet_1 (fun a1 => ?_)
  refine JO.bip 60 dX10_quiet_4 (by decide) ?_
  refine JO.istoren dX10_quiet_6 rfl rfl ?_
  exact (J_m_quiet_l7 4096 _ _).jump (lvLe.so rfl (lvLe.so rfl (lvLe.nil)))
theorem C_m_quiet {ad : Nat → Nat} {Z : ZT} (σ : MS) : CO yX10_quiet M_m_quiet eI Z (wM ad Z) [.ref (ad 0)] (wsM ad Z σ) (m_quiet σ) :=
  CO.of rfl rfl (Nat.le_of_ble_eq_true rfl) 1 (fun X hZ => by subst hZ; exact J_m_quiet σ)
theorem K_m_quiet : Kv yX10_quiet M_m_quiet RX10 0 := ⟨rfl, k6_203, k6_204, k1_10, k6_205, by decide +kernel⟩
abbrev M_m_lossesThat : JM := (cX10_lossesThat, 7, RX10, (some .int), 8, 171)
def m_lossesThat_l15 : Nat → Int32 → Bool → Int32 → Int32 → Int32 → MS → Option (Int32 × MS)
  | 0, _, _, _, _, _, _ => none
  | n + 1, x1, x2, x3, x4, x5, σ =>
    if 30 ≤ x5 then (
      some (x4, σ))
    else (
      if x3 ≤ ((30 * x1) + x5) then (
        m_lossesThat_l15 n x1 x2 x3 x4 (x5 + 1) σ)
      else (
        if inB ((30 * x1) + x5) 60 = true then
        if mA σ 2 (ix ((30 * x1) + x5)) = 1 then (
          m_lossesThat_l15 n x1 x2 x3 x4 (x5 + 1) σ)
        else (
          if inB ((30 * x1) + x5) 60 = true then
          (m_runs (sA σ 2 (ix ((30 * x1) + x5)) 1)).bind fun a1 =>
          if inB ((30 * x1) + x5) 60 = true then
          if x2 = true then (
            (m_blockedNow (sA a1.2 2 (ix ((30 * x1) + x5)) 0)).bind fun a3 =>
            if a3.1 = 0 then (
              m_lossesThat_l15 n x1 x2 x3 (x4 ||| 0) (x5 + 1) a3.2)
            else (
              m_lossesThat_l15 n x1 x2 x3 (x4 ||| (1 <<< (x5 &&& 31))) (x5 + 1) a3.2))
          else (
            (m_areAlike 60 (sA a1.2 2 (ix ((30 * x1) + x5)) 0)).bind fun a2 =>
            if a2.1 = true then (
              m_lossesThat_l15 n x1 x2 x3 (x4 ||| 0) (x5 + 1) a2.2)
            else (
              m_lossesThat_l15 n x1 x2 x3 (x4 ||| (1 <<< (x5 &&& 31))) (x5 + 1) a2.2))
          else none
          else none)
        else none))
def m_lossesThat (p1 : Int32) (p2 : Bool) (σ : MS) : Option (Int32 × MS) :=
  (m_runs σ).bind fun a1 =>
  m_lossesThat_l15 4096 p1 p2 (mI a1.2 21) 0 0 a1.2
theorem J_m_lossesThat_l15 {X : JX} {ad : Nat → Nat} : ∀ (n : Nat) (x1 : Int32) (x2 : Bool) (x3 : Int32) (x4 : Int32) (x5 : Int32) (σ : MS), JO X M_m_lossesThat (QF X eI (wM ad (xZ X))) 15 [some (.ref (ad 0)), some (.int x1), some (.int (bI x2)), some (.int x3), some (.int x4), some (.int x5), none] [] (wsM ad (xZ X) σ) (m_lossesThat_l15 n x1 x2 x3 x4 x5 σ) := by
  intro n
  induction n with
  | zero => intro x1 x2 x3 x4 x5 σ; exact JO.nil
  | succ n ih =>
    intro x1 x2 x3 x4 x5 σ
    unfold m_lossesThat_l15
    refine JO.iload dX10_lossesThat_15 rfl ?_
    refine JO.bip 30 dX10_lossesThat_17 (by decide) ?_
    refine JO.icmp_ge 113 dX10_lossesThat_19 rfl ?_ ?_
    · refine JO.iload dX10_lossesThat_113 rfl ?_
      exact JO.iret dX10_lossesThat_115 rfl rfl rfl
    · refine JO.bip 30 dX10_lossesThat_22 (by decide) ?_
      refine JO.iloadn dX10_lossesThat_24 rfl ?_
      refine JO.imul dX10_lossesThat_25 ?_
      refine JO.iload dX10_lossesThat_26 rfl ?_
      refine JO.iadd dX10_lossesThat_28 ?_
      refine JO.istore dX10_lossesThat_29 rfl rfl ?_
      refine JO.iload dX10_lossesThat_31 rfl ?_
      refine JO.iloadn dX10_lossesThat_33 rfl ?_
      refine JO.icmp_ge 107 dX10_lossesThat_34 rfl ?_ ?_
      · refine JO.iinc dX10_lossesThat_107 rfl 1 (by decide) rfl rfl ?_
        refine JO.goto 15 dX10_lossesThat_110 rfl ?_
        exact (ih _ x2 _ _ _ _).jump (lvLe.so rfl (lvLe.so rfl (lvLe.so rfl (lvLe.so rfl (lvLe.so rfl (lvLe.so rfl (lvLe.no (lvLe.nil))))))))
      · refine JO.aloadn dX10_lossesThat_37 rfl ?_
        refine gM2 dX10_lossesThat_38 rfl ?_
        refine JO.iload dX10_lossesThat_41 rfl ?_
        refine aM2 dX10_lossesThat_43 ?_
        refine JO.ic 1 dX10_lossesThat_44 (by decide) ?_
        refine JO.icmp_ne 51 dX10_lossesThat_45 rfl ?_ ?_
        · refine JO.aloadn dX10_lossesThat_51 rfl ?_
          refine gM2 dX10_lossesThat_52 rfl ?_
          refine JO.iload dX10_lossesThat_55 rfl ?_
          refine JO.ic 1 dX10_lossesThat_57 (by decide) ?_
          refine uM2 dX10_lossesThat_58 ?_
          refine JO.aloadn dX10_lossesThat_59 rfl ?_
          refine JO.mvv (C_m_runs _) K_m_runs k5_172 rfl rfl rfl (Nat.le_of_ble_eq_true rfl) dX10_lossesThat_60 (fun a1 => ?_)
          refine JO.aloadn dX10_lossesThat_63 rfl ?_
          refine gM2 dX10_lossesThat_64 rfl ?_
          refine JO.iload dX10_lossesThat_67 rfl ?_
          refine JO.ic 0 dX10_lossesThat_69 (by decide) ?_
          refine uM2 dX10_lossesThat_70 ?_
          refine JO.iload dX10_lossesThat_71 rfl ?_
          refine JO.iloadn dX10_lossesThat_73 rfl ?_
          refine JO.zeq 87 dX10_lossesThat_74 rfl ?_ ?_
          · refine JO.aloadn dX10_lossesThat_87 rfl ?_
            refine JO.bip 60 dX10_lossesThat_88 (by decide) ?_
            refine JO.mvz (C_m_areAlike _ _) K_m_areAlike k6_190 rfl rfl rfl (Nat.le_of_ble_eq_true rfl) dX10_lossesThat_90 (fun a2 => ?_)
            refine JO.zne 103 dX10_lossesThat_93 rfl ?_ ?_
            · refine JO.ic 0 dX10_lossesThat_103 (by decide) ?_
              refine JO.ior dX10_lossesThat_104 ?_
              refine JO.istore dX10_lossesThat_105 rfl rfl ?_
              refine JO.iinc dX10_lossesThat_107 rfl 1 (by decide) rfl rfl ?_
              refine JO.goto 15 dX10_lossesThat_110 rfl ?_
              exact (ih _ x2 _ _ _ _).jump (lvLe.so rfl (lvLe.so rfl (lvLe.so rfl (lvLe.so rfl (lvLe.so rfl (lvLe.so rfl (lvLe.no (lvLe.nil))))))))
            · refine JO.ic 1 dX10_lossesThat_96 (by decide) ?_
              refine JO.iload dX10_lossesThat_97 rfl ?_
              refine JO.ishl dX10_lossesThat_99 ?_
              refine JO.goto 104 dX10_lossesThat_100 rfl ?_
              refine JO.ior dX10_lossesThat_104 ?_
              refine JO.istore dX10_lossesThat_105 rfl rfl ?_
              refine JO.iinc dX10_lossesThat_107 rfl 1 (by decide) rfl rfl ?_
              refine JO.goto 15 dX10_lossesThat_110 rfl ?_
              exact (ih _ x2 _ _ _ _).jump (lvLe.so rfl (lvLe.so rfl (lvLe.so rfl (lvLe.so rfl (lvLe.so rfl (lvLe.so rfl (lvLe.no (lvLe.nil))))))))
          · refine JO.aloadn dX10_lossesThat_77 rfl ?_
            refine JO.mvi (C_m_blockedNow _) K_m_blockedNow k6_198 rfl rfl rfl (Nat.le_of_ble_eq_true rfl) dX10_lossesThat_78 (fun a3 => ?_)
            refine JO.if_eq 103 dX10_lossesThat_81 rfl ?_ ?_
            · refine JO.ic 0 dX10_lossesThat_103 (by decide) ?_
              refine JO.ior dX10_lossesThat_104 ?_
              refine JO.istore dX10_lossesThat_105 rfl rfl ?_
              refine JO.iinc dX10_lossesThat_107 rfl 1 (by decide) rfl rfl ?_
              refine JO.goto 15 dX10_lossesThat_110 rfl ?_
              exact (ih _ x2 _ _ _ _).jump (lvLe.so rfl (lvLe.so rfl (lvLe.so rfl (lvLe.so rfl (lvLe.so rfl (lvLe.so rfl (lvLe.no (lvLe.nil))))))))
            · refine JO.goto 96 dX10_lossesThat_84 rfl ?_
              refine JO.ic 1 dX10_lossesThat_96 (by decide) ?_
              refine JO.iload dX10_lossesThat_97 rfl ?_
              refine JO.ishl dX10_lossesThat_99 ?_
              refine JO.goto 104 dX10_lossesThat_100 rfl ?_
              refine JO.ior dX10_lossesThat_104 ?_
              refine JO.istore dX10_lossesThat_105 rfl rfl ?_
              refine JO.iinc dX10_lossesThat_107 rfl 1 (by decide) rfl rfl ?_
              refine JO.goto 15 dX10_lossesThat_110 rfl ?_
              exact (ih _ x2 _ _ _ _).jump (lvLe.so rfl (lvLe.so rfl (lvLe.so rfl (lvLe.so rfl (lvLe.so rfl (lvLe.so rfl (lvLe.no (lvLe.nil))))))))
        · refine JO.goto 107 dX10_lossesThat_48 rfl ?_
          refine JO.iinc dX10_lossesThat_107 rfl 1 (by decide) rfl rfl ?_
          refine JO.goto 15 dX10_lossesThat_110 rfl ?_
          exact (ih _ x2 _ _ _ _).jump (lvLe.so rfl (lvLe.so rfl (lvLe.so rfl (lvLe.so rfl (lvLe.so rfl (lvLe.so rfl (lvLe.no (lvLe.nil))))))))
theorem J_m_lossesThat {X : JX} {ad : Nat → Nat} (p1 : Int32) (p2 : Bool) (σ : MS) : JO X M_m_lossesThat (QF X eI (wM ad (xZ X))) 0 [some (.ref (ad 0)), some (.int p1), some (.int (bI p2)), none, none, none, none] [] (wsM ad (xZ X) σ) (m_lossesThat p1 p2 σ) := by
  unfold m_lossesThat
  refine JO.aloadn dX10_lossesThat_0 rfl ?_
  refine JO.mvv (C_m_runs _) K_m_runs k5_172 rfl rfl rfl (Nat.le_of_ble_eq_true rfl) dX10_lossesThat_1 (fun a1 => ?_)
  refine JO.aloadn dX10_lossesThat_4 rfl ?_
  refine gM21 dX10_lossesThat_5 rfl ?_
  refine JO.istoren dX10_lossesThat_8 rfl rfl ?_
  refine JO.ic 0 dX10_lossesThat_9 (by decide) ?_
  refine JO.istore dX10_lossesThat_10 rfl rfl ?_
  refine JO.ic 0 dX10_lossesThat_12 (by decide) ?_
  refine JO.istore dX10_lossesThat_13 rfl rfl ?_
  exact (J_m_lossesThat_l15 4096 _ p2 _ _ _ _).jump (lvLe.so rfl (lvLe.so rfl (lvLe.so rfl (lvLe.so rfl (lvLe.so rfl (lvLe.so rfl (lvLe.no (lvLe.nil))))))))
theorem C_m_lossesThat {ad : Nat → Nat} {Z : ZT} (p1 : Int32) (p2 : Bool) (σ : MS) : CO yX10_lossesThat M_m_lossesThat eI Z (wM ad Z) [.ref (ad 0), .int p1, .int (bI p2)] (wsM ad Z σ) (m_lossesThat p1 p2 σ) :=
  CO.of rfl rfl (Nat.le_of_ble_eq_true rfl) 4 (fun X hZ => by subst hZ; exact J_m_lossesThat _ _ σ)
theorem K_m_lossesThat : Kv yX10_lossesThat M_m_lossesThat RX10 2 := ⟨rfl, k6_216, s6_9, k1_10, k6_217, by decide +kernel⟩
abbrev M_m_harm : JM := (cX10_harm, 2, RX10, (some .int), 9, 197)
def m_harm (p1 : Int32) (σ : MS) : Option (Int32 × MS) :=
  (m_isIn p1 0 1 σ).bind fun a1 =>
  if a1.1 = true then (
    (m_lossesThat p1 false a1.2).bind fun a3 =>
    some (a3.1, a3.2))
  else (
    (m_no (-5) a1.2).bind fun a2 =>
    some (a2.1, a2.2))
theorem J_m_harm {X : JX} {ad : Nat → Nat} (p1 : Int32) (σ : MS) : JO X M_m_harm (QF X eI (wM ad (xZ X))) 0 [some (.ref (ad 0)), some (.int p1)] [] (wsM ad (xZ X) σ) (m_harm p1 σ) := by
  unfold m_harm
  refine JO.iloadn dX10_harm_0 rfl ?_
  refine JO.ic 0 dX10_harm_1 (by decide) ?_
  refine JO.ic 1 dX10_harm_2 (by decide) ?_
  refine JO.msz (C_m_isIn _ _ _ _) K_m_isIn k5_134 rfl rfl rfl (Nat.le_of_ble_eq_true rfl) dX10_harm_3 (fun a1 => ?_)
  refine JO.zeq 18 dX10_harm_6 rfl ?_ ?_
  · refine JO.aloadn dX10_harm_18 rfl ?_
    refine JO.bip (-5) dX10_harm_19 (by decide) ?_
    refine JO.mvi (C_m_no _ _) K_m_no k5_137 rfl rfl rfl (Nat.le_of_ble_eq_true rfl) dX10_harm_21 (fun a2 => ?_)
    exact JO.iret dX10_harm_24 rfl rfl rfl
  · refine JO.aloadn dX10_harm_9 rfl ?_
    refine JO.iloadn dX10_harm_10 rfl ?_
    refine JO.ic 0 dX10_harm_11 (by decide) ?_
    refine JO.mvi (C_m_lossesThat _ false _) K_m_lossesThat k6_214 rfl rfl rfl (Nat.le_of_ble_eq_true rfl) dX10_harm_12 (fun a3 => ?_)
    refine JO.goto 24 dX10_harm_15 rfl ?_
    exact JO.iret dX10_harm_24 rfl rfl rfl
theorem C_m_harm {ad : Nat → Nat} {Z : ZT} (p1 : Int32) (σ : MS) : CO yX10_harm M_m_harm eI Z (wM ad Z) [.ref (ad 0), .int p1] (wsM ad Z σ) (m_harm p1 σ) :=
  CO.of rfl rfl (Nat.le_of_ble_eq_true rfl) 0 (fun X hZ => by subst hZ; exact J_m_harm _ σ)
theorem K_m_harm : Kv yX10_harm M_m_harm RX10 1 := ⟨rfl, k6_211, k6_212, k1_10, k6_213, by decide +kernel⟩
abbrev M_m_block : JM := (cX10_block, 2, RX10, (some .int), 9, 197)
def m_block (p1 : Int32) (σ : MS) : Option (Int32 × MS) :=
  (m_isIn p1 0 1 σ).bind fun a1 =>
  if a1.1 = true then (
    (m_lossesThat p1 true a1.2).bind fun a3 =>
    some (a3.1, a3.2))
  else (
    (m_no (-5) a1.2).bind fun a2 =>
    some (a2.1, a2.2))
theorem J_m_block {X : JX} {ad : Nat → Nat} (p1 : Int32) (σ : MS) : JO X M_m_block (QF X eI (wM ad (xZ X))) 0 [some (.ref (ad 0)), some (.int p1)] [] (wsM ad (xZ X) σ) (m_block p1 σ) := by
  unfold m_block
  refine JO.iloadn dX10_block_0 rfl ?_
  refine JO.ic 0 dX10_block_1 (by decide) ?_
  refine JO.ic 1 dX10_block_2 (by decide) ?_
  refine JO.msz (C_m_isIn _ _ _ _) K_m_isIn k5_134 rfl rfl rfl (Nat.le_of_ble_eq_true rfl) dX10_block_3 (fun a1 => ?_)
  refine JO.zeq 18 dX10_block_6 rfl ?_ ?_
  · refine JO.aloadn dX10_block_18 rfl ?_
    refine JO.bip (-5) dX10_block_19 (by decide) ?_
    refine JO.mvi (C_m_no _ _) K_m_no k5_137 rfl rfl rfl (Nat.le_of_ble_eq_true rfl) dX10_block_21 (fun a2 => ?_)
    exact JO.iret dX10_block_24 rfl rfl rfl
  · refine JO.aloadn dX10_block_9 rfl ?_
    refine JO.iloadn dX10_block_10 rfl ?_
    refine JO.ic 1 dX10_block_11 (by decide) ?_
    refine JO.mvi (C_m_lossesThat _ true _) K_m_lossesThat k6_214 rfl rfl rfl (Nat.le_of_ble_eq_true rfl) dX10_block_12 (fun a3 => ?_)
    refine JO.goto 24 dX10_block_15 rfl ?_
    exact JO.iret dX10_block_24 rfl rfl rfl
theorem C_m_block {ad : Nat → Nat} {Z : ZT} (p1 : Int32) (σ : MS) : CO yX10_block M_m_block eI Z (wM ad Z) [.ref (ad 0), .int p1] (wsM ad Z σ) (m_block p1 σ) :=
  CO.of rfl rfl (Nat.le_of_ble_eq_true rfl) 0 (fun X hZ => by subst hZ; exact J_m_block _ σ)
theorem K_m_block : Kv yX10_block M_m_block RX10 1 := ⟨rfl, k6_219, k6_220, k1_10, k6_221, by decide +kernel⟩
abbrev M_m_recoveredBy : JM := (cX10_recoveredBy, 3, RX10, (some .int), 0, 0)
def m_recoveredBy (p1 : Int32) (p2 : Int32) (σ : MS) : Option (Int32 × MS) :=
  sw p2 [(2, 36,
    some (1, σ)), (3, 38,
    some (2, σ)), (4, 40,
    some (3, σ)), (5, 42,
    some (4, σ)), (6, 44,
    some (5, σ))] (
    if p1 = 0 then (
      if mI σ 8 = 1 then (
        some (5, σ))
      else (
        some (4, σ)))
    else (
      some (4, σ)))
theorem J_m_recoveredBy {X : JX} {ad : Nat → Nat} (p1 : Int32) (p2 : Int32) (σ : MS) : JO X M_m_recoveredBy (QF X eI (wM ad (xZ X))) 0 [some (.ref (ad 0)), some (.int p1), some (.int p2)] [] (wsM ad (xZ X) σ) (m_recoveredBy p1 p2 σ) := by
  unfold m_recoveredBy
  refine JO.iloadn dX10_recoveredBy_0 rfl ?_
  refine JO.tsw [(2, 36, _), (3, 38, _), (4, 40, _), (5, 42, _), (6, 44, _)] 46 [(2, 36), (3, 38), (4, 40), (5, 42), (6, 44)] dX10_recoveredBy_1 rfl (by decide) rfl (by decide) (JO.swCons ?_ (JO.swCons ?_ (JO.swCons ?_ (JO.swCons ?_ (JO.swCons ?_ (JO.swNil)))))) ?_
  · refine JO.ic 1 dX10_recoveredBy_36 (by decide) ?_
    exact JO.iret dX10_recoveredBy_37 rfl rfl rfl
  · refine JO.ic 2 dX10_recoveredBy_38 (by decide) ?_
    exact JO.iret dX10_recoveredBy_39 rfl rfl rfl
  · refine JO.ic 3 dX10_recoveredBy_40 (by decide) ?_
    exact JO.iret dX10_recoveredBy_41 rfl rfl rfl
  · refine JO.ic 4 dX10_recoveredBy_42 (by decide) ?_
    exact JO.iret dX10_recoveredBy_43 rfl rfl rfl
  · refine JO.ic 5 dX10_recoveredBy_44 (by decide) ?_
    exact JO.iret dX10_recoveredBy_45 rfl rfl rfl
  · refine JO.iloadn dX10_recoveredBy_46 rfl ?_
    refine JO.if_ne 62 dX10_recoveredBy_47 rfl ?_ ?_
    · refine JO.ic 4 dX10_recoveredBy_62 (by decide) ?_
      exact JO.iret dX10_recoveredBy_63 rfl rfl rfl
    · refine JO.aloadn dX10_recoveredBy_50 rfl ?_
      refine gM8 dX10_recoveredBy_51 rfl ?_
      refine JO.ic 1 dX10_recoveredBy_54 (by decide) ?_
      refine JO.icmp_ne 62 dX10_recoveredBy_55 rfl ?_ ?_
      · refine JO.ic 4 dX10_recoveredBy_62 (by decide) ?_
        exact JO.iret dX10_recoveredBy_63 rfl rfl rfl
      · refine JO.ic 5 dX10_recoveredBy_58 (by decide) ?_
        refine JO.goto 63 dX10_recoveredBy_59 rfl ?_
        exact JO.iret dX10_recoveredBy_63 rfl rfl rfl
theorem C_m_recoveredBy {ad : Nat → Nat} {Z : ZT} (p1 : Int32) (p2 : Int32) (σ : MS) : CO yX10_recoveredBy M_m_recoveredBy eI Z (wM ad Z) [.ref (ad 0), .int p1, .int p2] (wsM ad Z σ) (m_recoveredBy p1 p2 σ) :=
  CO.of rfl rfl (Nat.le_of_ble_eq_true rfl) 0 (fun X hZ => by subst hZ; exact J_m_recoveredBy _ _ σ)
theorem K_m_recoveredBy : Kv yX10_recoveredBy M_m_recoveredBy RX10 2 := ⟨rfl, k6_228, s6_10, k1_10, k6_229, by decide +kernel⟩
abbrev M_m_recovery : JM := (cX10_recovery, 3, RX10, (some .int), 8, 171)
def m_recovery (p1 : Int32) (p2 : Int32) (σ : MS) : Option (Int32 × MS) :=
  (m_isSite p1 σ).bind fun a1 =>
  if a1.1 = true then (
    (m_runs a1.2).bind fun a2 =>
    if inB p1 6 = true then
    (m_isIn p2 0 (mA a2.2 14 (ix p1)) a2.2).bind fun a3 =>
    if a3.1 = true then (
      (m_lastOf p1 p2 a3.2).bind fun a5 =>
      (m_recoveredBy p1 a5.1 a5.2).bind fun a6 =>
      some (a6.1, a6.2))
    else (
      (m_no (-5) a3.2).bind fun a4 =>
      some (a4.1, a4.2))
    else none)
  else (
    (m_no (-1) a1.2).bind fun a7 =>
    some (a7.1, a7.2))
theorem J_m_recovery {X : JX} {ad : Nat → Nat} (p1 : Int32) (p2 : Int32) (σ : MS) : JO X M_m_recovery (QF X eI (wM ad (xZ X))) 0 [some (.ref (ad 0)), some (.int p1), some (.int p2)] [] (wsM ad (xZ X) σ) (m_recovery p1 p2 σ) := by
  unfold m_recovery
  refine JO.aloadn dX10_recovery_0 rfl ?_
  refine JO.iloadn dX10_recovery_1 rfl ?_
  refine JO.mvz (C_m_isSite _ _) K_m_isSite k6_151 rfl rfl rfl (Nat.le_of_ble_eq_true rfl) dX10_recovery_2 (fun a1 => ?_)
  refine JO.zne 14 dX10_recovery_5 rfl ?_ ?_
  · refine JO.aloadn dX10_recovery_14 rfl ?_
    refine JO.mvv (C_m_runs _) K_m_runs k5_172 rfl rfl rfl (Nat.le_of_ble_eq_true rfl) dX10_recovery_15 (fun a2 => ?_)
    refine JO.iloadn dX10_recovery_18 rfl ?_
    refine JO.ic 0 dX10_recovery_19 (by decide) ?_
    refine JO.aloadn dX10_recovery_20 rfl ?_
    refine gM14 dX10_recovery_21 rfl ?_
    refine JO.iloadn dX10_recovery_24 rfl ?_
    refine aM14 dX10_recovery_25 ?_
    refine JO.msz (C_m_isIn _ _ _ _) K_m_isIn k5_134 rfl rfl rfl (Nat.le_of_ble_eq_true rfl) dX10_recovery_26 (fun a3 => ?_)
    refine JO.zeq 46 dX10_recovery_29 rfl ?_ ?_
    · refine JO.aloadn dX10_recovery_46 rfl ?_
      refine JO.bip (-5) dX10_recovery_47 (by decide) ?_
      refine JO.mvi (C_m_no _ _) K_m_no k5_137 rfl rfl rfl (Nat.le_of_ble_eq_true rfl) dX10_recovery_49 (fun a4 => ?_)
      exact JO.iret dX10_recovery_52 rfl rfl rfl
    · refine JO.aloadn dX10_recovery_32 rfl ?_
      refine JO.iloadn dX10_recovery_33 rfl ?_
      refine JO.aloadn dX10_recovery_34 rfl ?_
      refine JO.iloadn dX10_recovery_35 rfl ?_
      refine JO.iloadn dX10_recovery_36 rfl ?_
      refine JO.mvi (C_m_lastOf _ _ _) K_m_lastOf k5_192 rfl rfl rfl (Nat.le_of_ble_eq_true rfl) dX10_recovery_37 (fun a5 => ?_)
      refine JO.mvi (C_m_recoveredBy _ _ _) K_m_recoveredBy k6_226 rfl rfl rfl (Nat.le_of_ble_eq_true rfl) dX10_recovery_40 (fun a6 => ?_)
      refine JO.goto 52 dX10_recovery_43 rfl ?_
      exact JO.iret dX10_recovery_52 rfl rfl rfl
  · refine JO.aloadn dX10_recovery_8 rfl ?_
    refine JO.ic (-1) dX10_recovery_9 (by decide) ?_
    refine JO.mvi (C_m_no _ _) K_m_no k5_137 rfl rfl rfl (Nat.le_of_ble_eq_true rfl) dX10_recovery_10 (fun a7 => ?_)
    exact JO.iret dX10_recovery_13 rfl rfl rfl
theorem C_m_recovery {ad : Nat → Nat} {Z : ZT} (p1 : Int32) (p2 : Int32) (σ : MS) : CO yX10_recovery M_m_recovery eI Z (wM ad Z) [.ref (ad 0), .int p1, .int p2] (wsM ad Z σ) (m_recovery p1 p2 σ) :=
  CO.of rfl rfl (Nat.le_of_ble_eq_true rfl) 0 (fun X hZ => by subst hZ; exact J_m_recovery _ _ σ)
theorem K_m_recovery : Kv yX10_recovery M_m_recovery RX10 2 := ⟨rfl, k6_223, k6_224, k1_10, k6_225, by decide +kernel⟩
abbrev M_m_spared : JM := (cX10_spared, 3, RX10, (some .int), 8, 171)
def m_spared (σ : MS) : Option (Int32 × MS) :=
  (m_runs (sI σ 8 0)).bind fun a1 =>
  (m_runs (sI a1.2 8 1)).bind fun a2 =>
  some ((mI a1.2 21 - mI a2.2 21), sI a2.2 8 (mI σ 8))
theorem J_m_spared {X : JX} {ad : Nat → Nat} (σ : MS) : JO X M_m_spared (QF X eI (wM ad (xZ X))) 0 [some (.ref (ad 0)), none, none] [] (wsM ad (xZ X) σ) (m_spared σ) := by
  unfold m_spared
  refine JO.aloadn dX10_spared_0 rfl ?_
  refine gM8 dX10_spared_1 rfl ?_
  refine JO.istoren dX10_spared_4 rfl rfl ?_
  refine JO.aloadn dX10_spared_5 rfl ?_
  refine JO.ic 0 dX10_spared_6 (by decide) ?_
  refine pM8 dX10_spared_7 rfl ?_
  refine JO.aloadn dX10_spared_10 rfl ?_
  refine JO.mvv (C_m_runs _) K_m_runs k5_172 rfl rfl rfl (Nat.le_of_ble_eq_true rfl) dX10_spared_11 (fun a1 => ?_)
  refine JO.aloadn dX10_spared_14 rfl ?_
  refine gM21 dX10_spared_15 rfl ?_
  refine JO.istoren dX10_spared_18 rfl rfl ?_
  refine JO.aloadn dX10_spared_19 rfl ?_
  refine JO.ic 1 dX10_spared_20 (by decide) ?_
  refine pM8 dX10_spared_21 rfl ?_
  refine JO.aloadn dX10_spared_24 rfl ?_
  refine JO.mvv (C_m_runs _) K_m_runs k5_172 rfl rfl rfl (Nat.le_of_ble_eq_true rfl) dX10_spared_25 (fun a2 => ?_)
  refine JO.aloadn dX10_spared_28 rfl ?_
  refine JO.iloadn dX10_spared_29 rfl ?_
  refine pM8 dX10_spared_30 rfl ?_
  refine JO.iloadn dX10_spared_33 rfl ?_
  refine JO.aloadn dX10_spared_34 rfl ?_
  refine gM21 dX10_spared_35 rfl ?_
  refine JO.isub dX10_spared_38 ?_
  exact JO.iret dX10_spared_39 rfl rfl rfl
theorem C_m_spared {ad : Nat → Nat} {Z : ZT} (σ : MS) : CO yX10_spared M_m_spared eI Z (wM ad Z) [.ref (ad 0)] (wsM ad Z σ) (m_spared σ) :=
  CO.of rfl rfl (Nat.le_of_ble_eq_true rfl) 2 (fun X hZ => by subst hZ; exact J_m_spared σ)
theorem K_m_spared : Kv yX10_spared M_m_spared RX10 0 := ⟨rfl, k6_231, k6_232, k1_10, k6_233, by decide +kernel⟩
