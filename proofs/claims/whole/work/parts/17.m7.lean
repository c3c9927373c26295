abbrev M_m_quiet : JM := (cX10_quiet, 2, RX10, (some .int), 8, 171)
def m_quiet_l7 : Nat → Int32 → MS → Option (Int32 × MS)
  | 0, _, _ => none
  | n + 1, x1, σ =>
    if x1 ≤ 0 then (
      some (x1, σ))
    else (
      (m_isAsLast (x1 - 1) σ).bind fun a1 =>
      if a1.1 = true then (
        m_quiet_l7 n (x1 + (-1)) a1.2)
      else (
        some (x1, a1.2)))
def m_quiet (σ : MS) : Option (Int32 × MS) :=
  (m_runs σ).bind fun a1 =>
  m_quiet_l7 4096 60 a1.2
theorem J_m_quiet_l7 {X : JX} {ad : Nat → Nat} : ∀ (n : Nat) (x1 : Int32) (σ : MS), JO X M_m_quiet (QF X eI (wM ad (xZ X))) 7 [some (.ref (ad 0)), some (.int x1)] [] (wsM ad (xZ X) σ) (m_quiet_l7 n x1 σ) := by
  intro n
  induction n with
  | zero => intro x1 σ; exact JO.nil
  | succ n ih =>
    intro x1 σ
    unfold m_quiet_l7
    refine JO.iloadn dX10_quiet_7 rfl ?_
    refine JO.if_le 27 dX10_quiet_8 rfl ?_ ?_
    · refine JO.iloadn dX10_quiet_27 rfl ?_
      exact JO.iret dX10_quiet_28 rfl rfl rfl
    · refine JO.aloadn dX10_quiet_11 rfl ?_
      refine JO.iloadn dX10_quiet_12 rfl ?_
      refine JO.ic 1 dX10_quiet_13 (by decide) ?_
      refine JO.isub dX10_quiet_14 ?_
      refine JO.mvz (C_m_isAsLast _ _) K_m_isAsLast k6_206 rfl rfl rfl (Nat.le_of_ble_eq_true rfl) dX10_quiet_15 (fun a1 => ?_)
      refine JO.zeq 27 dX10_quiet_18 rfl ?_ ?_
      · refine JO.iloadn dX10_quiet_27 rfl ?_
        exact JO.iret dX10_quiet_28 rfl rfl rfl
      · refine JO.iinc dX10_quiet_21 rfl (-1) (by decide) rfl rfl ?_
        refine JO.goto 7 dX10_quiet_24 rfl ?_
        exact (ih _ _).jump (lvLe.so rfl (lvLe.so rfl (lvLe.nil)))
theorem J_m_quiet {X : JX} {ad : Nat → Nat} (σ : MS) : JO X M_m_quiet (QF X eI (wM ad (xZ X))) 0 [some (.ref (ad 0)), none] [] (wsM ad (xZ X) σ) (m_quiet σ) := by
  unfold m_quiet
  refine JO.aloadn dX10_quiet_0 rfl ?_
  refine JO.mvv (C_m_runs _) K_m_runs k5_172 rfl rfl rfl (Nat.le_of_ble_eq_true rfl) dX10_quiet_1 (fun a1 => ?_)
  refine JO.bip 60 dX10_quiet_4 (by decide) ?_
  refine JO.istoren dX10_quiet_6 rfl rfl ?_
  exact (J_m_quiet_l7 4096 _ _).jump (lvLe.so rfl (lvLe.so rfl (lvLe.nil)))
theorem C_m_quiet {ad : Nat → Nat} {Z : ZT} (σ : MS) : CO yX10_quiet M_m_quiet eI Z (wM ad Z) [.ref (ad 0)] (wsM ad Z σ) (m_quiet σ) :=
  CO.of rfl rfl (Nat.le_of_ble_eq_true rfl) 1 (fun X hZ => by subst hZ; exact J_m_quiet σ)
theorem K_m_quiet : Kv yX10_quiet M_m_quiet RX10 0 := ⟨rfl, k6_203, k6_204, k1_10, k6_205, by decide +kernel⟩
abbrev M_m_lossesThat : JM := (cX10_lossesThat, 7, RX10, (some .int), 8, 171)
def m_lossesThat_l15 : Nat → Int32 → Bool → Int32 → Int32 → Int32 → MS → Option (Int32 × MS)
  | 0, _, _, _, _, _, _ => none
  | n + 1, x1, x2, x3, x4, x5, σ =>
    if 30 ≤ x5 then (
      some (x4, σ))
    else (
      if x3 ≤ ((30 * x1) + x5) then (
        m_lossesThat_l15 n x1 x2 x3 x4 (x5 + 1) σ)
      else (
        if inB ((30 * x1) + x5) 60 = true then
        if mA σ 2 (ix ((30 * x1) + x5)) = 1 then (
          m_lossesThat_l15 n x1 x2 x3 x4 (x5 + 1) σ)
        else (
          if inB ((30 * x1) + x5) 60 = true then
          (m_runs (sA σ 2 (ix ((30 * x1) + x5)) 1)).bind fun a1 =>
          if inB ((30 * x1) + x5) 60 = true then
          if x2 = true then (
            (m_blockedNow (sA a1.2 2 (ix ((30 * x1) + x5)) 0)).bind fun a3 =>
            if a3.1 = 0 then (
              m_lossesThat_l15 n x1 x2 x3 (x4 ||| 0) (x5 + 1) a3.2)
            else (
              m_lossesThat_l15 n x1 x2 x3 (x4 ||| ((1 : Int32) <<< (x5 &&& 31))) (x5 + 1) a3.2))
          else (
            (m_areAlike 60 (sA a1.2 2 (ix ((30 * x1) + x5)) 0)).bind fun a2 =>
            if a2.1 = true then (
              m_lossesThat_l15 n x1 x2 x3 (x4 ||| 0) (x5 + 1) a2.2)
            else (
              m_lossesThat_l15 n x1 x2 x3 (x4 ||| ((1 : Int32) <<< (x5 &&& 31))) (x5 + 1) a2.2))
          else none
          else none)
        else none))
def m_lossesThat (p1 : Int32) (p2 : Bool) (σ : MS) : Option (Int32 × MS) :=
  (m_runs σ).bind fun a1 =>
  m_lossesThat_l15 4096 p1 p2 (mI a1.2 21) 0 0 a1.2
theorem J_m_lossesThat_l15 {X : JX} {ad : Nat → Nat} : ∀ (n : Nat) (x1 : Int32) (x2 : Bool) (x3 : Int32) (x4 : Int32) (x5 : Int32) (σ : MS), JO X M_m_lossesThat (QF X eI (wM ad (xZ X))) 15 [some (.ref (ad 0)), some (.int x1), some (.int (bI x2)), some (.int x3), some (.int x4), some (.int x5), none] [] (wsM ad (xZ X) σ) (m_lossesThat_l15 n x1 x2 x3 x4 x5 σ) := by
  intro n
  induction n with
  | zero => intro x1 x2 x3 x4 x5 σ; exact JO.nil
  | succ n ih =>
    intro x1 x2 x3 x4 x5 σ
    unfold m_lossesThat_l15
    refine JO.iload dX10_lossesThat_15 rfl ?_
    refine JO.bip 30 dX10_lossesThat_17 (by decide) ?_
    refine JO.icmp_ge 113 dX10_lossesThat_19 rfl ?_ ?_
    · refine JO.iload dX10_lossesThat_113 rfl ?_
      exact JO.iret dX10_lossesThat_115 rfl rfl rfl
    · refine JO.bip 30 dX10_lossesThat_22 (by decide) ?_
      refine JO.iloadn dX10_lossesThat_24 rfl ?_
      refine JO.imul dX10_lossesThat_25 ?_
      refine JO.iload dX10_lossesThat_26 rfl ?_
      refine JO.iadd dX10_lossesThat_28 ?_
      refine JO.istore dX10_lossesThat_29 rfl rfl ?_
      refine JO.iload dX10_lossesThat_31 rfl ?_
      refine JO.iloadn dX10_lossesThat_33 rfl ?_
      refine JO.icmp_ge 107 dX10_lossesThat_34 rfl ?_ ?_
      · refine JO.iinc dX10_lossesThat_107 rfl 1 (by decide) rfl rfl ?_
        refine JO.goto 15 dX10_lossesThat_110 rfl ?_
        exact (ih _ x2 _ _ _ _).jump (lvLe.so rfl (lvLe.so rfl (lvLe.so rfl (lvLe.so rfl (lvLe.so rfl (lvLe.so rfl (lvLe.no (lvLe.nil))))))))
      · refine JO.aloadn dX10_lossesThat_37 rfl ?_
        refine gM2 dX10_lossesThat_38 rfl ?_
        refine JO.iload dX10_lossesThat_41 rfl ?_
        refine aM2 dX10_lossesThat_43 ?_
        refine JO.ic 1 dX10_lossesThat_44 (by decide) ?_
        refine JO.icmp_ne 51 dX10_lossesThat_45 rfl ?_ ?_
        · refine JO.aloadn dX10_lossesThat_51 rfl ?_
          refine gM2 dX10_lossesThat_52 rfl ?_
          refine JO.iload dX10_lossesThat_55 rfl ?_
          refine JO.ic 1 dX10_lossesThat_57 (by decide) ?_
          refine uM2 dX10_lossesThat_58 ?_
          refine JO.aloadn dX10_lossesThat_59 rfl ?_
          refine JO.mvv (C_m_runs _) K_m_runs k5_172 rfl rfl rfl (Nat.le_of_ble_eq_true rfl) dX10_lossesThat_60 (fun a1 => ?_)
          refine JO.aloadn dX10_lossesThat_63 rfl ?_
          refine gM2 dX10_lossesThat_64 rfl ?_
          refine JO.iload dX10_lossesThat_67 rfl ?_
          refine JO.ic 0 dX10_lossesThat_69 (by decide) ?_
          refine uM2 dX10_lossesThat_70 ?_
          refine JO.iload dX10_lossesThat_71 rfl ?_
          refine JO.iloadn dX10_lossesThat_73 rfl ?_
          refine JO.zeq 87 dX10_lossesThat_74 rfl ?_ ?_
          · refine JO.aloadn dX10_lossesThat_87 rfl ?_
            refine JO.bip 60 dX10_lossesThat_88 (by decide) ?_
            refine JO.mvz (C_m_areAlike _ _) K_m_areAlike k6_190 rfl rfl rfl (Nat.le_of_ble_eq_true rfl) dX10_lossesThat_90 (fun a2 => ?_)
            refine JO.zne 103 dX10_lossesThat_93 rfl ?_ ?_
            · refine JO.ic 0 dX10_lossesThat_103 (by decide) ?_
              refine JO.ior dX10_lossesThat_104 ?_
              refine JO.istore dX10_lossesThat_105 rfl rfl ?_
              refine JO.iinc dX10_lossesThat_107 rfl 1 (by decide) rfl rfl ?_
              refine JO.goto 15 dX10_lossesThat_110 rfl ?_
              exact (ih _ x2 _ _ _ _).jump (lvLe.so rfl (lvLe.so rfl (lvLe.so rfl (lvLe.so rfl (lvLe.so rfl (lvLe.so rfl (lvLe.no (lvLe.nil))))))))
            · refine JO.ic 1 dX10_lossesThat_96 (by decide) ?_
              refine JO.iload dX10_lossesThat_97 rfl ?_
              refine JO.ishl dX10_lossesThat_99 ?_
              refine JO.goto 104 dX10_lossesThat_100 rfl ?_
              refine JO.ior dX10_lossesThat_104 ?_
              refine JO.istore dX10_lossesThat_105 rfl rfl ?_
              refine JO.iinc dX10_lossesThat_107 rfl 1 (by decide) rfl rfl ?_
              refine JO.goto 15 dX10_lossesThat_110 rfl ?_
              exact (ih _ x2 _ _ _ _).jump (lvLe.so rfl (lvLe.so rfl (lvLe.so rfl (lvLe.so rfl (lvLe.so rfl (lvLe.so rfl (lvLe.no (lvLe.nil))))))))
          · refine JO.aloadn dX10_lossesThat_77 rfl ?_
            refine JO.mvi (C_m_blockedNow _) K_m_blockedNow k6_198 rfl rfl rfl (Nat.le_of_ble_eq_true rfl) dX10_lossesThat_78 (fun a3 => ?_)
            refine JO.if_eq 103 dX10_lossesThat_81 rfl ?_ ?_
            · refine JO.ic 0 dX10_lossesThat_103 (by decide) ?_
              refine JO.ior dX10_lossesThat_104 ?_
              refine JO.istore dX10_lossesThat_105 rfl rfl ?_
              refine JO.iinc dX10_lossesThat_107 rfl 1 (by decide) rfl rfl ?_
              refine JO.goto 15 dX10_lossesThat_110 rfl ?_
              exact (ih _ x2 _ _ _ _).jump (lvLe.so rfl (lvLe.so rfl (lvLe.so rfl (lvLe.so rfl (lvLe.so rfl (lvLe.so rfl (lvLe.no (lvLe.nil))))))))
            · refine JO.goto 96 dX10_lossesThat_84 rfl ?_
              refine JO.ic 1 dX10_lossesThat_96 (by decide) ?_
              refine JO.iload dX10_lossesThat_97 rfl ?_
              refine JO.ishl dX10_lossesThat_99 ?_
              refine JO.goto 104 dX10_lossesThat_100 rfl ?_
              refine JO.ior dX10_lossesThat_104 ?_
              refine JO.istore dX10_lossesThat_105 rfl rfl ?_
              refine JO.iinc dX10_lossesThat_107 rfl 1 (by decide) rfl rfl ?_
              refine JO.goto 15 dX10_lossesThat_110 rfl ?_
              exact (ih _ x2 _ _ _ _).jump (lvLe.so rfl (lvLe.so rfl (lvLe.so rfl (lvLe.so rfl (lvLe.so rfl (lvLe.so rfl (lvLe.no (lvLe.nil))))))))
        · refine JO.goto 107 dX10_lossesThat_48 rfl ?_
          refine JO.iinc dX10_lossesThat_107 rfl 1 (by decide) rfl rfl ?_
          refine JO.goto 15 dX10_lossesThat_110 rfl ?_
          exact (ih _ x2 _ _ _ _).jump (lvLe.so rfl (lvLe.so rfl (lvLe.so rfl (lvLe.so rfl (lvLe.so rfl (lvLe.so rfl (lvLe.no (lvLe.nil))))))))
theorem J_m_lossesThat {X : JX} {ad : Nat → Nat} (p1 : Int32) (p2 : Bool) (σ : MS) : JO X M_m_lossesThat (QF X eI (wM ad (xZ X))) 0 [some (.ref (ad 0)), some (.int p1), some (.int (bI p2)), none, none, none, none] [] (wsM ad (xZ X) σ) (m_lossesThat p1 p2 σ) := by
  unfold m_lossesThat
  refine JO.aloadn dX10_lossesThat_0 rfl ?_
  refine JO.mvv (C_m_runs _) K_m_runs k5_172 rfl rfl rfl (Nat.le_of_ble_eq_true rfl) dX10_lossesThat_1 (fun a1 => ?_)
  refine JO.aloadn dX10_lossesThat_4 rfl ?_
  refine gM21 dX10_lossesThat_5 rfl ?_
  refine JO.istoren dX10_lossesThat_8 rfl rfl ?_
  refine JO.ic 0 dX10_lossesThat_9 (by decide) ?_
  refine JO.istore dX10_lossesThat_10 rfl rfl ?_
  refine JO.ic 0 dX10_lossesThat_12 (by decide) ?_
  refine JO.istore dX10_lossesThat_13 rfl rfl ?_
  exact (J_m_lossesThat_l15 4096 _ p2 _ _ _ _).jump (lvLe.so rfl (lvLe.so rfl (lvLe.so rfl (lvLe.so rfl (lvLe.so rfl (lvLe.so rfl (lvLe.no (lvLe.nil))))))))
theorem C_m_lossesThat {ad : Nat → Nat} {Z : ZT} (p1 : Int32) (p2 : Bool) (σ : MS) : CO yX10_lossesThat M_m_lossesThat eI Z (wM ad Z) [.ref (ad 0), .int p1, .int (bI p2)] (wsM ad Z σ) (m_lossesThat p1 p2 σ) :=
  CO.of rfl rfl (Nat.le_of_ble_eq_true rfl) 4 (fun X hZ => by subst hZ; exact J_m_lossesThat _ _ σ)
theorem K_m_lossesThat : Kv yX10_lossesThat M_m_lossesThat RX10 2 := ⟨rfl, k6_216, s6_9, k1_10, k6_217, by decide +kernel⟩
abbrev M_m_harm : JM := (cX10_harm, 2, RX10, (some .int), 9, 197)
def m_harm (p1 : Int32) (σ : MS) : Option (Int32 × MS) :=
  (m_isIn p1 0 1 σ).bind fun a1 =>
  if a1.1 = true then (
    (m_lossesThat p1 false a1.2).bind fun a3 =>
    some (a3.1, a3.2))
  else (
    (m_no (-5) a1.2).bind fun a2 =>
    some (a2.1, a2.2))
theorem J_m_harm {X : JX} {ad : Nat → Nat} (p1 : Int32) (σ : MS) : JO X M_m_harm (QF X eI (wM ad (xZ X))) 0 [some (.ref (ad 0)), some (.int p1)] [] (wsM ad (xZ X) σ) (m_harm p1 σ) := by
  unfold m_harm
  refine JO.iloadn dX10_harm_0 rfl ?_
  refine JO.ic 0 dX10_harm_1 (by decide) ?_
  refine JO.ic 1 dX10_harm_2 (by decide) ?_
  refine JO.msz (C_m_isIn _ _ _ _) K_m_isIn k5_134 rfl rfl rfl (Nat.le_of_ble_eq_true rfl) dX10_harm_3 (fun a1 => ?_)
  refine JO.zeq 18 dX10_harm_6 rfl ?_ ?_
  · refine JO.aloadn dX10_harm_18 rfl ?_
    refine JO.bip (-5) dX10_harm_19 (by decide) ?_
    refine JO.mvi (C_m_no _ _) K_m_no k5_137 rfl rfl rfl (Nat.le_of_ble_eq_true rfl) dX10_harm_21 (fun a2 => ?_)
    exact JO.iret dX10_harm_24 rfl rfl rfl
  · refine JO.aloadn dX10_harm_9 rfl ?_
    refine JO.iloadn dX10_harm_10 rfl ?_
    refine JO.ic 0 dX10_harm_11 (by decide) ?_
    refine JO.mvi (C_m_lossesThat _ false _) K_m_lossesThat k6_214 rfl rfl rfl (Nat.le_of_ble_eq_true rfl) dX10_harm_12 (fun a3 => ?_)
    refine JO.goto 24 dX10_harm_15 rfl ?_
    exact JO.iret dX10_harm_24 rfl rfl rfl
theorem C_m_harm {ad : Nat → Nat} {Z : ZT} (p1 : Int32) (σ : MS) : CO yX10_harm M_m_harm eI Z (wM ad Z) [.ref (ad 0), .int p1] (wsM ad Z σ) (m_harm p1 σ) :=
  CO.of rfl rfl (Nat.le_of_ble_eq_true rfl) 0 (fun X hZ => by subst hZ; exact J_m_harm _ σ)
theorem K_m_harm : Kv yX10_harm M_m_harm RX10 1 := ⟨rfl, k6_211, k6_212, k1_10, k6_213, by decide +kernel⟩
abbrev M_m_block : JM := (cX10_block, 2, RX10, (some .int), 9, 197)
def m_block (p1 : Int32) (σ : MS) : Option (Int32 × MS) :=
  (m_isIn p1 0 1 σ).bind fun a1 =>
  if a1.1 = true then (
    (m_lossesThat p1 true a1.2).bind fun a3 =>
    some (a3.1, a3.2))
  else (
    (m_no (-5) a1.2).bind fun a2 =>
    some (a2.1, a2.2))
theorem J_m_block {X : JX} {ad : Nat → Nat} (p1 : Int32) (σ : MS) : JO X M_m_block (QF X eI (wM ad (xZ X))) 0 [some (.ref (ad 0)), some (.int p1)] [] (wsM ad (xZ X) σ) (m_block p1 σ) := by
  unfold m_block
  refine JO.iloadn dX10_block_0 rfl ?_
  refine JO.ic 0 dX10_block_1 (by decide) ?_
  refine JO.ic 1 dX10_block_2 (by decide) ?_
  refine JO.msz (C_m_isIn _ _ _ _) K_m_isIn k5_134 rfl rfl rfl (Nat.le_of_ble_eq_true rfl) dX10_block_3 (fun a1 => ?_)
  refine JO.zeq 18 dX10_block_6 rfl ?_ ?_
  · refine JO.aloadn dX10_block_18 rfl ?_
    refine JO.bip (-5) dX10_block_19 (by decide) ?_
    refine JO.mvi (C_m_no _ _) K_m_no k5_137 rfl rfl rfl (Nat.le_of_ble_eq_true rfl) dX10_block_21 (fun a2 => ?_)
    exact JO.iret dX10_block_24 rfl rfl rfl
  · refine JO.aloadn dX10_block_9 rfl ?_
    refine JO.iloadn dX10_block_10 rfl ?_
    refine JO.ic 1 dX10_block_11 (by decide) ?_
    refine JO.mvi (C_m_lossesThat _ true _) K_m_lossesThat k6_214 rfl rfl rfl (Nat.le_of_ble_eq_true rfl) dX10_block_12 (fun a3 => ?_)
    refine JO.goto 24 dX10_block_15 rfl ?_
    exact JO.iret dX10_block_24 rfl rfl rfl
theorem C_m_block {ad : Nat → Nat} {Z : ZT} (p1 : Int32) (σ : MS) : CO yX10_block M_m_block eI Z (wM ad Z) [.ref (ad 0), .int p1] (wsM ad Z σ) (m_block p1 σ) :=
  CO.of rfl rfl (Nat.le_of_ble_eq_true rfl) 0 (fun X hZ => by subst hZ; exact J_m_block _ σ)
theorem K_m_block : Kv yX10_block M_m_block RX10 1 := ⟨rfl, k6_219, k6_220, k1_10, k6_221, by decide +kernel⟩
abbrev M_m_recoveredBy : JM := (cX10_recoveredBy, 3, RX10, (some .int), 0, 0)
def m_recoveredBy (p1 : Int32) (p2 : Int32) (σ : MS) : Option (Int32 × MS) :=
  sw p2 [(2, 36,
    some (1, σ)), (3, 38,
    some (2, σ)), (4, 40,
    some (3, σ)), (5, 42,
    some (4, σ)), (6, 44,
    some (5, σ))] (
    if p1 = 0 then (
      if mI σ 8 = 1 then (
        some (5, σ))
      else (
        some (4, σ)))
    else (
      some (4, σ)))
theorem J_m_recoveredBy {X : JX} {ad : Nat → Nat} (p1 : Int32) (p2 : Int32) (σ : MS) : JO X M_m_recoveredBy (QF X eI (wM ad (xZ X))) 0 [some (.ref (ad 0)), some (.int p1), some (.int p2)] [] (wsM ad (xZ X) σ) (m_recoveredBy p1 p2 σ) := by
  unfold m_recoveredBy
  refine JO.iloadn dX10_recoveredBy_0 rfl ?_
  refine JO.tsw [(2, 36, _), (3, 38, _), (4, 40, _), (5, 42, _), (6, 44, _)] 46 [(2, 36), (3, 38), (4, 40), (5, 42), (6, 44)] dX10_recoveredBy_1 rfl (by decide) rfl (by decide) (JO.swCons ?_ (JO.swCons ?_ (JO.swCons ?_ (JO.swCons ?_ (JO.swCons ?_ (JO.swNil)))))) ?_
  · refine JO.ic 1 dX10_recoveredBy_36 (by decide) ?_
    exact JO.iret dX10_recoveredBy_37 rfl rfl rfl
  · refine JO.ic 2 dX10_recoveredBy_38 (by decide) ?_
    exact JO.iret dX10_recoveredBy_39 rfl rfl rfl
  · refine JO.ic 3 dX10_recoveredBy_40 (by decide) ?_
    exact JO.iret dX10_recoveredBy_41 rfl rfl rfl
  · refine JO.ic 4 dX10_recoveredBy_42 (by decide) ?_
    exact JO.iret dX10_recoveredBy_43 rfl rfl rfl
  · refine JO.ic 5 dX10_recoveredBy_44 (by decide) ?_
    exact JO.iret dX10_recoveredBy_45 rfl rfl rfl
  · refine JO.iloadn dX10_recoveredBy_46 rfl ?_
    refine JO.if_ne 62 dX10_recoveredBy_47 rfl ?_ ?_
    · refine JO.ic 4 dX10_recoveredBy_62 (by decide) ?_
      exact JO.iret dX10_recoveredBy_63 rfl rfl rfl
    · refine JO.aloadn dX10_recoveredBy_50 rfl ?_
      refine gM8 dX10_recoveredBy_51 rfl ?_
      refine JO.ic 1 dX10_recoveredBy_54 (by decide) ?_
      refine JO.icmp_ne 62 dX10_recoveredBy_55 rfl ?_ ?_
      · refine JO.ic 4 dX10_recoveredBy_62 (by decide) ?_
        exact JO.iret dX10_recoveredBy_63 rfl rfl rfl
      · refine JO.ic 5 dX10_recoveredBy_58 (by decide) ?_
        refine JO.goto 63 dX10_recoveredBy_59 rfl ?_
        exact JO.iret dX10_recoveredBy_63 rfl rfl rfl
theorem C_m_recoveredBy {ad : Nat → Nat} {Z : ZT} (p1 : Int32) (p2 : Int32) (σ : MS) : CO yX10_recoveredBy M_m_recoveredBy eI Z (wM ad Z) [.ref (ad 0), .int p1, .int p2] (wsM ad Z σ) (m_recoveredBy p1 p2 σ) :=
  CO.of rfl rfl (Nat.le_of_ble_eq_true rfl) 0 (fun X hZ => by subst hZ; exact J_m_recoveredBy _ _ σ)
theorem K_m_recoveredBy : Kv yX10_recoveredBy M_m_recoveredBy RX10 2 := ⟨rfl, k6_228, s6_10, k1_10, k6_229, by decide +kernel⟩
abbrev M_m_recovery : JM := (cX10_recovery, 3, RX10, (some .int), 8, 171)
def m_recovery (p1 : Int32) (p2 : Int32) (σ : MS) : Option (Int32 × MS) :=
  (m_isSite p1 σ).bind fun a1 =>
  if a1.1 = true then (
    (m_runs a1.2).bind fun a2 =>
    if inB p1 6 = true then
    (m_isIn p2 0 (mA a2.2 14 (ix p1)) a2.2).bind fun a3 =>
    if a3.1 = true then (
      (m_lastOf p1 p2 a3.2).bind fun a5 =>
      (m_recoveredBy p1 a5.1 a5.2).bind fun a6 =>
      some (a6.1, a6.2))
    else (
      (m_no (-5) a3.2).bind fun a4 =>
      some (a4.1, a4.2))
    else none)
  else (
    (m_no (-1) a1.2).bind fun a7 =>
    some (a7.1, a7.2))
theorem J_m_recovery {X : JX} {ad : Nat → Nat} (p1 : Int32) (p2 : Int32) (σ : MS) : JO X M_m_recovery (QF X eI (wM ad (xZ X))) 0 [some (.ref (ad 0)), some (.int p1), some (.int p2)] [] (wsM ad (xZ X) σ) (m_recovery p1 p2 σ) := by
  unfold m_recovery
  refine JO.aloadn dX10_recovery_0 rfl ?_
  refine JO.iloadn dX10_recovery_1 rfl ?_
  refine JO.mvz (C_m_isSite _ _) K_m_isSite k6_151 rfl rfl rfl (Nat.le_of_ble_eq_true rfl) dX10_recovery_2 (fun a1 => ?_)
  refine JO.zne 14 dX10_recovery_5 rfl ?_ ?_
  · refine JO.aloadn dX10_recovery_14 rfl ?_
    refine JO.mvv (C_m_runs _) K_m_runs k5_172 rfl rfl rfl (Nat.le_of_ble_eq_true rfl) dX10_recovery_15 (fun a2 => ?_)
    refine JO.iloadn dX10_recovery_18 rfl ?_
    refine JO.ic 0 dX10_recovery_19 (by decide) ?_
    refine JO.aloadn dX10_recovery_20 rfl ?_
    refine gM14 dX10_recovery_21 rfl ?_
    refine JO.iloadn dX10_recovery_24 rfl ?_
    refine aM14 dX10_recovery_25 ?_
    refine JO.msz (C_m_isIn _ _ _ _) K_m_isIn k5_134 rfl rfl rfl (Nat.le_of_ble_eq_true rfl) dX10_recovery_26 (fun a3 => ?_)
    refine JO.zeq 46 dX10_recovery_29 rfl ?_ ?_
    · refine JO.aloadn dX10_recovery_46 rfl ?_
      refine JO.bip (-5) dX10_recovery_47 (by decide) ?_
      refine JO.mvi (C_m_no _ _) K_m_no k5_137 rfl rfl rfl (Nat.le_of_ble_eq_true rfl) dX10_recovery_49 (fun a4 => ?_)
      exact JO.iret dX10_recovery_52 rfl rfl rfl
    · refine JO.aloadn dX10_recovery_32 rfl ?_
      refine JO.iloadn dX10_recovery_33 rfl ?_
      refine JO.aloadn dX10_recovery_34 rfl ?_
      refine JO.iloadn dX10_recovery_35 rfl ?_
      refine JO.iloadn dX10_recovery_36 rfl ?_
      refine JO.mvi (C_m_lastOf _ _ _) K_m_lastOf k5_192 rfl rfl rfl (Nat.le_of_ble_eq_true rfl) dX10_recovery_37 (fun a5 => ?_)
      refine JO.mvi (C_m_recoveredBy _ _ _) K_m_recoveredBy k6_226 rfl rfl rfl (Nat.le_of_ble_eq_true rfl) dX10_recovery_40 (fun a6 => ?_)
      refine JO.goto 52 dX10_recovery_43 rfl ?_
      exact JO.iret dX10_recovery_52 rfl rfl rfl
  · refine JO.aloadn dX10_recovery_8 rfl ?_
    refine JO.ic (-1) dX10_recovery_9 (by decide) ?_
    refine JO.mvi (C_m_no _ _) K_m_no k5_137 rfl rfl rfl (Nat.le_of_ble_eq_true rfl) dX10_recovery_10 (fun a7 => ?_)
    exact JO.iret dX10_recovery_13 rfl rfl rfl
theorem C_m_recovery {ad : Nat → Nat} {Z : ZT} (p1 : Int32) (p2 : Int32) (σ : MS) : CO yX10_recovery M_m_recovery eI Z (wM ad Z) [.ref (ad 0), .int p1, .int p2] (wsM ad Z σ) (m_recovery p1 p2 σ) :=
  CO.of rfl rfl (Nat.le_of_ble_eq_true rfl) 0 (fun X hZ => by subst hZ; exact J_m_recovery _ _ σ)
theorem K_m_recovery : Kv yX10_recovery M_m_recovery RX10 2 := ⟨rfl, k6_223, k6_224, k1_10, k6_225, by decide +kernel⟩
abbrev M_m_spared : JM := (cX10_spared, 3, RX10, (some .int), 8, 171)
def m_spared (σ : MS) : Option (Int32 × MS) :=
  (m_runs (sI σ 8 0)).bind fun a1 =>
  (m_runs (sI a1.2 8 1)).bind fun a2 =>
  some ((mI a1.2 21 - mI a2.2 21), sI a2.2 8 (mI σ 8))
theorem J_m_spared {X : JX} {ad : Nat → Nat} (σ : MS) : JO X M_m_spared (QF X eI (wM ad (xZ X))) 0 [some (.ref (ad 0)), none, none] [] (wsM ad (xZ X) σ) (m_spared σ) := by
  unfold m_spared
  refine JO.aloadn dX10_spared_0 rfl ?_
  refine gM8 dX10_spared_1 rfl ?_
  refine JO.istoren dX10_spared_4 rfl rfl ?_
  refine JO.aloadn dX10_spared_5 rfl ?_
  refine JO.ic 0 dX10_spared_6 (by decide) ?_
  refine pM8 dX10_spared_7 rfl ?_
  refine JO.aloadn dX10_spared_10 rfl ?_
  refine JO.mvv (C_m_runs _) K_m_runs k5_172 rfl rfl rfl (Nat.le_of_ble_eq_true rfl) dX10_spared_11 (fun a1 => ?_)
  refine JO.aloadn dX10_spared_14 rfl ?_
  refine gM21 dX10_spared_15 rfl ?_
  refine JO.istoren dX10_spared_18 rfl rfl ?_
  refine JO.aloadn dX10_spared_19 rfl ?_
  refine JO.ic 1 dX10_spared_20 (by decide) ?_
  refine pM8 dX10_spared_21 rfl ?_
  refine JO.aloadn dX10_spared_24 rfl ?_
  refine JO.mvv (C_m_runs _) K_m_runs k5_172 rfl rfl rfl (Nat.le_of_ble_eq_true rfl) dX10_spared_25 (fun a2 => ?_)
  refine JO.aloadn dX10_spared_28 rfl ?_
  refine JO.iloadn dX10_spared_29 rfl ?_
  refine pM8 dX10_spared_30 rfl ?_
  refine JO.iloadn dX10_spared_33 rfl ?_
  refine JO.aloadn dX10_spared_34 rfl ?_
  refine gM21 dX10_spared_35 rfl ?_
  refine JO.isub dX10_spared_38 ?_
  exact JO.iret dX10_spared_39 rfl rfl rfl
theorem C_m_spared {ad : Nat → Nat} {Z : ZT} (σ : MS) : CO yX10_spared M_m_spared eI Z (wM ad Z) [.ref (ad 0)] (wsM ad Z σ) (m_spared σ) :=
  CO.of rfl rfl (Nat.le_of_ble_eq_true rfl) 2 (fun X hZ => by subst hZ; exact J_m_spared σ)
theorem K_m_spared : Kv yX10_spared M_m_spared RX10 0 := ⟨rfl, k6_231, k6_232, k1_10, k6_233, by decide +kernel⟩
abbrev M_m_notJudged : JM := (cX10_notJudged, 5, RX10, (some .int), 3, 63)
def m_notJudged (p1 : Int32) (p2 : Int32) (p3 : Int32) (σ : MS) : Option (Int32 × MS) :=
  (m_isSite p2 σ).bind fun a1 =>
  if a1.1 = true then (
    (m_notRow p1 a1.2).bind fun a2 =>
    if a2.1 = 0 then (
      if 0 ≤ p3 then (
        if inB p1 8 = true then
        if p3 ≤ mA a2.2 29 (ix p1) then (
          if p3 ≤ 61 then (
            some (0, a2.2))
          else (
            some ((-6), a2.2)))
        else (
          some ((-5), a2.2))
        else none)
      else (
        some ((-4), a2.2)))
    else (
      some (a2.1, a2.2)))
  else (
    some ((-1), a1.2))
theorem J_m_notJudged {X : JX} {ad : Nat → Nat} (p1 : Int32) (p2 : Int32) (p3 : Int32) (σ : MS) : JO X M_m_notJudged (QF X eI (wM ad (xZ X))) 0 [some (.ref (ad 0)), some (.int p1), some (.int p2), some (.int p3), none] [] (wsM ad (xZ X) σ) (m_notJudged p1 p2 p3 σ) := by
  unfold m_notJudged
  refine JO.aloadn dX10_notJudged_0 rfl ?_
  refine JO.iloadn dX10_notJudged_1 rfl ?_
  refine JO.mvz (C_m_isSite _ _) K_m_isSite k6_151 rfl rfl rfl (Nat.le_of_ble_eq_true rfl) dX10_notJudged_2 (fun a1 => ?_)
  refine JO.zne 10 dX10_notJudged_5 rfl ?_ ?_
  · refine JO.aloadn dX10_notJudged_10 rfl ?_
    refine JO.iloadn dX10_notJudged_11 rfl ?_
    refine JO.mvi (C_m_notRow _ _) K_m_notRow k5_145 rfl rfl rfl (Nat.le_of_ble_eq_true rfl) dX10_notJudged_12 (fun a2 => ?_)
    refine JO.istore dX10_notJudged_15 rfl rfl ?_
    refine JO.iload dX10_notJudged_17 rfl ?_
    refine JO.if_eq 25 dX10_notJudged_19 rfl ?_ ?_
    · refine JO.iloadn dX10_notJudged_25 rfl ?_
      refine JO.if_ge 34 dX10_notJudged_26 rfl ?_ ?_
      · refine JO.iloadn dX10_notJudged_34 rfl ?_
        refine JO.aloadn dX10_notJudged_35 rfl ?_
        refine gM29 dX10_notJudged_36 rfl ?_
        refine JO.iloadn dX10_notJudged_39 rfl ?_
        refine aM29 dX10_notJudged_40 ?_
        refine JO.icmp_le 49 dX10_notJudged_41 rfl ?_ ?_
        · refine JO.iloadn dX10_notJudged_49 rfl ?_
          refine JO.bip 61 dX10_notJudged_50 (by decide) ?_
          refine JO.icmp_le 60 dX10_notJudged_52 rfl ?_ ?_
          · refine JO.ic 0 dX10_notJudged_60 (by decide) ?_
            exact JO.iret dX10_notJudged_61 rfl rfl rfl
          · refine JO.bip (-6) dX10_notJudged_55 (by decide) ?_
            refine JO.goto 61 dX10_notJudged_57 rfl ?_
            exact JO.iret dX10_notJudged_61 rfl rfl rfl
        · refine JO.bip (-5) dX10_notJudged_44 (by decide) ?_
          refine JO.goto 61 dX10_notJudged_46 rfl ?_
          exact JO.iret dX10_notJudged_61 rfl rfl rfl
      · refine JO.bip (-4) dX10_notJudged_29 (by decide) ?_
        refine JO.goto 61 dX10_notJudged_31 rfl ?_
        exact JO.iret dX10_notJudged_61 rfl rfl rfl
    · refine JO.iload dX10_notJudged_22 rfl ?_
      exact JO.iret dX10_notJudged_24 rfl rfl rfl
  · refine JO.ic (-1) dX10_notJudged_8 (by decide) ?_
    exact JO.iret dX10_notJudged_9 rfl rfl rfl
theorem C_m_notJudged {ad : Nat → Nat} {Z : ZT} (p1 : Int32) (p2 : Int32) (p3 : Int32) (σ : MS) : CO yX10_notJudged M_m_notJudged eI Z (wM ad Z) [.ref (ad 0), .int p1, .int p2, .int p3] (wsM ad Z σ) (m_notJudged p1 p2 p3 σ) :=
  CO.of rfl rfl (Nat.le_of_ble_eq_true rfl) 1 (fun X hZ => by subst hZ; exact J_m_notJudged _ _ _ σ)
theorem K_m_notJudged : Kv yX10_notJudged M_m_notJudged RX10 3 := ⟨rfl, k7_0, s6_11, k1_10, k7_1, by decide +kernel⟩
abbrev M_m_judge : JM := (cX10_judge, 6, RX10, (some .int), 8, 171)
def m_judge_l31 : Nat → Int32 → Int32 → Int32 → Int32 → MS → Option (Int32 × MS)
  | 0, _, _, _, _, _ => none
  | n + 1, x1, x2, x3, x5, σ =>
    if x3 ≤ x5 then (
      some ((-1), σ))
    else (
      if inB ((160 * x1) + x5) 1280 = true then
      if inB ((6 * x5) + x2) 366 = true then
      if (Int64.toInt32 (mE σ (ix ((160 * x1) + x5)))) = mA σ 25 (ix ((6 * x5) + x2)) then (
        m_judge_l31 n x1 x2 x3 (x5 + 1) σ)
      else (
        some (x5, σ))
      else none
      else none)
def m_judge (p1 : Int32) (p2 : Int32) (p3 : Int32) (σ : MS) : Option (Int32 × MS) :=
  (m_notJudged p1 p2 p3 σ).bind fun a1 =>
  if a1.1 = 0 then (
    (m_runs a1.2).bind fun a2 =>
    m_judge_l31 4096 p1 p2 p3 0 a2.2)
  else (
    (m_no a1.1 a1.2).bind fun a3 =>
    some ((a3.1 - 10), a3.2))
theorem J_m_judge_l31 {X : JX} {ad : Nat → Nat} : ∀ (n : Nat) (x1 : Int32) (x2 : Int32) (x3 : Int32) (x5 : Int32) (σ : MS), JO X M_m_judge (QF X eI (wM ad (xZ X))) 31 [some (.ref (ad 0)), some (.int x1), some (.int x2), some (.int x3), none, some (.int x5)] [] (wsM ad (xZ X) σ) (m_judge_l31 n x1 x2 x3 x5 σ) := by
  intro n
  induction n with
  | zero => intro x1 x2 x3 x5 σ; exact JO.nil
  | succ n ih =>
    intro x1 x2 x3 x5 σ
    unfold m_judge_l31
    refine JO.iload dX10_judge_31 rfl ?_
    refine JO.iloadn dX10_judge_33 rfl ?_
    refine JO.icmp_ge 75 dX10_judge_34 rfl ?_ ?_
    · refine JO.ic (-1) dX10_judge_75 (by decide) ?_
      exact JO.iret dX10_judge_76 rfl rfl rfl
    · refine JO.aloadn dX10_judge_37 rfl ?_
      refine gM30 dX10_judge_38 rfl ?_
      refine JO.sip 160 dX10_judge_41 (by decide) ?_
      refine JO.iloadn dX10_judge_44 rfl ?_
      refine JO.imul dX10_judge_45 ?_
      refine JO.iload dX10_judge_46 rfl ?_
      refine JO.iadd dX10_judge_48 ?_
      refine aM30 dX10_judge_49 ?_
      refine JO.l2i dX10_judge_50 ?_
      refine JO.aloadn dX10_judge_51 rfl ?_
      refine gM25 dX10_judge_52 rfl ?_
      refine JO.bip 6 dX10_judge_55 (by decide) ?_
      refine JO.iload dX10_judge_57 rfl ?_
      refine JO.imul dX10_judge_59 ?_
      refine JO.iloadn dX10_judge_60 rfl ?_
      refine JO.iadd dX10_judge_61 ?_
      refine aM25 dX10_judge_62 ?_
      refine JO.icmp_eq 69 dX10_judge_63 rfl ?_ ?_
      · refine JO.iinc dX10_judge_69 rfl 1 (by decide) rfl rfl ?_
        refine JO.goto 31 dX10_judge_72 rfl ?_
        exact (ih _ _ _ _ _).jump (lvLe.so rfl (lvLe.so rfl (lvLe.so rfl (lvLe.so rfl (lvLe.no (lvLe.so rfl (lvLe.nil)))))))
      · refine JO.iload dX10_judge_66 rfl ?_
        exact JO.iret dX10_judge_68 rfl rfl rfl
theorem J_m_judge {X : JX} {ad : Nat → Nat} (p1 : Int32) (p2 : Int32) (p3 : Int32) (σ : MS) : JO X M_m_judge (QF X eI (wM ad (xZ X))) 0 [some (.ref (ad 0)), some (.int p1), some (.int p2), some (.int p3), none, none] [] (wsM ad (xZ X) σ) (m_judge p1 p2 p3 σ) := by
  unfold m_judge
  refine JO.aloadn dX10_judge_0 rfl ?_
  refine JO.iloadn dX10_judge_1 rfl ?_
  refine JO.iloadn dX10_judge_2 rfl ?_
  refine JO.iloadn dX10_judge_3 rfl ?_
  refine JO.mvi (C_m_notJudged _ _ _ _) K_m_notJudged k6_238 rfl rfl rfl (Nat.le_of_ble_eq_true rfl) dX10_judge_4 (fun a1 => ?_)
  refine JO.istore dX10_judge_7 rfl rfl ?_
  refine JO.iload dX10_judge_9 rfl ?_
  refine JO.if_eq 24 dX10_judge_11 rfl ?_ ?_
  · refine JO.aloadn dX10_judge_24 rfl ?_
    refine JO.mvv (C_m_runs _) K_m_runs k5_172 rfl rfl rfl (Nat.le_of_ble_eq_true rfl) dX10_judge_25 (fun a2 => ?_)
    refine JO.ic 0 dX10_judge_28 (by decide) ?_
    refine JO.istore dX10_judge_29 rfl rfl ?_
    exact (J_m_judge_l31 4096 _ _ _ _ _).jump (lvLe.so rfl (lvLe.so rfl (lvLe.so rfl (lvLe.so rfl (lvLe.no (lvLe.so rfl (lvLe.nil)))))))
  · refine JO.aloadn dX10_judge_14 rfl ?_
    refine JO.iload dX10_judge_15 rfl ?_
    refine JO.mvi (C_m_no _ _) K_m_no k5_137 rfl rfl rfl (Nat.le_of_ble_eq_true rfl) dX10_judge_17 (fun a3 => ?_)
    refine JO.bip 10 dX10_judge_20 (by decide) ?_
    refine JO.isub dX10_judge_22 ?_
    exact JO.iret dX10_judge_23 rfl rfl rfl
theorem C_m_judge {ad : Nat → Nat} {Z : ZT} (p1 : Int32) (p2 : Int32) (p3 : Int32) (σ : MS) : CO yX10_judge M_m_judge eI Z (wM ad Z) [.ref (ad 0), .int p1, .int p2, .int p3] (wsM ad Z σ) (m_judge p1 p2 p3 σ) :=
  CO.of rfl rfl (Nat.le_of_ble_eq_true rfl) 2 (fun X hZ => by subst hZ; exact J_m_judge _ _ _ σ)
theorem K_m_judge : Kv yX10_judge M_m_judge RX10 3 := ⟨rfl, k6_235, k6_236, k1_10, k6_237, by decide +kernel⟩
abbrev M_m_draw : JM := (cX10_draw, 2, RX10, (some .int), 0, 0)
def m_draw (p1 : Int32) (σ : MS) : Option (Int32 × MS) :=
  if p1 = 0 then none else
  some (((((mI σ 9 * 1103515245) + 12345).toUInt32 >>> (Int32.toUInt32 16 &&& Int32.toUInt32 31)).toInt32 - ((((mI σ 9 * 1103515245) + 12345).toUInt32 >>> (Int32.toUInt32 16 &&& Int32.toUInt32 31)).toInt32) / p1 * p1), sI σ 9 ((mI σ 9 * 1103515245) + 12345))
theorem J_m_draw {X : JX} {ad : Nat → Nat} (p1 : Int32) (σ : MS) : JO X M_m_draw (QF X eI (wM ad (xZ X))) 0 [some (.ref (ad 0)), some (.int p1)] [] (wsM ad (xZ X) σ) (m_draw p1 σ) := by
  unfold m_draw
  refine JO.aloadn dX10_draw_0 rfl ?_
  refine JO.aloadn dX10_draw_1 rfl ?_
  refine gM9 dX10_draw_2 rfl ?_
  refine JO.ldcw (v := 1103515245) k7_10 dX10_draw_5 ?_
  refine JO.imul dX10_draw_8 ?_
  refine JO.sip 12345 dX10_draw_9 (by decide) ?_
  refine JO.iadd dX10_draw_12 ?_
  refine pM9 dX10_draw_13 rfl ?_
  refine JO.aloadn dX10_draw_16 rfl ?_
  refine gM9 dX10_draw_17 rfl ?_
  refine JO.bip 16 dX10_draw_20 (by decide) ?_
  refine JO.iushr dX10_draw_22 ?_
  refine JO.iloadn dX10_draw_23 rfl ?_
  refine JO.irem dX10_draw_24 ?_
  exact JO.iret dX10_draw_25 rfl rfl rfl
theorem C_m_draw {ad : Nat → Nat} {Z : ZT} (p1 : Int32) (σ : MS) : CO yX10_draw M_m_draw eI Z (wM ad Z) [.ref (ad 0), .int p1] (wsM ad Z σ) (m_draw p1 σ) :=
  CO.of rfl rfl (Nat.le_of_ble_eq_true rfl) 0 (fun X hZ => by subst hZ; exact J_m_draw _ σ)
theorem K_m_draw : Kv yX10_draw M_m_draw RX10 1 := ⟨rfl, k7_8, s6_12, k1_10, k7_9, by decide +kernel⟩
abbrev M_m_drawn : JM := (cX10_drawn, 3, RX10, (some .int), 1, 22)
def m_drawn_b42 (σ : MS) : Option (Int32 × MS) :=
  (m_manyLosses σ).bind fun a1 =>
  some (a1.1, a1.2)
def m_drawn_l19 : Nat → Int32 → Int32 → MS → Option (Int32 × MS)
  | 0, _, _, _ => none
  | n + 1, x1, x2, σ =>
    if x1 ≤ x2 then (
      m_drawn_b42 σ)
    else (
      (m_draw 60 σ).bind fun a1 =>
      if inB a1.1 60 = true then
      m_drawn_l19 n x1 (x2 + 1) (sA a1.2 2 (ix a1.1) 1)
      else none)
def m_drawn (p1 : Int32) (σ : MS) : Option (Int32 × MS) :=
  (m_isIn p1 1 20 σ).bind fun a1 =>
  if a1.1 = true then (
    m_drawn_l19 4096 p1 0 a1.2)
  else (
    (m_no (-6) a1.2).bind fun a2 =>
    some (a2.1, a2.2))
theorem J_m_drawn_b42 {X : JX} {ad : Nat → Nat} (σ : MS) : JO X M_m_drawn (QF X eI (wM ad (xZ X))) 42 [some (.ref (ad 0)), none, none] [] (wsM ad (xZ X) σ) (m_drawn_b42 σ) := by
  unfold m_drawn_b42
  refine JO.aloadn dX10_drawn_42 rfl ?_
  refine JO.mvi (C_m_manyLosses _) K_m_manyLosses k6_123 rfl rfl rfl (Nat.le_of_ble_eq_true rfl) dX10_drawn_43 (fun a1 => ?_)
  exact JO.iret dX10_drawn_46 rfl rfl rfl
theorem J_m_drawn_l19 {X : JX} {ad : Nat → Nat} : ∀ (n : Nat) (x1 : Int32) (x2 : Int32) (σ : MS), JO X M_m_drawn (QF X eI (wM ad (xZ X))) 19 [some (.ref (ad 0)), some (.int x1), some (.int x2)] [] (wsM ad (xZ X) σ) (m_drawn_l19 n x1 x2 σ) := by
  intro n
  induction n with
  | zero => intro x1 x2 σ; exact JO.nil
  | succ n ih =>
    intro x1 x2 σ
    unfold m_drawn_l19
    refine JO.iloadn dX10_drawn_19 rfl ?_
    refine JO.iloadn dX10_drawn_20 rfl ?_
    refine JO.icmp_ge 42 dX10_drawn_21 rfl ?_ ?_
    · exact (J_m_drawn_b42 _).jump (lvLe.so rfl (lvLe.no (lvLe.no (lvLe.nil))))
    · refine JO.aloadn dX10_drawn_24 rfl ?_
      refine gM2 dX10_drawn_25 rfl ?_
      refine JO.aloadn dX10_drawn_28 rfl ?_
      refine JO.bip 60 dX10_drawn_29 (by decide) ?_
      refine JO.mvi (C_m_draw _ _) K_m_draw k7_6 rfl rfl rfl (Nat.le_of_ble_eq_true rfl) dX10_drawn_31 (fun a1 => ?_)
      refine JO.ic 1 dX10_drawn_34 (by decide) ?_
      refine uM2 dX10_drawn_35 ?_
      refine JO.iinc dX10_drawn_36 rfl 1 (by decide) rfl rfl ?_
      refine JO.goto 19 dX10_drawn_39 rfl ?_
      exact (ih _ _ _).jump (lvLe.so rfl (lvLe.so rfl (lvLe.so rfl (lvLe.nil))))
theorem J_m_drawn {X : JX} {ad : Nat → Nat} (p1 : Int32) (σ : MS) : JO X M_m_drawn (QF X eI (wM ad (xZ X))) 0 [some (.ref (ad 0)), some (.int p1), none] [] (wsM ad (xZ X) σ) (m_drawn p1 σ) := by
  unfold m_drawn
  refine JO.iloadn dX10_drawn_0 rfl ?_
  refine JO.ic 1 dX10_drawn_1 (by decide) ?_
  refine JO.bip 20 dX10_drawn_2 (by decide) ?_
  refine JO.msz (C_m_isIn _ _ _ _) K_m_isIn k5_134 rfl rfl rfl (Nat.le_of_ble_eq_true rfl) dX10_drawn_4 (fun a1 => ?_)
  refine JO.zne 17 dX10_drawn_7 rfl ?_ ?_
  · refine JO.ic 0 dX10_drawn_17 (by decide) ?_
    refine JO.istoren dX10_drawn_18 rfl rfl ?_
    exact (J_m_drawn_l19 4096 _ _ _).jump (lvLe.so rfl (lvLe.so rfl (lvLe.so rfl (lvLe.nil))))
  · refine JO.aloadn dX10_drawn_10 rfl ?_
    refine JO.bip (-6) dX10_drawn_11 (by decide) ?_
    refine JO.mvi (C_m_no _ _) K_m_no k5_137 rfl rfl rfl (Nat.le_of_ble_eq_true rfl) dX10_drawn_13 (fun a2 => ?_)
    exact JO.iret dX10_drawn_16 rfl rfl rfl
theorem C_m_drawn {ad : Nat → Nat} {Z : ZT} (p1 : Int32) (σ : MS) : CO yX10_drawn M_m_drawn eI Z (wM ad Z) [.ref (ad 0), .int p1] (wsM ad Z σ) (m_drawn p1 σ) :=
  CO.of rfl rfl (Nat.le_of_ble_eq_true rfl) 1 (fun X hZ => by subst hZ; exact J_m_drawn _ σ)
theorem K_m_drawn : Kv yX10_drawn M_m_drawn RX10 1 := ⟨rfl, k7_3, k7_4, k1_10, k7_5, by decide +kernel⟩
abbrev M_m_seed : JM := (cX10_seed, 3, RX10, (some .int), 0, 0)
def m_seed (p1 : Int32) (σ : MS) : Option (Int32 × MS) :=
  some (mI σ 9, sI σ 9 p1)
theorem J_m_seed {X : JX} {ad : Nat → Nat} (p1 : Int32) (σ : MS) : JO X M_m_seed (QF X eI (wM ad (xZ X))) 0 [some (.ref (ad 0)), some (.int p1), none] [] (wsM ad (xZ X) σ) (m_seed p1 σ) := by
  unfold m_seed
  refine JO.aloadn dX10_seed_0 rfl ?_
  refine gM9 dX10_seed_1 rfl ?_
  refine JO.istoren dX10_seed_4 rfl rfl ?_
  refine JO.aloadn dX10_seed_5 rfl ?_
  refine JO.iloadn dX10_seed_6 rfl ?_
  refine pM9 dX10_seed_7 rfl ?_
  refine JO.iloadn dX10_seed_10 rfl ?_
  exact JO.iret dX10_seed_11 rfl rfl rfl
theorem C_m_seed {ad : Nat → Nat} {Z : ZT} (p1 : Int32) (σ : MS) : CO yX10_seed M_m_seed eI Z (wM ad Z) [.ref (ad 0), .int p1] (wsM ad Z σ) (m_seed p1 σ) :=
  CO.of rfl rfl (Nat.le_of_ble_eq_true rfl) 1 (fun X hZ => by subst hZ; exact J_m_seed _ σ)
theorem K_m_seed : Kv yX10_seed M_m_seed RX10 1 := ⟨rfl, k7_12, k7_13, k1_10, k7_14, by decide +kernel⟩
abbrev M_m_passes_1 : JM := (cX10_passes, 3, RX10, none, 0, 0)
def m_passes_1_b42 (k2 : Int32 → MS → Option (Unit × MS)) (x2 : Int32) (σ : MS) : Option (Unit × MS) :=
  k2 (x2 + 1) (sI σ 42 (mI σ 42 + 1))
def m_passes_1_l2 : Nat → Int32 → MS → Option (Unit × MS)
  | 0, _, _ => none
  | n + 1, x2, σ =>
    if 6 ≤ x2 then (
      some ((), σ))
    else (
      if mZ σ 41 = true then (
        if inB x2 6 = true then
        if inB (mI σ 42) 90 = true then
        m_passes_1_b42 (fun x2 σ => m_passes_1_l2 n x2 σ) x2 (sA σ 39 (ix (mI σ 42)) (mA σ 1 (ix x2)))
        else none
        else none)
      else (
        if inB (mI σ 42) 90 = true then
        if inB x2 6 = true then
        m_passes_1_b42 (fun x2 σ => m_passes_1_l2 n x2 σ) x2 (sA σ 1 (ix x2) (mA σ 39 (ix (mI σ 42))))
        else none
        else none))
def m_passes_1 (σ : MS) : Option (Unit × MS) :=
  m_passes_1_l2 4096 0 σ
theorem J_m_passes_1_b42 {X : JX} {ad : Nat → Nat} {k2 : Int32 → MS → Option (Unit × MS)} (hk2 : ∀ (x2 : Int32) (σ : MS), JO X M_m_passes_1 (QF X eV (wM ad (xZ X))) 2 [some (.ref (ad 0)), some (.ref (ad 2)), some (.int x2)] [] (wsM ad (xZ X) σ) (k2 x2 σ)) (x2 : Int32) (σ : MS) : JO X M_m_passes_1 (QF X eV (wM ad (xZ X))) 42 [some (.ref (ad 0)), some (.ref (ad 2)), some (.int x2)] [] (wsM ad (xZ X) σ) (m_passes_1_b42 k2 x2 σ) := by
  unfold m_passes_1_b42
  refine JO.aloadn dX10_passes_42 rfl ?_
  refine JO.dup dX10_passes_43 rfl ?_
  refine gM42 dX10_passes_44 rfl ?_
  refine JO.ic 1 dX10_passes_47 (by decide) ?_
  refine JO.iadd dX10_passes_48 ?_
  refine pM42 dX10_passes_49 rfl ?_
  refine JO.iinc dX10_passes_52 rfl 1 (by decide) rfl rfl ?_
  refine JO.goto 2 dX10_passes_55 rfl ?_
  exact (hk2 _ _).jump (lvLe.so rfl (lvLe.so rfl (lvLe.so rfl (lvLe.nil))))
theorem J_m_passes_1_l2 {X : JX} {ad : Nat → Nat} : ∀ (n : Nat) (x2 : Int32) (σ : MS), JO X M_m_passes_1 (QF X eV (wM ad (xZ X))) 2 [some (.ref (ad 0)), some (.ref (ad 2)), some (.int x2)] [] (wsM ad (xZ X) σ) (m_passes_1_l2 n x2 σ) := by
  intro n
  induction n with
  | zero => intro x2 σ; exact JO.nil
  | succ n ih =>
    intro x2 σ
    unfold m_passes_1_l2
    refine JO.iloadn dX10_passes_2 rfl ?_
    refine JO.aloadn dX10_passes_3 rfl ?_
    refine nM1 dX10_passes_4 ?_
    refine JO.icmp_ge 58 dX10_passes_5 rfl ?_ ?_
    · exact JO.vret dX10_passes_58 rfl rfl rfl
    · refine JO.aloadn dX10_passes_8 rfl ?_
      refine gM41 dX10_passes_9 rfl ?_
      refine JO.zeq 30 dX10_passes_12 rfl ?_ ?_
      · refine JO.aloadn dX10_passes_30 rfl ?_
        refine JO.iloadn dX10_passes_31 rfl ?_
        refine JO.aloadn dX10_passes_32 rfl ?_
        refine gM39 dX10_passes_33 rfl ?_
        refine JO.aloadn dX10_passes_36 rfl ?_
        refine gM42 dX10_passes_37 rfl ?_
        refine aM39 dX10_passes_40 ?_
        refine uM1 dX10_passes_41 ?_
        exact (J_m_passes_1_b42 ih _ _).jump (lvLe.so rfl (lvLe.so rfl (lvLe.so rfl (lvLe.nil))))
      · refine JO.aloadn dX10_passes_15 rfl ?_
        refine gM39 dX10_passes_16 rfl ?_
        refine JO.aloadn dX10_passes_19 rfl ?_
        refine gM42 dX10_passes_20 rfl ?_
        refine JO.aloadn dX10_passes_23 rfl ?_
        refine JO.iloadn dX10_passes_24 rfl ?_
        refine aM1 dX10_passes_25 ?_
        refine uM39 dX10_passes_26 ?_
        refine JO.goto 42 dX10_passes_27 rfl ?_
        exact (J_m_passes_1_b42 ih _ _).jump (lvLe.so rfl (lvLe.so rfl (lvLe.so rfl (lvLe.nil))))
theorem J_m_passes_1 {X : JX} {ad : Nat → Nat} (σ : MS) : JO X M_m_passes_1 (QF X eV (wM ad (xZ X))) 0 [some (.ref (ad 0)), some (.ref (ad 2)), none] [] (wsM ad (xZ X) σ) (m_passes_1 σ) := by
  unfold m_passes_1
  refine JO.ic 0 dX10_passes_0 (by decide) ?_
  refine JO.istoren dX10_passes_1 rfl rfl ?_
  exact (J_m_passes_1_l2 4096 _ _).jump (lvLe.so rfl (lvLe.so rfl (lvLe.so rfl (lvLe.nil))))
theorem C_m_passes_1 {ad : Nat → Nat} {Z : ZT} (σ : MS) : CO yX10_passes M_m_passes_1 eV Z (wM ad Z) [.ref (ad 0), .ref (ad 2)] (wsM ad Z σ) (m_passes_1 σ) :=
  CO.of rfl rfl (Nat.le_of_ble_eq_true rfl) 1 (fun X hZ => by subst hZ; exact J_m_passes_1 σ)
theorem K_m_passes_1 : Kv yX10_passes M_m_passes_1 RX10 1 := ⟨rfl, k7_25, s6_14, k1_10, k7_26, by decide +kernel⟩
abbrev M_m_passes_2 : JM := (cX10_passes, 3, RX10, none, 0, 0)
def m_passes_2_b42 (k2 : Int32 → MS → Option (Unit × MS)) (x2 : Int32) (σ : MS) : Option (Unit × MS) :=
  k2 (x2 + 1) (sI σ 42 (mI σ 42 + 1))
def m_passes_2_l2 : Nat → Int32 → MS → Option (Unit × MS)
  | 0, _, _ => none
  | n + 1, x2, σ =>
    if 60 ≤ x2 then (
      some ((), σ))
    else (
      if mZ σ 41 = true then (
        if inB x2 60 = true then
        if inB (mI σ 42) 90 = true then
        m_passes_2_b42 (fun x2 σ => m_passes_2_l2 n x2 σ) x2 (sA σ 39 (ix (mI σ 42)) (mA σ 2 (ix x2)))
        else none
        else none)
      else (
        if inB (mI σ 42) 90 = true then
        if inB x2 60 = true then
        m_passes_2_b42 (fun x2 σ => m_passes_2_l2 n x2 σ) x2 (sA σ 2 (ix x2) (mA σ 39 (ix (mI σ 42))))
        else none
        else none))
def m_passes_2 (σ : MS) : Option (Unit × MS) :=
  m_passes_2_l2 4096 0 σ
theorem J_m_passes_2_b42 {X : JX} {ad : Nat → Nat} {k2 : Int32 → MS → Option (Unit × MS)} (hk2 : ∀ (x2 : Int32) (σ : MS), JO X M_m_passes_2 (QF X eV (wM ad (xZ X))) 2 [some (.ref (ad 0)), some (.ref (ad 3)), some (.int x2)] [] (wsM ad (xZ X) σ) (k2 x2 σ)) (x2 : Int32) (σ : MS) : JO X M_m_passes_2 (QF X eV (wM ad (xZ X))) 42 [some (.ref (ad 0)), some (.ref (ad 3)), some (.int x2)] [] (wsM ad (xZ X) σ) (m_passes_2_b42 k2 x2 σ) := by
  unfold m_passes_2_b42
  refine JO.aloadn dX10_passes_42 rfl ?_
  refine JO.dup dX10_passes_43 rfl ?_
  refine gM42 dX10_passes_44 rfl ?_
  refine JO.ic 1 dX10_passes_47 (by decide) ?_
  refine JO.iadd dX10_passes_48 ?_
  refine pM42 dX10_passes_49 rfl ?_
  refine JO.iinc dX10_passes_52 rfl 1 (by decide) rfl rfl ?_
  refine JO.goto 2 dX10_passes_55 rfl ?_
  exact (hk2 _ _).jump (lvLe.so rfl (lvLe.so rfl (lvLe.so rfl (lvLe.nil))))
theorem J_m_passes_2_l2 {X : JX} {ad : Nat → Nat} : ∀ (n : Nat) (x2 : Int32) (σ : MS), JO X M_m_passes_2 (QF X eV (wM ad (xZ X))) 2 [some (.ref (ad 0)), some (.ref (ad 3)), some (.int x2)] [] (wsM ad (xZ X) σ) (m_passes_2_l2 n x2 σ) := by
  intro n
  induction n with
  | zero => intro x2 σ; exact JO.nil
  | succ n ih =>
    intro x2 σ
    unfold m_passes_2_l2
    refine JO.iloadn dX10_passes_2 rfl ?_
    refine JO.aloadn dX10_passes_3 rfl ?_
    refine nM2 dX10_passes_4 ?_
    refine JO.icmp_ge 58 dX10_passes_5 rfl ?_ ?_
    · exact JO.vret dX10_passes_58 rfl rfl rfl
    · refine JO.aloadn dX10_passes_8 rfl ?_
      refine gM41 dX10_passes_9 rfl ?_
      refine JO.zeq 30 dX10_passes_12 rfl ?_ ?_
      · refine JO.aloadn dX10_passes_30 rfl ?_
        refine JO.iloadn dX10_passes_31 rfl ?_
        refine JO.aloadn dX10_passes_32 rfl ?_
        refine gM39 dX10_passes_33 rfl ?_
        refine JO.aloadn dX10_passes_36 rfl ?_
        refine gM42 dX10_passes_37 rfl ?_
        refine aM39 dX10_passes_40 ?_
        refine uM2 dX10_passes_41 ?_
        exact (J_m_passes_2_b42 ih _ _).jump (lvLe.so rfl (lvLe.so rfl (lvLe.so rfl (lvLe.nil))))
      · refine JO.aloadn dX10_passes_15 rfl ?_
        refine gM39 dX10_passes_16 rfl ?_
        refine JO.aloadn dX10_passes_19 rfl ?_
        refine gM42 dX10_passes_20 rfl ?_
        refine JO.aloadn dX10_passes_23 rfl ?_
        refine JO.iloadn dX10_passes_24 rfl ?_
        refine aM2 dX10_passes_25 ?_
        refine uM39 dX10_passes_26 ?_
        refine JO.goto 42 dX10_passes_27 rfl ?_
        exact (J_m_passes_2_b42 ih _ _).jump (lvLe.so rfl (lvLe.so rfl (lvLe.so rfl (lvLe.nil))))
theorem J_m_passes_2 {X : JX} {ad : Nat → Nat} (σ : MS) : JO X M_m_passes_2 (QF X eV (wM ad (xZ X))) 0 [some (.ref (ad 0)), some (.ref (ad 3)), none] [] (wsM ad (xZ X) σ) (m_passes_2 σ) := by
  unfold m_passes_2
  refine JO.ic 0 dX10_passes_0 (by decide) ?_
  refine JO.istoren dX10_passes_1 rfl rfl ?_
  exact (J_m_passes_2_l2 4096 _ _).jump (lvLe.so rfl (lvLe.so rfl (lvLe.so rfl (lvLe.nil))))
theorem C_m_passes_2 {ad : Nat → Nat} {Z : ZT} (σ : MS) : CO yX10_passes M_m_passes_2 eV Z (wM ad Z) [.ref (ad 0), .ref (ad 3)] (wsM ad Z σ) (m_passes_2 σ) :=
  CO.of rfl rfl (Nat.le_of_ble_eq_true rfl) 1 (fun X hZ => by subst hZ; exact J_m_passes_2 σ)
theorem K_m_passes_2 : Kv yX10_passes M_m_passes_2 RX10 1 := ⟨rfl, k7_25, s6_14, k1_10, k7_26, by decide +kernel⟩
abbrev M_m_passes_3 : JM := (cX10_passes, 3, RX10, none, 0, 0)
def m_passes_3_b42 (k2 : Int32 → MS → Option (Unit × MS)) (x2 : Int32) (σ : MS) : Option (Unit × MS) :=
  k2 (x2 + 1) (sI σ 42 (mI σ 42 + 1))
def m_passes_3_l2 : Nat → Int32 → MS → Option (Unit × MS)
  | 0, _, _ => none
  | n + 1, x2, σ =>
    if 6 ≤ x2 then (
      some ((), σ))
    else (
      if mZ σ 41 = true then (
        if inB x2 6 = true then
        if inB (mI σ 42) 90 = true then
        m_passes_3_b42 (fun x2 σ => m_passes_3_l2 n x2 σ) x2 (sA σ 39 (ix (mI σ 42)) (mA σ 3 (ix x2)))
        else none
        else none)
      else (
        if inB (mI σ 42) 90 = true then
        if inB x2 6 = true then
        m_passes_3_b42 (fun x2 σ => m_passes_3_l2 n x2 σ) x2 (sA σ 3 (ix x2) (mA σ 39 (ix (mI σ 42))))
        else none
        else none))
def m_passes_3 (σ : MS) : Option (Unit × MS) :=
  m_passes_3_l2 4096 0 σ
theorem J_m_passes_3_b42 {X : JX} {ad : Nat → Nat} {k2 : Int32 → MS → Option (Unit × MS)} (hk2 : ∀ (x2 : Int32) (σ : MS), JO X M_m_passes_3 (QF X eV (wM ad (xZ X))) 2 [some (.ref (ad 0)), some (.ref (ad 4)), some (.int x2)] [] (wsM ad (xZ X) σ) (k2 x2 σ)) (x2 : Int32) (σ : MS) : JO X M_m_passes_3 (QF X eV (wM ad (xZ X))) 42 [some (.ref (ad 0)), some (.ref (ad 4)), some (.int x2)] [] (wsM ad (xZ X) σ) (m_passes_3_b42 k2 x2 σ) := by
  unfold m_passes_3_b42
  refine JO.aloadn dX10_passes_42 rfl ?_
  refine JO.dup dX10_passes_43 rfl ?_
  refine gM42 dX10_passes_44 rfl ?_
  refine JO.ic 1 dX10_passes_47 (by decide) ?_
  refine JO.iadd dX10_passes_48 ?_
  refine pM42 dX10_passes_49 rfl ?_
  refine JO.iinc dX10_passes_52 rfl 1 (by decide) rfl rfl ?_
  refine JO.goto 2 dX10_passes_55 rfl ?_
  exact (hk2 _ _).jump (lvLe.so rfl (lvLe.so rfl (lvLe.so rfl (lvLe.nil))))
theorem J_m_passes_3_l2 {X : JX} {ad : Nat → Nat} : ∀ (n : Nat) (x2 : Int32) (σ : MS), JO X M_m_passes_3 (QF X eV (wM ad (xZ X))) 2 [some (.ref (ad 0)), some (.ref (ad 4)), some (.int x2)] [] (wsM ad (xZ X) σ) (m_passes_3_l2 n x2 σ) := by
  intro n
  induction n with
  | zero => intro x2 σ; exact JO.nil
  | succ n ih =>
    intro x2 σ
    unfold m_passes_3_l2
    refine JO.iloadn dX10_passes_2 rfl ?_
    refine JO.aloadn dX10_passes_3 rfl ?_
    refine nM3 dX10_passes_4 ?_
    refine JO.icmp_ge 58 dX10_passes_5 rfl ?_ ?_
    · exact JO.vret dX10_passes_58 rfl rfl rfl
    · refine JO.aloadn dX10_passes_8 rfl ?_
      refine gM41 dX10_passes_9 rfl ?_
      refine JO.zeq 30 dX10_passes_12 rfl ?_ ?_
      · refine JO.aloadn dX10_passes_30 rfl ?_
        refine JO.iloadn dX10_passes_31 rfl ?_
        refine JO.aloadn dX10_passes_32 rfl ?_
        refine gM39 dX10_passes_33 rfl ?_
        refine JO.aloadn dX10_passes_36 rfl ?_
        refine gM42 dX10_passes_37 rfl ?_
        refine aM39 dX10_passes_40 ?_
        refine uM3 dX10_passes_41 ?_
        exact (J_m_passes_3_b42 ih _ _).jump (lvLe.so rfl (lvLe.so rfl (lvLe.so rfl (lvLe.nil))))
      · refine JO.aloadn dX10_passes_15 rfl ?_
        refine gM39 dX10_passes_16 rfl ?_
        refine JO.aloadn dX10_passes_19 rfl ?_
        refine gM42 dX10_passes_20 rfl ?_
        refine JO.aloadn dX10_passes_23 rfl ?_
        refine JO.iloadn dX10_passes_24 rfl ?_
        refine aM3 dX10_passes_25 ?_
        refine uM39 dX10_passes_26 ?_
        refine JO.goto 42 dX10_passes_27 rfl ?_
        exact (J_m_passes_3_b42 ih _ _).jump (lvLe.so rfl (lvLe.so rfl (lvLe.so rfl (lvLe.nil))))
theorem J_m_passes_3 {X : JX} {ad : Nat → Nat} (σ : MS) : JO X M_m_passes_3 (QF X eV (wM ad (xZ X))) 0 [some (.ref (ad 0)), some (.ref (ad 4)), none] [] (wsM ad (xZ X) σ) (m_passes_3 σ) := by
  unfold m_passes_3
  refine JO.ic 0 dX10_passes_0 (by decide) ?_
  refine JO.istoren dX10_passes_1 rfl rfl ?_
  exact (J_m_passes_3_l2 4096 _ _).jump (lvLe.so rfl (lvLe.so rfl (lvLe.so rfl (lvLe.nil))))
theorem C_m_passes_3 {ad : Nat → Nat} {Z : ZT} (σ : MS) : CO yX10_passes M_m_passes_3 eV Z (wM ad Z) [.ref (ad 0), .ref (ad 4)] (wsM ad Z σ) (m_passes_3 σ) :=
  CO.of rfl rfl (Nat.le_of_ble_eq_true rfl) 1 (fun X hZ => by subst hZ; exact J_m_passes_3 σ)
theorem K_m_passes_3 : Kv yX10_passes M_m_passes_3 RX10 1 := ⟨rfl, k7_25, s6_14, k1_10, k7_26, by decide +kernel⟩
abbrev M_m_passes_4 : JM := (cX10_passes, 3, RX10, none, 0, 0)
def m_passes_4_b42 (k2 : Int32 → MS → Option (Unit × MS)) (x2 : Int32) (σ : MS) : Option (Unit × MS) :=
  k2 (x2 + 1) (sI σ 42 (mI σ 42 + 1))
def m_passes_4_l2 : Nat → Int32 → MS → Option (Unit × MS)
  | 0, _, _ => none
  | n + 1, x2, σ =>
    if 6 ≤ x2 then (
      some ((), σ))
    else (
      if mZ σ 41 = true then (
        if inB x2 6 = true then
        if inB (mI σ 42) 90 = true then
        m_passes_4_b42 (fun x2 σ => m_passes_4_l2 n x2 σ) x2 (sA σ 39 (ix (mI σ 42)) (mA σ 4 (ix x2)))
        else none
        else none)
      else (
        if inB (mI σ 42) 90 = true then
        if inB x2 6 = true then
        m_passes_4_b42 (fun x2 σ => m_passes_4_l2 n x2 σ) x2 (sA σ 4 (ix x2) (mA σ 39 (ix (mI σ 42))))
        else none
        else none))
def m_passes_4 (σ : MS) : Option (Unit × MS) :=
  m_passes_4_l2 4096 0 σ
theorem J_m_passes_4_b42 {X : JX} {ad : Nat → Nat} {k2 : Int32 → MS → Option (Unit × MS)} (hk2 : ∀ (x2 : Int32) (σ : MS), JO X M_m_passes_4 (QF X eV (wM ad (xZ X))) 2 [some (.ref (ad 0)), some (.ref (ad 5)), some (.int x2)] [] (wsM ad (xZ X) σ) (k2 x2 σ)) (x2 : Int32) (σ : MS) : JO X M_m_passes_4 (QF X eV (wM ad (xZ X))) 42 [some (.ref (ad 0)), some (.ref (ad 5)), some (.int x2)] [] (wsM ad (xZ X) σ) (m_passes_4_b42 k2 x2 σ) := by
  unfold m_passes_4_b42
  refine JO.aloadn dX10_passes_42 rfl ?_
  refine JO.dup dX10_passes_43 rfl ?_
  refine gM42 dX10_passes_44 rfl ?_
  refine JO.ic 1 dX10_passes_47 (by decide) ?_
  refine JO.iadd dX10_passes_48 ?_
  refine pM42 dX10_passes_49 rfl ?_
  refine JO.iinc dX10_passes_52 rfl 1 (by decide) rfl rfl ?_
  refine JO.goto 2 dX10_passes_55 rfl ?_
  exact (hk2 _ _).jump (lvLe.so rfl (lvLe.so rfl (lvLe.so rfl (lvLe.nil))))
theorem J_m_passes_4_l2 {X : JX} {ad : Nat → Nat} : ∀ (n : Nat) (x2 : Int32) (σ : MS), JO X M_m_passes_4 (QF X eV (wM ad (xZ X))) 2 [some (.ref (ad 0)), some (.ref (ad 5)), some (.int x2)] [] (wsM ad (xZ X) σ) (m_passes_4_l2 n x2 σ) := by
  intro n
  induction n with
  | zero => intro x2 σ; exact JO.nil
  | succ n ih =>
    intro x2 σ
    unfold m_passes_4_l2
    refine JO.iloadn dX10_passes_2 rfl ?_
    refine JO.aloadn dX10_passes_3 rfl ?_
    refine nM4 dX10_passes_4 ?_
    refine JO.icmp_ge 58 dX10_passes_5 rfl ?_ ?_
    · exact JO.vret dX10_passes_58 rfl rfl rfl
    · refine JO.aloadn dX10_passes_8 rfl ?_
      refine gM41 dX10_passes_9 rfl ?_
      refine JO.zeq 30 dX10_passes_12 rfl ?_ ?_
      · refine JO.aloadn dX10_passes_30 rfl ?_
        refine JO.iloadn dX10_passes_31 rfl ?_
        refine JO.aloadn dX10_passes_32 rfl ?_
        refine gM39 dX10_passes_33 rfl ?_
        refine JO.aloadn dX10_passes_36 rfl ?_
        refine gM42 dX10_passes_37 rfl ?_
        refine aM39 dX10_passes_40 ?_
        refine uM4 dX10_passes_41 ?_
        exact (J_m_passes_4_b42 ih _ _).jump (lvLe.so rfl (lvLe.so rfl (lvLe.so rfl (lvLe.nil))))
      · refine JO.aloadn dX10_passes_15 rfl ?_
        refine gM39 dX10_passes_16 rfl ?_
        refine JO.aloadn dX10_passes_19 rfl ?_
        refine gM42 dX10_passes_20 rfl ?_
        refine JO.aloadn dX10_passes_23 rfl ?_
        refine JO.iloadn dX10_passes_24 rfl ?_
        refine aM4 dX10_passes_25 ?_
        refine uM39 dX10_passes_26 ?_
        refine JO.goto 42 dX10_passes_27 rfl ?_
        exact (J_m_passes_4_b42 ih _ _).jump (lvLe.so rfl (lvLe.so rfl (lvLe.so rfl (lvLe.nil))))
theorem J_m_passes_4 {X : JX} {ad : Nat → Nat} (σ : MS) : JO X M_m_passes_4 (QF X eV (wM ad (xZ X))) 0 [some (.ref (ad 0)), some (.ref (ad 5)), none] [] (wsM ad (xZ X) σ) (m_passes_4 σ) := by
  unfold m_passes_4
  refine JO.ic 0 dX10_passes_0 (by decide) ?_
  refine JO.istoren dX10_passes_1 rfl rfl ?_
  exact (J_m_passes_4_l2 4096 _ _).jump (lvLe.so rfl (lvLe.so rfl (lvLe.so rfl (lvLe.nil))))
theorem C_m_passes_4 {ad : Nat → Nat} {Z : ZT} (σ : MS) : CO yX10_passes M_m_passes_4 eV Z (wM ad Z) [.ref (ad 0), .ref (ad 5)] (wsM ad Z σ) (m_passes_4 σ) :=
  CO.of rfl rfl (Nat.le_of_ble_eq_true rfl) 1 (fun X hZ => by subst hZ; exact J_m_passes_4 σ)
theorem K_m_passes_4 : Kv yX10_passes M_m_passes_4 RX10 1 := ⟨rfl, k7_25, s6_14, k1_10, k7_26, by decide +kernel⟩
abbrev M_m_passOne : JM := (cX10_passOne, 3, RX10, (some .int), 0, 0)
def m_passOne_b20 (x1 : Int32) (t0 : Int32) (σ : MS) : Option (Int32 × MS) :=
  if mZ σ 41 = true then (
    if inB (mI σ 42) 90 = true then
    some (t0, sI (sA σ 39 (ix (mI σ 42)) x1) 42 (mI σ 42 + 1))
    else none)
  else (
    some (t0, sI σ 42 (mI σ 42 + 1)))
def m_passOne (p1 : Int32) (σ : MS) : Option (Int32 × MS) :=
  if mZ σ 41 = true then (
    m_passOne_b20 p1 p1 σ)
  else (
    if inB (mI σ 42) 90 = true then
    m_passOne_b20 p1 (mA σ 39 (ix (mI σ 42))) σ
    else none)
theorem J_m_passOne_b20 {X : JX} {ad : Nat → Nat} (x1 : Int32) (t0 : Int32) (σ : MS) : JO X M_m_passOne (QF X eI (wM ad (xZ X))) 20 [some (.ref (ad 0)), some (.int x1), none] [.int t0] (wsM ad (xZ X) σ) (m_passOne_b20 x1 t0 σ) := by
  unfold m_passOne_b20
  refine JO.istoren dX10_passOne_20 rfl rfl ?_
  refine JO.aloadn dX10_passOne_21 rfl ?_
  refine gM41 dX10_passOne_22 rfl ?_
  refine JO.zeq 38 dX10_passOne_25 rfl ?_ ?_
  · refine JO.aloadn dX10_passOne_38 rfl ?_
    refine JO.dup dX10_passOne_39 rfl ?_
    refine gM42 dX10_passOne_40 rfl ?_
    refine JO.ic 1 dX10_passOne_43 (by decide) ?_
    refine JO.iadd dX10_passOne_44 ?_
    refine pM42 dX10_passOne_45 rfl ?_
    refine JO.iloadn dX10_passOne_48 rfl ?_
    exact JO.iret dX10_passOne_49 rfl rfl rfl
  · refine JO.aloadn dX10_passOne_28 rfl ?_
    refine gM39 dX10_passOne_29 rfl ?_
    refine JO.aloadn dX10_passOne_32 rfl ?_
    refine gM42 dX10_passOne_33 rfl ?_
    refine JO.iloadn dX10_passOne_36 rfl ?_
    refine uM39 dX10_passOne_37 ?_
    refine JO.aloadn dX10_passOne_38 rfl ?_
    refine JO.dup dX10_passOne_39 rfl ?_
    refine gM42 dX10_passOne_40 rfl ?_
    refine JO.ic 1 dX10_passOne_43 (by decide) ?_
    refine JO.iadd dX10_passOne_44 ?_
    refine pM42 dX10_passOne_45 rfl ?_
    refine JO.iloadn dX10_passOne_48 rfl ?_
    exact JO.iret dX10_passOne_49 rfl rfl rfl
theorem J_m_passOne {X : JX} {ad : Nat → Nat} (p1 : Int32) (σ : MS) : JO X M_m_passOne (QF X eI (wM ad (xZ X))) 0 [some (.ref (ad 0)), some (.int p1), none] [] (wsM ad (xZ X) σ) (m_passOne p1 σ) := by
  unfold m_passOne
  refine JO.aloadn dX10_passOne_0 rfl ?_
  refine gM41 dX10_passOne_1 rfl ?_
  refine JO.zeq 11 dX10_passOne_4 rfl ?_ ?_
  · refine JO.aloadn dX10_passOne_11 rfl ?_
    refine gM39 dX10_passOne_12 rfl ?_
    refine JO.aloadn dX10_passOne_15 rfl ?_
    refine gM42 dX10_passOne_16 rfl ?_
    refine aM39 dX10_passOne_19 ?_
    exact (J_m_passOne_b20 _ _ _).jump (lvLe.so rfl (lvLe.so rfl (lvLe.no (lvLe.nil))))
  · refine JO.iloadn dX10_passOne_7 rfl ?_
    refine JO.goto 20 dX10_passOne_8 rfl ?_
    exact (J_m_passOne_b20 _ _ _).jump (lvLe.so rfl (lvLe.so rfl (lvLe.no (lvLe.nil))))
theorem C_m_passOne {ad : Nat → Nat} {Z : ZT} (p1 : Int32) (σ : MS) : CO yX10_passOne M_m_passOne eI Z (wM ad Z) [.ref (ad 0), .int p1] (wsM ad Z σ) (m_passOne p1 σ) :=
  CO.of rfl rfl (Nat.le_of_ble_eq_true rfl) 1 (fun X hZ => by subst hZ; exact J_m_passOne _ σ)
theorem K_m_passOne : Kv yX10_passOne M_m_passOne RX10 1 := ⟨rfl, k7_29, s6_15, k1_10, k7_30, by decide +kernel⟩
abbrev M_m_passesAll : JM := (cX10_passesAll, 2, RX10, none, 1, 22)
def m_passesAll (p1 : Bool) (σ : MS) : Option (Unit × MS) :=
  (m_passes_1 (sZ (sI σ 42 0) 41 p1)).bind fun a1 =>
  (m_passes_2 a1.2).bind fun a2 =>
  (m_passes_3 a2.2).bind fun a3 =>
  (m_passes_4 a3.2).bind fun a4 =>
  (m_passOne (mI a4.2 5) a4.2).bind fun a5 =>
  (m_passOne (mI a5.2 6) (sI a5.2 5 a5.1)).bind fun a6 =>
  (m_passOne (mI a6.2 7) (sI a6.2 6 a6.1)).bind fun a7 =>
  (m_passOne (mI a7.2 8) (sI a7.2 7 a7.1)).bind fun a8 =>
  (m_passOne (mI a8.2 9) (sI a8.2 8 a8.1)).bind fun a9 =>
  some ((), sI a9.2 9 a9.1)
theorem J_m_passesAll {X : JX} {ad : Nat → Nat} (p1 : Bool) (σ : MS) : JO X M_m_passesAll (QF X eV (wM ad (xZ X))) 0 [some (.ref (ad 0)), some (.int (bI p1))] [] (wsM ad (xZ X) σ) (m_passesAll p1 σ) := by
  unfold m_passesAll
  refine JO.aloadn dX10_passesAll_0 rfl ?_
  refine JO.ic 0 dX10_passesAll_1 (by decide) ?_
  refine pM42 dX10_passesAll_2 rfl ?_
  refine JO.aloadn dX10_passesAll_5 rfl ?_
  refine JO.iloadn dX10_passesAll_6 rfl ?_
  refine pM41 (v := p1) dX10_passesAll_7 rfl ?_
  refine JO.aloadn dX10_passesAll_10 rfl ?_
  refine JO.aloadn dX10_passesAll_11 rfl ?_
  refine gM1 dX10_passesAll_12 rfl ?_
  refine JO.mvv (C_m_passes_1 _) K_m_passes_1 k7_23 rfl rfl rfl (Nat.le_of_ble_eq_true rfl) dX10_passesAll_15 (fun a1 => ?_)
  refine JO.aloadn dX10_passesAll_18 rfl ?_
  refine JO.aloadn dX10_passesAll_19 rfl ?_
  refine gM2 dX10_passesAll_20 rfl ?_
  refine JO.mvv (C_m_passes_2 _) K_m_passes_2 k7_23 rfl rfl rfl (Nat.le_of_ble_eq_true rfl) dX10_passesAll_23 (fun a2 => ?_)
  refine JO.aloadn dX10_passesAll_26 rfl ?_
  refine JO.aloadn dX10_passesAll_27 rfl ?_
  refine gM3 dX10_passesAll_28 rfl ?_
  refine JO.mvv (C_m_passes_3 _) K_m_passes_3 k7_23 rfl rfl rfl (Nat.le_of_ble_eq_true rfl) dX10_passesAll_31 (fun a3 => ?_)
  refine JO.aloadn dX10_passesAll_34 rfl ?_
  refine JO.aloadn dX10_passesAll_35 rfl ?_
  refine gM4 dX10_passesAll_36 rfl ?_
  refine JO.mvv (C_m_passes_4 _) K_m_passes_4 k7_23 rfl rfl rfl (Nat.le_of_ble_eq_true rfl) dX10_passesAll_39 (fun a4 => ?_)
  refine JO.aloadn dX10_passesAll_42 rfl ?_
  refine JO.aloadn dX10_passesAll_43 rfl ?_
  refine JO.aloadn dX10_passesAll_44 rfl ?_
  refine gM5 dX10_passesAll_45 rfl ?_
  refine JO.mvi (C_m_passOne _ _) K_m_passOne k7_27 rfl rfl rfl (Nat.le_of_ble_eq_true rfl) dX10_passesAll_48 (fun a5 => ?_)
  refine pM5 dX10_passesAll_51 rfl ?_
  refine JO.aloadn dX10_passesAll_54 rfl ?_
  refine JO.aloadn dX10_passesAll_55 rfl ?_
  refine JO.aloadn dX10_passesAll_56 rfl ?_
  refine gM6 dX10_passesAll_57 rfl ?_
  refine JO.mvi (C_m_passOne _ _) K_m_passOne k7_27 rfl rfl rfl (Nat.le_of_ble_eq_true rfl) dX10_passesAll_60 (fun a6 => ?_)
  refine pM6 dX10_passesAll_63 rfl ?_
  refine JO.aloadn dX10_passesAll_66 rfl ?_
  refine JO.aloadn dX10_passesAll_67 rfl ?_
  refine JO.aloadn dX10_passesAll_68 rfl ?_
  refine gM7 dX10_passesAll_69 rfl ?_
  refine JO.mvi (C_m_passOne _ _) K_m_passOne k7_27 rfl rfl rfl (Nat.le_of_ble_eq_true rfl) dX10_passesAll_72 (fun a7 => ?_)
  refine pM7 dX10_passesAll_75 rfl ?_
  refine JO.aloadn dX10_passesAll_78 rfl ?_
  refine JO.aloadn dX10_passesAll_79 rfl ?_
  refine JO.aloadn dX10_passesAll_80 rfl ?_
  refine gM8 dX10_passesAll_81 rfl ?_
  refine JO.mvi (C_m_passOne _ _) K_m_passOne k7_27 rfl rfl rfl (Nat.le_of_ble_eq_true rfl) dX10_passesAll_84 (fun a8 => ?_)
  refine pM8 dX10_passesAll_87 rfl ?_
  refine JO.aloadn dX10_passesAll_90 rfl ?_
  refine JO.aloadn dX10_passesAll_91 rfl ?_
  refine JO.aloadn dX10_passesAll_92 rfl ?_
  refine gM9 dX10_passesAll_93 rfl ?_
  refine JO.mvi (C_m_passOne _ _) K_m_passOne k7_27 rfl rfl rfl (Nat.le_of_ble_eq_true rfl) dX10_passesAll_96 (fun a9 => ?_)
  refine pM9 dX10_passesAll_99 rfl ?_
  exact JO.vret dX10_passesAll_102 rfl rfl rfl
theorem C_m_passesAll {ad : Nat → Nat} {Z : ZT} (p1 : Bool) (σ : MS) : CO yX10_passesAll M_m_passesAll eV Z (wM ad Z) [.ref (ad 0), .int (bI p1)] (wsM ad Z σ) (m_passesAll p1 σ) :=
  CO.of rfl rfl (Nat.le_of_ble_eq_true rfl) 0 (fun X hZ => by subst hZ; exact J_m_passesAll _ σ)
theorem K_m_passesAll : Kv yX10_passesAll M_m_passesAll RX10 1 := ⟨rfl, k7_21, s6_13, k1_10, k7_22, by decide +kernel⟩
