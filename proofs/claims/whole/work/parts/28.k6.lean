abbrev M_cP_set : JM := (cX9_set, 6, RX9, (some .int), 2, 45)
def cP_set (p1 : Int32) (p2 : Int32) (p3 : Int64) (σ : CS) : Option (Int32 × CS) :=
  (cP_rowLack p1 σ).bind fun a1 =>
  if a1.1 = 0 then (
    if inB p1 8 = true then
    (cH_has (ix p1) p2 a1.2).bind fun a2 =>
    if a2.1 = true then (
      if inB p1 8 = true then
      (cH_keepAt (ix p1) p2 p3 a2.2).bind fun a3 =>
      some (1, a3.2)
      else none)
    else (
      (cP_refuse (-5) a2.2).bind fun a4 =>
      some (a4.1, a4.2))
    else none)
  else (
    (cP_refuse a1.1 a1.2).bind fun a5 =>
    some (a5.1, a5.2))
theorem J_cP_set {X : JX} {ad : Nat → Nat} (p1 : Int32) (p2 : Int32) (p3 : Int64) (σ : CS) : JO X M_cP_set (QF X eI (wC ad (xZ X))) 0 [some (.ref (ad 0)), some (.int p1), some (.int p2), some (.long p3), none, none] [] (wsC ad (xZ X) σ) (cP_set p1 p2 p3 σ) := by
  unfold cP_set
  refine JO.aloadn dX9_set_0 rfl ?_
  refine JO.iloadn dX9_set_1 rfl ?_
  refine JO.cvi (C_cP_rowLack _ _) rcvP K_cP_rowLack k2_101 rfl rfl rfl (Nat.le_of_ble_eq_true rfl) dX9_set_2 (fun a1 => ?_)
  refine JO.istore dX9_set_5 rfl rfl ?_
  refine JO.iload dX9_set_7 rfl ?_
  refine JO.if_eq 19 dX9_set_9 rfl ?_ ?_
  · refine JO.aloadn dX9_set_19 rfl ?_
    refine gP0 k2_39 dX9_set_20 ?_
    refine JO.iloadn dX9_set_23 rfl ?_
    refine JO.aH dX9_set_24 (fun h21 => ?_)
    refine JO.iloadn dX9_set_25 rfl ?_
    refine JO.cvz (C_cH_has h21 _ _) (rcvH h21) K_cH_has k2_113 rfl rfl rfl (Nat.le_of_ble_eq_true rfl) dX9_set_26 (fun a2 => ?_)
    refine JO.zne 39 dX9_set_29 rfl ?_ ?_
    · refine JO.aloadn dX9_set_39 rfl ?_
      refine gP0 k2_39 dX9_set_40 ?_
      refine JO.iloadn dX9_set_43 rfl ?_
      refine JO.aH dX9_set_44 (fun h22 => ?_)
      refine JO.iloadn dX9_set_45 rfl ?_
      refine JO.lloadn dX9_set_46 rfl ?_
      refine JO.cvv (C_cH_keepAt h22 _ _ _) (rcvH h22) K_cH_keepAt k2_117 rfl rfl rfl (Nat.le_of_ble_eq_true rfl) dX9_set_47 (fun a3 => ?_)
      refine JO.ic 1 dX9_set_50 (by decide) ?_
      exact JO.iret dX9_set_51 rfl rfl rfl
    · refine JO.aloadn dX9_set_32 rfl ?_
      refine JO.bip (-5) dX9_set_33 (by decide) ?_
      refine JO.cvi (C_cP_refuse _ _) rcvP K_cP_refuse k2_86 rfl rfl rfl (Nat.le_of_ble_eq_true rfl) dX9_set_35 (fun a4 => ?_)
      exact JO.iret dX9_set_38 rfl rfl rfl
  · refine JO.aloadn dX9_set_12 rfl ?_
    refine JO.iload dX9_set_13 rfl ?_
    refine JO.cvi (C_cP_refuse _ _) rcvP K_cP_refuse k2_86 rfl rfl rfl (Nat.le_of_ble_eq_true rfl) dX9_set_15 (fun a5 => ?_)
    exact JO.iret dX9_set_18 rfl rfl rfl
theorem C_cP_set {ad : Nat → Nat} {Z : ZT} (p1 : Int32) (p2 : Int32) (p3 : Int64) (σ : CS) : CO yX9_set M_cP_set eI Z (wC ad Z) [.ref (ad 0), .int p1, .int p2, .long p3] (wsC ad Z σ) (cP_set p1 p2 p3 σ) :=
  CO.of rfl rfl (Nat.le_of_ble_eq_true rfl) 1 (fun X hZ => by subst hZ; exact J_cP_set _ _ _ σ)
theorem K_cP_set : Kv yX9_set M_cP_set RX9 3 := ⟨rfl, k2_98, k2_99, k1_1, k2_100, by decide +kernel⟩
abbrev M_cP_copyLack : JM := (cX9_copyLack, 5, RX9, (some .int), 2, 41)
def cP_copyLack (p1 : Int32) (p2 : Int32) (σ : CS) : Option (Int32 × CS) :=
  (cP_rowLack p1 σ).bind fun a1 =>
  (cP_rowLack p2 a1.2).bind fun a2 =>
  if a1.1 = (-1) then (
    some ((-1), a2.2))
  else (
    if a2.1 = (-1) then (
      some ((-1), a2.2))
    else (
      if a1.1 = (-2) then (
        some ((-2), a2.2))
      else (
        if a2.1 = (-2) then (
          some ((-2), a2.2))
        else (
          if a1.1 = (-3) then (
            some ((-3), a2.2))
          else (
            if a2.1 = (-3) then (
              some ((-3), a2.2))
            else (
              if inB p1 8 = true then
              if inB p2 8 = true then
              if cI a2.2 (58 + (ix p1)) 1 = cI a2.2 (58 + (ix p2)) 1 then (
                some (0, a2.2))
              else (
                some ((-2), a2.2))
              else none
              else none))))))
theorem J_cP_copyLack {X : JX} {ad : Nat → Nat} (p1 : Int32) (p2 : Int32) (σ : CS) : JO X M_cP_copyLack (QF X eI (wC ad (xZ X))) 0 [some (.ref (ad 0)), some (.int p1), some (.int p2), none, none] [] (wsC ad (xZ X) σ) (cP_copyLack p1 p2 σ) := by
  unfold cP_copyLack
  refine JO.aloadn dX9_copyLack_0 rfl ?_
  refine JO.iloadn dX9_copyLack_1 rfl ?_
  refine JO.cvi (C_cP_rowLack _ _) rcvP K_cP_rowLack k2_101 rfl rfl rfl (Nat.le_of_ble_eq_true rfl) dX9_copyLack_2 (fun a1 => ?_)
  refine JO.istoren dX9_copyLack_5 rfl rfl ?_
  refine JO.aloadn dX9_copyLack_6 rfl ?_
  refine JO.iloadn dX9_copyLack_7 rfl ?_
  refine JO.cvi (C_cP_rowLack _ _) rcvP K_cP_rowLack k2_101 rfl rfl rfl (Nat.le_of_ble_eq_true rfl) dX9_copyLack_8 (fun a2 => ?_)
  refine JO.istore dX9_copyLack_11 rfl rfl ?_
  refine JO.iloadn dX9_copyLack_13 rfl ?_
  refine JO.ic (-1) dX9_copyLack_14 (by decide) ?_
  refine JO.icmp_eq 24 dX9_copyLack_15 rfl ?_ ?_
  · refine JO.ic (-1) dX9_copyLack_24 (by decide) ?_
    exact JO.iret dX9_copyLack_25 rfl rfl rfl
  · refine JO.iload dX9_copyLack_18 rfl ?_
    refine JO.ic (-1) dX9_copyLack_20 (by decide) ?_
    refine JO.icmp_ne 26 dX9_copyLack_21 rfl ?_ ?_
    · refine JO.iloadn dX9_copyLack_26 rfl ?_
      refine JO.bip (-2) dX9_copyLack_27 (by decide) ?_
      refine JO.icmp_eq 39 dX9_copyLack_29 rfl ?_ ?_
      · refine JO.bip (-2) dX9_copyLack_39 (by decide) ?_
        exact JO.iret dX9_copyLack_41 rfl rfl rfl
      · refine JO.iload dX9_copyLack_32 rfl ?_
        refine JO.bip (-2) dX9_copyLack_34 (by decide) ?_
        refine JO.icmp_ne 42 dX9_copyLack_36 rfl ?_ ?_
        · refine JO.iloadn dX9_copyLack_42 rfl ?_
          refine JO.bip (-3) dX9_copyLack_43 (by decide) ?_
          refine JO.icmp_eq 55 dX9_copyLack_45 rfl ?_ ?_
          · refine JO.bip (-3) dX9_copyLack_55 (by decide) ?_
            exact JO.iret dX9_copyLack_57 rfl rfl rfl
          · refine JO.iload dX9_copyLack_48 rfl ?_
            refine JO.bip (-3) dX9_copyLack_50 (by decide) ?_
            refine JO.icmp_ne 58 dX9_copyLack_52 rfl ?_ ?_
            · refine JO.aloadn dX9_copyLack_58 rfl ?_
              refine gP0 k2_39 dX9_copyLack_59 ?_
              refine JO.iloadn dX9_copyLack_62 rfl ?_
              refine JO.aH dX9_copyLack_63 (fun h21 => ?_)
              refine gH1 h21 k2_10 dX9_copyLack_64 ?_
              refine JO.aloadn dX9_copyLack_67 rfl ?_
              refine gP0 k2_39 dX9_copyLack_68 ?_
              refine JO.iloadn dX9_copyLack_71 rfl ?_
              refine JO.aH dX9_copyLack_72 (fun h22 => ?_)
              refine gH1 h22 k2_10 dX9_copyLack_73 ?_
              refine JO.icmp_ne 83 dX9_copyLack_76 rfl ?_ ?_
              · refine JO.bip (-2) dX9_copyLack_83 (by decide) ?_
                exact JO.iret dX9_copyLack_85 rfl rfl rfl
              · refine JO.ic 0 dX9_copyLack_79 (by decide) ?_
                refine JO.goto 85 dX9_copyLack_80 rfl ?_
                exact JO.iret dX9_copyLack_85 rfl rfl rfl
            · refine JO.bip (-3) dX9_copyLack_55 (by decide) ?_
              exact JO.iret dX9_copyLack_57 rfl rfl rfl
        · refine JO.bip (-2) dX9_copyLack_39 (by decide) ?_
          exact JO.iret dX9_copyLack_41 rfl rfl rfl
    · refine JO.ic (-1) dX9_copyLack_24 (by decide) ?_
      exact JO.iret dX9_copyLack_25 rfl rfl rfl
theorem C_cP_copyLack {ad : Nat → Nat} {Z : ZT} (p1 : Int32) (p2 : Int32) (σ : CS) : CO yX9_copyLack M_cP_copyLack eI Z (wC ad Z) [.ref (ad 0), .int p1, .int p2] (wsC ad Z σ) (cP_copyLack p1 p2 σ) :=
  CO.of rfl rfl (Nat.le_of_ble_eq_true rfl) 2 (fun X hZ => by subst hZ; exact J_cP_copyLack _ _ σ)
theorem K_cP_copyLack : Kv yX9_copyLack M_cP_copyLack RX9 2 := ⟨rfl, k2_132, s1_3, k1_1, k2_133, by decide +kernel⟩
abbrev M_cP_copy : JM := (cX9_copy, 7, RX9, (some .int), 3, 65)
def cP_copy_b63 (σ : CS) : Option (Int32 × CS) :=
  (cP_refuse (-5) σ).bind fun a1 =>
  some (a1.1, a1.2)
def cP_copy (p1 : Int32) (p2 : Int32) (p3 : Int32) (p4 : Int32) (p5 : Int32) (σ : CS) : Option (Int32 × CS) :=
  (cP_copyLack p1 p2 σ).bind fun a1 =>
  if a1.1 = 0 then (
    if 0 ≤ p5 then (
      if inB p1 8 = true then
      (cH_hasStretch (ix p1) p3 p5 a1.2).bind fun a2 =>
      if a2.1 = true then (
        if inB p2 8 = true then
        (cH_hasStretch (ix p2) p4 p5 a2.2).bind fun a3 =>
        if a3.1 = true then (
          if inB p1 8 = true then
          if inB p2 8 = true then
          if (0 ≤ p3 ∧ 0 ≤ p4 ∧ 0 ≤ p5) ∧ ix p3 + ix p5 ≤ 160 ∧ ix p4 + ix p5 ≤ 160 then
          some (1, tBr a3.2 (66 + (ix p2)) (va_cpy (cB a3.2 (66 + (ix p1))) (cB a3.2 (66 + (ix p2))) (ix p3) (ix p4) (ix p5)))
          else none
          else none
          else none)
        else (
          cP_copy_b63 a3.2)
        else none)
      else (
        cP_copy_b63 a2.2)
      else none)
    else (
      (cP_refuse (-4) a1.2).bind fun a4 =>
      some (a4.1, a4.2)))
  else (
    (cP_refuse a1.1 a1.2).bind fun a5 =>
    some (a5.1, a5.2))
theorem J_cP_copy_b63 {X : JX} {ad : Nat → Nat} (σ : CS) : JO X M_cP_copy (QF X eI (wC ad (xZ X))) 63 [some (.ref (ad 0)), none, none, none, none, none, none] [] (wsC ad (xZ X) σ) (cP_copy_b63 σ) := by
  unfold cP_copy_b63
  refine JO.aloadn dX9_copy_63 rfl ?_
  refine JO.bip (-5) dX9_copy_64 (by decide) ?_
  refine JO.cvi (C_cP_refuse _ _) rcvP K_cP_refuse k2_86 rfl rfl rfl (Nat.le_of_ble_eq_true rfl) dX9_copy_66 (fun a1 => ?_)
  exact JO.iret dX9_copy_69 rfl rfl rfl
theorem J_cP_copy {X : JX} {ad : Nat → Nat} (p1 : Int32) (p2 : Int32) (p3 : Int32) (p4 : Int32) (p5 : Int32) (σ : CS) : JO X M_cP_copy (QF X eI (wC ad (xZ X))) 0 [some (.ref (ad 0)), some (.int p1), some (.int p2), some (.int p3), some (.int p4), some (.int p5), none] [] (wsC ad (xZ X) σ) (cP_copy p1 p2 p3 p4 p5 σ) := by
  unfold cP_copy
  refine JO.aloadn dX9_copy_0 rfl ?_
  refine JO.iloadn dX9_copy_1 rfl ?_
  refine JO.iloadn dX9_copy_2 rfl ?_
  refine JO.cvi (C_cP_copyLack _ _ _) rcvP K_cP_copyLack k2_130 rfl rfl rfl (Nat.le_of_ble_eq_true rfl) dX9_copy_3 (fun a1 => ?_)
  refine JO.istore dX9_copy_6 rfl rfl ?_
  refine JO.iload dX9_copy_8 rfl ?_
  refine JO.if_eq 20 dX9_copy_10 rfl ?_ ?_
  · refine JO.iload dX9_copy_20 rfl ?_
    refine JO.if_ge 32 dX9_copy_22 rfl ?_ ?_
    · refine JO.aloadn dX9_copy_32 rfl ?_
      refine gP0 k2_39 dX9_copy_33 ?_
      refine JO.iloadn dX9_copy_36 rfl ?_
      refine JO.aH dX9_copy_37 (fun h21 => ?_)
      refine JO.iloadn dX9_copy_38 rfl ?_
      refine JO.iload dX9_copy_39 rfl ?_
      refine JO.cvz (C_cH_hasStretch h21 _ _ _) (rcvH h21) K_cH_hasStretch k2_134 rfl rfl rfl (Nat.le_of_ble_eq_true rfl) dX9_copy_41 (fun a2 => ?_)
      refine JO.zeq 63 dX9_copy_44 rfl ?_ ?_
      · exact (J_cP_copy_b63 _).jump (lvLe.so rfl (lvLe.no (lvLe.no (lvLe.no (lvLe.no (lvLe.no (lvLe.no (lvLe.nil))))))))
      · refine JO.aloadn dX9_copy_47 rfl ?_
        refine gP0 k2_39 dX9_copy_48 ?_
        refine JO.iloadn dX9_copy_51 rfl ?_
        refine JO.aH dX9_copy_52 (fun h22 => ?_)
        refine JO.iload dX9_copy_53 rfl ?_
        refine JO.iload dX9_copy_55 rfl ?_
        refine JO.cvz (C_cH_hasStretch h22 _ _ _) (rcvH h22) K_cH_hasStretch k2_134 rfl rfl rfl (Nat.le_of_ble_eq_true rfl) dX9_copy_57 (fun a3 => ?_)
        refine JO.zne 70 dX9_copy_60 rfl ?_ ?_
        · refine JO.aloadn dX9_copy_70 rfl ?_
          refine gP0 k2_39 dX9_copy_71 ?_
          refine JO.iloadn dX9_copy_74 rfl ?_
          refine JO.aH dX9_copy_75 (fun h23 => ?_)
          refine gH3 h23 k2_15 dX9_copy_76 ?_
          refine JO.iloadn dX9_copy_79 rfl ?_
          refine JO.aloadn dX9_copy_80 rfl ?_
          refine gP0 k2_39 dX9_copy_81 ?_
          refine JO.iloadn dX9_copy_84 rfl ?_
          refine JO.aH dX9_copy_85 (fun h24 => ?_)
          refine gH3 h24 k2_15 dX9_copy_86 ?_
          refine JO.iload dX9_copy_89 rfl ?_
          refine JO.iload dX9_copy_91 rfl ?_
          refine JO.copyL (l_el h23) (l_el h24) k2_138 k2_139 k1_11 rfl dX9_copy_93 ?_
          refine JO.ic 1 dX9_copy_96 (by decide) ?_
          exact JO.iret dX9_copy_97 rfl rfl rfl
        · exact (J_cP_copy_b63 _).jump (lvLe.so rfl (lvLe.no (lvLe.no (lvLe.no (lvLe.no (lvLe.no (lvLe.no (lvLe.nil))))))))
    · refine JO.aloadn dX9_copy_25 rfl ?_
      refine JO.bip (-4) dX9_copy_26 (by decide) ?_
      refine JO.cvi (C_cP_refuse _ _) rcvP K_cP_refuse k2_86 rfl rfl rfl (Nat.le_of_ble_eq_true rfl) dX9_copy_28 (fun a4 => ?_)
      exact JO.iret dX9_copy_31 rfl rfl rfl
  · refine JO.aloadn dX9_copy_13 rfl ?_
    refine JO.iload dX9_copy_14 rfl ?_
    refine JO.cvi (C_cP_refuse _ _) rcvP K_cP_refuse k2_86 rfl rfl rfl (Nat.le_of_ble_eq_true rfl) dX9_copy_16 (fun a5 => ?_)
    exact JO.iret dX9_copy_19 rfl rfl rfl
theorem C_cP_copy {ad : Nat → Nat} {Z : ZT} (p1 : Int32) (p2 : Int32) (p3 : Int32) (p4 : Int32) (p5 : Int32) (σ : CS) : CO yX9_copy M_cP_copy eI Z (wC ad Z) [.ref (ad 0), .int p1, .int p2, .int p3, .int p4, .int p5] (wsC ad Z σ) (cP_copy p1 p2 p3 p4 p5 σ) :=
  CO.of rfl rfl (Nat.le_of_ble_eq_true rfl) 1 (fun X hZ => by subst hZ; exact J_cP_copy _ _ _ _ _ σ)
theorem K_cP_copy : Kv yX9_copy M_cP_copy RX9 5 := ⟨rfl, k2_127, k2_128, k1_1, k2_129, by decide +kernel⟩
abbrev M_cP_element : JM := (cX9_element, 3, RX9, (some .long), 2, 41)
def cP_element (p1 : Int32) (p2 : Int32) (σ : CS) : Option (Int64 × CS) :=
  (cP_rowLack p1 σ).bind fun a1 =>
  if a1.1 = 0 then (
    if inB p1 8 = true then
    (cH_has (ix p1) p2 a1.2).bind fun a2 =>
    if a2.1 = true then (
      if inB p1 8 = true then
      if inB p2 160 = true then
      some (cB a2.2 (66 + (ix p1)) (ix p2), a2.2)
      else none
      else none)
    else (
      some (0, a2.2))
    else none)
  else (
    some (0, a1.2))
theorem J_cP_element {X : JX} {ad : Nat → Nat} (p1 : Int32) (p2 : Int32) (σ : CS) : JO X M_cP_element (QF X eL (wC ad (xZ X))) 0 [some (.ref (ad 0)), some (.int p1), some (.int p2)] [] (wsC ad (xZ X) σ) (cP_element p1 p2 σ) := by
  unfold cP_element
  refine JO.aloadn dX9_element_0 rfl ?_
  refine JO.iloadn dX9_element_1 rfl ?_
  refine JO.cvi (C_cP_rowLack _ _) rcvP K_cP_rowLack k2_101 rfl rfl rfl (Nat.le_of_ble_eq_true rfl) dX9_element_2 (fun a1 => ?_)
  refine JO.if_ne 21 dX9_element_5 rfl ?_ ?_
  · refine JO.lc 0 dX9_element_21 (by decide) ?_
    exact JO.lret dX9_element_22 rfl rfl rfl
  · refine JO.aloadn dX9_element_8 rfl ?_
    refine gP0 k2_39 dX9_element_9 ?_
    refine JO.iloadn dX9_element_12 rfl ?_
    refine JO.aH dX9_element_13 (fun h21 => ?_)
    refine JO.iloadn dX9_element_14 rfl ?_
    refine JO.cvz (C_cH_has h21 _ _) (rcvH h21) K_cH_has k2_113 rfl rfl rfl (Nat.le_of_ble_eq_true rfl) dX9_element_15 (fun a2 => ?_)
    refine JO.zne 23 dX9_element_18 rfl ?_ ?_
    · refine JO.aloadn dX9_element_23 rfl ?_
      refine gP0 k2_39 dX9_element_24 ?_
      refine JO.iloadn dX9_element_27 rfl ?_
      refine JO.aH dX9_element_28 (fun h22 => ?_)
      refine gH3 h22 k2_15 dX9_element_29 ?_
      refine JO.iloadn dX9_element_32 rfl ?_
      refine JO.lC (l_el h22) dX9_element_33 ?_
      exact JO.lret dX9_element_34 rfl rfl rfl
    · refine JO.lc 0 dX9_element_21 (by decide) ?_
      exact JO.lret dX9_element_22 rfl rfl rfl
theorem C_cP_element {ad : Nat → Nat} {Z : ZT} (p1 : Int32) (p2 : Int32) (σ : CS) : CO yX9_element M_cP_element eL Z (wC ad Z) [.ref (ad 0), .int p1, .int p2] (wsC ad Z σ) (cP_element p1 p2 σ) :=
  CO.of rfl rfl (Nat.le_of_ble_eq_true rfl) 0 (fun X hZ => by subst hZ; exact J_cP_element _ _ σ)
theorem K_cP_element : Kv yX9_element M_cP_element RX9 2 := ⟨rfl, k2_142, k2_143, k1_1, k2_144, by decide +kernel⟩
abbrev M_cP_current : JM := (cX9_current, 1, RX9, (some (.object "CommitPrefixes$Run")), 5, 119)
def cP_current (σ : CS) : Option (Unit × CS) :=
  if cZ σ 0 8 = true then (
    some ((), σ))
  else (
    (cR_play 14 (cG σ 3 5) (cZ σ 3 3) σ).bind fun a1 =>
    some ((), tZ a1.2 0 8 true))
theorem J_cP_current {X : JX} {ad : Nat → Nat} (σ : CS) : JO X M_cP_current (QF X (eN ad) (wC ad (xZ X))) 0 [some (.ref (ad 0))] [] (wsC ad (xZ X) σ) (cP_current σ) := by
  unfold cP_current
  refine JO.aloadn dX9_current_0 rfl ?_
  refine gP8 k2_47 dX9_current_1 ?_
  refine JO.zne 33 dX9_current_4 rfl ?_ ?_
  · refine JO.aloadn dX9_current_33 rfl ?_
    refine gP7 k2_46 dX9_current_34 ?_
    exact JO.aret dX9_current_37 rfl (Or.inl ⟨_, rfl⟩) (Or.inr ⟨_, rfl⟩) rfl rfl
  · refine JO.aloadn dX9_current_7 rfl ?_
    refine gP7 k2_46 dX9_current_8 ?_
    refine JO.aloadn dX9_current_11 rfl ?_
    refine gP2 k2_41 dX9_current_12 ?_
    refine gS5 isS3 k1_53 dX9_current_15 ?_
    refine JO.aloadn dX9_current_18 rfl ?_
    refine gP2 k2_41 dX9_current_19 ?_
    refine gS3 isS3 k1_49 dX9_current_22 ?_
    refine JO.cvv (C_cR_play isR14 _ (cZ σ 3 3) _) (rcvR isR14) K_cR_play k2_157 rfl rfl rfl (Nat.le_of_ble_eq_true rfl) dX9_current_25 (fun a1 => ?_)
    refine JO.aloadn dX9_current_28 rfl ?_
    refine JO.ic 1 dX9_current_29 (by decide) ?_
    refine pP8 (v := true) k2_47 dX9_current_30 ?_
    refine JO.aloadn dX9_current_33 rfl ?_
    refine gP7 k2_46 dX9_current_34 ?_
    exact JO.aret dX9_current_37 rfl (Or.inl ⟨_, rfl⟩) (Or.inr ⟨_, rfl⟩) rfl rfl
theorem C_cP_current {ad : Nat → Nat} {Z : ZT} (σ : CS) : CO yX9_current M_cP_current (eN ad) Z (wC ad Z) [.ref (ad 0)] (wsC ad Z σ) (cP_current σ) :=
  CO.of rfl rfl (Nat.le_of_ble_eq_true rfl) 0 (fun X hZ => by subst hZ; exact J_cP_current σ)
theorem K_cP_current : Kv yX9_current M_cP_current RX9 0 := ⟨rfl, k2_155, s1_4, k1_1, k2_156, by decide +kernel⟩
abbrev M_cP_show : JM := (cX9_show, 3, RX9, (some .int), 6, 139)
def cP_show (p1 : Int32) (p2 : Int32) (σ : CS) : Option (Int32 × CS) :=
  (cP_isShelf p1 σ).bind fun a1 =>
  if a1.1 = true then (
    if p2 = (-1) then (
      if inB p1 8 = true then
      (cH_clear (ix p1) a1.2).bind fun a6 =>
      some (0, a6.2)
      else none)
    else (
      (cP_current a1.2).bind fun a2 =>
      (cR_wasSent 14 p2 a2.2).bind fun a3 =>
      if a3.1 = true then (
        if inB p1 8 = true then
        if inB p2 200 = true then
        if inB p2 200 = true then
        if inB p2 200 = true then
        if inB p2 200 = true then
        (cH_holdMessage (ix p1) (cA a3.2 (14 + 14) (ix p2)) (cA a3.2 (14 + 15) (ix p2)) (cA a3.2 (14 + 16) (ix p2)) (cA a3.2 (14 + 17) (ix p2)) a3.2).bind fun a4 =>
        some (1, a4.2)
        else none
        else none
        else none
        else none
        else none)
      else (
        (cP_refuse (-1) a3.2).bind fun a5 =>
        some (a5.1, a5.2))))
  else (
    (cP_refuse (-1) a1.2).bind fun a7 =>
    some (a7.1, a7.2))
theorem J_cP_show {X : JX} {ad : Nat → Nat} (p1 : Int32) (p2 : Int32) (σ : CS) : JO X M_cP_show (QF X eI (wC ad (xZ X))) 0 [some (.ref (ad 0)), some (.int p1), some (.int p2)] [] (wsC ad (xZ X) σ) (cP_show p1 p2 σ) := by
  unfold cP_show
  refine JO.iloadn dX9_show_0 rfl ?_
  refine JO.csz (C_cP_isShelf _ _) K_cP_isShelf k2_83 rfl rfl rfl (Nat.le_of_ble_eq_true rfl) dX9_show_1 (fun a1 => ?_)
  refine JO.zne 13 dX9_show_4 rfl ?_ ?_
  · refine JO.iloadn dX9_show_13 rfl ?_
    refine JO.ic (-1) dX9_show_14 (by decide) ?_
    refine JO.icmp_ne 29 dX9_show_15 rfl ?_ ?_
    · refine JO.aloadn dX9_show_29 rfl ?_
      refine JO.cvn (C_cP_current _) rcvP K_cP_current k2_153 rfl rfl rfl (Nat.le_of_ble_eq_true rfl) dX9_show_30 (fun a2 => ?_)
      refine JO.iloadn dX9_show_33 rfl ?_
      refine JO.cvz (C_cR_wasSent isR14 _ _) (rcvR isR14) K_cR_wasSent k3_90 rfl rfl rfl (Nat.le_of_ble_eq_true rfl) dX9_show_34 (fun a3 => ?_)
      refine JO.zne 46 dX9_show_37 rfl ?_ ?_
      · refine JO.aloadn dX9_show_46 rfl ?_
        refine gP0 k2_39 dX9_show_47 ?_
        refine JO.iloadn dX9_show_50 rfl ?_
        refine JO.aH dX9_show_51 (fun h21 => ?_)
        refine JO.aloadn dX9_show_52 rfl ?_
        refine gP7 k2_46 dX9_show_53 ?_
        refine gR9 isR14 k1_196 dX9_show_56 ?_
        refine JO.iloadn dX9_show_59 rfl ?_
        refine JO.aC (i_r14 isR14) dX9_show_60 ?_
        refine JO.aloadn dX9_show_61 rfl ?_
        refine gP7 k2_46 dX9_show_62 ?_
        refine gR10 isR14 k1_198 dX9_show_65 ?_
        refine JO.iloadn dX9_show_68 rfl ?_
        refine JO.aC (i_r15 isR14) dX9_show_69 ?_
        refine JO.aloadn dX9_show_70 rfl ?_
        refine gP7 k2_46 dX9_show_71 ?_
        refine gR11 isR14 k1_200 dX9_show_74 ?_
        refine JO.iloadn dX9_show_77 rfl ?_
        refine JO.aC (i_r16 isR14) dX9_show_78 ?_
        refine JO.aloadn dX9_show_79 rfl ?_
        refine gP7 k2_46 dX9_show_80 ?_
        refine gR12 isR14 k1_202 dX9_show_83 ?_
        refine JO.iloadn dX9_show_86 rfl ?_
        refine JO.aC (i_r17 isR14) dX9_show_87 ?_
        refine JO.cvv (C_cH_holdMessage h21 _ _ _ _ _) (rcvH h21) K_cH_holdMessage k3_94 rfl rfl rfl (Nat.le_of_ble_eq_true rfl) dX9_show_88 (fun a4 => ?_)
        refine JO.ic 1 dX9_show_91 (by decide) ?_
        exact JO.iret dX9_show_92 rfl rfl rfl
      · refine JO.aloadn dX9_show_40 rfl ?_
        refine JO.ic (-1) dX9_show_41 (by decide) ?_
        refine JO.cvi (C_cP_refuse _ _) rcvP K_cP_refuse k2_86 rfl rfl rfl (Nat.le_of_ble_eq_true rfl) dX9_show_42 (fun a5 => ?_)
        exact JO.iret dX9_show_45 rfl rfl rfl
    · refine JO.aloadn dX9_show_18 rfl ?_
      refine gP0 k2_39 dX9_show_19 ?_
      refine JO.iloadn dX9_show_22 rfl ?_
      refine JO.aH dX9_show_23 (fun h22 => ?_)
      refine JO.cvv (C_cH_clear h22 _) (rcvH h22) K_cH_clear k2_149 rfl rfl rfl (Nat.le_of_ble_eq_true rfl) dX9_show_24 (fun a6 => ?_)
      refine JO.ic 0 dX9_show_27 (by decide) ?_
      exact JO.iret dX9_show_28 rfl rfl rfl
  · refine JO.aloadn dX9_show_7 rfl ?_
    refine JO.ic (-1) dX9_show_8 (by decide) ?_
    refine JO.cvi (C_cP_refuse _ _) rcvP K_cP_refuse k2_86 rfl rfl rfl (Nat.le_of_ble_eq_true rfl) dX9_show_9 (fun a7 => ?_)
    exact JO.iret dX9_show_12 rfl rfl rfl
theorem C_cP_show {ad : Nat → Nat} {Z : ZT} (p1 : Int32) (p2 : Int32) (σ : CS) : CO yX9_show M_cP_show eI Z (wC ad Z) [.ref (ad 0), .int p1, .int p2] (wsC ad Z σ) (cP_show p1 p2 σ) :=
  CO.of rfl rfl (Nat.le_of_ble_eq_true rfl) 0 (fun X hZ => by subst hZ; exact J_cP_show _ _ σ)
theorem K_cP_show : Kv yX9_show M_cP_show RX9 2 := ⟨rfl, k2_146, k2_147, k1_1, k2_148, by decide +kernel⟩
abbrev M_cP_holds : JM := (cX9_holds, 2, RX9, (some .int), 1, 20)
def cP_holds (p1 : Int32) (σ : CS) : Option (Int32 × CS) :=
  (cP_isShelf p1 σ).bind fun a1 =>
  if a1.1 = true then (
    if inB p1 8 = true then
    (cH_isEmpty (ix p1) a1.2).bind fun a2 =>
    if a2.1 = true then (
      some ((-1), a2.2))
    else (
      if inB p1 8 = true then
      (cH_isRow (ix p1) a2.2).bind fun a3 =>
      if a3.1 = true then (
        if inB p1 8 = true then
        some ((100 + cI a3.2 (58 + (ix p1)) 1), a3.2)
        else none)
      else (
        if inB p1 8 = true then
        some ((200 + cI a3.2 (58 + (ix p1)) 4), a3.2)
        else none)
      else none)
    else none)
  else (
    some ((-1), a1.2))
theorem J_cP_holds {X : JX} {ad : Nat → Nat} (p1 : Int32) (σ : CS) : JO X M_cP_holds (QF X eI (wC ad (xZ X))) 0 [some (.ref (ad 0)), some (.int p1)] [] (wsC ad (xZ X) σ) (cP_holds p1 σ) := by
  unfold cP_holds
  refine JO.iloadn dX9_holds_0 rfl ?_
  refine JO.csz (C_cP_isShelf _ _) K_cP_isShelf k2_83 rfl rfl rfl (Nat.le_of_ble_eq_true rfl) dX9_holds_1 (fun a1 => ?_)
  refine JO.zeq 19 dX9_holds_4 rfl ?_ ?_
  · refine JO.ic (-1) dX9_holds_19 (by decide) ?_
    exact JO.iret dX9_holds_20 rfl rfl rfl
  · refine JO.aloadn dX9_holds_7 rfl ?_
    refine gP0 k2_39 dX9_holds_8 ?_
    refine JO.iloadn dX9_holds_11 rfl ?_
    refine JO.aH dX9_holds_12 (fun h21 => ?_)
    refine JO.cvz (C_cH_isEmpty h21 _) (rcvH h21) K_cH_isEmpty k2_109 rfl rfl rfl (Nat.le_of_ble_eq_true rfl) dX9_holds_13 (fun a2 => ?_)
    refine JO.zeq 21 dX9_holds_16 rfl ?_ ?_
    · refine JO.aloadn dX9_holds_21 rfl ?_
      refine gP0 k2_39 dX9_holds_22 ?_
      refine JO.iloadn dX9_holds_25 rfl ?_
      refine JO.aH dX9_holds_26 (fun h22 => ?_)
      refine JO.cvz (C_cH_isRow h22 _) (rcvH h22) K_cH_isRow k3_103 rfl rfl rfl (Nat.le_of_ble_eq_true rfl) dX9_holds_27 (fun a3 => ?_)
      refine JO.zeq 48 dX9_holds_30 rfl ?_ ?_
      · refine JO.sip 200 dX9_holds_48 (by decide) ?_
        refine JO.aloadn dX9_holds_51 rfl ?_
        refine gP0 k2_39 dX9_holds_52 ?_
        refine JO.iloadn dX9_holds_55 rfl ?_
        refine JO.aH dX9_holds_56 (fun h23 => ?_)
        refine gH4 h23 k2_17 dX9_holds_57 ?_
        refine JO.iadd dX9_holds_60 ?_
        exact JO.iret dX9_holds_61 rfl rfl rfl
      · refine JO.bip 100 dX9_holds_33 (by decide) ?_
        refine JO.aloadn dX9_holds_35 rfl ?_
        refine gP0 k2_39 dX9_holds_36 ?_
        refine JO.iloadn dX9_holds_39 rfl ?_
        refine JO.aH dX9_holds_40 (fun h24 => ?_)
        refine gH1 h24 k2_10 dX9_holds_41 ?_
        refine JO.iadd dX9_holds_44 ?_
        refine JO.goto 61 dX9_holds_45 rfl ?_
        exact JO.iret dX9_holds_61 rfl rfl rfl
    · refine JO.ic (-1) dX9_holds_19 (by decide) ?_
      exact JO.iret dX9_holds_20 rfl rfl rfl
theorem C_cP_holds {ad : Nat → Nat} {Z : ZT} (p1 : Int32) (σ : CS) : CO yX9_holds M_cP_holds eI Z (wC ad Z) [.ref (ad 0), .int p1] (wsC ad Z σ) (cP_holds p1 σ) :=
  CO.of rfl rfl (Nat.le_of_ble_eq_true rfl) 0 (fun X hZ => by subst hZ; exact J_cP_holds _ σ)
theorem K_cP_holds : Kv yX9_holds M_cP_holds RX9 1 := ⟨rfl, k3_100, k3_101, k1_1, k3_102, by decide +kernel⟩
abbrev M_cP_says : JM := (cX9_says, 3, RX9, (some .int), 1, 21)
def cP_says_b16 (σ : CS) : Option (Int32 × CS) :=
  (cP_refuse (-1) σ).bind fun a1 =>
  some (a1.1, a1.2)
def cP_says_b66 (σ : CS) : Option (Int32 × CS) :=
  (cP_refuse (-2) σ).bind fun a1 =>
  some (a1.1, a1.2)
def cP_says (p1 : Int32) (p2 : Int32) (σ : CS) : Option (Int32 × CS) :=
  (cP_isShelf p1 σ).bind fun a1 =>
  if a1.1 = true then (
    if p2 < 0 then (
      cP_says_b16 a1.2)
    else (
      if p2 ≤ 3 then (
        if inB p1 8 = true then
        (cH_isEmpty (ix p1) a1.2).bind fun a2 =>
        if a2.1 = true then (
          (cP_refuse (-3) a2.2).bind fun a6 =>
          some (a6.1, a6.2))
        else (
          if inB p1 8 = true then
          (cH_isRow (ix p1) a2.2).bind fun a3 =>
          if a3.1 = true then (
            cP_says_b66 a3.2)
          else (
            if inB p1 8 = true then
            (cH_isOfSort (ix p1) p2 a3.2).bind fun a4 =>
            if a4.1 = true then (
              if inB p1 8 = true then
              (cH_saysAs (ix p1) p2 a4.2).bind fun a5 =>
              some (a5.1, a5.2)
              else none)
            else (
              cP_says_b66 a4.2)
            else none)
          else none)
        else none)
      else (
        cP_says_b16 a1.2)))
  else (
    cP_says_b16 a1.2)
theorem J_cP_says_b16 {X : JX} {ad : Nat → Nat} (σ : CS) : JO X M_cP_says (QF X eI (wC ad (xZ X))) 16 [some (.ref (ad 0)), none, none] [] (wsC ad (xZ X) σ) (cP_says_b16 σ) := by
  unfold cP_says_b16
  refine JO.aloadn dX9_says_16 rfl ?_
  refine JO.ic (-1) dX9_says_17 (by decide) ?_
  refine JO.cvi (C_cP_refuse _ _) rcvP K_cP_refuse k2_86 rfl rfl rfl (Nat.le_of_ble_eq_true rfl) dX9_says_18 (fun a1 => ?_)
  exact JO.iret dX9_says_21 rfl rfl rfl
theorem J_cP_says_b66 {X : JX} {ad : Nat → Nat} (σ : CS) : JO X M_cP_says (QF X eI (wC ad (xZ X))) 66 [some (.ref (ad 0)), none, none] [] (wsC ad (xZ X) σ) (cP_says_b66 σ) := by
  unfold cP_says_b66
  refine JO.aloadn dX9_says_66 rfl ?_
  refine JO.bip (-2) dX9_says_67 (by decide) ?_
  refine JO.cvi (C_cP_refuse _ _) rcvP K_cP_refuse k2_86 rfl rfl rfl (Nat.le_of_ble_eq_true rfl) dX9_says_69 (fun a1 => ?_)
  exact JO.iret dX9_says_72 rfl rfl rfl
theorem J_cP_says {X : JX} {ad : Nat → Nat} (p1 : Int32) (p2 : Int32) (σ : CS) : JO X M_cP_says (QF X eI (wC ad (xZ X))) 0 [some (.ref (ad 0)), some (.int p1), some (.int p2)] [] (wsC ad (xZ X) σ) (cP_says p1 p2 σ) := by
  unfold cP_says
  refine JO.iloadn dX9_says_0 rfl ?_
  refine JO.csz (C_cP_isShelf _ _) K_cP_isShelf k2_83 rfl rfl rfl (Nat.le_of_ble_eq_true rfl) dX9_says_1 (fun a1 => ?_)
  refine JO.zeq 16 dX9_says_4 rfl ?_ ?_
  · exact (J_cP_says_b16 _).jump (lvLe.so rfl (lvLe.no (lvLe.no (lvLe.nil))))
  · refine JO.iloadn dX9_says_7 rfl ?_
    refine JO.if_lt 16 dX9_says_8 rfl ?_ ?_
    · exact (J_cP_says_b16 _).jump (lvLe.so rfl (lvLe.no (lvLe.no (lvLe.nil))))
    · refine JO.iloadn dX9_says_11 rfl ?_
      refine JO.ic 3 dX9_says_12 (by decide) ?_
      refine JO.icmp_le 22 dX9_says_13 rfl ?_ ?_
      · refine JO.aloadn dX9_says_22 rfl ?_
        refine gP0 k2_39 dX9_says_23 ?_
        refine JO.iloadn dX9_says_26 rfl ?_
        refine JO.aH dX9_says_27 (fun h21 => ?_)
        refine JO.cvz (C_cH_isEmpty h21 _) (rcvH h21) K_cH_isEmpty k2_109 rfl rfl rfl (Nat.le_of_ble_eq_true rfl) dX9_says_28 (fun a2 => ?_)
        refine JO.zeq 41 dX9_says_31 rfl ?_ ?_
        · refine JO.aloadn dX9_says_41 rfl ?_
          refine gP0 k2_39 dX9_says_42 ?_
          refine JO.iloadn dX9_says_45 rfl ?_
          refine JO.aH dX9_says_46 (fun h22 => ?_)
          refine JO.cvz (C_cH_isRow h22 _) (rcvH h22) K_cH_isRow k3_103 rfl rfl rfl (Nat.le_of_ble_eq_true rfl) dX9_says_47 (fun a3 => ?_)
          refine JO.zne 66 dX9_says_50 rfl ?_ ?_
          · exact (J_cP_says_b66 _).jump (lvLe.so rfl (lvLe.no (lvLe.no (lvLe.nil))))
          · refine JO.aloadn dX9_says_53 rfl ?_
            refine gP0 k2_39 dX9_says_54 ?_
            refine JO.iloadn dX9_says_57 rfl ?_
            refine JO.aH dX9_says_58 (fun h23 => ?_)
            refine JO.iloadn dX9_says_59 rfl ?_
            refine JO.cvz (C_cH_isOfSort h23 _ _) (rcvH h23) K_cH_isOfSort k3_111 rfl rfl rfl (Nat.le_of_ble_eq_true rfl) dX9_says_60 (fun a4 => ?_)
            refine JO.zne 73 dX9_says_63 rfl ?_ ?_
            · refine JO.aloadn dX9_says_73 rfl ?_
              refine gP0 k2_39 dX9_says_74 ?_
              refine JO.iloadn dX9_says_77 rfl ?_
              refine JO.aH dX9_says_78 (fun h24 => ?_)
              refine JO.iloadn dX9_says_79 rfl ?_
              refine JO.cvi (C_cH_saysAs h24 _ _) (rcvH h24) K_cH_saysAs k3_115 rfl rfl rfl (Nat.le_of_ble_eq_true rfl) dX9_says_80 (fun a5 => ?_)
              exact JO.iret dX9_says_83 rfl rfl rfl
            · exact (J_cP_says_b66 _).jump (lvLe.so rfl (lvLe.no (lvLe.no (lvLe.nil))))
        · refine JO.aloadn dX9_says_34 rfl ?_
          refine JO.bip (-3) dX9_says_35 (by decide) ?_
          refine JO.cvi (C_cP_refuse _ _) rcvP K_cP_refuse k2_86 rfl rfl rfl (Nat.le_of_ble_eq_true rfl) dX9_says_37 (fun a6 => ?_)
          exact JO.iret dX9_says_40 rfl rfl rfl
      · exact (J_cP_says_b16 _).jump (lvLe.so rfl (lvLe.no (lvLe.no (lvLe.nil))))
theorem C_cP_says {ad : Nat → Nat} {Z : ZT} (p1 : Int32) (p2 : Int32) (σ : CS) : CO yX9_says M_cP_says eI Z (wC ad Z) [.ref (ad 0), .int p1, .int p2] (wsC ad Z σ) (cP_says p1 p2 σ) :=
  CO.of rfl rfl (Nat.le_of_ble_eq_true rfl) 0 (fun X hZ => by subst hZ; exact J_cP_says _ _ σ)
theorem K_cP_says : Kv yX9_says M_cP_says RX9 2 := ⟨rfl, k3_108, k3_109, k1_1, k3_110, by decide +kernel⟩
abbrev M_cP_forgetRuns : JM := (cX9_forgetRuns, 1, RX9, none, 0, 0)
def cP_forgetRuns (σ : CS) : Option (Unit × CS) :=
  some ((), tZ (tZ σ 0 8 false) 0 10 false)
theorem J_cP_forgetRuns {X : JX} {ad : Nat → Nat} (σ : CS) : JO X M_cP_forgetRuns (QF X eV (wC ad (xZ X))) 0 [some (.ref (ad 0))] [] (wsC ad (xZ X) σ) (cP_forgetRuns σ) := by
  unfold cP_forgetRuns
  refine JO.aloadn dX9_forgetRuns_0 rfl ?_
  refine JO.ic 0 dX9_forgetRuns_1 (by decide) ?_
  refine pP8 (v := false) k2_47 dX9_forgetRuns_2 ?_
  refine JO.aloadn dX9_forgetRuns_5 rfl ?_
  refine JO.ic 0 dX9_forgetRuns_6 (by decide) ?_
  refine pP10 (v := false) k2_49 dX9_forgetRuns_7 ?_
  exact JO.vret dX9_forgetRuns_10 rfl rfl rfl
theorem C_cP_forgetRuns {ad : Nat → Nat} {Z : ZT} (σ : CS) : CO yX9_forgetRuns M_cP_forgetRuns eV Z (wC ad Z) [.ref (ad 0)] (wsC ad Z σ) (cP_forgetRuns σ) :=
  CO.of rfl rfl (Nat.le_of_ble_eq_true rfl) 0 (fun X hZ => by subst hZ; exact J_cP_forgetRuns σ)
theorem K_cP_forgetRuns : Kv yX9_forgetRuns M_cP_forgetRuns RX9 0 := ⟨rfl, k4_19, s2_15, k1_1, k4_20, by decide +kernel⟩
abbrev M_cP_read : JM := (cX9_read, 4, RX9, (some .int), 8, 180)
def cP_read (p1 : Int32) (σ : CS) : Option (Int32 × CS) :=
  (cP_rowLack p1 σ).bind fun a1 =>
  if a1.1 = 0 then (
    (cS_takeFrom 10 3 a1.2).bind fun a2 =>
    if inB p1 8 = true then
    (cQ_readItems (ix p1) a2.2).bind fun a3 =>
    if a3.1 = (-1) then (
      (cP_refuse (-6) (tI a3.2 0 6 (cI a3.2 9 1))).bind fun a6 =>
      some (a6.1, a6.2))
    else (
      (cS_takeFrom 3 10 (tI a3.2 0 6 (cI a3.2 9 1))).bind fun a4 =>
      (cP_forgetRuns a4.2).bind fun a5 =>
      some (a3.1, a5.2))
    else none)
  else (
    (cP_refuse a1.1 a1.2).bind fun a7 =>
    some (a7.1, a7.2))
theorem J_cP_read {X : JX} {ad : Nat → Nat} (p1 : Int32) (σ : CS) : JO X M_cP_read (QF X eI (wC ad (xZ X))) 0 [some (.ref (ad 0)), some (.int p1), none, none] [] (wsC ad (xZ X) σ) (cP_read p1 σ) := by
  unfold cP_read
  refine JO.aloadn dX9_read_0 rfl ?_
  refine JO.iloadn dX9_read_1 rfl ?_
  refine JO.cvi (C_cP_rowLack _ _) rcvP K_cP_rowLack k2_101 rfl rfl rfl (Nat.le_of_ble_eq_true rfl) dX9_read_2 (fun a1 => ?_)
  refine JO.istoren dX9_read_5 rfl rfl ?_
  refine JO.iloadn dX9_read_6 rfl ?_
  refine JO.if_eq 16 dX9_read_7 rfl ?_ ?_
  · refine JO.aloadn dX9_read_16 rfl ?_
    refine gP5 k2_44 dX9_read_17 ?_
    refine gQ0 k1_89 dX9_read_20 ?_
    refine JO.aloadn dX9_read_23 rfl ?_
    refine gP2 k2_41 dX9_read_24 ?_
    refine JO.cvv (C_cS_takeFrom isS10 isS3 _) (rcvS isS10) K_cS_takeFrom k3_123 rfl rfl rfl (Nat.le_of_ble_eq_true rfl) dX9_read_27 (fun a2 => ?_)
    refine JO.aloadn dX9_read_30 rfl ?_
    refine gP5 k2_44 dX9_read_31 ?_
    refine JO.aloadn dX9_read_34 rfl ?_
    refine gP0 k2_39 dX9_read_35 ?_
    refine JO.iloadn dX9_read_38 rfl ?_
    refine JO.aH dX9_read_39 (fun h21 => ?_)
    refine JO.cvi (C_cQ_readItems h21 _) rcvQ K_cQ_readItems k3_128 rfl rfl rfl (Nat.le_of_ble_eq_true rfl) dX9_read_40 (fun a3 => ?_)
    refine JO.istoren dX9_read_43 rfl rfl ?_
    refine JO.aloadn dX9_read_44 rfl ?_
    refine JO.aloadn dX9_read_45 rfl ?_
    refine gP5 k2_44 dX9_read_46 ?_
    refine gQ1 k1_91 dX9_read_49 ?_
    refine pP6 k2_45 dX9_read_52 ?_
    refine JO.iloadn dX9_read_55 rfl ?_
    refine JO.ic (-1) dX9_read_56 (by decide) ?_
    refine JO.icmp_ne 67 dX9_read_57 rfl ?_ ?_
    · refine JO.aloadn dX9_read_67 rfl ?_
      refine gP2 k2_41 dX9_read_68 ?_
      refine JO.aloadn dX9_read_71 rfl ?_
      refine gP5 k2_44 dX9_read_72 ?_
      refine gQ0 k1_89 dX9_read_75 ?_
      refine JO.cvv (C_cS_takeFrom isS3 isS10 _) (rcvS isS3) K_cS_takeFrom k3_123 rfl rfl rfl (Nat.le_of_ble_eq_true rfl) dX9_read_78 (fun a4 => ?_)
      refine JO.aloadn dX9_read_81 rfl ?_
      refine JO.cvv (C_cP_forgetRuns _) rcvP K_cP_forgetRuns k4_17 rfl rfl rfl (Nat.le_of_ble_eq_true rfl) dX9_read_82 (fun a5 => ?_)
      refine JO.iloadn dX9_read_85 rfl ?_
      exact JO.iret dX9_read_86 rfl rfl rfl
    · refine JO.aloadn dX9_read_60 rfl ?_
      refine JO.bip (-6) dX9_read_61 (by decide) ?_
      refine JO.cvi (C_cP_refuse _ _) rcvP K_cP_refuse k2_86 rfl rfl rfl (Nat.le_of_ble_eq_true rfl) dX9_read_63 (fun a6 => ?_)
      exact JO.iret dX9_read_66 rfl rfl rfl
  · refine JO.aloadn dX9_read_10 rfl ?_
    refine JO.iloadn dX9_read_11 rfl ?_
    refine JO.cvi (C_cP_refuse _ _) rcvP K_cP_refuse k2_86 rfl rfl rfl (Nat.le_of_ble_eq_true rfl) dX9_read_12 (fun a7 => ?_)
    exact JO.iret dX9_read_15 rfl rfl rfl
theorem C_cP_read {ad : Nat → Nat} {Z : ZT} (p1 : Int32) (σ : CS) : CO yX9_read M_cP_read eI Z (wC ad Z) [.ref (ad 0), .int p1] (wsC ad Z σ) (cP_read p1 σ) :=
  CO.of rfl rfl (Nat.le_of_ble_eq_true rfl) 2 (fun X hZ => by subst hZ; exact J_cP_read _ σ)
theorem K_cP_read : Kv yX9_read M_cP_read RX9 1 := ⟨rfl, k3_120, k3_121, k1_1, k3_122, by decide +kernel⟩
abbrev M_cP_fault : JM := (cX9_fault, 1, RX9, (some .int), 0, 0)
def cP_fault (σ : CS) : Option (Int32 × CS) :=
  some (cI σ 0 6, σ)
theorem J_cP_fault {X : JX} {ad : Nat → Nat} (σ : CS) : JO X M_cP_fault (QF X eI (wC ad (xZ X))) 0 [some (.ref (ad 0))] [] (wsC ad (xZ X) σ) (cP_fault σ) := by
  unfold cP_fault
  refine JO.aloadn dX9_fault_0 rfl ?_
  refine gP6 k2_45 dX9_fault_1 ?_
  exact JO.iret dX9_fault_4 rfl rfl rfl
theorem C_cP_fault {ad : Nat → Nat} {Z : ZT} (σ : CS) : CO yX9_fault M_cP_fault eI Z (wC ad Z) [.ref (ad 0)] (wsC ad Z σ) (cP_fault σ) :=
  CO.of rfl rfl (Nat.le_of_ble_eq_true rfl) 0 (fun X hZ => by subst hZ; exact J_cP_fault σ)
theorem K_cP_fault : Kv yX9_fault M_cP_fault RX9 0 := ⟨rfl, k4_22, k4_23, k1_1, k4_24, by decide +kernel⟩
abbrev M_cP_put : JM := (cX9_put, 4, RX9, (some .int), 1, 22)
def cP_put_b9 (σ : CS) : Option (Int32 × CS) :=
  (cP_refuse (-5) σ).bind fun a1 =>
  some (a1.1, a1.2)
def cP_put (p1 : Int32) (p2 : Int32) (σ : CS) : Option (Int32 × CS) :=
  if p1 < 0 then (
    cP_put_b9 σ)
  else (
    if p1 ≤ 3 then (
      (cS_mayBe p1 p2 σ).bind fun a1 =>
      if a1.1 = true then (
        (cS_number 3 p1 a1.2).bind fun a2 =>
        (cS_giveNumber 3 p1 p2 a2.2).bind fun a3 =>
        (cP_forgetRuns a3.2).bind fun a4 =>
        some (a2.1, a4.2))
      else (
        (cP_refuse (-6) a1.2).bind fun a5 =>
        some (a5.1, a5.2)))
    else (
      cP_put_b9 σ))
theorem J_cP_put_b9 {X : JX} {ad : Nat → Nat} (σ : CS) : JO X M_cP_put (QF X eI (wC ad (xZ X))) 9 [some (.ref (ad 0)), none, none, none] [] (wsC ad (xZ X) σ) (cP_put_b9 σ) := by
  unfold cP_put_b9
  refine JO.aloadn dX9_put_9 rfl ?_
  refine JO.bip (-5) dX9_put_10 (by decide) ?_
  refine JO.cvi (C_cP_refuse _ _) rcvP K_cP_refuse k2_86 rfl rfl rfl (Nat.le_of_ble_eq_true rfl) dX9_put_12 (fun a1 => ?_)
  exact JO.iret dX9_put_15 rfl rfl rfl
theorem J_cP_put {X : JX} {ad : Nat → Nat} (p1 : Int32) (p2 : Int32) (σ : CS) : JO X M_cP_put (QF X eI (wC ad (xZ X))) 0 [some (.ref (ad 0)), some (.int p1), some (.int p2), none] [] (wsC ad (xZ X) σ) (cP_put p1 p2 σ) := by
  unfold cP_put
  refine JO.iloadn dX9_put_0 rfl ?_
  refine JO.if_lt 9 dX9_put_1 rfl ?_ ?_
  · exact (J_cP_put_b9 _).jump (lvLe.so rfl (lvLe.no (lvLe.no (lvLe.no (lvLe.nil)))))
  · refine JO.iloadn dX9_put_4 rfl ?_
    refine JO.ic 3 dX9_put_5 (by decide) ?_
    refine JO.icmp_le 16 dX9_put_6 rfl ?_ ?_
    · refine JO.iloadn dX9_put_16 rfl ?_
      refine JO.iloadn dX9_put_17 rfl ?_
      refine JO.csz (C_cS_mayBe _ _ _) K_cS_mayBe k4_29 rfl rfl rfl (Nat.le_of_ble_eq_true rfl) dX9_put_18 (fun a1 => ?_)
      refine JO.zne 31 dX9_put_21 rfl ?_ ?_
      · refine JO.aloadn dX9_put_31 rfl ?_
        refine gP2 k2_41 dX9_put_32 ?_
        refine JO.iloadn dX9_put_35 rfl ?_
        refine JO.cvi (C_cS_number isS3 _ _) (rcvS isS3) K_cS_number k4_38 rfl rfl rfl (Nat.le_of_ble_eq_true rfl) dX9_put_36 (fun a2 => ?_)
        refine JO.istoren dX9_put_39 rfl rfl ?_
        refine JO.aloadn dX9_put_40 rfl ?_
        refine gP2 k2_41 dX9_put_41 ?_
        refine JO.iloadn dX9_put_44 rfl ?_
        refine JO.iloadn dX9_put_45 rfl ?_
        refine JO.cvv (C_cS_giveNumber isS3 _ _ _) (rcvS isS3) K_cS_giveNumber k4_42 rfl rfl rfl (Nat.le_of_ble_eq_true rfl) dX9_put_46 (fun a3 => ?_)
        refine JO.aloadn dX9_put_49 rfl ?_
        refine JO.cvv (C_cP_forgetRuns _) rcvP K_cP_forgetRuns k4_17 rfl rfl rfl (Nat.le_of_ble_eq_true rfl) dX9_put_50 (fun a4 => ?_)
        refine JO.iloadn dX9_put_53 rfl ?_
        exact JO.iret dX9_put_54 rfl rfl rfl
      · refine JO.aloadn dX9_put_24 rfl ?_
        refine JO.bip (-6) dX9_put_25 (by decide) ?_
        refine JO.cvi (C_cP_refuse _ _) rcvP K_cP_refuse k2_86 rfl rfl rfl (Nat.le_of_ble_eq_true rfl) dX9_put_27 (fun a5 => ?_)
        exact JO.iret dX9_put_30 rfl rfl rfl
    · exact (J_cP_put_b9 _).jump (lvLe.so rfl (lvLe.no (lvLe.no (lvLe.no (lvLe.nil)))))
theorem C_cP_put {ad : Nat → Nat} {Z : ZT} (p1 : Int32) (p2 : Int32) (σ : CS) : CO yX9_put M_cP_put eI Z (wC ad Z) [.ref (ad 0), .int p1, .int p2] (wsC ad Z σ) (cP_put p1 p2 σ) :=
  CO.of rfl rfl (Nat.le_of_ble_eq_true rfl) 1 (fun X hZ => by subst hZ; exact J_cP_put _ _ σ)
theorem K_cP_put : Kv yX9_put M_cP_put RX9 2 := ⟨rfl, k4_26, k4_27, k1_1, k4_28, by decide +kernel⟩
abbrev M_cP_vote : JM := (cX9_vote, 4, RX9, (some .int), 1, 22)
def cP_vote_b11 (σ : CS) : Option (Int32 × CS) :=
  (cP_refuse (-1) σ).bind fun a1 =>
  some (a1.1, a1.2)
def cP_vote_b33 (x1 : Int32) (x2 : Bool) (t0 : Bool) (σ : CS) : Option (Int32 × CS) :=
  (cS_giveVote 3 x1 x2 σ).bind fun a1 =>
  (cP_forgetRuns a1.2).bind fun a2 =>
  some ((bI t0), a2.2)
def cP_vote (p1 : Int32) (p2 : Bool) (σ : CS) : Option (Int32 × CS) :=
  if p1 < 1 then (
    cP_vote_b11 σ)
  else (
    if p1 < 6 then (
      (cS_votesYes 3 p1 σ).bind fun a1 =>
      if a1.1 = true then (
        cP_vote_b33 p1 p2 true a1.2)
      else (
        cP_vote_b33 p1 p2 false a1.2))
    else (
      cP_vote_b11 σ))
theorem J_cP_vote_b11 {X : JX} {ad : Nat → Nat} (σ : CS) : JO X M_cP_vote (QF X eI (wC ad (xZ X))) 11 [some (.ref (ad 0)), none, none, none] [] (wsC ad (xZ X) σ) (cP_vote_b11 σ) := by
  unfold cP_vote_b11
  refine JO.aloadn dX9_vote_11 rfl ?_
  refine JO.ic (-1) dX9_vote_12 (by decide) ?_
  refine JO.cvi (C_cP_refuse _ _) rcvP K_cP_refuse k2_86 rfl rfl rfl (Nat.le_of_ble_eq_true rfl) dX9_vote_13 (fun a1 => ?_)
  exact JO.iret dX9_vote_16 rfl rfl rfl
theorem J_cP_vote_b33 {X : JX} {ad : Nat → Nat} (x1 : Int32) (x2 : Bool) (t0 : Bool) (σ : CS) : JO X M_cP_vote (QF X eI (wC ad (xZ X))) 33 [some (.ref (ad 0)), some (.int x1), some (.int (bI x2)), none] [.int (bI t0)] (wsC ad (xZ X) σ) (cP_vote_b33 x1 x2 t0 σ) := by
  unfold cP_vote_b33
  refine JO.istoren dX9_vote_33 rfl rfl ?_
  refine JO.aloadn dX9_vote_34 rfl ?_
  refine gP2 k2_41 dX9_vote_35 ?_
  refine JO.iloadn dX9_vote_38 rfl ?_
  refine JO.iloadn dX9_vote_39 rfl ?_
  refine JO.cvv (C_cS_giveVote isS3 _ x2 _) (rcvS isS3) K_cS_giveVote k4_51 rfl rfl rfl (Nat.le_of_ble_eq_true rfl) dX9_vote_40 (fun a1 => ?_)
  refine JO.aloadn dX9_vote_43 rfl ?_
  refine JO.cvv (C_cP_forgetRuns _) rcvP K_cP_forgetRuns k4_17 rfl rfl rfl (Nat.le_of_ble_eq_true rfl) dX9_vote_44 (fun a2 => ?_)
  refine JO.iloadn dX9_vote_47 rfl ?_
  exact JO.iret dX9_vote_48 rfl rfl rfl
theorem J_cP_vote {X : JX} {ad : Nat → Nat} (p1 : Int32) (p2 : Bool) (σ : CS) : JO X M_cP_vote (QF X eI (wC ad (xZ X))) 0 [some (.ref (ad 0)), some (.int p1), some (.int (bI p2)), none] [] (wsC ad (xZ X) σ) (cP_vote p1 p2 σ) := by
  unfold cP_vote
  refine JO.iloadn dX9_vote_0 rfl ?_
  refine JO.ic 1 dX9_vote_1 (by decide) ?_
  refine JO.icmp_lt 11 dX9_vote_2 rfl ?_ ?_
  · exact (J_cP_vote_b11 _).jump (lvLe.so rfl (lvLe.no (lvLe.no (lvLe.no (lvLe.nil)))))
  · refine JO.iloadn dX9_vote_5 rfl ?_
    refine JO.bip 6 dX9_vote_6 (by decide) ?_
    refine JO.icmp_lt 17 dX9_vote_8 rfl ?_ ?_
    · refine JO.aloadn dX9_vote_17 rfl ?_
      refine gP2 k2_41 dX9_vote_18 ?_
      refine JO.iloadn dX9_vote_21 rfl ?_
      refine JO.cvz (C_cS_votesYes isS3 _ _) (rcvS isS3) K_cS_votesYes k4_50 rfl rfl rfl (Nat.le_of_ble_eq_true rfl) dX9_vote_22 (fun a1 => ?_)
      refine JO.zeq 32 dX9_vote_25 rfl ?_ ?_
      · refine JO.ic 0 dX9_vote_32 (by decide) ?_
        exact (J_cP_vote_b33 _ p2 false _).jump (lvLe.so rfl (lvLe.so rfl (lvLe.so rfl (lvLe.no (lvLe.nil)))))
      · refine JO.ic 1 dX9_vote_28 (by decide) ?_
        refine JO.goto 33 dX9_vote_29 rfl ?_
        exact (J_cP_vote_b33 _ p2 true _).jump (lvLe.so rfl (lvLe.so rfl (lvLe.so rfl (lvLe.no (lvLe.nil)))))
    · exact (J_cP_vote_b11 _).jump (lvLe.so rfl (lvLe.no (lvLe.no (lvLe.no (lvLe.nil)))))
theorem C_cP_vote {ad : Nat → Nat} {Z : ZT} (p1 : Int32) (p2 : Bool) (σ : CS) : CO yX9_vote M_cP_vote eI Z (wC ad Z) [.ref (ad 0), .int p1, .int (bI p2)] (wsC ad Z σ) (cP_vote p1 p2 σ) :=
  CO.of rfl rfl (Nat.le_of_ble_eq_true rfl) 1 (fun X hZ => by subst hZ; exact J_cP_vote _ _ σ)
theorem K_cP_vote : Kv yX9_vote M_cP_vote RX9 2 := ⟨rfl, k4_47, k4_48, k1_1, k4_49, by decide +kernel⟩
abbrev M_cP_lose : JM := (cX9_lose, 4, RX9, (some .int), 1, 22)
def cP_lose_b10 (σ : CS) : Option (Int32 × CS) :=
  (cP_refuse (-1) σ).bind fun a1 =>
  some (a1.1, a1.2)
def cP_lose_b35 (x1 : Int32) (x2 : Bool) (t0 : Bool) (σ : CS) : Option (Int32 × CS) :=
  (cS_giveLoss 3 x1 x2 σ).bind fun a1 =>
  (cP_forgetRuns a1.2).bind fun a2 =>
  some ((bI t0), a2.2)
def cP_lose (p1 : Int32) (p2 : Bool) (σ : CS) : Option (Int32 × CS) :=
  if p1 < 0 then (
    cP_lose_b10 σ)
  else (
    if p1 < 60 then (
      (cP_isIn (cG σ 3 5) p1 σ).bind fun a1 =>
      if a1.1 = true then (
        cP_lose_b35 p1 p2 true a1.2)
      else (
        cP_lose_b35 p1 p2 false a1.2))
    else (
      cP_lose_b10 σ))
theorem J_cP_lose_b10 {X : JX} {ad : Nat → Nat} (σ : CS) : JO X M_cP_lose (QF X eI (wC ad (xZ X))) 10 [some (.ref (ad 0)), none, none, none] [] (wsC ad (xZ X) σ) (cP_lose_b10 σ) := by
  unfold cP_lose_b10
  refine JO.aloadn dX9_lose_10 rfl ?_
  refine JO.ic (-1) dX9_lose_11 (by decide) ?_
  refine JO.cvi (C_cP_refuse _ _) rcvP K_cP_refuse k2_86 rfl rfl rfl (Nat.le_of_ble_eq_true rfl) dX9_lose_12 (fun a1 => ?_)
  exact JO.iret dX9_lose_15 rfl rfl rfl
theorem J_cP_lose_b35 {X : JX} {ad : Nat → Nat} (x1 : Int32) (x2 : Bool) (t0 : Bool) (σ : CS) : JO X M_cP_lose (QF X eI (wC ad (xZ X))) 35 [some (.ref (ad 0)), some (.int x1), some (.int (bI x2)), none] [.int (bI t0)] (wsC ad (xZ X) σ) (cP_lose_b35 x1 x2 t0 σ) := by
  unfold cP_lose_b35
  refine JO.istoren dX9_lose_35 rfl rfl ?_
  refine JO.aloadn dX9_lose_36 rfl ?_
  refine gP2 k2_41 dX9_lose_37 ?_
  refine JO.iloadn dX9_lose_40 rfl ?_
  refine JO.iloadn dX9_lose_41 rfl ?_
  refine JO.cvv (C_cS_giveLoss isS3 _ x2 _) (rcvS isS3) K_cS_giveLoss k4_57 rfl rfl rfl (Nat.le_of_ble_eq_true rfl) dX9_lose_42 (fun a1 => ?_)
  refine JO.aloadn dX9_lose_45 rfl ?_
  refine JO.cvv (C_cP_forgetRuns _) rcvP K_cP_forgetRuns k4_17 rfl rfl rfl (Nat.le_of_ble_eq_true rfl) dX9_lose_46 (fun a2 => ?_)
  refine JO.iloadn dX9_lose_49 rfl ?_
  exact JO.iret dX9_lose_50 rfl rfl rfl
theorem J_cP_lose {X : JX} {ad : Nat → Nat} (p1 : Int32) (p2 : Bool) (σ : CS) : JO X M_cP_lose (QF X eI (wC ad (xZ X))) 0 [some (.ref (ad 0)), some (.int p1), some (.int (bI p2)), none] [] (wsC ad (xZ X) σ) (cP_lose p1 p2 σ) := by
  unfold cP_lose
  refine JO.iloadn dX9_lose_0 rfl ?_
  refine JO.if_lt 10 dX9_lose_1 rfl ?_ ?_
  · exact (J_cP_lose_b10 _).jump (lvLe.so rfl (lvLe.no (lvLe.no (lvLe.no (lvLe.nil)))))
  · refine JO.iloadn dX9_lose_4 rfl ?_
    refine JO.bip 60 dX9_lose_5 (by decide) ?_
    refine JO.icmp_lt 16 dX9_lose_7 rfl ?_ ?_
    · refine JO.aloadn dX9_lose_16 rfl ?_
      refine gP2 k2_41 dX9_lose_17 ?_
      refine gS5 isS3 k1_53 dX9_lose_20 ?_
      refine JO.iloadn dX9_lose_23 rfl ?_
      refine JO.csz (C_cP_isIn _ _ _) K_cP_isIn k4_56 rfl rfl rfl (Nat.le_of_ble_eq_true rfl) dX9_lose_24 (fun a1 => ?_)
      refine JO.zeq 34 dX9_lose_27 rfl ?_ ?_
      · refine JO.ic 0 dX9_lose_34 (by decide) ?_
        exact (J_cP_lose_b35 _ p2 false _).jump (lvLe.so rfl (lvLe.so rfl (lvLe.so rfl (lvLe.no (lvLe.nil)))))
      · refine JO.ic 1 dX9_lose_30 (by decide) ?_
        refine JO.goto 35 dX9_lose_31 rfl ?_
        exact (J_cP_lose_b35 _ p2 true _).jump (lvLe.so rfl (lvLe.so rfl (lvLe.so rfl (lvLe.no (lvLe.nil)))))
    · exact (J_cP_lose_b10 _).jump (lvLe.so rfl (lvLe.no (lvLe.no (lvLe.no (lvLe.nil)))))
theorem C_cP_lose {ad : Nat → Nat} {Z : ZT} (p1 : Int32) (p2 : Bool) (σ : CS) : CO yX9_lose M_cP_lose eI Z (wC ad Z) [.ref (ad 0), .int p1, .int (bI p2)] (wsC ad Z σ) (cP_lose p1 p2 σ) :=
  CO.of rfl rfl (Nat.le_of_ble_eq_true rfl) 1 (fun X hZ => by subst hZ; exact J_cP_lose _ _ σ)
theorem K_cP_lose : Kv yX9_lose M_cP_lose RX9 2 := ⟨rfl, k4_53, k4_54, k1_1, k4_55, by decide +kernel⟩
