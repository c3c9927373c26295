abbrev M_m_copy : JM := (cX10_copy, 11, RX10, (some .int), 3, 68)
def m_copy_b73 (k47 : Int32 → Int32 → Int32 → Int32 → MS → Option (Int32 × MS)) (x5 : Int32) (x7 : Int32) (x8 : Int32) (x9 : Int32) (t0 : Int32) (σ : MS) : Option (Int32 × MS) :=
  if inB (x7 + t0) 1280 = true then
  if inB (x8 + t0) 1280 = true then
  k47 x5 x7 x8 (x9 + 1) (sE σ (ix (x8 + t0)) (mE σ (ix (x7 + t0))))
  else none
  else none
def m_copy_l47 : Nat → Int32 → Int32 → Int32 → Int32 → MS → Option (Int32 × MS)
  | 0, _, _, _, _, _ => none
  | n + 1, x5, x7, x8, x9, σ =>
    if x5 ≤ x9 then (
      some (1, σ))
    else (
      if x8 ≤ x7 then (
        m_copy_b73 (fun x5 x7 x8 x9 σ => m_copy_l47 n x5 x7 x8 x9 σ) x5 x7 x8 x9 x9 σ)
      else (
        m_copy_b73 (fun x5 x7 x8 x9 σ => m_copy_l47 n x5 x7 x8 x9 σ) x5 x7 x8 x9 ((x5 - 1) - x9) σ))
def m_copy (p1 : Int32) (p2 : Int32) (p3 : Int32) (p4 : Int32) (p5 : Int32) (σ : MS) : Option (Int32 × MS) :=
  (m_notCopied p1 p2 p3 p4 p5 σ).bind fun a1 =>
  if a1.1 = 0 then (
    m_copy_l47 4096 p5 ((160 * p1) + p3) ((160 * p2) + p4) 0 a1.2)
  else (
    (m_no a1.1 a1.2).bind fun a2 =>
    some (a2.1, a2.2))
theorem J_m_copy_b73 {X : JX} {ad : Nat → Nat} {k47 : Int32 → Int32 → Int32 → Int32 → MS → Option (Int32 × MS)} (hk47 : ∀ (x5 : Int32) (x7 : Int32) (x8 : Int32) (x9 : Int32) (σ : MS), JO X M_m_copy (QF X eI (wM ad (xZ X))) 47 [some (.ref (ad 0)), none, none, none, none, some (.int x5), none, some (.int x7), some (.int x8), some (.int x9), none] [] (wsM ad (xZ X) σ) (k47 x5 x7 x8 x9 σ)) (x5 : Int32) (x7 : Int32) (x8 : Int32) (x9 : Int32) (t0 : Int32) (σ : MS) : JO X M_m_copy (QF X eI (wM ad (xZ X))) 73 [some (.ref (ad 0)), none, none, none, none, some (.int x5), none, some (.int x7), some (.int x8), some (.int x9), none] [.int t0] (wsM ad (xZ X) σ) (m_copy_b73 k47 x5 x7 x8 x9 t0 σ) := by
  unfold m_copy_b73
  refine JO.istore dX10_copy_73 rfl rfl ?_
  refine JO.aloadn dX10_copy_75 rfl ?_
  refine gM30 dX10_copy_76 rfl ?_
  refine JO.iload dX10_copy_79 rfl ?_
  refine JO.iload dX10_copy_81 rfl ?_
  refine JO.iadd dX10_copy_83 ?_
  refine JO.aloadn dX10_copy_84 rfl ?_
  refine gM30 dX10_copy_85 rfl ?_
  refine JO.iload dX10_copy_88 rfl ?_
  refine JO.iload dX10_copy_90 rfl ?_
  refine JO.iadd dX10_copy_92 ?_
  refine aM30 dX10_copy_93 ?_
  refine uM30 dX10_copy_94 ?_
  refine JO.iinc dX10_copy_95 rfl 1 (by decide) rfl rfl ?_
  refine JO.goto 47 dX10_copy_98 rfl ?_
  exact (hk47 _ _ _ _ _).jump (lvLe.so rfl (lvLe.no (lvLe.no (lvLe.no (lvLe.no (lvLe.so rfl (lvLe.no (lvLe.so rfl (lvLe.so rfl (lvLe.so rfl (lvLe.no (lvLe.nil))))))))))))
theorem J_m_copy_l47 {X : JX} {ad : Nat → Nat} : ∀ (n : Nat) (x5 : Int32) (x7 : Int32) (x8 : Int32) (x9 : Int32) (σ : MS), JO X M_m_copy (QF X eI (wM ad (xZ X))) 47 [some (.ref (ad 0)), none, none, none, none, some (.int x5), none, some (.int x7), some (.int x8), some (.int x9), none] [] (wsM ad (xZ X) σ) (m_copy_l47 n x5 x7 x8 x9 σ) := by
  intro n
  induction n with
  | zero => intro x5 x7 x8 x9 σ; exact JO.nil
  | succ n ih =>
    intro x5 x7 x8 x9 σ
    unfold m_copy_l47
    refine JO.iload dX10_copy_47 rfl ?_
    refine JO.iload dX10_copy_49 rfl ?_
    refine JO.icmp_ge 101 dX10_copy_51 rfl ?_ ?_
    · refine JO.ic 1 dX10_copy_101 (by decide) ?_
      exact JO.iret dX10_copy_102 rfl rfl rfl
    · refine JO.iload dX10_copy_54 rfl ?_
      refine JO.iload dX10_copy_56 rfl ?_
      refine JO.icmp_ge 71 dX10_copy_58 rfl ?_ ?_
      · refine JO.iload dX10_copy_71 rfl ?_
        exact (J_m_copy_b73 ih _ _ _ _ _ _).jump (lvLe.so rfl (lvLe.no (lvLe.no (lvLe.no (lvLe.no (lvLe.so rfl (lvLe.no (lvLe.so rfl (lvLe.so rfl (lvLe.so rfl (lvLe.no (lvLe.nil))))))))))))
      · refine JO.iload dX10_copy_61 rfl ?_
        refine JO.ic 1 dX10_copy_63 (by decide) ?_
        refine JO.isub dX10_copy_64 ?_
        refine JO.iload dX10_copy_65 rfl ?_
        refine JO.isub dX10_copy_67 ?_
        refine JO.goto 73 dX10_copy_68 rfl ?_
        exact (J_m_copy_b73 ih _ _ _ _ _ _).jump (lvLe.so rfl (lvLe.no (lvLe.no (lvLe.no (lvLe.no (lvLe.so rfl (lvLe.no (lvLe.so rfl (lvLe.so rfl (lvLe.so rfl (lvLe.no (lvLe.nil))))))))))))
theorem J_m_copy {X : JX} {ad : Nat → Nat} (p1 : Int32) (p2 : Int32) (p3 : Int32) (p4 : Int32) (p5 : Int32) (σ : MS) : JO X M_m_copy (QF X eI (wM ad (xZ X))) 0 [some (.ref (ad 0)), some (.int p1), some (.int p2), some (.int p3), some (.int p4), some (.int p5), none, none, none, none, none] [] (wsM ad (xZ X) σ) (m_copy p1 p2 p3 p4 p5 σ) := by
  unfold m_copy
  refine JO.aloadn dX10_copy_0 rfl ?_
  refine JO.iloadn dX10_copy_1 rfl ?_
  refine JO.iloadn dX10_copy_2 rfl ?_
  refine JO.iloadn dX10_copy_3 rfl ?_
  refine JO.iload dX10_copy_4 rfl ?_
  refine JO.iload dX10_copy_6 rfl ?_
  refine JO.mvi (C_m_notCopied _ _ _ _ _ _) K_m_notCopied k5_156 rfl rfl rfl (Nat.le_of_ble_eq_true rfl) dX10_copy_8 (fun a1 => ?_)
  refine JO.istore dX10_copy_11 rfl rfl ?_
  refine JO.iload dX10_copy_13 rfl ?_
  refine JO.if_eq 25 dX10_copy_15 rfl ?_ ?_
  · refine JO.sip 160 dX10_copy_25 (by decide) ?_
    refine JO.iloadn dX10_copy_28 rfl ?_
    refine JO.imul dX10_copy_29 ?_
    refine JO.iloadn dX10_copy_30 rfl ?_
    refine JO.iadd dX10_copy_31 ?_
    refine JO.istore dX10_copy_32 rfl rfl ?_
    refine JO.sip 160 dX10_copy_34 (by decide) ?_
    refine JO.iloadn dX10_copy_37 rfl ?_
    refine JO.imul dX10_copy_38 ?_
    refine JO.iload dX10_copy_39 rfl ?_
    refine JO.iadd dX10_copy_41 ?_
    refine JO.istore dX10_copy_42 rfl rfl ?_
    refine JO.ic 0 dX10_copy_44 (by decide) ?_
    refine JO.istore dX10_copy_45 rfl rfl ?_
    exact (J_m_copy_l47 4096 _ _ _ _ _).jump (lvLe.so rfl (lvLe.no (lvLe.no (lvLe.no (lvLe.no (lvLe.so rfl (lvLe.no (lvLe.so rfl (lvLe.so rfl (lvLe.so rfl (lvLe.no (lvLe.nil))))))))))))
  · refine JO.aloadn dX10_copy_18 rfl ?_
    refine JO.iload dX10_copy_19 rfl ?_
    refine JO.mvi (C_m_no _ _) K_m_no k5_137 rfl rfl rfl (Nat.le_of_ble_eq_true rfl) dX10_copy_21 (fun a2 => ?_)
    exact JO.iret dX10_copy_24 rfl rfl rfl
theorem C_m_copy {ad : Nat → Nat} {Z : ZT} (p1 : Int32) (p2 : Int32) (p3 : Int32) (p4 : Int32) (p5 : Int32) (σ : MS) : CO yX10_copy M_m_copy eI Z (wM ad Z) [.ref (ad 0), .int p1, .int p2, .int p3, .int p4, .int p5] (wsM ad Z σ) (m_copy p1 p2 p3 p4 p5 σ) :=
  CO.of rfl rfl (Nat.le_of_ble_eq_true rfl) 5 (fun X hZ => by subst hZ; exact J_m_copy _ _ _ _ _ σ)
theorem K_m_copy : Kv yX10_copy M_m_copy RX10 5 := ⟨rfl, k5_153, k5_154, k1_10, k5_155, by decide +kernel⟩
abbrev M_m_element : JM := (cX10_element, 3, RX10, (some .long), 2, 42)
def m_element (p1 : Int32) (p2 : Int32) (σ : MS) : Option (Int64 × MS) :=
  (m_isShelf p1 σ).bind fun a1 =>
  if a1.1 = true then (
    (m_isRow p1 a1.2).bind fun a2 =>
    if a2.1 = true then (
      if inB p1 8 = true then
      (m_isIn p2 0 (mA a2.2 29 (ix p1) - 1) a2.2).bind fun a3 =>
      if a3.1 = true then (
        if inB ((160 * p1) + p2) 1280 = true then
        some (mE a3.2 (ix ((160 * p1) + p2)), a3.2)
        else none)
      else (
        some (0, a3.2))
      else none)
    else (
      some (0, a2.2)))
  else (
    some (0, a1.2))
theorem J_m_element {X : JX} {ad : Nat → Nat} (p1 : Int32) (p2 : Int32) (σ : MS) : JO X M_m_element (QF X eL (wM ad (xZ X))) 0 [some (.ref (ad 0)), some (.int p1), some (.int p2)] [] (wsM ad (xZ X) σ) (m_element p1 p2 σ) := by
  unfold m_element
  refine JO.iloadn dX10_element_0 rfl ?_
  refine JO.msz (C_m_isShelf _ _) K_m_isShelf k5_131 rfl rfl rfl (Nat.le_of_ble_eq_true rfl) dX10_element_1 (fun a1 => ?_)
  refine JO.zeq 46 dX10_element_4 rfl ?_ ?_
  · refine JO.lc 0 dX10_element_46 (by decide) ?_
    exact JO.lret dX10_element_47 rfl rfl rfl
  · refine JO.aloadn dX10_element_7 rfl ?_
    refine JO.iloadn dX10_element_8 rfl ?_
    refine JO.mvz (C_m_isRow _ _) K_m_isRow k5_164 rfl rfl rfl (Nat.le_of_ble_eq_true rfl) dX10_element_9 (fun a2 => ?_)
    refine JO.zeq 46 dX10_element_12 rfl ?_ ?_
    · refine JO.lc 0 dX10_element_46 (by decide) ?_
      exact JO.lret dX10_element_47 rfl rfl rfl
    · refine JO.iloadn dX10_element_15 rfl ?_
      refine JO.ic 0 dX10_element_16 (by decide) ?_
      refine JO.aloadn dX10_element_17 rfl ?_
      refine gM29 dX10_element_18 rfl ?_
      refine JO.iloadn dX10_element_21 rfl ?_
      refine aM29 dX10_element_22 ?_
      refine JO.ic 1 dX10_element_23 (by decide) ?_
      refine JO.isub dX10_element_24 ?_
      refine JO.msz (C_m_isIn _ _ _ _) K_m_isIn k5_134 rfl rfl rfl (Nat.le_of_ble_eq_true rfl) dX10_element_25 (fun a3 => ?_)
      refine JO.zeq 46 dX10_element_28 rfl ?_ ?_
      · refine JO.lc 0 dX10_element_46 (by decide) ?_
        exact JO.lret dX10_element_47 rfl rfl rfl
      · refine JO.aloadn dX10_element_31 rfl ?_
        refine gM30 dX10_element_32 rfl ?_
        refine JO.sip 160 dX10_element_35 (by decide) ?_
        refine JO.iloadn dX10_element_38 rfl ?_
        refine JO.imul dX10_element_39 ?_
        refine JO.iloadn dX10_element_40 rfl ?_
        refine JO.iadd dX10_element_41 ?_
        refine aM30 dX10_element_42 ?_
        refine JO.goto 47 dX10_element_43 rfl ?_
        exact JO.lret dX10_element_47 rfl rfl rfl
theorem C_m_element {ad : Nat → Nat} {Z : ZT} (p1 : Int32) (p2 : Int32) (σ : MS) : CO yX10_element M_m_element eL Z (wM ad Z) [.ref (ad 0), .int p1, .int p2] (wsM ad Z σ) (m_element p1 p2 σ) :=
  CO.of rfl rfl (Nat.le_of_ble_eq_true rfl) 0 (fun X hZ => by subst hZ; exact J_m_element _ _ σ)
theorem K_m_element : Kv yX10_element M_m_element RX10 2 := ⟨rfl, k5_161, k5_162, k1_10, k5_163, by decide +kernel⟩
abbrev M_m_show : JM := (cX10_show, 3, RX10, (some .int), 8, 171)
def m_show (p1 : Int32) (p2 : Int32) (σ : MS) : Option (Int32 × MS) :=
  (m_isShelf p1 σ).bind fun a1 =>
  if a1.1 = true then (
    if p2 = (-1) then (
      if inB p1 8 = true then
      some (0, sA a1.2 28 (ix p1) 0)
      else none)
    else (
      (m_runs a1.2).bind fun a2 =>
      (m_isIn p2 0 (mI a2.2 21 - 1) a2.2).bind fun a3 =>
      if a3.1 = true then (
        if inB p2 200 = true then
        if inB p1 8 = true then
        if inB p2 200 = true then
        if inB p2 200 = true then
        if inB (160 * p1) 1280 = true then
        if inB p2 200 = true then
        if inB ((160 * p1) + 1) 1280 = true then
        some (1, sE (sE (sA a3.2 28 (ix p1) (200 + mA a3.2 16 (ix p2))) (ix (160 * p1)) (Int32.toInt64 ((10 * mA a3.2 17 (ix p2)) + mA a3.2 18 (ix p2)))) (ix ((160 * p1) + 1)) (Int32.toInt64 (mA a3.2 19 (ix p2))))
        else none
        else none
        else none
        else none
        else none
        else none
        else none)
      else (
        (m_no (-1) a3.2).bind fun a4 =>
        some (a4.1, a4.2))))
  else (
    (m_no (-1) a1.2).bind fun a5 =>
    some (a5.1, a5.2))
theorem J_m_show {X : JX} {ad : Nat → Nat} (p1 : Int32) (p2 : Int32) (σ : MS) : JO X M_m_show (QF X eI (wM ad (xZ X))) 0 [some (.ref (ad 0)), some (.int p1), some (.int p2)] [] (wsM ad (xZ X) σ) (m_show p1 p2 σ) := by
  unfold m_show
  refine JO.iloadn dX10_show_0 rfl ?_
  refine JO.msz (C_m_isShelf _ _) K_m_isShelf k5_131 rfl rfl rfl (Nat.le_of_ble_eq_true rfl) dX10_show_1 (fun a1 => ?_)
  refine JO.zne 13 dX10_show_4 rfl ?_ ?_
  · refine JO.iloadn dX10_show_13 rfl ?_
    refine JO.ic (-1) dX10_show_14 (by decide) ?_
    refine JO.icmp_ne 27 dX10_show_15 rfl ?_ ?_
    · refine JO.aloadn dX10_show_27 rfl ?_
      refine JO.mvv (C_m_runs _) K_m_runs k5_172 rfl rfl rfl (Nat.le_of_ble_eq_true rfl) dX10_show_28 (fun a2 => ?_)
      refine JO.iloadn dX10_show_31 rfl ?_
      refine JO.ic 0 dX10_show_32 (by decide) ?_
      refine JO.aloadn dX10_show_33 rfl ?_
      refine gM21 dX10_show_34 rfl ?_
      refine JO.ic 1 dX10_show_37 (by decide) ?_
      refine JO.isub dX10_show_38 ?_
      refine JO.msz (C_m_isIn _ _ _ _) K_m_isIn k5_134 rfl rfl rfl (Nat.le_of_ble_eq_true rfl) dX10_show_39 (fun a3 => ?_)
      refine JO.zne 51 dX10_show_42 rfl ?_ ?_
      · refine JO.aloadn dX10_show_51 rfl ?_
        refine gM28 dX10_show_52 rfl ?_
        refine JO.iloadn dX10_show_55 rfl ?_
        refine JO.sip 200 dX10_show_56 (by decide) ?_
        refine JO.aloadn dX10_show_59 rfl ?_
        refine gM16 dX10_show_60 rfl ?_
        refine JO.iloadn dX10_show_63 rfl ?_
        refine aM16 dX10_show_64 ?_
        refine JO.iadd dX10_show_65 ?_
        refine uM28 dX10_show_66 ?_
        refine JO.aloadn dX10_show_67 rfl ?_
        refine gM30 dX10_show_68 rfl ?_
        refine JO.sip 160 dX10_show_71 (by decide) ?_
        refine JO.iloadn dX10_show_74 rfl ?_
        refine JO.imul dX10_show_75 ?_
        refine JO.bip 10 dX10_show_76 (by decide) ?_
        refine JO.aloadn dX10_show_78 rfl ?_
        refine gM17 dX10_show_79 rfl ?_
        refine JO.iloadn dX10_show_82 rfl ?_
        refine aM17 dX10_show_83 ?_
        refine JO.imul dX10_show_84 ?_
        refine JO.aloadn dX10_show_85 rfl ?_
        refine gM18 dX10_show_86 rfl ?_
        refine JO.iloadn dX10_show_89 rfl ?_
        refine aM18 dX10_show_90 ?_
        refine JO.iadd dX10_show_91 ?_
        refine JO.i2l dX10_show_92 ?_
        refine uM30 dX10_show_93 ?_
        refine JO.aloadn dX10_show_94 rfl ?_
        refine gM30 dX10_show_95 rfl ?_
        refine JO.sip 160 dX10_show_98 (by decide) ?_
        refine JO.iloadn dX10_show_101 rfl ?_
        refine JO.imul dX10_show_102 ?_
        refine JO.ic 1 dX10_show_103 (by decide) ?_
        refine JO.iadd dX10_show_104 ?_
        refine JO.aloadn dX10_show_105 rfl ?_
        refine gM19 dX10_show_106 rfl ?_
        refine JO.iloadn dX10_show_109 rfl ?_
        refine aM19 dX10_show_110 ?_
        refine JO.i2l dX10_show_111 ?_
        refine uM30 dX10_show_112 ?_
        refine JO.ic 1 dX10_show_113 (by decide) ?_
        exact JO.iret dX10_show_114 rfl rfl rfl
      · refine JO.aloadn dX10_show_45 rfl ?_
        refine JO.ic (-1) dX10_show_46 (by decide) ?_
        refine JO.mvi (C_m_no _ _) K_m_no k5_137 rfl rfl rfl (Nat.le_of_ble_eq_true rfl) dX10_show_47 (fun a4 => ?_)
        exact JO.iret dX10_show_50 rfl rfl rfl
    · refine JO.aloadn dX10_show_18 rfl ?_
      refine gM28 dX10_show_19 rfl ?_
      refine JO.iloadn dX10_show_22 rfl ?_
      refine JO.ic 0 dX10_show_23 (by decide) ?_
      refine uM28 dX10_show_24 ?_
      refine JO.ic 0 dX10_show_25 (by decide) ?_
      exact JO.iret dX10_show_26 rfl rfl rfl
  · refine JO.aloadn dX10_show_7 rfl ?_
    refine JO.ic (-1) dX10_show_8 (by decide) ?_
    refine JO.mvi (C_m_no _ _) K_m_no k5_137 rfl rfl rfl (Nat.le_of_ble_eq_true rfl) dX10_show_9 (fun a5 => ?_)
    exact JO.iret dX10_show_12 rfl rfl rfl
theorem C_m_show {ad : Nat → Nat} {Z : ZT} (p1 : Int32) (p2 : Int32) (σ : MS) : CO yX10_show M_m_show eI Z (wM ad Z) [.ref (ad 0), .int p1, .int p2] (wsM ad Z σ) (m_show p1 p2 σ) :=
  CO.of rfl rfl (Nat.le_of_ble_eq_true rfl) 0 (fun X hZ => by subst hZ; exact J_m_show _ _ σ)
theorem K_m_show : Kv yX10_show M_m_show RX10 2 := ⟨rfl, k5_169, k5_170, k1_10, k5_171, by decide +kernel⟩
abbrev M_m_holds : JM := (cX10_holds, 2, RX10, (some .int), 2, 42)
def m_holds (p1 : Int32) (σ : MS) : Option (Int32 × MS) :=
  (m_isShelf p1 σ).bind fun a1 =>
  if a1.1 = true then (
    if inB p1 8 = true then
    if mA a1.2 28 (ix p1) = 0 then (
      some ((-1), a1.2))
    else (
      if inB p1 8 = true then
      some (mA a1.2 28 (ix p1), a1.2)
      else none)
    else none)
  else (
    some ((-1), a1.2))
theorem J_m_holds {X : JX} {ad : Nat → Nat} (p1 : Int32) (σ : MS) : JO X M_m_holds (QF X eI (wM ad (xZ X))) 0 [some (.ref (ad 0)), some (.int p1)] [] (wsM ad (xZ X) σ) (m_holds p1 σ) := by
  unfold m_holds
  refine JO.iloadn dX10_holds_0 rfl ?_
  refine JO.msz (C_m_isShelf _ _) K_m_isShelf k5_131 rfl rfl rfl (Nat.le_of_ble_eq_true rfl) dX10_holds_1 (fun a1 => ?_)
  refine JO.zeq 16 dX10_holds_4 rfl ?_ ?_
  · refine JO.ic (-1) dX10_holds_16 (by decide) ?_
    refine JO.goto 26 dX10_holds_17 rfl ?_
    exact JO.iret dX10_holds_26 rfl rfl rfl
  · refine JO.aloadn dX10_holds_7 rfl ?_
    refine gM28 dX10_holds_8 rfl ?_
    refine JO.iloadn dX10_holds_11 rfl ?_
    refine aM28 dX10_holds_12 ?_
    refine JO.if_ne 20 dX10_holds_13 rfl ?_ ?_
    · refine JO.aloadn dX10_holds_20 rfl ?_
      refine gM28 dX10_holds_21 rfl ?_
      refine JO.iloadn dX10_holds_24 rfl ?_
      refine aM28 dX10_holds_25 ?_
      exact JO.iret dX10_holds_26 rfl rfl rfl
    · refine JO.ic (-1) dX10_holds_16 (by decide) ?_
      refine JO.goto 26 dX10_holds_17 rfl ?_
      exact JO.iret dX10_holds_26 rfl rfl rfl
theorem C_m_holds {ad : Nat → Nat} {Z : ZT} (p1 : Int32) (σ : MS) : CO yX10_holds M_m_holds eI Z (wM ad Z) [.ref (ad 0), .int p1] (wsM ad Z σ) (m_holds p1 σ) :=
  CO.of rfl rfl (Nat.le_of_ble_eq_true rfl) 0 (fun X hZ => by subst hZ; exact J_m_holds _ σ)
theorem K_m_holds : Kv yX10_holds M_m_holds RX10 1 := ⟨rfl, k6_49, k6_50, k1_10, k6_51, by decide +kernel⟩
abbrev M_m_kindOf : JM := (cX10_kindOf, 1, RX10, (some .int), 0, 0)
def m_kindOf (p1 : Int32) (σ : MS) : Option (Int32 × MS) :=
  if p1 = 2 then (
    some (1, σ))
  else (
    if p1 = 3 then (
      some (1, σ))
    else (
      if p1 = 5 then (
        some (1, σ))
      else (
        if p1 = 8 then (
          some (1, σ))
        else (
          if p1 = 6 then (
            some (2, σ))
          else (
            if p1 = 7 then (
              some (2, σ))
            else (
              if p1 = 9 then (
                some (3, σ))
              else (
                some (0, σ))))))))
theorem J_m_kindOf {X : JX} {ad : Nat → Nat} (p1 : Int32) (σ : MS) : JO X M_m_kindOf (QF X eI (wM ad (xZ X))) 0 [some (.int p1)] [] (wsM ad (xZ X) σ) (m_kindOf p1 σ) := by
  unfold m_kindOf
  refine JO.iloadn dX10_kindOf_0 rfl ?_
  refine JO.ic 2 dX10_kindOf_1 (by decide) ?_
  refine JO.icmp_eq 21 dX10_kindOf_2 rfl ?_ ?_
  · refine JO.ic 1 dX10_kindOf_21 (by decide) ?_
    exact JO.iret dX10_kindOf_22 rfl rfl rfl
  · refine JO.iloadn dX10_kindOf_5 rfl ?_
    refine JO.ic 3 dX10_kindOf_6 (by decide) ?_
    refine JO.icmp_eq 21 dX10_kindOf_7 rfl ?_ ?_
    · refine JO.ic 1 dX10_kindOf_21 (by decide) ?_
      exact JO.iret dX10_kindOf_22 rfl rfl rfl
    · refine JO.iloadn dX10_kindOf_10 rfl ?_
      refine JO.ic 5 dX10_kindOf_11 (by decide) ?_
      refine JO.icmp_eq 21 dX10_kindOf_12 rfl ?_ ?_
      · refine JO.ic 1 dX10_kindOf_21 (by decide) ?_
        exact JO.iret dX10_kindOf_22 rfl rfl rfl
      · refine JO.iloadn dX10_kindOf_15 rfl ?_
        refine JO.bip 8 dX10_kindOf_16 (by decide) ?_
        refine JO.icmp_ne 23 dX10_kindOf_18 rfl ?_ ?_
        · refine JO.iloadn dX10_kindOf_23 rfl ?_
          refine JO.bip 6 dX10_kindOf_24 (by decide) ?_
          refine JO.icmp_eq 35 dX10_kindOf_26 rfl ?_ ?_
          · refine JO.ic 2 dX10_kindOf_35 (by decide) ?_
            refine JO.goto 50 dX10_kindOf_36 rfl ?_
            exact JO.iret dX10_kindOf_50 rfl rfl rfl
          · refine JO.iloadn dX10_kindOf_29 rfl ?_
            refine JO.bip 7 dX10_kindOf_30 (by decide) ?_
            refine JO.icmp_ne 39 dX10_kindOf_32 rfl ?_ ?_
            · refine JO.iloadn dX10_kindOf_39 rfl ?_
              refine JO.bip 9 dX10_kindOf_40 (by decide) ?_
              refine JO.icmp_ne 49 dX10_kindOf_42 rfl ?_ ?_
              · refine JO.ic 0 dX10_kindOf_49 (by decide) ?_
                exact JO.iret dX10_kindOf_50 rfl rfl rfl
              · refine JO.ic 3 dX10_kindOf_45 (by decide) ?_
                refine JO.goto 50 dX10_kindOf_46 rfl ?_
                exact JO.iret dX10_kindOf_50 rfl rfl rfl
            · refine JO.ic 2 dX10_kindOf_35 (by decide) ?_
              refine JO.goto 50 dX10_kindOf_36 rfl ?_
              exact JO.iret dX10_kindOf_50 rfl rfl rfl
        · refine JO.ic 1 dX10_kindOf_21 (by decide) ?_
          exact JO.iret dX10_kindOf_22 rfl rfl rfl
theorem C_m_kindOf {ad : Nat → Nat} {Z : ZT} (p1 : Int32) (σ : MS) : CO yX10_kindOf M_m_kindOf eI Z (wM ad Z) [.int p1] (wsM ad Z σ) (m_kindOf p1 σ) :=
  CO.of rfl rfl (Nat.le_of_ble_eq_true rfl) 0 (fun X hZ => by subst hZ; exact J_m_kindOf _ σ)
theorem K_m_kindOf : Ks yX10_kindOf M_m_kindOf 1 := ⟨k6_57, k1_10, k6_58, by decide +kernel⟩
abbrev M_m_says : JM := (cX10_says, 5, RX10, (some .int), 2, 42)
def m_says_b78 (x1 : Int32) (x2 : Int32) (t0 : Int32) (σ : MS) : Option (Int32 × MS) :=
  if t0 = 0 then (
    if inB x1 8 = true then
    sw x2 [(0, 128,
      if inB (160 * x1) 1280 = true then
      some ((Int64.toInt32 (mE σ (ix (160 * x1)))), σ)
      else none), (1, 140,
      if (mA σ 28 (ix x1) - 200) = 2 then (
        some (1, σ))
      else (
        some (0, σ))), (2, 152,
      if (mA σ 28 (ix x1) - 200) = 6 then (
        some (1, σ))
      else (
        some (2, σ)))] (
      if inB ((160 * x1) + 1) 1280 = true then
      some ((Int64.toInt32 (mE σ (ix ((160 * x1) + 1)))), σ)
      else none)
    else none)
  else (
    (m_no t0 σ).bind fun a1 =>
    some (a1.1, a1.2))
def m_says_b63 (x1 : Int32) (x2 : Int32) (σ : MS) : Option (Int32 × MS) :=
  if inB x1 8 = true then
  if mA σ 28 (ix x1) = 0 then (
    m_says_b78 x1 x2 (-3) σ)
  else (
    m_says_b78 x1 x2 0 σ)
  else none
def m_says (p1 : Int32) (p2 : Int32) (σ : MS) : Option (Int32 × MS) :=
  (m_isShelf p1 σ).bind fun a1 =>
  if a1.1 = true then (
    (m_isIn p2 0 3 a1.2).bind fun a2 =>
    if a2.1 = true then (
      (m_isRow p1 a2.2).bind fun a3 =>
      if a3.1 = true then (
        m_says_b78 p1 p2 (-2) a3.2)
      else (
        if inB p1 8 = true then
        if mA a3.2 28 (ix p1) = 0 then (
          m_says_b63 p1 p2 a3.2)
        else (
          if p2 ≤ 0 then (
            m_says_b63 p1 p2 a3.2)
          else (
            if inB p1 8 = true then
            (m_kindOf (mA a3.2 28 (ix p1) - 200) a3.2).bind fun a4 =>
            if a4.1 = p2 then (
              m_says_b63 p1 p2 a4.2)
            else (
              m_says_b78 p1 p2 (-2) a4.2)
            else none))
        else none))
    else (
      m_says_b78 p1 p2 (-1) a2.2))
  else (
    m_says_b78 p1 p2 (-1) a1.2)
theorem J_m_says_b78 {X : JX} {ad : Nat → Nat} (x1 : Int32) (x2 : Int32) (t0 : Int32) (σ : MS) : JO X M_m_says (QF X eI (wM ad (xZ X))) 78 [some (.ref (ad 0)), some (.int x1), some (.int x2), none, none] [.int t0] (wsM ad (xZ X) σ) (m_says_b78 x1 x2 t0 σ) := by
  unfold m_says_b78
  refine JO.istoren dX10_says_78 rfl rfl ?_
  refine JO.iloadn dX10_says_79 rfl ?_
  refine JO.if_eq 89 dX10_says_80 rfl ?_ ?_
  · refine JO.aloadn dX10_says_89 rfl ?_
    refine gM28 dX10_says_90 rfl ?_
    refine JO.iloadn dX10_says_93 rfl ?_
    refine aM28 dX10_says_94 ?_
    refine JO.sip 200 dX10_says_95 (by decide) ?_
    refine JO.isub dX10_says_98 ?_
    refine JO.istore dX10_says_99 rfl rfl ?_
    refine JO.iloadn dX10_says_101 rfl ?_
    refine JO.tsw [(0, 128, _), (1, 140, _), (2, 152, _)] 165 [(0, 128), (1, 140), (2, 152)] dX10_says_102 rfl (by decide) rfl (by decide) (JO.swCons ?_ (JO.swCons ?_ (JO.swCons ?_ (JO.swNil)))) ?_
    · refine JO.aloadn dX10_says_128 rfl ?_
      refine gM30 dX10_says_129 rfl ?_
      refine JO.sip 160 dX10_says_132 (by decide) ?_
      refine JO.iloadn dX10_says_135 rfl ?_
      refine JO.imul dX10_says_136 ?_
      refine aM30 dX10_says_137 ?_
      refine JO.l2i dX10_says_138 ?_
      exact JO.iret dX10_says_139 rfl rfl rfl
    · refine JO.iload dX10_says_140 rfl ?_
      refine JO.ic 2 dX10_says_142 (by decide) ?_
      refine JO.icmp_ne 150 dX10_says_143 rfl ?_ ?_
      · refine JO.ic 0 dX10_says_150 (by decide) ?_
        exact JO.iret dX10_says_151 rfl rfl rfl
      · refine JO.ic 1 dX10_says_146 (by decide) ?_
        refine JO.goto 151 dX10_says_147 rfl ?_
        exact JO.iret dX10_says_151 rfl rfl rfl
    · refine JO.iload dX10_says_152 rfl ?_
      refine JO.bip 6 dX10_says_154 (by decide) ?_
      refine JO.icmp_ne 163 dX10_says_156 rfl ?_ ?_
      · refine JO.ic 2 dX10_says_163 (by decide) ?_
        exact JO.iret dX10_says_164 rfl rfl rfl
      · refine JO.ic 1 dX10_says_159 (by decide) ?_
        refine JO.goto 164 dX10_says_160 rfl ?_
        exact JO.iret dX10_says_164 rfl rfl rfl
    · refine JO.aloadn dX10_says_165 rfl ?_
      refine gM30 dX10_says_166 rfl ?_
      refine JO.sip 160 dX10_says_169 (by decide) ?_
      refine JO.iloadn dX10_says_172 rfl ?_
      refine JO.imul dX10_says_173 ?_
      refine JO.ic 1 dX10_says_174 (by decide) ?_
      refine JO.iadd dX10_says_175 ?_
      refine aM30 dX10_says_176 ?_
      refine JO.l2i dX10_says_177 ?_
      exact JO.iret dX10_says_178 rfl rfl rfl
  · refine JO.aloadn dX10_says_83 rfl ?_
    refine JO.iloadn dX10_says_84 rfl ?_
    refine JO.mvi (C_m_no _ _) K_m_no k5_137 rfl rfl rfl (Nat.le_of_ble_eq_true rfl) dX10_says_85 (fun a1 => ?_)
    exact JO.iret dX10_says_88 rfl rfl rfl
theorem J_m_says_b63 {X : JX} {ad : Nat → Nat} (x1 : Int32) (x2 : Int32) (σ : MS) : JO X M_m_says (QF X eI (wM ad (xZ X))) 63 [some (.ref (ad 0)), some (.int x1), some (.int x2), none, none] [] (wsM ad (xZ X) σ) (m_says_b63 x1 x2 σ) := by
  unfold m_says_b63
  refine JO.aloadn dX10_says_63 rfl ?_
  refine gM28 dX10_says_64 rfl ?_
  refine JO.iloadn dX10_says_67 rfl ?_
  refine aM28 dX10_says_68 ?_
  refine JO.if_ne 77 dX10_says_69 rfl ?_ ?_
  · refine JO.ic 0 dX10_says_77 (by decide) ?_
    exact (J_m_says_b78 _ _ _ _).jump (lvLe.so rfl (lvLe.so rfl (lvLe.so rfl (lvLe.no (lvLe.no (lvLe.nil))))))
  · refine JO.bip (-3) dX10_says_72 (by decide) ?_
    refine JO.goto 78 dX10_says_74 rfl ?_
    exact (J_m_says_b78 _ _ _ _).jump (lvLe.so rfl (lvLe.so rfl (lvLe.so rfl (lvLe.no (lvLe.no (lvLe.nil))))))
theorem J_m_says {X : JX} {ad : Nat → Nat} (p1 : Int32) (p2 : Int32) (σ : MS) : JO X M_m_says (QF X eI (wM ad (xZ X))) 0 [some (.ref (ad 0)), some (.int p1), some (.int p2), none, none] [] (wsM ad (xZ X) σ) (m_says p1 p2 σ) := by
  unfold m_says
  refine JO.iloadn dX10_says_0 rfl ?_
  refine JO.msz (C_m_isShelf _ _) K_m_isShelf k5_131 rfl rfl rfl (Nat.le_of_ble_eq_true rfl) dX10_says_1 (fun a1 => ?_)
  refine JO.zeq 16 dX10_says_4 rfl ?_ ?_
  · refine JO.ic (-1) dX10_says_16 (by decide) ?_
    refine JO.goto 78 dX10_says_17 rfl ?_
    exact (J_m_says_b78 _ _ _ _).jump (lvLe.so rfl (lvLe.so rfl (lvLe.so rfl (lvLe.no (lvLe.no (lvLe.nil))))))
  · refine JO.iloadn dX10_says_7 rfl ?_
    refine JO.ic 0 dX10_says_8 (by decide) ?_
    refine JO.ic 3 dX10_says_9 (by decide) ?_
    refine JO.msz (C_m_isIn _ _ _ _) K_m_isIn k5_134 rfl rfl rfl (Nat.le_of_ble_eq_true rfl) dX10_says_10 (fun a2 => ?_)
    refine JO.zne 20 dX10_says_13 rfl ?_ ?_
    · refine JO.aloadn dX10_says_20 rfl ?_
      refine JO.iloadn dX10_says_21 rfl ?_
      refine JO.mvz (C_m_isRow _ _) K_m_isRow k5_164 rfl rfl rfl (Nat.le_of_ble_eq_true rfl) dX10_says_22 (fun a3 => ?_)
      refine JO.zne 58 dX10_says_25 rfl ?_ ?_
      · refine JO.bip (-2) dX10_says_58 (by decide) ?_
        refine JO.goto 78 dX10_says_60 rfl ?_
        exact (J_m_says_b78 _ _ _ _).jump (lvLe.so rfl (lvLe.so rfl (lvLe.so rfl (lvLe.no (lvLe.no (lvLe.nil))))))
      · refine JO.aloadn dX10_says_28 rfl ?_
        refine gM28 dX10_says_29 rfl ?_
        refine JO.iloadn dX10_says_32 rfl ?_
        refine aM28 dX10_says_33 ?_
        refine JO.if_eq 63 dX10_says_34 rfl ?_ ?_
        · exact (J_m_says_b63 _ _ _).jump (lvLe.so rfl (lvLe.so rfl (lvLe.so rfl (lvLe.no (lvLe.no (lvLe.nil))))))
        · refine JO.iloadn dX10_says_37 rfl ?_
          refine JO.if_le 63 dX10_says_38 rfl ?_ ?_
          · exact (J_m_says_b63 _ _ _).jump (lvLe.so rfl (lvLe.so rfl (lvLe.so rfl (lvLe.no (lvLe.no (lvLe.nil))))))
          · refine JO.aloadn dX10_says_41 rfl ?_
            refine gM28 dX10_says_42 rfl ?_
            refine JO.iloadn dX10_says_45 rfl ?_
            refine aM28 dX10_says_46 ?_
            refine JO.sip 200 dX10_says_47 (by decide) ?_
            refine JO.isub dX10_says_50 ?_
            refine JO.msi (C_m_kindOf _ _) K_m_kindOf k6_56 rfl rfl rfl (Nat.le_of_ble_eq_true rfl) dX10_says_51 (fun a4 => ?_)
            refine JO.iloadn dX10_says_54 rfl ?_
            refine JO.icmp_eq 63 dX10_says_55 rfl ?_ ?_
            · exact (J_m_says_b63 _ _ _).jump (lvLe.so rfl (lvLe.so rfl (lvLe.so rfl (lvLe.no (lvLe.no (lvLe.nil))))))
            · refine JO.bip (-2) dX10_says_58 (by decide) ?_
              refine JO.goto 78 dX10_says_60 rfl ?_
              exact (J_m_says_b78 _ _ _ _).jump (lvLe.so rfl (lvLe.so rfl (lvLe.so rfl (lvLe.no (lvLe.no (lvLe.nil))))))
    · refine JO.ic (-1) dX10_says_16 (by decide) ?_
      refine JO.goto 78 dX10_says_17 rfl ?_
      exact (J_m_says_b78 _ _ _ _).jump (lvLe.so rfl (lvLe.so rfl (lvLe.so rfl (lvLe.no (lvLe.no (lvLe.nil))))))
theorem C_m_says {ad : Nat → Nat} {Z : ZT} (p1 : Int32) (p2 : Int32) (σ : MS) : CO yX10_says M_m_says eI Z (wM ad Z) [.ref (ad 0), .int p1, .int p2] (wsM ad Z σ) (m_says p1 p2 σ) :=
  CO.of rfl rfl (Nat.le_of_ble_eq_true rfl) 2 (fun X hZ => by subst hZ; exact J_m_says _ _ σ)
theorem K_m_says : Kv yX10_says M_m_says RX10 2 := ⟨rfl, k6_53, k6_54, k1_10, k6_55, by decide +kernel⟩
abbrev M_m_sign : JM := (cX10_sign, 2, RX10, (some .int), 0, 0)
def m_sign (p1 : Int32) (σ : MS) : Option (Int32 × MS) :=
  if inB (mI σ 38) 8 = true then
  if mA σ 29 (ix (mI σ 38)) ≤ p1 then (
    some ((-1), σ))
  else (
    if inB ((160 * mI σ 38) + p1) 1280 = true then
    some ((Int64.toInt32 (mE σ (ix ((160 * mI σ 38) + p1)))), σ)
    else none)
  else none
theorem J_m_sign {X : JX} {ad : Nat → Nat} (p1 : Int32) (σ : MS) : JO X M_m_sign (QF X eI (wM ad (xZ X))) 0 [some (.ref (ad 0)), some (.int p1)] [] (wsM ad (xZ X) σ) (m_sign p1 σ) := by
  unfold m_sign
  refine JO.iloadn dX10_sign_0 rfl ?_
  refine JO.aloadn dX10_sign_1 rfl ?_
  refine gM29 dX10_sign_2 rfl ?_
  refine JO.aloadn dX10_sign_5 rfl ?_
  refine gM38 dX10_sign_6 rfl ?_
  refine aM29 dX10_sign_9 ?_
  refine JO.icmp_ge 32 dX10_sign_10 rfl ?_ ?_
  · refine JO.ic (-1) dX10_sign_32 (by decide) ?_
    exact JO.iret dX10_sign_33 rfl rfl rfl
  · refine JO.aloadn dX10_sign_13 rfl ?_
    refine gM30 dX10_sign_14 rfl ?_
    refine JO.sip 160 dX10_sign_17 (by decide) ?_
    refine JO.aloadn dX10_sign_20 rfl ?_
    refine gM38 dX10_sign_21 rfl ?_
    refine JO.imul dX10_sign_24 ?_
    refine JO.iloadn dX10_sign_25 rfl ?_
    refine JO.iadd dX10_sign_26 ?_
    refine aM30 dX10_sign_27 ?_
    refine JO.l2i dX10_sign_28 ?_
    refine JO.goto 33 dX10_sign_29 rfl ?_
    exact JO.iret dX10_sign_33 rfl rfl rfl
theorem C_m_sign {ad : Nat → Nat} {Z : ZT} (p1 : Int32) (σ : MS) : CO yX10_sign M_m_sign eI Z (wM ad Z) [.ref (ad 0), .int p1] (wsM ad Z σ) (m_sign p1 σ) :=
  CO.of rfl rfl (Nat.le_of_ble_eq_true rfl) 0 (fun X hZ => by subst hZ; exact J_m_sign _ σ)
theorem K_m_sign : Kv yX10_sign M_m_sign RX10 1 := ⟨rfl, k6_84, s5_11, k1_10, k6_85, by decide +kernel⟩
abbrev M_m_lettersOf : JM := (cX10_lettersOf, 1, RX10, (some .int), 0, 0)
def m_lettersOf (p1 : Int32) (σ : MS) : Option (Int32 × MS) :=
  sw p1 [(0, 56,
    some (5, σ)), (1, 58,
    some (6, σ)), (2, 61,
    some (4, σ)), (3, 63,
    some (3, σ)), (4, 65,
    some (2, σ)), (5, 61,
    some (4, σ)), (6, 61,
    some (4, σ)), (7, 61,
    some (4, σ)), (8, 65,
    some (2, σ)), (9, 67,
    some (7, σ))] (
    some (5, σ))
theorem J_m_lettersOf {X : JX} {ad : Nat → Nat} (p1 : Int32) (σ : MS) : JO X M_m_lettersOf (QF X eI (wM ad (xZ X))) 0 [some (.int p1)] [] (wsM ad (xZ X) σ) (m_lettersOf p1 σ) := by
  unfold m_lettersOf
  refine JO.iloadn dX10_lettersOf_0 rfl ?_
  refine JO.tsw [(0, 56, _), (1, 58, _), (2, 61, _), (3, 63, _), (4, 65, _), (5, 61, _), (6, 61, _), (7, 61, _), (8, 65, _), (9, 67, _)] 70 [(0, 56), (1, 58), (2, 61), (3, 63), (4, 65), (5, 61), (6, 61), (7, 61), (8, 65), (9, 67)] dX10_lettersOf_1 rfl (by decide) rfl (by decide) (JO.swCons ?_ (JO.swCons ?_ (JO.swCons ?_ (JO.swCons ?_ (JO.swCons ?_ (JO.swCons ?_ (JO.swCons ?_ (JO.swCons ?_ (JO.swCons ?_ (JO.swCons ?_ (JO.swNil))))))))))) ?_
  · refine JO.ic 5 dX10_lettersOf_56 (by decide) ?_
    exact JO.iret dX10_lettersOf_57 rfl rfl rfl
  · refine JO.bip 6 dX10_lettersOf_58 (by decide) ?_
    exact JO.iret dX10_lettersOf_60 rfl rfl rfl
  · refine JO.ic 4 dX10_lettersOf_61 (by decide) ?_
    exact JO.iret dX10_lettersOf_62 rfl rfl rfl
  · refine JO.ic 3 dX10_lettersOf_63 (by decide) ?_
    exact JO.iret dX10_lettersOf_64 rfl rfl rfl
  · refine JO.ic 2 dX10_lettersOf_65 (by decide) ?_
    exact JO.iret dX10_lettersOf_66 rfl rfl rfl
  · refine JO.ic 4 dX10_lettersOf_61 (by decide) ?_
    exact JO.iret dX10_lettersOf_62 rfl rfl rfl
  · refine JO.ic 4 dX10_lettersOf_61 (by decide) ?_
    exact JO.iret dX10_lettersOf_62 rfl rfl rfl
  · refine JO.ic 4 dX10_lettersOf_61 (by decide) ?_
    exact JO.iret dX10_lettersOf_62 rfl rfl rfl
  · refine JO.ic 2 dX10_lettersOf_65 (by decide) ?_
    exact JO.iret dX10_lettersOf_66 rfl rfl rfl
  · refine JO.bip 7 dX10_lettersOf_67 (by decide) ?_
    exact JO.iret dX10_lettersOf_69 rfl rfl rfl
  · refine JO.ic 5 dX10_lettersOf_70 (by decide) ?_
    exact JO.iret dX10_lettersOf_71 rfl rfl rfl
theorem C_m_lettersOf {ad : Nat → Nat} {Z : ZT} (p1 : Int32) (σ : MS) : CO yX10_lettersOf M_m_lettersOf eI Z (wM ad Z) [.int p1] (wsM ad Z σ) (m_lettersOf p1 σ) :=
  CO.of rfl rfl (Nat.le_of_ble_eq_true rfl) 0 (fun X hZ => by subst hZ; exact J_m_lettersOf _ σ)
theorem K_m_lettersOf : Ks yX10_lettersOf M_m_lettersOf 1 := ⟨k6_80, k1_10, k6_81, by decide +kernel⟩
abbrev M_m_letterOf : JM := (cX10_letterOf, 2, RX10, (some .int), 0, 0)
def m_letterOf (p1 : Int32) (p2 : Int32) (σ : MS) : Option (Int32 × MS) :=
  if inB ((8 * p1) + p2) 88 = true then
  some (wordsL.getD (ix ((8 * p1) + p2)) 0, σ)
  else none
theorem J_m_letterOf {X : JX} {ad : Nat → Nat} (p1 : Int32) (p2 : Int32) (σ : MS) : JO X M_m_letterOf (QF X eI (wM ad (xZ X))) 0 [some (.int p1), some (.int p2)] [] (wsM ad (xZ X) σ) (m_letterOf p1 p2 σ) := by
  unfold m_letterOf
  refine JO.gets (v := .ref (kz (xZ X) 0 0)) (fun h => h.1.1) k6_89 dX10_letterOf_0 ?_
  refine JO.bip 8 dX10_letterOf_3 (by decide) ?_
  refine JO.iloadn dX10_letterOf_5 rfl ?_
  refine JO.imul dX10_letterOf_6 ?_
  refine JO.iloadn dX10_letterOf_7 rfl ?_
  refine JO.iadd dX10_letterOf_8 ?_
  refine JO.ti (N := 88) (f := fun j => wordsL.getD j 0) (fun h => h.1.2) dX10_letterOf_9 ?_
  exact JO.iret dX10_letterOf_10 rfl rfl rfl
theorem C_m_letterOf {ad : Nat → Nat} {Z : ZT} (p1 : Int32) (p2 : Int32) (σ : MS) : CO yX10_letterOf M_m_letterOf eI Z (wM ad Z) [.int p1, .int p2] (wsM ad Z σ) (m_letterOf p1 p2 σ) :=
  CO.of rfl rfl (Nat.le_of_ble_eq_true rfl) 0 (fun X hZ => by subst hZ; exact J_m_letterOf _ _ σ)
theorem K_m_letterOf : Ks yX10_letterOf M_m_letterOf 2 := ⟨k6_87, k1_10, k6_88, by decide +kernel⟩
abbrev M_m_matches : JM := (cX10_matches, 3, RX10, (some .int), 1, 21)
def m_matches_l2 : Nat → Int32 → Int32 → MS → Option (Int32 × MS)
  | 0, _, _, _ => none
  | n + 1, x1, x2, σ =>
    (m_lettersOf x1 σ).bind fun a1 =>
    if a1.1 ≤ x2 then (
      some (x2, a1.2))
    else (
      (m_sign (mI a1.2 35 + x2) a1.2).bind fun a2 =>
      (m_letterOf x1 x2 a2.2).bind fun a3 =>
      if a2.1 = a3.1 then (
        m_matches_l2 n x1 (x2 + 1) a3.2)
      else (
        some (x2, a3.2)))
def m_matches (p1 : Int32) (σ : MS) : Option (Int32 × MS) :=
  m_matches_l2 4096 p1 0 σ
theorem J_m_matches_l2 {X : JX} {ad : Nat → Nat} : ∀ (n : Nat) (x1 : Int32) (x2 : Int32) (σ : MS), JO X M_m_matches (QF X eI (wM ad (xZ X))) 2 [some (.ref (ad 0)), some (.int x1), some (.int x2)] [] (wsM ad (xZ X) σ) (m_matches_l2 n x1 x2 σ) := by
  intro n
  induction n with
  | zero => intro x1 x2 σ; exact JO.nil
  | succ n ih =>
    intro x1 x2 σ
    unfold m_matches_l2
    refine JO.iloadn dX10_matches_2 rfl ?_
    refine JO.iloadn dX10_matches_3 rfl ?_
    refine JO.msi (C_m_lettersOf _ _) K_m_lettersOf k6_79 rfl rfl rfl (Nat.le_of_ble_eq_true rfl) dX10_matches_4 (fun a1 => ?_)
    refine JO.icmp_ge 34 dX10_matches_7 rfl ?_ ?_
    · refine JO.iloadn dX10_matches_34 rfl ?_
      exact JO.iret dX10_matches_35 rfl rfl rfl
    · refine JO.aloadn dX10_matches_10 rfl ?_
      refine JO.aloadn dX10_matches_11 rfl ?_
      refine gM35 dX10_matches_12 rfl ?_
      refine JO.iloadn dX10_matches_15 rfl ?_
      refine JO.iadd dX10_matches_16 ?_
      refine JO.mvi (C_m_sign _ _) K_m_sign k6_82 rfl rfl rfl (Nat.le_of_ble_eq_true rfl) dX10_matches_17 (fun a2 => ?_)
      refine JO.iloadn dX10_matches_20 rfl ?_
      refine JO.iloadn dX10_matches_21 rfl ?_
      refine JO.msi (C_m_letterOf _ _ _) K_m_letterOf k6_86 rfl rfl rfl (Nat.le_of_ble_eq_true rfl) dX10_matches_22 (fun a3 => ?_)
      refine JO.icmp_ne 34 dX10_matches_25 rfl ?_ ?_
      · refine JO.iloadn dX10_matches_34 rfl ?_
        exact JO.iret dX10_matches_35 rfl rfl rfl
      · refine JO.iinc dX10_matches_28 rfl 1 (by decide) rfl rfl ?_
        refine JO.goto 2 dX10_matches_31 rfl ?_
        exact (ih _ _ _).jump (lvLe.so rfl (lvLe.so rfl (lvLe.so rfl (lvLe.nil))))
theorem J_m_matches {X : JX} {ad : Nat → Nat} (p1 : Int32) (σ : MS) : JO X M_m_matches (QF X eI (wM ad (xZ X))) 0 [some (.ref (ad 0)), some (.int p1), none] [] (wsM ad (xZ X) σ) (m_matches p1 σ) := by
  unfold m_matches
  refine JO.ic 0 dX10_matches_0 (by decide) ?_
  refine JO.istoren dX10_matches_1 rfl rfl ?_
  exact (J_m_matches_l2 4096 _ _ _).jump (lvLe.so rfl (lvLe.so rfl (lvLe.so rfl (lvLe.nil))))
theorem C_m_matches {ad : Nat → Nat} {Z : ZT} (p1 : Int32) (σ : MS) : CO yX10_matches M_m_matches eI Z (wM ad Z) [.ref (ad 0), .int p1] (wsM ad Z σ) (m_matches p1 σ) :=
  CO.of rfl rfl (Nat.le_of_ble_eq_true rfl) 1 (fun X hZ => by subst hZ; exact J_m_matches _ σ)
theorem K_m_matches : Kv yX10_matches M_m_matches RX10 1 := ⟨rfl, k6_77, s5_10, k1_10, k6_78, by decide +kernel⟩
abbrev M_m_readsWord : JM := (cX10_readsWord, 4, RX10, (some .int), 2, 43)
def m_readsWord_l4 : Nat → Int32 → Int32 → MS → Option (Int32 × MS)
  | 0, _, _, _ => none
  | n + 1, x1, x2, σ =>
    if 11 ≤ x2 then (
      some ((-1), sI σ 35 (mI σ 35 + x1)))
    else (
      (m_matches x2 σ).bind fun a1 =>
      (m_lettersOf x2 a1.2).bind fun a2 =>
      if a1.1 = a2.1 then (
        some (x2, sI a2.2 35 (mI a2.2 35 + a1.1)))
      else (
        if a1.1 ≤ x1 then (
          m_readsWord_l4 n x1 (x2 + 1) a2.2)
        else (
          m_readsWord_l4 n a1.1 (x2 + 1) a2.2)))
def m_readsWord (σ : MS) : Option (Int32 × MS) :=
  m_readsWord_l4 4096 0 0 σ
theorem J_m_readsWord_l4 {X : JX} {ad : Nat → Nat} : ∀ (n : Nat) (x1 : Int32) (x2 : Int32) (σ : MS), JO X M_m_readsWord (QF X eI (wM ad (xZ X))) 4 [some (.ref (ad 0)), some (.int x1), some (.int x2), none] [] (wsM ad (xZ X) σ) (m_readsWord_l4 n x1 x2 σ) := by
  intro n
  induction n with
  | zero => intro x1 x2 σ; exact JO.nil
  | succ n ih =>
    intro x1 x2 σ
    unfold m_readsWord_l4
    refine JO.iloadn dX10_readsWord_4 rfl ?_
    refine JO.bip 11 dX10_readsWord_5 (by decide) ?_
    refine JO.icmp_ge 53 dX10_readsWord_7 rfl ?_ ?_
    · refine JO.aloadn dX10_readsWord_53 rfl ?_
      refine JO.dup dX10_readsWord_54 rfl ?_
      refine gM35 dX10_readsWord_55 rfl ?_
      refine JO.iloadn dX10_readsWord_58 rfl ?_
      refine JO.iadd dX10_readsWord_59 ?_
      refine pM35 dX10_readsWord_60 rfl ?_
      refine JO.ic (-1) dX10_readsWord_63 (by decide) ?_
      exact JO.iret dX10_readsWord_64 rfl rfl rfl
    · refine JO.aloadn dX10_readsWord_10 rfl ?_
      refine JO.iloadn dX10_readsWord_11 rfl ?_
      refine JO.mvi (C_m_matches _ _) K_m_matches k6_75 rfl rfl rfl (Nat.le_of_ble_eq_true rfl) dX10_readsWord_12 (fun a1 => ?_)
      refine JO.istoren dX10_readsWord_15 rfl rfl ?_
      refine JO.iloadn dX10_readsWord_16 rfl ?_
      refine JO.iloadn dX10_readsWord_17 rfl ?_
      refine JO.msi (C_m_lettersOf _ _) K_m_lettersOf k6_79 rfl rfl rfl (Nat.le_of_ble_eq_true rfl) dX10_readsWord_18 (fun a2 => ?_)
      refine JO.icmp_ne 36 dX10_readsWord_21 rfl ?_ ?_
      · refine JO.iloadn dX10_readsWord_36 rfl ?_
        refine JO.iloadn dX10_readsWord_37 rfl ?_
        refine JO.icmp_le 45 dX10_readsWord_38 rfl ?_ ?_
        · refine JO.iloadn dX10_readsWord_45 rfl ?_
          refine JO.istoren dX10_readsWord_46 rfl rfl ?_
          refine JO.iinc dX10_readsWord_47 rfl 1 (by decide) rfl rfl ?_
          refine JO.goto 4 dX10_readsWord_50 rfl ?_
          exact (ih _ _ _).jump (lvLe.so rfl (lvLe.so rfl (lvLe.so rfl (lvLe.no (lvLe.nil)))))
        · refine JO.iloadn dX10_readsWord_41 rfl ?_
          refine JO.goto 46 dX10_readsWord_42 rfl ?_
          refine JO.istoren dX10_readsWord_46 rfl rfl ?_
          refine JO.iinc dX10_readsWord_47 rfl 1 (by decide) rfl rfl ?_
          refine JO.goto 4 dX10_readsWord_50 rfl ?_
          exact (ih _ _ _).jump (lvLe.so rfl (lvLe.so rfl (lvLe.so rfl (lvLe.no (lvLe.nil)))))
      · refine JO.aloadn dX10_readsWord_24 rfl ?_
        refine JO.dup dX10_readsWord_25 rfl ?_
        refine gM35 dX10_readsWord_26 rfl ?_
        refine JO.iloadn dX10_readsWord_29 rfl ?_
        refine JO.iadd dX10_readsWord_30 ?_
        refine pM35 dX10_readsWord_31 rfl ?_
        refine JO.iloadn dX10_readsWord_34 rfl ?_
        exact JO.iret dX10_readsWord_35 rfl rfl rfl
theorem J_m_readsWord {X : JX} {ad : Nat → Nat} (σ : MS) : JO X M_m_readsWord (QF X eI (wM ad (xZ X))) 0 [some (.ref (ad 0)), none, none, none] [] (wsM ad (xZ X) σ) (m_readsWord σ) := by
  unfold m_readsWord
  refine JO.ic 0 dX10_readsWord_0 (by decide) ?_
  refine JO.istoren dX10_readsWord_1 rfl rfl ?_
  refine JO.ic 0 dX10_readsWord_2 (by decide) ?_
  refine JO.istoren dX10_readsWord_3 rfl rfl ?_
  exact (J_m_readsWord_l4 4096 _ _ _).jump (lvLe.so rfl (lvLe.so rfl (lvLe.so rfl (lvLe.no (lvLe.nil)))))
theorem C_m_readsWord {ad : Nat → Nat} {Z : ZT} (σ : MS) : CO yX10_readsWord M_m_readsWord eI Z (wM ad Z) [.ref (ad 0)] (wsM ad Z σ) (m_readsWord σ) :=
  CO.of rfl rfl (Nat.le_of_ble_eq_true rfl) 3 (fun X hZ => by subst hZ; exact J_m_readsWord σ)
theorem K_m_readsWord : Kv yX10_readsWord M_m_readsWord RX10 0 := ⟨rfl, k6_73, s5_9, k1_10, k6_74, by decide +kernel⟩
abbrev M_m_readsNumber : JM := (cX10_readsNumber, 5, RX10, (some .int), 1, 22)
def m_readsNumber_b93 (x1 : Int32) (x2 : Int32) (x3 : Int32) (x4 : Int32) (σ : MS) : Option (Int32 × MS) :=
  if mI σ 35 ≤ x3 then (
    some ((-1), sI σ 35 x3))
  else (
    (m_isIn x4 x1 x2 σ).bind fun a1 =>
    if a1.1 = true then (
      some (x4, a1.2))
    else (
      some ((-1), sI a1.2 35 x3)))
def m_readsNumber_l33 : Nat → Int32 → Int32 → Int32 → Int32 → MS → Option (Int32 × MS)
  | 0, _, _, _, _, _ => none
  | n + 1, x1, x2, x3, x4, σ =>
    if (x3 + 2) ≤ mI σ 35 then (
      m_readsNumber_b93 x1 x2 x3 x4 σ)
    else (
      (m_sign (mI σ 35) σ).bind fun a1 =>
      (m_isIn a1.1 48 57 a1.2).bind fun a2 =>
      if a2.1 = true then (
        (m_sign (mI a2.2 35) a2.2).bind fun a3 =>
        m_readsNumber_l33 n x1 x2 x3 (((10 * x4) + a3.1) - 48) (sI a3.2 35 (mI a3.2 35 + 1)))
      else (
        m_readsNumber_b93 x1 x2 x3 x4 a2.2))
def m_readsNumber (p1 : Int32) (p2 : Int32) (σ : MS) : Option (Int32 × MS) :=
  (m_sign (mI σ 35) σ).bind fun a1 =>
  if a1.1 = 32 then (
    m_readsNumber_l33 4096 p1 p2 (mI a1.2 35 + 1) 0 (sI a1.2 35 (mI a1.2 35 + 1)))
  else (
    some ((-1), a1.2))
theorem J_m_readsNumber_b93 {X : JX} {ad : Nat → Nat} (x1 : Int32) (x2 : Int32) (x3 : Int32) (x4 : Int32) (σ : MS) : JO X M_m_readsNumber (QF X eI (wM ad (xZ X))) 93 [some (.ref (ad 0)), some (.int x1), some (.int x2), some (.int x3), some (.int x4)] [] (wsM ad (xZ X) σ) (m_readsNumber_b93 x1 x2 x3 x4 σ) := by
  unfold m_readsNumber_b93
  refine JO.aloadn dX10_readsNumber_93 rfl ?_
  refine gM35 dX10_readsNumber_94 rfl ?_
  refine JO.iloadn dX10_readsNumber_97 rfl ?_
  refine JO.icmp_le 114 dX10_readsNumber_98 rfl ?_ ?_
  · refine JO.aloadn dX10_readsNumber_114 rfl ?_
    refine JO.iloadn dX10_readsNumber_115 rfl ?_
    refine pM35 dX10_readsNumber_116 rfl ?_
    refine JO.ic (-1) dX10_readsNumber_119 (by decide) ?_
    exact JO.iret dX10_readsNumber_120 rfl rfl rfl
  · refine JO.iload dX10_readsNumber_101 rfl ?_
    refine JO.iloadn dX10_readsNumber_103 rfl ?_
    refine JO.iloadn dX10_readsNumber_104 rfl ?_
    refine JO.msz (C_m_isIn _ _ _ _) K_m_isIn k5_134 rfl rfl rfl (Nat.le_of_ble_eq_true rfl) dX10_readsNumber_105 (fun a1 => ?_)
    refine JO.zeq 114 dX10_readsNumber_108 rfl ?_ ?_
    · refine JO.aloadn dX10_readsNumber_114 rfl ?_
      refine JO.iloadn dX10_readsNumber_115 rfl ?_
      refine pM35 dX10_readsNumber_116 rfl ?_
      refine JO.ic (-1) dX10_readsNumber_119 (by decide) ?_
      exact JO.iret dX10_readsNumber_120 rfl rfl rfl
    · refine JO.iload dX10_readsNumber_111 rfl ?_
      exact JO.iret dX10_readsNumber_113 rfl rfl rfl
theorem J_m_readsNumber_l33 {X : JX} {ad : Nat → Nat} : ∀ (n : Nat) (x1 : Int32) (x2 : Int32) (x3 : Int32) (x4 : Int32) (σ : MS), JO X M_m_readsNumber (QF X eI (wM ad (xZ X))) 33 [some (.ref (ad 0)), some (.int x1), some (.int x2), some (.int x3), some (.int x4)] [] (wsM ad (xZ X) σ) (m_readsNumber_l33 n x1 x2 x3 x4 σ) := by
  intro n
  induction n with
  | zero => intro x1 x2 x3 x4 σ; exact JO.nil
  | succ n ih =>
    intro x1 x2 x3 x4 σ
    unfold m_readsNumber_l33
    refine JO.aloadn dX10_readsNumber_33 rfl ?_
    refine gM35 dX10_readsNumber_34 rfl ?_
    refine JO.iloadn dX10_readsNumber_37 rfl ?_
    refine JO.ic 2 dX10_readsNumber_38 (by decide) ?_
    refine JO.iadd dX10_readsNumber_39 ?_
    refine JO.icmp_ge 93 dX10_readsNumber_40 rfl ?_ ?_
    · exact (J_m_readsNumber_b93 _ _ _ _ _).jump (lvLe.so rfl (lvLe.so rfl (lvLe.so rfl (lvLe.so rfl (lvLe.so rfl (lvLe.nil))))))
    · refine JO.aloadn dX10_readsNumber_43 rfl ?_
      refine JO.aloadn dX10_readsNumber_44 rfl ?_
      refine gM35 dX10_readsNumber_45 rfl ?_
      refine JO.mvi (C_m_sign _ _) K_m_sign k6_82 rfl rfl rfl (Nat.le_of_ble_eq_true rfl) dX10_readsNumber_48 (fun a1 => ?_)
      refine JO.bip 48 dX10_readsNumber_51 (by decide) ?_
      refine JO.bip 57 dX10_readsNumber_53 (by decide) ?_
      refine JO.msz (C_m_isIn _ _ _ _) K_m_isIn k5_134 rfl rfl rfl (Nat.le_of_ble_eq_true rfl) dX10_readsNumber_55 (fun a2 => ?_)
      refine JO.zeq 93 dX10_readsNumber_58 rfl ?_ ?_
      · exact (J_m_readsNumber_b93 _ _ _ _ _).jump (lvLe.so rfl (lvLe.so rfl (lvLe.so rfl (lvLe.so rfl (lvLe.so rfl (lvLe.nil))))))
      · refine JO.bip 10 dX10_readsNumber_61 (by decide) ?_
        refine JO.iload dX10_readsNumber_63 rfl ?_
        refine JO.imul dX10_readsNumber_65 ?_
        refine JO.aloadn dX10_readsNumber_66 rfl ?_
        refine JO.aloadn dX10_readsNumber_67 rfl ?_
        refine gM35 dX10_readsNumber_68 rfl ?_
        refine JO.mvi (C_m_sign _ _) K_m_sign k6_82 rfl rfl rfl (Nat.le_of_ble_eq_true rfl) dX10_readsNumber_71 (fun a3 => ?_)
        refine JO.iadd dX10_readsNumber_74 ?_
        refine JO.bip 48 dX10_readsNumber_75 (by decide) ?_
        refine JO.isub dX10_readsNumber_77 ?_
        refine JO.istore dX10_readsNumber_78 rfl rfl ?_
        refine JO.aloadn dX10_readsNumber_80 rfl ?_
        refine JO.dup dX10_readsNumber_81 rfl ?_
        refine gM35 dX10_readsNumber_82 rfl ?_
        refine JO.ic 1 dX10_readsNumber_85 (by decide) ?_
        refine JO.iadd dX10_readsNumber_86 ?_
        refine pM35 dX10_readsNumber_87 rfl ?_
        refine JO.goto 33 dX10_readsNumber_90 rfl ?_
        exact (ih _ _ _ _ _).jump (lvLe.so rfl (lvLe.so rfl (lvLe.so rfl (lvLe.so rfl (lvLe.so rfl (lvLe.nil))))))
theorem J_m_readsNumber {X : JX} {ad : Nat → Nat} (p1 : Int32) (p2 : Int32) (σ : MS) : JO X M_m_readsNumber (QF X eI (wM ad (xZ X))) 0 [some (.ref (ad 0)), some (.int p1), some (.int p2), none, none] [] (wsM ad (xZ X) σ) (m_readsNumber p1 p2 σ) := by
  unfold m_readsNumber
  refine JO.aloadn dX10_readsNumber_0 rfl ?_
  refine JO.aloadn dX10_readsNumber_1 rfl ?_
  refine gM35 dX10_readsNumber_2 rfl ?_
  refine JO.mvi (C_m_sign _ _) K_m_sign k6_82 rfl rfl rfl (Nat.le_of_ble_eq_true rfl) dX10_readsNumber_5 (fun a1 => ?_)
  refine JO.bip 32 dX10_readsNumber_8 (by decide) ?_
  refine JO.icmp_eq 15 dX10_readsNumber_10 rfl ?_ ?_
  · refine JO.aloadn dX10_readsNumber_15 rfl ?_
    refine JO.dup dX10_readsNumber_16 rfl ?_
    refine gM35 dX10_readsNumber_17 rfl ?_
    refine JO.ic 1 dX10_readsNumber_20 (by decide) ?_
    refine JO.iadd dX10_readsNumber_21 ?_
    refine pM35 dX10_readsNumber_22 rfl ?_
    refine JO.aloadn dX10_readsNumber_25 rfl ?_
    refine gM35 dX10_readsNumber_26 rfl ?_
    refine JO.istoren dX10_readsNumber_29 rfl rfl ?_
    refine JO.ic 0 dX10_readsNumber_30 (by decide) ?_
    refine JO.istore dX10_readsNumber_31 rfl rfl ?_
    exact (J_m_readsNumber_l33 4096 _ _ _ _ _).jump (lvLe.so rfl (lvLe.so rfl (lvLe.so rfl (lvLe.so rfl (lvLe.so rfl (lvLe.nil))))))
  · refine JO.ic (-1) dX10_readsNumber_13 (by decide) ?_
    exact JO.iret dX10_readsNumber_14 rfl rfl rfl
theorem C_m_readsNumber {ad : Nat → Nat} {Z : ZT} (p1 : Int32) (p2 : Int32) (σ : MS) : CO yX10_readsNumber M_m_readsNumber eI Z (wM ad Z) [.ref (ad 0), .int p1, .int p2] (wsM ad Z σ) (m_readsNumber p1 p2 σ) :=
  CO.of rfl rfl (Nat.le_of_ble_eq_true rfl) 2 (fun X hZ => by subst hZ; exact J_m_readsNumber _ _ σ)
theorem K_m_readsNumber : Kv yX10_readsNumber M_m_readsNumber RX10 2 := ⟨rfl, k6_97, s5_13, k1_10, k6_98, by decide +kernel⟩
