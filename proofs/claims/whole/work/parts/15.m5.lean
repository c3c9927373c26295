abbrev M_m_readsDown : JM := (cX10_readsDown, 1, RX10, (some .boolean), 2, 46)
def m_readsDown (σ : MS) : Option (Bool × MS) :=
  (m_readsNumber 0 5 σ).bind fun a1 =>
  if inB (mI σ 37) 60 = true then
  if inB (mI a1.2 37) 60 = true then
  if 0 ≤ mA (sA a1.2 32 (ix (mI σ 37)) a1.1) 32 (ix (mI a1.2 37)) then (
    (m_readsNumber 0 60 (sA a1.2 32 (ix (mI σ 37)) a1.1)).bind fun a2 =>
    if inB (mI a1.2 37) 60 = true then
    if inB (mI a2.2 37) 60 = true then
    if 0 ≤ mA (sA a2.2 33 (ix (mI a1.2 37)) a2.1) 33 (ix (mI a2.2 37)) then (
      if inB (mI a2.2 37) 60 = true then
      (m_readsNumber (mA (sA a2.2 33 (ix (mI a1.2 37)) a2.1) 33 (ix (mI a2.2 37)) + 1) 60 (sA a2.2 33 (ix (mI a1.2 37)) a2.1)).bind fun a3 =>
      if inB (mI a2.2 37) 60 = true then
      if inB (mI a3.2 37) 60 = true then
      if mA (sA a3.2 34 (ix (mI a2.2 37)) a3.1) 34 (ix (mI a3.2 37)) < 0 then (
        some (false, sA a3.2 34 (ix (mI a2.2 37)) a3.1))
      else (
        some (true, sA a3.2 34 (ix (mI a2.2 37)) a3.1))
      else none
      else none
      else none)
    else (
      some (false, sA a2.2 33 (ix (mI a1.2 37)) a2.1))
    else none
    else none)
  else (
    some (false, sA a1.2 32 (ix (mI σ 37)) a1.1))
  else none
  else none
theorem J_m_readsDown {X : JX} {ad : Nat → Nat} (σ : MS) : JO X M_m_readsDown (QF X eZ (wM ad (xZ X))) 0 [some (.ref (ad 0))] [] (wsM ad (xZ X) σ) (m_readsDown σ) := by
  unfold m_readsDown
  refine JO.aloadn dX10_readsDown_0 rfl ?_
  refine gM32 dX10_readsDown_1 rfl ?_
  refine JO.aloadn dX10_readsDown_4 rfl ?_
  refine gM37 dX10_readsDown_5 rfl ?_
  refine JO.aloadn dX10_readsDown_8 rfl ?_
  refine JO.ic 0 dX10_readsDown_9 (by decide) ?_
  refine JO.ic 5 dX10_readsDown_10 (by decide) ?_
  refine JO.mvi (C_m_readsNumber _ _ _) K_m_readsNumber k6_95 rfl rfl rfl (Nat.le_of_ble_eq_true rfl) dX10_readsDown_11 (fun a1 => ?_)
  refine uM32 dX10_readsDown_14 ?_
  refine JO.aloadn dX10_readsDown_15 rfl ?_
  refine gM32 dX10_readsDown_16 rfl ?_
  refine JO.aloadn dX10_readsDown_19 rfl ?_
  refine gM37 dX10_readsDown_20 rfl ?_
  refine aM32 dX10_readsDown_23 ?_
  refine JO.if_ge 29 dX10_readsDown_24 rfl ?_ ?_
  · refine JO.aloadn dX10_readsDown_29 rfl ?_
    refine gM33 dX10_readsDown_30 rfl ?_
    refine JO.aloadn dX10_readsDown_33 rfl ?_
    refine gM37 dX10_readsDown_34 rfl ?_
    refine JO.aloadn dX10_readsDown_37 rfl ?_
    refine JO.ic 0 dX10_readsDown_38 (by decide) ?_
    refine JO.bip 60 dX10_readsDown_39 (by decide) ?_
    refine JO.mvi (C_m_readsNumber _ _ _) K_m_readsNumber k6_95 rfl rfl rfl (Nat.le_of_ble_eq_true rfl) dX10_readsDown_41 (fun a2 => ?_)
    refine uM33 dX10_readsDown_44 ?_
    refine JO.aloadn dX10_readsDown_45 rfl ?_
    refine gM33 dX10_readsDown_46 rfl ?_
    refine JO.aloadn dX10_readsDown_49 rfl ?_
    refine gM37 dX10_readsDown_50 rfl ?_
    refine aM33 dX10_readsDown_53 ?_
    refine JO.if_ge 59 dX10_readsDown_54 rfl ?_ ?_
    · refine JO.aloadn dX10_readsDown_59 rfl ?_
      refine gM34 dX10_readsDown_60 rfl ?_
      refine JO.aloadn dX10_readsDown_63 rfl ?_
      refine gM37 dX10_readsDown_64 rfl ?_
      refine JO.aloadn dX10_readsDown_67 rfl ?_
      refine JO.aloadn dX10_readsDown_68 rfl ?_
      refine gM33 dX10_readsDown_69 rfl ?_
      refine JO.aloadn dX10_readsDown_72 rfl ?_
      refine gM37 dX10_readsDown_73 rfl ?_
      refine aM33 dX10_readsDown_76 ?_
      refine JO.ic 1 dX10_readsDown_77 (by decide) ?_
      refine JO.iadd dX10_readsDown_78 ?_
      refine JO.bip 60 dX10_readsDown_79 (by decide) ?_
      refine JO.mvi (C_m_readsNumber _ _ _) K_m_readsNumber k6_95 rfl rfl rfl (Nat.le_of_ble_eq_true rfl) dX10_readsDown_81 (fun a3 => ?_)
      refine uM34 dX10_readsDown_84 ?_
      refine JO.aloadn dX10_readsDown_85 rfl ?_
      refine gM34 dX10_readsDown_86 rfl ?_
      refine JO.aloadn dX10_readsDown_89 rfl ?_
      refine gM37 dX10_readsDown_90 rfl ?_
      refine aM34 dX10_readsDown_93 ?_
      refine JO.if_lt 101 dX10_readsDown_94 rfl ?_ ?_
      · refine JO.ic 0 dX10_readsDown_101 (by decide) ?_
        exact JO.zret (b := false) dX10_readsDown_102 rfl rfl rfl
      · refine JO.ic 1 dX10_readsDown_97 (by decide) ?_
        refine JO.goto 102 dX10_readsDown_98 rfl ?_
        exact JO.zret (b := true) dX10_readsDown_102 rfl rfl rfl
    · refine JO.ic 0 dX10_readsDown_57 (by decide) ?_
      exact JO.zret (b := false) dX10_readsDown_58 rfl rfl rfl
  · refine JO.ic 0 dX10_readsDown_27 (by decide) ?_
    exact JO.zret (b := false) dX10_readsDown_28 rfl rfl rfl
theorem C_m_readsDown {ad : Nat → Nat} {Z : ZT} (σ : MS) : CO yX10_readsDown M_m_readsDown eZ Z (wM ad Z) [.ref (ad 0)] (wsM ad Z σ) (m_readsDown σ) :=
  CO.of rfl rfl (Nat.le_of_ble_eq_true rfl) 0 (fun X hZ => by subst hZ; exact J_m_readsDown σ)
theorem K_m_readsDown : Kv yX10_readsDown M_m_readsDown RX10 0 := ⟨rfl, k6_101, s5_14, k1_10, k6_102, by decide +kernel⟩
abbrev M_m_readsFirst : JM := (cX10_readsFirst, 3, RX10, (some .boolean), 2, 46)
def m_readsFirst (p1 : Int32) (p2 : Int32) (σ : MS) : Option (Bool × MS) :=
  (m_readsNumber p1 p2 σ).bind fun a1 =>
  if inB (mI σ 37) 60 = true then
  if inB (mI a1.2 37) 60 = true then
  if mA (sA a1.2 32 (ix (mI σ 37)) a1.1) 32 (ix (mI a1.2 37)) < 0 then (
    some (false, sA a1.2 32 (ix (mI σ 37)) a1.1))
  else (
    some (true, sA a1.2 32 (ix (mI σ 37)) a1.1))
  else none
  else none
theorem J_m_readsFirst {X : JX} {ad : Nat → Nat} (p1 : Int32) (p2 : Int32) (σ : MS) : JO X M_m_readsFirst (QF X eZ (wM ad (xZ X))) 0 [some (.ref (ad 0)), some (.int p1), some (.int p2)] [] (wsM ad (xZ X) σ) (m_readsFirst p1 p2 σ) := by
  unfold m_readsFirst
  refine JO.aloadn dX10_readsFirst_0 rfl ?_
  refine gM32 dX10_readsFirst_1 rfl ?_
  refine JO.aloadn dX10_readsFirst_4 rfl ?_
  refine gM37 dX10_readsFirst_5 rfl ?_
  refine JO.aloadn dX10_readsFirst_8 rfl ?_
  refine JO.iloadn dX10_readsFirst_9 rfl ?_
  refine JO.iloadn dX10_readsFirst_10 rfl ?_
  refine JO.mvi (C_m_readsNumber _ _ _) K_m_readsNumber k6_95 rfl rfl rfl (Nat.le_of_ble_eq_true rfl) dX10_readsFirst_11 (fun a1 => ?_)
  refine uM32 dX10_readsFirst_14 ?_
  refine JO.aloadn dX10_readsFirst_15 rfl ?_
  refine gM32 dX10_readsFirst_16 rfl ?_
  refine JO.aloadn dX10_readsFirst_19 rfl ?_
  refine gM37 dX10_readsFirst_20 rfl ?_
  refine aM32 dX10_readsFirst_23 ?_
  refine JO.if_lt 31 dX10_readsFirst_24 rfl ?_ ?_
  · refine JO.ic 0 dX10_readsFirst_31 (by decide) ?_
    exact JO.zret (b := false) dX10_readsFirst_32 rfl rfl rfl
  · refine JO.ic 1 dX10_readsFirst_27 (by decide) ?_
    refine JO.goto 32 dX10_readsFirst_28 rfl ?_
    exact JO.zret (b := true) dX10_readsFirst_32 rfl rfl rfl
theorem C_m_readsFirst {ad : Nat → Nat} {Z : ZT} (p1 : Int32) (p2 : Int32) (σ : MS) : CO yX10_readsFirst M_m_readsFirst eZ Z (wM ad Z) [.ref (ad 0), .int p1, .int p2] (wsM ad Z σ) (m_readsFirst p1 p2 σ) :=
  CO.of rfl rfl (Nat.le_of_ble_eq_true rfl) 0 (fun X hZ => by subst hZ; exact J_m_readsFirst _ _ σ)
theorem K_m_readsFirst : Kv yX10_readsFirst M_m_readsFirst RX10 2 := ⟨rfl, k6_93, s5_12, k1_10, k6_94, by decide +kernel⟩
abbrev M_m_readsItem : JM := (cX10_readsItem, 1, RX10, (some .boolean), 3, 68)
def m_readsItem_b78 (σ : MS) : Option (Bool × MS) :=
  (m_readsFirst 1 5 σ).bind fun a1 =>
  some (a1.1, a1.2)
def m_readsItem_b100 (σ : MS) : Option (Bool × MS) :=
  (m_readsFirst 0 59 σ).bind fun a1 =>
  some (a1.1, a1.2)
def m_readsItem (σ : MS) : Option (Bool × MS) :=
  (m_readsWord σ).bind fun a1 =>
  if inB (mI σ 37) 60 = true then
  if inB (mI a1.2 37) 60 = true then
  sw (mA (sA a1.2 31 (ix (mI σ 37)) a1.1) 31 (ix (mI a1.2 37))) [((-1), 76,
    some (false, sA a1.2 31 (ix (mI σ 37)) a1.1)), (0, 78,
    m_readsItem_b78 (sA a1.2 31 (ix (mI σ 37)) a1.1)), (1, 85,
    (m_readsFirst 2 3 (sA a1.2 31 (ix (mI σ 37)) a1.1)).bind fun a2 =>
    some (a2.1, a2.2)), (2, 92,
    (m_readsFirst 2 9 (sA a1.2 31 (ix (mI σ 37)) a1.1)).bind fun a3 =>
    some (a3.1, a3.2)), (3, 78,
    m_readsItem_b78 (sA a1.2 31 (ix (mI σ 37)) a1.1)), (4, 78,
    m_readsItem_b78 (sA a1.2 31 (ix (mI σ 37)) a1.1)), (5, 100,
    m_readsItem_b100 (sA a1.2 31 (ix (mI σ 37)) a1.1)), (6, 100,
    m_readsItem_b100 (sA a1.2 31 (ix (mI σ 37)) a1.1)), (7, 108,
    (m_readsDown (sA a1.2 31 (ix (mI σ 37)) a1.1)).bind fun a4 =>
    some (a4.1, a4.2)), (8, 113,
    (m_readsFirst 0 5 (sA a1.2 31 (ix (mI σ 37)) a1.1)).bind fun a5 =>
    some (a5.1, a5.2))] (
    some (true, sA a1.2 31 (ix (mI σ 37)) a1.1))
  else none
  else none
theorem J_m_readsItem_b78 {X : JX} {ad : Nat → Nat} (σ : MS) : JO X M_m_readsItem (QF X eZ (wM ad (xZ X))) 78 [some (.ref (ad 0))] [] (wsM ad (xZ X) σ) (m_readsItem_b78 σ) := by
  unfold m_readsItem_b78
  refine JO.aloadn dX10_readsItem_78 rfl ?_
  refine JO.ic 1 dX10_readsItem_79 (by decide) ?_
  refine JO.ic 5 dX10_readsItem_80 (by decide) ?_
  refine JO.mvz (C_m_readsFirst _ _ _) K_m_readsFirst k6_91 rfl rfl rfl (Nat.le_of_ble_eq_true rfl) dX10_readsItem_81 (fun a1 => ?_)
  exact JO.zret (b := a1.1) dX10_readsItem_84 rfl rfl rfl
theorem J_m_readsItem_b100 {X : JX} {ad : Nat → Nat} (σ : MS) : JO X M_m_readsItem (QF X eZ (wM ad (xZ X))) 100 [some (.ref (ad 0))] [] (wsM ad (xZ X) σ) (m_readsItem_b100 σ) := by
  unfold m_readsItem_b100
  refine JO.aloadn dX10_readsItem_100 rfl ?_
  refine JO.ic 0 dX10_readsItem_101 (by decide) ?_
  refine JO.bip 59 dX10_readsItem_102 (by decide) ?_
  refine JO.mvz (C_m_readsFirst _ _ _) K_m_readsFirst k6_91 rfl rfl rfl (Nat.le_of_ble_eq_true rfl) dX10_readsItem_104 (fun a1 => ?_)
  exact JO.zret (b := a1.1) dX10_readsItem_107 rfl rfl rfl
theorem J_m_readsItem {X : JX} {ad : Nat → Nat} (σ : MS) : JO X M_m_readsItem (QF X eZ (wM ad (xZ X))) 0 [some (.ref (ad 0))] [] (wsM ad (xZ X) σ) (m_readsItem σ) := by
  unfold m_readsItem
  refine JO.aloadn dX10_readsItem_0 rfl ?_
  refine gM31 dX10_readsItem_1 rfl ?_
  refine JO.aloadn dX10_readsItem_4 rfl ?_
  refine gM37 dX10_readsItem_5 rfl ?_
  refine JO.aloadn dX10_readsItem_8 rfl ?_
  refine JO.mvi (C_m_readsWord _) K_m_readsWord k6_71 rfl rfl rfl (Nat.le_of_ble_eq_true rfl) dX10_readsItem_9 (fun a1 => ?_)
  refine uM31 dX10_readsItem_12 ?_
  refine JO.aloadn dX10_readsItem_13 rfl ?_
  refine gM31 dX10_readsItem_14 rfl ?_
  refine JO.aloadn dX10_readsItem_17 rfl ?_
  refine gM37 dX10_readsItem_18 rfl ?_
  refine aM31 dX10_readsItem_21 ?_
  refine JO.tsw [((-1), 76, _), (0, 78, _), (1, 85, _), (2, 92, _), (3, 78, _), (4, 78, _), (5, 100, _), (6, 100, _), (7, 108, _), (8, 113, _)] 120 [((-1), 76), (0, 78), (1, 85), (2, 92), (3, 78), (4, 78), (5, 100), (6, 100), (7, 108), (8, 113)] dX10_readsItem_22 rfl (by decide) rfl (by decide) (JO.swCons ?_ (JO.swCons ?_ (JO.swCons ?_ (JO.swCons ?_ (JO.swCons ?_ (JO.swCons ?_ (JO.swCons ?_ (JO.swCons ?_ (JO.swCons ?_ (JO.swCons ?_ (JO.swNil))))))))))) ?_
  · refine JO.ic 0 dX10_readsItem_76 (by decide) ?_
    exact JO.zret (b := false) dX10_readsItem_77 rfl rfl rfl
  · exact (J_m_readsItem_b78 _).jump (lvLe.so rfl (lvLe.nil))
  · refine JO.aloadn dX10_readsItem_85 rfl ?_
    refine JO.ic 2 dX10_readsItem_86 (by decide) ?_
    refine JO.ic 3 dX10_readsItem_87 (by decide) ?_
    refine JO.mvz (C_m_readsFirst _ _ _) K_m_readsFirst k6_91 rfl rfl rfl (Nat.le_of_ble_eq_true rfl) dX10_readsItem_88 (fun a2 => ?_)
    exact JO.zret (b := a2.1) dX10_readsItem_91 rfl rfl rfl
  · refine JO.aloadn dX10_readsItem_92 rfl ?_
    refine JO.ic 2 dX10_readsItem_93 (by decide) ?_
    refine JO.bip 9 dX10_readsItem_94 (by decide) ?_
    refine JO.mvz (C_m_readsFirst _ _ _) K_m_readsFirst k6_91 rfl rfl rfl (Nat.le_of_ble_eq_true rfl) dX10_readsItem_96 (fun a3 => ?_)
    exact JO.zret (b := a3.1) dX10_readsItem_99 rfl rfl rfl
  · exact (J_m_readsItem_b78 _).jump (lvLe.so rfl (lvLe.nil))
  · exact (J_m_readsItem_b78 _).jump (lvLe.so rfl (lvLe.nil))
  · exact (J_m_readsItem_b100 _).jump (lvLe.so rfl (lvLe.nil))
  · exact (J_m_readsItem_b100 _).jump (lvLe.so rfl (lvLe.nil))
  · refine JO.aloadn dX10_readsItem_108 rfl ?_
    refine JO.mvz (C_m_readsDown _) K_m_readsDown k6_99 rfl rfl rfl (Nat.le_of_ble_eq_true rfl) dX10_readsItem_109 (fun a4 => ?_)
    exact JO.zret (b := a4.1) dX10_readsItem_112 rfl rfl rfl
  · refine JO.aloadn dX10_readsItem_113 rfl ?_
    refine JO.ic 0 dX10_readsItem_114 (by decide) ?_
    refine JO.ic 5 dX10_readsItem_115 (by decide) ?_
    refine JO.mvz (C_m_readsFirst _ _ _) K_m_readsFirst k6_91 rfl rfl rfl (Nat.le_of_ble_eq_true rfl) dX10_readsItem_116 (fun a5 => ?_)
    exact JO.zret (b := a5.1) dX10_readsItem_119 rfl rfl rfl
  · refine JO.ic 1 dX10_readsItem_120 (by decide) ?_
    exact JO.zret (b := true) dX10_readsItem_121 rfl rfl rfl
theorem C_m_readsItem {ad : Nat → Nat} {Z : ZT} (σ : MS) : CO yX10_readsItem M_m_readsItem eZ Z (wM ad Z) [.ref (ad 0)] (wsM ad Z σ) (m_readsItem σ) :=
  CO.of rfl rfl (Nat.le_of_ble_eq_true rfl) 0 (fun X hZ => by subst hZ; exact J_m_readsItem σ)
theorem K_m_readsItem : Kv yX10_readsItem M_m_readsItem RX10 0 := ⟨rfl, k6_69, s5_8, k1_10, k6_70, by decide +kernel⟩
abbrev M_m_readsAll : JM := (cX10_readsAll, 2, RX10, (some .boolean), 4, 88)
def m_readsAll_b69 (k12 : Bool → MS → Option (Bool × MS)) (t0 : Bool) (σ : MS) : Option (Bool × MS) :=
  if t0 = true then (
    k12 t0 (sI σ 35 (mI σ 35 + 1)))
  else (
    k12 t0 σ)
def m_readsAll_b87 (σ : MS) : Option (Bool × MS) :=
  if inB (mI σ 38) 8 = true then
  if mI σ 35 = mA σ 29 (ix (mI σ 38)) then (
    some (true, σ))
  else (
    some (false, σ))
  else none
def m_readsAll_l12 : Nat → Bool → MS → Option (Bool × MS)
  | 0, _, _ => none
  | n + 1, x1, σ =>
    if x1 = true then (
      (m_readsItem σ).bind fun a1 =>
      if a1.1 = true then (
        (m_sign (mI a1.2 35) (sI a1.2 37 (mI a1.2 37 + 1))).bind fun a2 =>
        if a2.1 = 59 then (
          if inB (mI a2.2 38) 8 = true then
          if mA a2.2 29 (ix (mI a2.2 38)) ≤ mI a2.2 35 then (
            m_readsAll_b69 (fun x1 σ => m_readsAll_l12 n x1 σ) false a2.2)
          else (
            m_readsAll_b69 (fun x1 σ => m_readsAll_l12 n x1 σ) true a2.2)
          else none)
        else (
          m_readsAll_b69 (fun x1 σ => m_readsAll_l12 n x1 σ) false a2.2))
      else (
        some (false, a1.2)))
    else (
      m_readsAll_b87 σ)
def m_readsAll (σ : MS) : Option (Bool × MS) :=
  m_readsAll_l12 4096 true (sI (sI σ 35 0) 37 0)
theorem J_m_readsAll_b69 {X : JX} {ad : Nat → Nat} {k12 : Bool → MS → Option (Bool × MS)} (hk12 : ∀ (x1 : Bool) (σ : MS), JO X M_m_readsAll (QF X eZ (wM ad (xZ X))) 12 [some (.ref (ad 0)), some (.int (bI x1))] [] (wsM ad (xZ X) σ) (k12 x1 σ)) (t0 : Bool) (σ : MS) : JO X M_m_readsAll (QF X eZ (wM ad (xZ X))) 69 [some (.ref (ad 0)), none] [.int (bI t0)] (wsM ad (xZ X) σ) (m_readsAll_b69 k12 t0 σ) := by
  unfold m_readsAll_b69
  refine JO.istoren dX10_readsAll_69 rfl rfl ?_
  refine JO.iloadn dX10_readsAll_70 rfl ?_
  refine JO.zeq 12 dX10_readsAll_71 rfl ?_ ?_
  · exact (hk12 t0 _).jump (lvLe.so rfl (lvLe.so rfl (lvLe.nil)))
  · refine JO.aloadn dX10_readsAll_74 rfl ?_
    refine JO.dup dX10_readsAll_75 rfl ?_
    refine gM35 dX10_readsAll_76 rfl ?_
    refine JO.ic 1 dX10_readsAll_79 (by decide) ?_
    refine JO.iadd dX10_readsAll_80 ?_
    refine pM35 dX10_readsAll_81 rfl ?_
    refine JO.goto 12 dX10_readsAll_84 rfl ?_
    exact (hk12 t0 _).jump (lvLe.so rfl (lvLe.so rfl (lvLe.nil)))
theorem J_m_readsAll_b87 {X : JX} {ad : Nat → Nat} (σ : MS) : JO X M_m_readsAll (QF X eZ (wM ad (xZ X))) 87 [some (.ref (ad 0)), none] [] (wsM ad (xZ X) σ) (m_readsAll_b87 σ) := by
  unfold m_readsAll_b87
  refine JO.aloadn dX10_readsAll_87 rfl ?_
  refine gM35 dX10_readsAll_88 rfl ?_
  refine JO.aloadn dX10_readsAll_91 rfl ?_
  refine gM29 dX10_readsAll_92 rfl ?_
  refine JO.aloadn dX10_readsAll_95 rfl ?_
  refine gM38 dX10_readsAll_96 rfl ?_
  refine aM29 dX10_readsAll_99 ?_
  refine JO.icmp_ne 107 dX10_readsAll_100 rfl ?_ ?_
  · refine JO.ic 0 dX10_readsAll_107 (by decide) ?_
    exact JO.zret (b := false) dX10_readsAll_108 rfl rfl rfl
  · refine JO.ic 1 dX10_readsAll_103 (by decide) ?_
    refine JO.goto 108 dX10_readsAll_104 rfl ?_
    exact JO.zret (b := true) dX10_readsAll_108 rfl rfl rfl
theorem J_m_readsAll_l12 {X : JX} {ad : Nat → Nat} : ∀ (n : Nat) (x1 : Bool) (σ : MS), JO X M_m_readsAll (QF X eZ (wM ad (xZ X))) 12 [some (.ref (ad 0)), some (.int (bI x1))] [] (wsM ad (xZ X) σ) (m_readsAll_l12 n x1 σ) := by
  intro n
  induction n with
  | zero => intro x1 σ; exact JO.nil
  | succ n ih =>
    intro x1 σ
    unfold m_readsAll_l12
    refine JO.iloadn dX10_readsAll_12 rfl ?_
    refine JO.zeq 87 dX10_readsAll_13 rfl ?_ ?_
    · exact (J_m_readsAll_b87 _).jump (lvLe.so rfl (lvLe.no (lvLe.nil)))
    · refine JO.aloadn dX10_readsAll_16 rfl ?_
      refine JO.mvz (C_m_readsItem _) K_m_readsItem k6_67 rfl rfl rfl (Nat.le_of_ble_eq_true rfl) dX10_readsAll_17 (fun a1 => ?_)
      refine JO.zne 25 dX10_readsAll_20 rfl ?_ ?_
      · refine JO.aloadn dX10_readsAll_25 rfl ?_
        refine JO.dup dX10_readsAll_26 rfl ?_
        refine gM37 dX10_readsAll_27 rfl ?_
        refine JO.ic 1 dX10_readsAll_30 (by decide) ?_
        refine JO.iadd dX10_readsAll_31 ?_
        refine pM37 dX10_readsAll_32 rfl ?_
        refine JO.aloadn dX10_readsAll_35 rfl ?_
        refine JO.aloadn dX10_readsAll_36 rfl ?_
        refine gM35 dX10_readsAll_37 rfl ?_
        refine JO.mvi (C_m_sign _ _) K_m_sign k6_82 rfl rfl rfl (Nat.le_of_ble_eq_true rfl) dX10_readsAll_40 (fun a2 => ?_)
        refine JO.bip 59 dX10_readsAll_43 (by decide) ?_
        refine JO.icmp_ne 68 dX10_readsAll_45 rfl ?_ ?_
        · refine JO.ic 0 dX10_readsAll_68 (by decide) ?_
          exact (J_m_readsAll_b69 ih false _).jump (lvLe.so rfl (lvLe.no (lvLe.nil)))
        · refine JO.aloadn dX10_readsAll_48 rfl ?_
          refine gM35 dX10_readsAll_49 rfl ?_
          refine JO.aloadn dX10_readsAll_52 rfl ?_
          refine gM29 dX10_readsAll_53 rfl ?_
          refine JO.aloadn dX10_readsAll_56 rfl ?_
          refine gM38 dX10_readsAll_57 rfl ?_
          refine aM29 dX10_readsAll_60 ?_
          refine JO.icmp_ge 68 dX10_readsAll_61 rfl ?_ ?_
          · refine JO.ic 0 dX10_readsAll_68 (by decide) ?_
            exact (J_m_readsAll_b69 ih false _).jump (lvLe.so rfl (lvLe.no (lvLe.nil)))
          · refine JO.ic 1 dX10_readsAll_64 (by decide) ?_
            refine JO.goto 69 dX10_readsAll_65 rfl ?_
            exact (J_m_readsAll_b69 ih true _).jump (lvLe.so rfl (lvLe.no (lvLe.nil)))
      · refine JO.ic 0 dX10_readsAll_23 (by decide) ?_
        exact JO.zret (b := false) dX10_readsAll_24 rfl rfl rfl
theorem J_m_readsAll {X : JX} {ad : Nat → Nat} (σ : MS) : JO X M_m_readsAll (QF X eZ (wM ad (xZ X))) 0 [some (.ref (ad 0)), none] [] (wsM ad (xZ X) σ) (m_readsAll σ) := by
  unfold m_readsAll
  refine JO.aloadn dX10_readsAll_0 rfl ?_
  refine JO.ic 0 dX10_readsAll_1 (by decide) ?_
  refine pM35 dX10_readsAll_2 rfl ?_
  refine JO.aloadn dX10_readsAll_5 rfl ?_
  refine JO.ic 0 dX10_readsAll_6 (by decide) ?_
  refine pM37 dX10_readsAll_7 rfl ?_
  refine JO.ic 1 dX10_readsAll_10 (by decide) ?_
  refine JO.istoren dX10_readsAll_11 rfl rfl ?_
  exact (J_m_readsAll_l12 4096 true _).jump (lvLe.so rfl (lvLe.so rfl (lvLe.nil)))
theorem C_m_readsAll {ad : Nat → Nat} {Z : ZT} (σ : MS) : CO yX10_readsAll M_m_readsAll eZ Z (wM ad Z) [.ref (ad 0)] (wsM ad Z σ) (m_readsAll σ) :=
  CO.of rfl rfl (Nat.le_of_ble_eq_true rfl) 1 (fun X hZ => by subst hZ; exact J_m_readsAll σ)
theorem K_m_readsAll : Kv yX10_readsAll M_m_readsAll RX10 0 := ⟨rfl, k6_65, s5_7, k1_10, k6_66, by decide +kernel⟩
abbrev M_m_holdsItem : JM := (cX10_holdsItem, 3, RX10, none, 0, 0)
def m_holdsItem_b88 (x1 : Int32) (x2 : Int32) (σ : MS) : Option (Unit × MS) :=
  if inB x1 60 = true then
  if mA σ 31 (ix x1) = 3 then (
    if inB x2 6 = true then
    some ((), sA σ 1 (ix x2) 1)
    else none)
  else (
    if inB x2 6 = true then
    some ((), sA σ 1 (ix x2) 0)
    else none)
  else none
def m_holdsItem_b112 (x1 : Int32) (x2 : Int32) (σ : MS) : Option (Unit × MS) :=
  if inB x1 60 = true then
  if mA σ 31 (ix x1) = 5 then (
    if inB x2 60 = true then
    some ((), sA σ 2 (ix x2) 1)
    else none)
  else (
    if inB x2 60 = true then
    some ((), sA σ 2 (ix x2) 0)
    else none)
  else none
def m_holdsItem (p1 : Int32) (σ : MS) : Option (Unit × MS) :=
  if inB p1 60 = true then
  if inB p1 60 = true then
  sw (mA σ 31 (ix p1)) [(0, 64,
    some ((), sI σ 5 (mA σ 32 (ix p1)))), (1, 72,
    some ((), sI σ 6 (mA σ 32 (ix p1)))), (2, 80,
    some ((), sI σ 7 (mA σ 32 (ix p1)))), (3, 88,
    m_holdsItem_b88 p1 (mA σ 32 (ix p1)) σ), (4, 88,
    m_holdsItem_b88 p1 (mA σ 32 (ix p1)) σ), (5, 112,
    m_holdsItem_b112 p1 (mA σ 32 (ix p1)) σ), (6, 112,
    m_holdsItem_b112 p1 (mA σ 32 (ix p1)) σ), (7, 136,
    if inB p1 60 = true then
    if inB (mA σ 32 (ix p1)) 6 = true then
    if inB p1 60 = true then
    if inB (mA σ 32 (ix p1)) 6 = true then
    some ((), sA (sA σ 3 (ix (mA σ 32 (ix p1))) (mA σ 33 (ix p1))) 4 (ix (mA σ 32 (ix p1))) (mA σ 34 (ix p1)))
    else none
    else none
    else none
    else none), (8, 163,
    if inB (mA σ 32 (ix p1)) 6 = true then
    some ((), sA σ 3 (ix (mA σ 32 (ix p1))) (-1))
    else none)] (
    if inB p1 60 = true then
    if mA σ 31 (ix p1) = 9 then (
      some ((), sI σ 8 1))
    else (
      some ((), sI σ 8 0))
    else none)
  else none
  else none
theorem J_m_holdsItem_b88 {X : JX} {ad : Nat → Nat} (x1 : Int32) (x2 : Int32) (σ : MS) : JO X M_m_holdsItem (QF X eV (wM ad (xZ X))) 88 [some (.ref (ad 0)), some (.int x1), some (.int x2)] [] (wsM ad (xZ X) σ) (m_holdsItem_b88 x1 x2 σ) := by
  unfold m_holdsItem_b88
  refine JO.aloadn dX10_holdsItem_88 rfl ?_
  refine gM1 dX10_holdsItem_89 rfl ?_
  refine JO.iloadn dX10_holdsItem_92 rfl ?_
  refine JO.aloadn dX10_holdsItem_93 rfl ?_
  refine gM31 dX10_holdsItem_94 rfl ?_
  refine JO.iloadn dX10_holdsItem_97 rfl ?_
  refine aM31 dX10_holdsItem_98 ?_
  refine JO.ic 3 dX10_holdsItem_99 (by decide) ?_
  refine JO.icmp_ne 107 dX10_holdsItem_100 rfl ?_ ?_
  · refine JO.ic 0 dX10_holdsItem_107 (by decide) ?_
    refine uM1 dX10_holdsItem_108 ?_
    refine JO.goto 193 dX10_holdsItem_109 rfl ?_
    exact JO.vret dX10_holdsItem_193 rfl rfl rfl
  · refine JO.ic 1 dX10_holdsItem_103 (by decide) ?_
    refine JO.goto 108 dX10_holdsItem_104 rfl ?_
    refine uM1 dX10_holdsItem_108 ?_
    refine JO.goto 193 dX10_holdsItem_109 rfl ?_
    exact JO.vret dX10_holdsItem_193 rfl rfl rfl
theorem J_m_holdsItem_b112 {X : JX} {ad : Nat → Nat} (x1 : Int32) (x2 : Int32) (σ : MS) : JO X M_m_holdsItem (QF X eV (wM ad (xZ X))) 112 [some (.ref (ad 0)), some (.int x1), some (.int x2)] [] (wsM ad (xZ X) σ) (m_holdsItem_b112 x1 x2 σ) := by
  unfold m_holdsItem_b112
  refine JO.aloadn dX10_holdsItem_112 rfl ?_
  refine gM2 dX10_holdsItem_113 rfl ?_
  refine JO.iloadn dX10_holdsItem_116 rfl ?_
  refine JO.aloadn dX10_holdsItem_117 rfl ?_
  refine gM31 dX10_holdsItem_118 rfl ?_
  refine JO.iloadn dX10_holdsItem_121 rfl ?_
  refine aM31 dX10_holdsItem_122 ?_
  refine JO.ic 5 dX10_holdsItem_123 (by decide) ?_
  refine JO.icmp_ne 131 dX10_holdsItem_124 rfl ?_ ?_
  · refine JO.ic 0 dX10_holdsItem_131 (by decide) ?_
    refine uM2 dX10_holdsItem_132 ?_
    refine JO.goto 193 dX10_holdsItem_133 rfl ?_
    exact JO.vret dX10_holdsItem_193 rfl rfl rfl
  · refine JO.ic 1 dX10_holdsItem_127 (by decide) ?_
    refine JO.goto 132 dX10_holdsItem_128 rfl ?_
    refine uM2 dX10_holdsItem_132 ?_
    refine JO.goto 193 dX10_holdsItem_133 rfl ?_
    exact JO.vret dX10_holdsItem_193 rfl rfl rfl
theorem J_m_holdsItem {X : JX} {ad : Nat → Nat} (p1 : Int32) (σ : MS) : JO X M_m_holdsItem (QF X eV (wM ad (xZ X))) 0 [some (.ref (ad 0)), some (.int p1), none] [] (wsM ad (xZ X) σ) (m_holdsItem p1 σ) := by
  unfold m_holdsItem
  refine JO.aloadn dX10_holdsItem_0 rfl ?_
  refine gM32 dX10_holdsItem_1 rfl ?_
  refine JO.iloadn dX10_holdsItem_4 rfl ?_
  refine aM32 dX10_holdsItem_5 ?_
  refine JO.istoren dX10_holdsItem_6 rfl rfl ?_
  refine JO.aloadn dX10_holdsItem_7 rfl ?_
  refine gM31 dX10_holdsItem_8 rfl ?_
  refine JO.iloadn dX10_holdsItem_11 rfl ?_
  refine aM31 dX10_holdsItem_12 ?_
  refine JO.tsw [(0, 64, _), (1, 72, _), (2, 80, _), (3, 88, _), (4, 88, _), (5, 112, _), (6, 112, _), (7, 136, _), (8, 163, _)] 173 [(0, 64), (1, 72), (2, 80), (3, 88), (4, 88), (5, 112), (6, 112), (7, 136), (8, 163)] dX10_holdsItem_13 rfl (by decide) rfl (by decide) (JO.swCons ?_ (JO.swCons ?_ (JO.swCons ?_ (JO.swCons ?_ (JO.swCons ?_ (JO.swCons ?_ (JO.swCons ?_ (JO.swCons ?_ (JO.swCons ?_ (JO.swNil)))))))))) ?_
  · refine JO.aloadn dX10_holdsItem_64 rfl ?_
    refine JO.iloadn dX10_holdsItem_65 rfl ?_
    refine pM5 dX10_holdsItem_66 rfl ?_
    refine JO.goto 193 dX10_holdsItem_69 rfl ?_
    exact JO.vret dX10_holdsItem_193 rfl rfl rfl
  · refine JO.aloadn dX10_holdsItem_72 rfl ?_
    refine JO.iloadn dX10_holdsItem_73 rfl ?_
    refine pM6 dX10_holdsItem_74 rfl ?_
    refine JO.goto 193 dX10_holdsItem_77 rfl ?_
    exact JO.vret dX10_holdsItem_193 rfl rfl rfl
  · refine JO.aloadn dX10_holdsItem_80 rfl ?_
    refine JO.iloadn dX10_holdsItem_81 rfl ?_
    refine pM7 dX10_holdsItem_82 rfl ?_
    refine JO.goto 193 dX10_holdsItem_85 rfl ?_
    exact JO.vret dX10_holdsItem_193 rfl rfl rfl
  · exact (J_m_holdsItem_b88 _ _ _).jump (lvLe.so rfl (lvLe.so rfl (lvLe.so rfl (lvLe.nil))))
  · exact (J_m_holdsItem_b88 _ _ _).jump (lvLe.so rfl (lvLe.so rfl (lvLe.so rfl (lvLe.nil))))
  · exact (J_m_holdsItem_b112 _ _ _).jump (lvLe.so rfl (lvLe.so rfl (lvLe.so rfl (lvLe.nil))))
  · exact (J_m_holdsItem_b112 _ _ _).jump (lvLe.so rfl (lvLe.so rfl (lvLe.so rfl (lvLe.nil))))
  · refine JO.aloadn dX10_holdsItem_136 rfl ?_
    refine gM3 dX10_holdsItem_137 rfl ?_
    refine JO.iloadn dX10_holdsItem_140 rfl ?_
    refine JO.aloadn dX10_holdsItem_141 rfl ?_
    refine gM33 dX10_holdsItem_142 rfl ?_
    refine JO.iloadn dX10_holdsItem_145 rfl ?_
    refine aM33 dX10_holdsItem_146 ?_
    refine uM3 dX10_holdsItem_147 ?_
    refine JO.aloadn dX10_holdsItem_148 rfl ?_
    refine gM4 dX10_holdsItem_149 rfl ?_
    refine JO.iloadn dX10_holdsItem_152 rfl ?_
    refine JO.aloadn dX10_holdsItem_153 rfl ?_
    refine gM34 dX10_holdsItem_154 rfl ?_
    refine JO.iloadn dX10_holdsItem_157 rfl ?_
    refine aM34 dX10_holdsItem_158 ?_
    refine uM4 dX10_holdsItem_159 ?_
    refine JO.goto 193 dX10_holdsItem_160 rfl ?_
    exact JO.vret dX10_holdsItem_193 rfl rfl rfl
  · refine JO.aloadn dX10_holdsItem_163 rfl ?_
    refine gM3 dX10_holdsItem_164 rfl ?_
    refine JO.iloadn dX10_holdsItem_167 rfl ?_
    refine JO.ic (-1) dX10_holdsItem_168 (by decide) ?_
    refine uM3 dX10_holdsItem_169 ?_
    refine JO.goto 193 dX10_holdsItem_170 rfl ?_
    exact JO.vret dX10_holdsItem_193 rfl rfl rfl
  · refine JO.aloadn dX10_holdsItem_173 rfl ?_
    refine JO.aloadn dX10_holdsItem_174 rfl ?_
    refine gM31 dX10_holdsItem_175 rfl ?_
    refine JO.iloadn dX10_holdsItem_178 rfl ?_
    refine aM31 dX10_holdsItem_179 ?_
    refine JO.bip 9 dX10_holdsItem_180 (by decide) ?_
    refine JO.icmp_ne 189 dX10_holdsItem_182 rfl ?_ ?_
    · refine JO.ic 0 dX10_holdsItem_189 (by decide) ?_
      refine pM8 dX10_holdsItem_190 rfl ?_
      exact JO.vret dX10_holdsItem_193 rfl rfl rfl
    · refine JO.ic 1 dX10_holdsItem_185 (by decide) ?_
      refine JO.goto 190 dX10_holdsItem_186 rfl ?_
      refine pM8 dX10_holdsItem_190 rfl ?_
      exact JO.vret dX10_holdsItem_193 rfl rfl rfl
theorem C_m_holdsItem {ad : Nat → Nat} {Z : ZT} (p1 : Int32) (σ : MS) : CO yX10_holdsItem M_m_holdsItem eV Z (wM ad Z) [.ref (ad 0), .int p1] (wsM ad Z σ) (m_holdsItem p1 σ) :=
  CO.of rfl rfl (Nat.le_of_ble_eq_true rfl) 1 (fun X hZ => by subst hZ; exact J_m_holdsItem _ σ)
theorem K_m_holdsItem : Kv yX10_holdsItem M_m_holdsItem RX10 1 := ⟨rfl, k6_105, s5_15, k1_10, k6_106, by decide +kernel⟩
abbrev M_m_read : JM := (cX10_read, 4, RX10, (some .int), 5, 109)
def m_read_l50 : Nat → Int32 → MS → Option (Int32 × MS)
  | 0, _, _ => none
  | n + 1, x3, σ =>
    if mI σ 37 ≤ x3 then (
      some (mI σ 37, σ))
    else (
      (m_holdsItem x3 σ).bind fun a1 =>
      m_read_l50 n (x3 + 1) a1.2)
def m_read (p1 : Int32) (σ : MS) : Option (Int32 × MS) :=
  (m_notRow p1 σ).bind fun a1 =>
  if a1.1 = 0 then (
    (m_readsAll (sI (sI a1.2 38 p1) 36 (-1))).bind fun a2 =>
    if a2.1 = true then (
      m_read_l50 4096 0 a2.2)
    else (
      (m_no (-6) (sI a2.2 36 (mI a2.2 35))).bind fun a3 =>
      some (a3.1, a3.2)))
  else (
    (m_no a1.1 a1.2).bind fun a4 =>
    some (a4.1, a4.2))
theorem J_m_read_l50 {X : JX} {ad : Nat → Nat} : ∀ (n : Nat) (x3 : Int32) (σ : MS), JO X M_m_read (QF X eI (wM ad (xZ X))) 50 [some (.ref (ad 0)), none, none, some (.int x3)] [] (wsM ad (xZ X) σ) (m_read_l50 n x3 σ) := by
  intro n
  induction n with
  | zero => intro x3 σ; exact JO.nil
  | succ n ih =>
    intro x3 σ
    unfold m_read_l50
    refine JO.iloadn dX10_read_50 rfl ?_
    refine JO.aloadn dX10_read_51 rfl ?_
    refine gM37 dX10_read_52 rfl ?_
    refine JO.icmp_ge 69 dX10_read_55 rfl ?_ ?_
    · refine JO.aloadn dX10_read_69 rfl ?_
      refine gM37 dX10_read_70 rfl ?_
      exact JO.iret dX10_read_73 rfl rfl rfl
    · refine JO.aloadn dX10_read_58 rfl ?_
      refine JO.iloadn dX10_read_59 rfl ?_
      refine JO.mvv (C_m_holdsItem _ _) K_m_holdsItem k6_103 rfl rfl rfl (Nat.le_of_ble_eq_true rfl) dX10_read_60 (fun a1 => ?_)
      refine JO.iinc dX10_read_63 rfl 1 (by decide) rfl rfl ?_
      refine JO.goto 50 dX10_read_66 rfl ?_
      exact (ih _ _).jump (lvLe.so rfl (lvLe.no (lvLe.no (lvLe.so rfl (lvLe.nil)))))
theorem J_m_read {X : JX} {ad : Nat → Nat} (p1 : Int32) (σ : MS) : JO X M_m_read (QF X eI (wM ad (xZ X))) 0 [some (.ref (ad 0)), some (.int p1), none, none] [] (wsM ad (xZ X) σ) (m_read p1 σ) := by
  unfold m_read
  refine JO.aloadn dX10_read_0 rfl ?_
  refine JO.iloadn dX10_read_1 rfl ?_
  refine JO.mvi (C_m_notRow _ _) K_m_notRow k5_145 rfl rfl rfl (Nat.le_of_ble_eq_true rfl) dX10_read_2 (fun a1 => ?_)
  refine JO.istoren dX10_read_5 rfl rfl ?_
  refine JO.iloadn dX10_read_6 rfl ?_
  refine JO.if_eq 16 dX10_read_7 rfl ?_ ?_
  · refine JO.aloadn dX10_read_16 rfl ?_
    refine JO.iloadn dX10_read_17 rfl ?_
    refine pM38 dX10_read_18 rfl ?_
    refine JO.aloadn dX10_read_21 rfl ?_
    refine JO.ic (-1) dX10_read_22 (by decide) ?_
    refine pM36 dX10_read_23 rfl ?_
    refine JO.aloadn dX10_read_26 rfl ?_
    refine JO.mvz (C_m_readsAll _) K_m_readsAll k6_63 rfl rfl rfl (Nat.le_of_ble_eq_true rfl) dX10_read_27 (fun a2 => ?_)
    refine JO.zne 48 dX10_read_30 rfl ?_ ?_
    · refine JO.ic 0 dX10_read_48 (by decide) ?_
      refine JO.istoren dX10_read_49 rfl rfl ?_
      exact (J_m_read_l50 4096 _ _).jump (lvLe.so rfl (lvLe.no (lvLe.no (lvLe.so rfl (lvLe.nil)))))
    · refine JO.aloadn dX10_read_33 rfl ?_
      refine JO.aloadn dX10_read_34 rfl ?_
      refine gM35 dX10_read_35 rfl ?_
      refine pM36 dX10_read_38 rfl ?_
      refine JO.aloadn dX10_read_41 rfl ?_
      refine JO.bip (-6) dX10_read_42 (by decide) ?_
      refine JO.mvi (C_m_no _ _) K_m_no k5_137 rfl rfl rfl (Nat.le_of_ble_eq_true rfl) dX10_read_44 (fun a3 => ?_)
      exact JO.iret dX10_read_47 rfl rfl rfl
  · refine JO.aloadn dX10_read_10 rfl ?_
    refine JO.iloadn dX10_read_11 rfl ?_
    refine JO.mvi (C_m_no _ _) K_m_no k5_137 rfl rfl rfl (Nat.le_of_ble_eq_true rfl) dX10_read_12 (fun a4 => ?_)
    exact JO.iret dX10_read_15 rfl rfl rfl
theorem C_m_read {ad : Nat → Nat} {Z : ZT} (p1 : Int32) (σ : MS) : CO yX10_read M_m_read eI Z (wM ad Z) [.ref (ad 0), .int p1] (wsM ad Z σ) (m_read p1 σ) :=
  CO.of rfl rfl (Nat.le_of_ble_eq_true rfl) 2 (fun X hZ => by subst hZ; exact J_m_read _ σ)
theorem K_m_read : Kv yX10_read M_m_read RX10 1 := ⟨rfl, k6_60, k6_61, k1_10, k6_62, by decide +kernel⟩
abbrev M_m_fault : JM := (cX10_fault, 1, RX10, (some .int), 0, 0)
def m_fault (σ : MS) : Option (Int32 × MS) :=
  some (mI σ 36, σ)
theorem J_m_fault {X : JX} {ad : Nat → Nat} (σ : MS) : JO X M_m_fault (QF X eI (wM ad (xZ X))) 0 [some (.ref (ad 0))] [] (wsM ad (xZ X) σ) (m_fault σ) := by
  unfold m_fault
  refine JO.aloadn dX10_fault_0 rfl ?_
  refine gM36 dX10_fault_1 rfl ?_
  exact JO.iret dX10_fault_4 rfl rfl rfl
theorem C_m_fault {ad : Nat → Nat} {Z : ZT} (σ : MS) : CO yX10_fault M_m_fault eI Z (wM ad Z) [.ref (ad 0)] (wsM ad Z σ) (m_fault σ) :=
  CO.of rfl rfl (Nat.le_of_ble_eq_true rfl) 0 (fun X hZ => by subst hZ; exact J_m_fault σ)
theorem K_m_fault : Kv yX10_fault M_m_fault RX10 0 := ⟨rfl, k6_108, k6_109, k1_10, k6_110, by decide +kernel⟩
abbrev M_m_setOf : JM := (cX10_setOf, 4, RX10, (some .int), 0, 0)
def m_setOf_l12 : Nat → Bool → Int32 → Int32 → MS → Option (Int32 × MS)
  | 0, _, _, _, _ => none
  | n + 1, x1, x2, x3, σ =>
    if mI σ 5 < x3 then (
      some (x2, σ))
    else (
      if x1 = true then (
        if inB x3 6 = true then
        if mA σ 1 (ix x3) = 1 then (
          m_setOf_l12 n x1 (x2 ||| ((1 : Int32) <<< (x3 &&& 31))) (x3 + 1) σ)
        else (
          m_setOf_l12 n x1 (x2 ||| 0) (x3 + 1) σ)
        else none)
      else (
        if inB x3 6 = true then
        if mA σ 3 (ix x3) = (-1) then (
          m_setOf_l12 n x1 (x2 ||| 0) (x3 + 1) σ)
        else (
          m_setOf_l12 n x1 (x2 ||| ((1 : Int32) <<< (x3 &&& 31))) (x3 + 1) σ)
        else none))
def m_setOf (p1 : Bool) (σ : MS) : Option (Int32 × MS) :=
  if p1 = true then (
    m_setOf_l12 4096 p1 0 1 σ)
  else (
    m_setOf_l12 4096 p1 0 0 σ)
theorem J_m_setOf_l12 {X : JX} {ad : Nat → Nat} : ∀ (n : Nat) (x1 : Bool) (x2 : Int32) (x3 : Int32) (σ : MS), JO X M_m_setOf (QF X eI (wM ad (xZ X))) 12 [some (.ref (ad 0)), some (.int (bI x1)), some (.int x2), some (.int x3)] [] (wsM ad (xZ X) σ) (m_setOf_l12 n x1 x2 x3 σ) := by
  intro n
  induction n with
  | zero => intro x1 x2 x3 σ; exact JO.nil
  | succ n ih =>
    intro x1 x2 x3 σ
    unfold m_setOf_l12
    refine JO.iloadn dX10_setOf_12 rfl ?_
    refine JO.aloadn dX10_setOf_13 rfl ?_
    refine gM5 dX10_setOf_14 rfl ?_
    refine JO.icmp_gt 63 dX10_setOf_17 rfl ?_ ?_
    · refine JO.iloadn dX10_setOf_63 rfl ?_
      exact JO.iret dX10_setOf_64 rfl rfl rfl
    · refine JO.iloadn dX10_setOf_20 rfl ?_
      refine JO.iloadn dX10_setOf_21 rfl ?_
      refine JO.zeq 38 dX10_setOf_22 rfl ?_ ?_
      · refine JO.aloadn dX10_setOf_38 rfl ?_
        refine gM3 dX10_setOf_39 rfl ?_
        refine JO.iloadn dX10_setOf_42 rfl ?_
        refine aM3 dX10_setOf_43 ?_
        refine JO.ic (-1) dX10_setOf_44 (by decide) ?_
        refine JO.icmp_eq 54 dX10_setOf_45 rfl ?_ ?_
        · refine JO.ic 0 dX10_setOf_54 (by decide) ?_
          refine JO.ior dX10_setOf_55 ?_
          refine JO.istoren dX10_setOf_56 rfl rfl ?_
          refine JO.iinc dX10_setOf_57 rfl 1 (by decide) rfl rfl ?_
          refine JO.goto 12 dX10_setOf_60 rfl ?_
          exact (ih x1 _ _ _).jump (lvLe.so rfl (lvLe.so rfl (lvLe.so rfl (lvLe.so rfl (lvLe.nil)))))
        · refine JO.ic 1 dX10_setOf_48 (by decide) ?_
          refine JO.iloadn dX10_setOf_49 rfl ?_
          refine JO.ishl dX10_setOf_50 ?_
          refine JO.goto 55 dX10_setOf_51 rfl ?_
          refine JO.ior dX10_setOf_55 ?_
          refine JO.istoren dX10_setOf_56 rfl rfl ?_
          refine JO.iinc dX10_setOf_57 rfl 1 (by decide) rfl rfl ?_
          refine JO.goto 12 dX10_setOf_60 rfl ?_
          exact (ih x1 _ _ _).jump (lvLe.so rfl (lvLe.so rfl (lvLe.so rfl (lvLe.so rfl (lvLe.nil)))))
      · refine JO.aloadn dX10_setOf_25 rfl ?_
        refine gM1 dX10_setOf_26 rfl ?_
        refine JO.iloadn dX10_setOf_29 rfl ?_
        refine aM1 dX10_setOf_30 ?_
        refine JO.ic 1 dX10_setOf_31 (by decide) ?_
        refine JO.icmp_ne 54 dX10_setOf_32 rfl ?_ ?_
        · refine JO.ic 0 dX10_setOf_54 (by decide) ?_
          refine JO.ior dX10_setOf_55 ?_
          refine JO.istoren dX10_setOf_56 rfl rfl ?_
          refine JO.iinc dX10_setOf_57 rfl 1 (by decide) rfl rfl ?_
          refine JO.goto 12 dX10_setOf_60 rfl ?_
          exact (ih x1 _ _ _).jump (lvLe.so rfl (lvLe.so rfl (lvLe.so rfl (lvLe.so rfl (lvLe.nil)))))
        · refine JO.goto 48 dX10_setOf_35 rfl ?_
          refine JO.ic 1 dX10_setOf_48 (by decide) ?_
          refine JO.iloadn dX10_setOf_49 rfl ?_
          refine JO.ishl dX10_setOf_50 ?_
          refine JO.goto 55 dX10_setOf_51 rfl ?_
          refine JO.ior dX10_setOf_55 ?_
          refine JO.istoren dX10_setOf_56 rfl rfl ?_
          refine JO.iinc dX10_setOf_57 rfl 1 (by decide) rfl rfl ?_
          refine JO.goto 12 dX10_setOf_60 rfl ?_
          exact (ih x1 _ _ _).jump (lvLe.so rfl (lvLe.so rfl (lvLe.so rfl (lvLe.so rfl (lvLe.nil)))))
theorem J_m_setOf {X : JX} {ad : Nat → Nat} (p1 : Bool) (σ : MS) : JO X M_m_setOf (QF X eI (wM ad (xZ X))) 0 [some (.ref (ad 0)), some (.int (bI p1)), none, none] [] (wsM ad (xZ X) σ) (m_setOf p1 σ) := by
  unfold m_setOf
  refine JO.ic 0 dX10_setOf_0 (by decide) ?_
  refine JO.istoren dX10_setOf_1 rfl rfl ?_
  refine JO.iloadn dX10_setOf_2 rfl ?_
  refine JO.zeq 10 dX10_setOf_3 rfl ?_ ?_
  · refine JO.ic 0 dX10_setOf_10 (by decide) ?_
    refine JO.istoren dX10_setOf_11 rfl rfl ?_
    exact (J_m_setOf_l12 4096 p1 _ _ _).jump (lvLe.so rfl (lvLe.so rfl (lvLe.so rfl (lvLe.so rfl (lvLe.nil)))))
  · refine JO.ic 1 dX10_setOf_6 (by decide) ?_
    refine JO.goto 11 dX10_setOf_7 rfl ?_
    refine JO.istoren dX10_setOf_11 rfl rfl ?_
    exact (J_m_setOf_l12 4096 p1 _ _ _).jump (lvLe.so rfl (lvLe.so rfl (lvLe.so rfl (lvLe.so rfl (lvLe.nil)))))
theorem C_m_setOf {ad : Nat → Nat} {Z : ZT} (p1 : Bool) (σ : MS) : CO yX10_setOf M_m_setOf eI Z (wM ad Z) [.ref (ad 0), .int (bI p1)] (wsM ad Z σ) (m_setOf p1 σ) :=
  CO.of rfl rfl (Nat.le_of_ble_eq_true rfl) 2 (fun X hZ => by subst hZ; exact J_m_setOf _ σ)
theorem K_m_setOf : Kv yX10_setOf M_m_setOf RX10 1 := ⟨rfl, k6_121, s6_0, k1_10, k6_122, by decide +kernel⟩
abbrev M_m_manyLosses : JM := (cX10_manyLosses, 3, RX10, (some .int), 0, 0)
def m_manyLosses_l4 : Nat → Int32 → Int32 → MS → Option (Int32 × MS)
  | 0, _, _, _ => none
  | n + 1, x1, x2, σ =>
    if 60 ≤ x2 then (
      some (x1, σ))
    else (
      if inB x2 60 = true then
      m_manyLosses_l4 n (x1 + mA σ 2 (ix x2)) (x2 + 1) σ
      else none)
def m_manyLosses (σ : MS) : Option (Int32 × MS) :=
  m_manyLosses_l4 4096 0 0 σ
theorem J_m_manyLosses_l4 {X : JX} {ad : Nat → Nat} : ∀ (n : Nat) (x1 : Int32) (x2 : Int32) (σ : MS), JO X M_m_manyLosses (QF X eI (wM ad (xZ X))) 4 [some (.ref (ad 0)), some (.int x1), some (.int x2)] [] (wsM ad (xZ X) σ) (m_manyLosses_l4 n x1 x2 σ) := by
  intro n
  induction n with
  | zero => intro x1 x2 σ; exact JO.nil
  | succ n ih =>
    intro x1 x2 σ
    unfold m_manyLosses_l4
    refine JO.iloadn dX10_manyLosses_4 rfl ?_
    refine JO.bip 60 dX10_manyLosses_5 (by decide) ?_
    refine JO.icmp_ge 25 dX10_manyLosses_7 rfl ?_ ?_
    · refine JO.iloadn dX10_manyLosses_25 rfl ?_
      exact JO.iret dX10_manyLosses_26 rfl rfl rfl
    · refine JO.iloadn dX10_manyLosses_10 rfl ?_
      refine JO.aloadn dX10_manyLosses_11 rfl ?_
      refine gM2 dX10_manyLosses_12 rfl ?_
      refine JO.iloadn dX10_manyLosses_15 rfl ?_
      refine aM2 dX10_manyLosses_16 ?_
      refine JO.iadd dX10_manyLosses_17 ?_
      refine JO.istoren dX10_manyLosses_18 rfl rfl ?_
      refine JO.iinc dX10_manyLosses_19 rfl 1 (by decide) rfl rfl ?_
      refine JO.goto 4 dX10_manyLosses_22 rfl ?_
      exact (ih _ _ _).jump (lvLe.so rfl (lvLe.so rfl (lvLe.so rfl (lvLe.nil))))
theorem J_m_manyLosses {X : JX} {ad : Nat → Nat} (σ : MS) : JO X M_m_manyLosses (QF X eI (wM ad (xZ X))) 0 [some (.ref (ad 0)), none, none] [] (wsM ad (xZ X) σ) (m_manyLosses σ) := by
  unfold m_manyLosses
  refine JO.ic 0 dX10_manyLosses_0 (by decide) ?_
  refine JO.istoren dX10_manyLosses_1 rfl rfl ?_
  refine JO.ic 0 dX10_manyLosses_2 (by decide) ?_
  refine JO.istoren dX10_manyLosses_3 rfl rfl ?_
  exact (J_m_manyLosses_l4 4096 _ _ _).jump (lvLe.so rfl (lvLe.so rfl (lvLe.so rfl (lvLe.nil))))
theorem C_m_manyLosses {ad : Nat → Nat} {Z : ZT} (σ : MS) : CO yX10_manyLosses M_m_manyLosses eI Z (wM ad Z) [.ref (ad 0)] (wsM ad Z σ) (m_manyLosses σ) :=
  CO.of rfl rfl (Nat.le_of_ble_eq_true rfl) 2 (fun X hZ => by subst hZ; exact J_m_manyLosses σ)
theorem K_m_manyLosses : Kv yX10_manyLosses M_m_manyLosses RX10 0 := ⟨rfl, k6_125, s6_1, k1_10, k6_126, by decide +kernel⟩
abbrev M_m_told : JM := (cX10_told, 2, RX10, (some .int), 1, 23)
def m_told (p1 : Int32) (σ : MS) : Option (Int32 × MS) :=
  sw p1 [(0, 48,
    some (mI σ 5, σ)), (1, 53,
    some (mI σ 6, σ)), (2, 58,
    some (mI σ 7, σ)), (3, 63,
    some (mI σ 8, σ)), (4, 68,
    (m_setOf true σ).bind fun a1 =>
    some (a1.1, a1.2)), (5, 74,
    (m_manyLosses σ).bind fun a2 =>
    some (a2.1, a2.2)), (6, 79,
    (m_setOf false σ).bind fun a3 =>
    some (a3.1, a3.2)), (7, 85,
    some (mI σ 9, σ))] (
    (m_no (-5) σ).bind fun a4 =>
    some (a4.1, a4.2))
theorem J_m_told {X : JX} {ad : Nat → Nat} (p1 : Int32) (σ : MS) : JO X M_m_told (QF X eI (wM ad (xZ X))) 0 [some (.ref (ad 0)), some (.int p1)] [] (wsM ad (xZ X) σ) (m_told p1 σ) := by
  unfold m_told
  refine JO.iloadn dX10_told_0 rfl ?_
  refine JO.tsw [(0, 48, _), (1, 53, _), (2, 58, _), (3, 63, _), (4, 68, _), (5, 74, _), (6, 79, _), (7, 85, _)] 90 [(0, 48), (1, 53), (2, 58), (3, 63), (4, 68), (5, 74), (6, 79), (7, 85)] dX10_told_1 rfl (by decide) rfl (by decide) (JO.swCons ?_ (JO.swCons ?_ (JO.swCons ?_ (JO.swCons ?_ (JO.swCons ?_ (JO.swCons ?_ (JO.swCons ?_ (JO.swCons ?_ (JO.swNil))))))))) ?_
  · refine JO.aloadn dX10_told_48 rfl ?_
    refine gM5 dX10_told_49 rfl ?_
    exact JO.iret dX10_told_52 rfl rfl rfl
  · refine JO.aloadn dX10_told_53 rfl ?_
    refine gM6 dX10_told_54 rfl ?_
    exact JO.iret dX10_told_57 rfl rfl rfl
  · refine JO.aloadn dX10_told_58 rfl ?_
    refine gM7 dX10_told_59 rfl ?_
    exact JO.iret dX10_told_62 rfl rfl rfl
  · refine JO.aloadn dX10_told_63 rfl ?_
    refine gM8 dX10_told_64 rfl ?_
    exact JO.iret dX10_told_67 rfl rfl rfl
  · refine JO.aloadn dX10_told_68 rfl ?_
    refine JO.ic 1 dX10_told_69 (by decide) ?_
    refine JO.mvi (C_m_setOf true _) K_m_setOf k6_119 rfl rfl rfl (Nat.le_of_ble_eq_true rfl) dX10_told_70 (fun a1 => ?_)
    exact JO.iret dX10_told_73 rfl rfl rfl
  · refine JO.aloadn dX10_told_74 rfl ?_
    refine JO.mvi (C_m_manyLosses _) K_m_manyLosses k6_123 rfl rfl rfl (Nat.le_of_ble_eq_true rfl) dX10_told_75 (fun a2 => ?_)
    exact JO.iret dX10_told_78 rfl rfl rfl
  · refine JO.aloadn dX10_told_79 rfl ?_
    refine JO.ic 0 dX10_told_80 (by decide) ?_
    refine JO.mvi (C_m_setOf false _) K_m_setOf k6_119 rfl rfl rfl (Nat.le_of_ble_eq_true rfl) dX10_told_81 (fun a3 => ?_)
    exact JO.iret dX10_told_84 rfl rfl rfl
  · refine JO.aloadn dX10_told_85 rfl ?_
    refine gM9 dX10_told_86 rfl ?_
    exact JO.iret dX10_told_89 rfl rfl rfl
  · refine JO.aloadn dX10_told_90 rfl ?_
    refine JO.bip (-5) dX10_told_91 (by decide) ?_
    refine JO.mvi (C_m_no _ _) K_m_no k5_137 rfl rfl rfl (Nat.le_of_ble_eq_true rfl) dX10_told_93 (fun a4 => ?_)
    exact JO.iret dX10_told_96 rfl rfl rfl
theorem C_m_told {ad : Nat → Nat} {Z : ZT} (p1 : Int32) (σ : MS) : CO yX10_told M_m_told eI Z (wM ad Z) [.ref (ad 0), .int p1] (wsM ad Z σ) (m_told p1 σ) :=
  CO.of rfl rfl (Nat.le_of_ble_eq_true rfl) 0 (fun X hZ => by subst hZ; exact J_m_told _ σ)
theorem K_m_told : Kv yX10_told M_m_told RX10 1 := ⟨rfl, k6_116, k6_117, k1_10, k6_118, by decide +kernel⟩
abbrev M_m_put : JM := (cX10_put, 6, RX10, (some .int), 2, 44)
def m_put_b123 (x1 : Int32) (x2 : Int32) (x5 : Int32) (σ : MS) : Option (Int32 × MS) :=
  if x1 = 3 then (
    some (x5, sI σ 8 x2))
  else (
    some (x5, σ))
def m_put_b113 (x1 : Int32) (x2 : Int32) (x5 : Int32) (σ : MS) : Option (Int32 × MS) :=
  if x1 = 2 then (
    m_put_b123 x1 x2 x5 (sI σ 7 x2))
  else (
    m_put_b123 x1 x2 x5 σ)
def m_put_b103 (x1 : Int32) (x2 : Int32) (x5 : Int32) (σ : MS) : Option (Int32 × MS) :=
  if x1 = 1 then (
    m_put_b113 x1 x2 x5 (sI σ 6 x2))
  else (
    m_put_b113 x1 x2 x5 σ)
def m_put_b73 (x1 : Int32) (x2 : Int32) (t0 : Int32) (σ : MS) : Option (Int32 × MS) :=
  if t0 = 0 then (
    (m_told x1 σ).bind fun a1 =>
    if x1 = 0 then (
      m_put_b103 x1 x2 a1.1 (sI a1.2 5 x2))
    else (
      m_put_b103 x1 x2 a1.1 a1.2))
  else (
    (m_no t0 σ).bind fun a2 =>
    some (a2.1, a2.2))
def m_put_b48 (x1 : Int32) (x2 : Int32) (t0 : Bool) (σ : MS) : Option (Int32 × MS) :=
  (m_isIn x1 0 3 σ).bind fun a1 =>
  if a1.1 = true then (
    if t0 = true then (
      m_put_b73 x1 x2 0 a1.2)
    else (
      m_put_b73 x1 x2 (-6) a1.2))
  else (
    m_put_b73 x1 x2 (-5) a1.2)
def m_put (p1 : Int32) (p2 : Int32) (σ : MS) : Option (Int32 × MS) :=
  if p1 = 0 then (
    (m_isIn p2 1 5 σ).bind fun a4 =>
    m_put_b48 p1 p2 a4.1 a4.2)
  else (
    if p1 = 1 then (
      (m_isIn p2 2 3 σ).bind fun a3 =>
      m_put_b48 p1 p2 a3.1 a3.2)
    else (
      if p1 = 2 then (
        (m_isIn p2 2 9 σ).bind fun a2 =>
        m_put_b48 p1 p2 a2.1 a2.2)
      else (
        (m_isIn p2 0 1 σ).bind fun a1 =>
        m_put_b48 p1 p2 a1.1 a1.2)))
theorem J_m_put_b123 {X : JX} {ad : Nat → Nat} (x1 : Int32) (x2 : Int32) (x5 : Int32) (σ : MS) : JO X M_m_put (QF X eI (wM ad (xZ X))) 123 [some (.ref (ad 0)), some (.int x1), some (.int x2), none, none, some (.int x5)] [] (wsM ad (xZ X) σ) (m_put_b123 x1 x2 x5 σ) := by
  unfold m_put_b123
  refine JO.iloadn dX10_put_123 rfl ?_
  refine JO.ic 3 dX10_put_124 (by decide) ?_
  refine JO.icmp_ne 133 dX10_put_125 rfl ?_ ?_
  · refine JO.iload dX10_put_133 rfl ?_
    exact JO.iret dX10_put_135 rfl rfl rfl
  · refine JO.aloadn dX10_put_128 rfl ?_
    refine JO.iloadn dX10_put_129 rfl ?_
    refine pM8 dX10_put_130 rfl ?_
    refine JO.iload dX10_put_133 rfl ?_
    exact JO.iret dX10_put_135 rfl rfl rfl
theorem J_m_put_b113 {X : JX} {ad : Nat → Nat} (x1 : Int32) (x2 : Int32) (x5 : Int32) (σ : MS) : JO X M_m_put (QF X eI (wM ad (xZ X))) 113 [some (.ref (ad 0)), some (.int x1), some (.int x2), none, none, some (.int x5)] [] (wsM ad (xZ X) σ) (m_put_b113 x1 x2 x5 σ) := by
  unfold m_put_b113
  refine JO.iloadn dX10_put_113 rfl ?_
  refine JO.ic 2 dX10_put_114 (by decide) ?_
  refine JO.icmp_ne 123 dX10_put_115 rfl ?_ ?_
  · exact (J_m_put_b123 _ _ _ _).jump (lvLe.so rfl (lvLe.so rfl (lvLe.so rfl (lvLe.no (lvLe.no (lvLe.so rfl (lvLe.nil)))))))
  · refine JO.aloadn dX10_put_118 rfl ?_
    refine JO.iloadn dX10_put_119 rfl ?_
    refine pM7 dX10_put_120 rfl ?_
    exact (J_m_put_b123 _ _ _ _).jump (lvLe.so rfl (lvLe.so rfl (lvLe.so rfl (lvLe.no (lvLe.no (lvLe.so rfl (lvLe.nil)))))))
theorem J_m_put_b103 {X : JX} {ad : Nat → Nat} (x1 : Int32) (x2 : Int32) (x5 : Int32) (σ : MS) : JO X M_m_put (QF X eI (wM ad (xZ X))) 103 [some (.ref (ad 0)), some (.int x1), some (.int x2), none, none, some (.int x5)] [] (wsM ad (xZ X) σ) (m_put_b103 x1 x2 x5 σ) := by
  unfold m_put_b103
  refine JO.iloadn dX10_put_103 rfl ?_
  refine JO.ic 1 dX10_put_104 (by decide) ?_
  refine JO.icmp_ne 113 dX10_put_105 rfl ?_ ?_
  · exact (J_m_put_b113 _ _ _ _).jump (lvLe.so rfl (lvLe.so rfl (lvLe.so rfl (lvLe.no (lvLe.no (lvLe.so rfl (lvLe.nil)))))))
  · refine JO.aloadn dX10_put_108 rfl ?_
    refine JO.iloadn dX10_put_109 rfl ?_
    refine pM6 dX10_put_110 rfl ?_
    exact (J_m_put_b113 _ _ _ _).jump (lvLe.so rfl (lvLe.so rfl (lvLe.so rfl (lvLe.no (lvLe.no (lvLe.so rfl (lvLe.nil)))))))
theorem J_m_put_b73 {X : JX} {ad : Nat → Nat} (x1 : Int32) (x2 : Int32) (t0 : Int32) (σ : MS) : JO X M_m_put (QF X eI (wM ad (xZ X))) 73 [some (.ref (ad 0)), some (.int x1), some (.int x2), none, none, none] [.int t0] (wsM ad (xZ X) σ) (m_put_b73 x1 x2 t0 σ) := by
  unfold m_put_b73
  refine JO.istore dX10_put_73 rfl rfl ?_
  refine JO.iload dX10_put_75 rfl ?_
  refine JO.if_eq 87 dX10_put_77 rfl ?_ ?_
  · refine JO.aloadn dX10_put_87 rfl ?_
    refine JO.iloadn dX10_put_88 rfl ?_
    refine JO.mvi (C_m_told _ _) K_m_told k6_115 rfl rfl rfl (Nat.le_of_ble_eq_true rfl) dX10_put_89 (fun a1 => ?_)
    refine JO.istore dX10_put_92 rfl rfl ?_
    refine JO.iloadn dX10_put_94 rfl ?_
    refine JO.if_ne 103 dX10_put_95 rfl ?_ ?_
    · exact (J_m_put_b103 _ _ _ _).jump (lvLe.so rfl (lvLe.so rfl (lvLe.so rfl (lvLe.no (lvLe.no (lvLe.so rfl (lvLe.nil)))))))
    · refine JO.aloadn dX10_put_98 rfl ?_
      refine JO.iloadn dX10_put_99 rfl ?_
      refine pM5 dX10_put_100 rfl ?_
      exact (J_m_put_b103 _ _ _ _).jump (lvLe.so rfl (lvLe.so rfl (lvLe.so rfl (lvLe.no (lvLe.no (lvLe.so rfl (lvLe.nil)))))))
  · refine JO.aloadn dX10_put_80 rfl ?_
    refine JO.iload dX10_put_81 rfl ?_
    refine JO.mvi (C_m_no _ _) K_m_no k5_137 rfl rfl rfl (Nat.le_of_ble_eq_true rfl) dX10_put_83 (fun a2 => ?_)
    exact JO.iret dX10_put_86 rfl rfl rfl
theorem J_m_put_b48 {X : JX} {ad : Nat → Nat} (x1 : Int32) (x2 : Int32) (t0 : Bool) (σ : MS) : JO X M_m_put (QF X eI (wM ad (xZ X))) 48 [some (.ref (ad 0)), some (.int x1), some (.int x2), none, none, none] [.int (bI t0)] (wsM ad (xZ X) σ) (m_put_b48 x1 x2 t0 σ) := by
  unfold m_put_b48
  refine JO.istoren dX10_put_48 rfl rfl ?_
  refine JO.iloadn dX10_put_49 rfl ?_
  refine JO.ic 0 dX10_put_50 (by decide) ?_
  refine JO.ic 3 dX10_put_51 (by decide) ?_
  refine JO.msz (C_m_isIn _ _ _ _) K_m_isIn k5_134 rfl rfl rfl (Nat.le_of_ble_eq_true rfl) dX10_put_52 (fun a1 => ?_)
  refine JO.zne 63 dX10_put_55 rfl ?_ ?_
  · refine JO.iloadn dX10_put_63 rfl ?_
    refine JO.zne 72 dX10_put_64 rfl ?_ ?_
    · refine JO.ic 0 dX10_put_72 (by decide) ?_
      exact (J_m_put_b73 _ _ _ _).jump (lvLe.so rfl (lvLe.so rfl (lvLe.so rfl (lvLe.no (lvLe.no (lvLe.no (lvLe.nil)))))))
    · refine JO.bip (-6) dX10_put_67 (by decide) ?_
      refine JO.goto 73 dX10_put_69 rfl ?_
      exact (J_m_put_b73 _ _ _ _).jump (lvLe.so rfl (lvLe.so rfl (lvLe.so rfl (lvLe.no (lvLe.no (lvLe.no (lvLe.nil)))))))
  · refine JO.bip (-5) dX10_put_58 (by decide) ?_
    refine JO.goto 73 dX10_put_60 rfl ?_
    exact (J_m_put_b73 _ _ _ _).jump (lvLe.so rfl (lvLe.so rfl (lvLe.so rfl (lvLe.no (lvLe.no (lvLe.no (lvLe.nil)))))))
theorem J_m_put {X : JX} {ad : Nat → Nat} (p1 : Int32) (p2 : Int32) (σ : MS) : JO X M_m_put (QF X eI (wM ad (xZ X))) 0 [some (.ref (ad 0)), some (.int p1), some (.int p2), none, none, none] [] (wsM ad (xZ X) σ) (m_put p1 p2 σ) := by
  unfold m_put
  refine JO.iloadn dX10_put_0 rfl ?_
  refine JO.if_ne 13 dX10_put_1 rfl ?_ ?_
  · refine JO.iloadn dX10_put_13 rfl ?_
    refine JO.ic 1 dX10_put_14 (by decide) ?_
    refine JO.icmp_ne 27 dX10_put_15 rfl ?_ ?_
    · refine JO.iloadn dX10_put_27 rfl ?_
      refine JO.ic 2 dX10_put_28 (by decide) ?_
      refine JO.icmp_ne 42 dX10_put_29 rfl ?_ ?_
      · refine JO.iloadn dX10_put_42 rfl ?_
        refine JO.ic 0 dX10_put_43 (by decide) ?_
        refine JO.ic 1 dX10_put_44 (by decide) ?_
        refine JO.msz (C_m_isIn _ _ _ _) K_m_isIn k5_134 rfl rfl rfl (Nat.le_of_ble_eq_true rfl) dX10_put_45 (fun a1 => ?_)
        exact (J_m_put_b48 _ _ a1.1 _).jump (lvLe.so rfl (lvLe.so rfl (lvLe.so rfl (lvLe.no (lvLe.no (lvLe.no (lvLe.nil)))))))
      · refine JO.iloadn dX10_put_32 rfl ?_
        refine JO.ic 2 dX10_put_33 (by decide) ?_
        refine JO.bip 9 dX10_put_34 (by decide) ?_
        refine JO.msz (C_m_isIn _ _ _ _) K_m_isIn k5_134 rfl rfl rfl (Nat.le_of_ble_eq_true rfl) dX10_put_36 (fun a2 => ?_)
        refine JO.goto 48 dX10_put_39 rfl ?_
        exact (J_m_put_b48 _ _ a2.1 _).jump (lvLe.so rfl (lvLe.so rfl (lvLe.so rfl (lvLe.no (lvLe.no (lvLe.no (lvLe.nil)))))))
    · refine JO.iloadn dX10_put_18 rfl ?_
      refine JO.ic 2 dX10_put_19 (by decide) ?_
      refine JO.ic 3 dX10_put_20 (by decide) ?_
      refine JO.msz (C_m_isIn _ _ _ _) K_m_isIn k5_134 rfl rfl rfl (Nat.le_of_ble_eq_true rfl) dX10_put_21 (fun a3 => ?_)
      refine JO.goto 48 dX10_put_24 rfl ?_
      exact (J_m_put_b48 _ _ a3.1 _).jump (lvLe.so rfl (lvLe.so rfl (lvLe.so rfl (lvLe.no (lvLe.no (lvLe.no (lvLe.nil)))))))
  · refine JO.iloadn dX10_put_4 rfl ?_
    refine JO.ic 1 dX10_put_5 (by decide) ?_
    refine JO.ic 5 dX10_put_6 (by decide) ?_
    refine JO.msz (C_m_isIn _ _ _ _) K_m_isIn k5_134 rfl rfl rfl (Nat.le_of_ble_eq_true rfl) dX10_put_7 (fun a4 => ?_)
    refine JO.goto 48 dX10_put_10 rfl ?_
    exact (J_m_put_b48 _ _ a4.1 _).jump (lvLe.so rfl (lvLe.so rfl (lvLe.so rfl (lvLe.no (lvLe.no (lvLe.no (lvLe.nil)))))))
theorem C_m_put {ad : Nat → Nat} {Z : ZT} (p1 : Int32) (p2 : Int32) (σ : MS) : CO yX10_put M_m_put eI Z (wM ad Z) [.ref (ad 0), .int p1, .int p2] (wsM ad Z σ) (m_put p1 p2 σ) :=
  CO.of rfl rfl (Nat.le_of_ble_eq_true rfl) 3 (fun X hZ => by subst hZ; exact J_m_put _ _ σ)
theorem K_m_put : Kv yX10_put M_m_put RX10 2 := ⟨rfl, k6_112, k6_113, k1_10, k6_114, by decide +kernel⟩
