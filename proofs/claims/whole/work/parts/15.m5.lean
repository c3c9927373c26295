abbrev M_m_readsFirst : JM := (cX10_readsFirst, 3, RX10, (some .boolean), 2, 46)
def m_readsFirst (p1 : Int32) (p2 : Int32) (σ : MS) : Option (Bool × MS) :=
  (m_readsNumber p1 p2 σ).bind fun a1 =>
  if inB (mI σ 37) 60 = true then
  if inB (mI a1.2 37) 60 = true then
  if mA (sA a1.2 32 (ix (mI σ 37)) a1.1) 32 (ix (mI a1.2 37)) < 0 then (
    some (false, sA a1.2 32 (ix (mI σ 37)) a1.1))
  else (
    some (true, sA a1.2 32 (ix (mI σ 37)) a1.1))
  else none
  else none
theorem J_m_readsFirst {X : JX} {ad : Nat → Nat} (p1 : Int32) (p2 : Int32) (σ : MS) : JO X M_m_readsFirst (QF X eZ (wM ad (xZ X))) 0 [some (.ref (ad 0)), some (.int p1), some (.int p2)] [] (wsM ad (xZ X) σ) (m_readsFirst p1 p2 σ) := by
  unfold m_readsFirst
  refine JO.aloadn dX10_readsFirst_0 rfl ?_
  refine gM32 dX10_readsFirst_1 rfl ?_
  refine JO.aloadn dX10_readsFirst_4 rfl ?_
  refine gM37 dX10_readsFirst_5 rfl ?_
  refine JO.aloadn dX10_readsFirst_8 rfl ?_
  refine JO.iloadn dX10_readsFirst_9 rfl ?_
  refine JO.iloadn dX10_readsFirst_10 rfl ?_
  refine JO.mvi (C_m_readsNumber _ _ _) K_m_readsNumber k6_95 rfl rfl rfl (Nat.le_of_ble_eq_true rfl) dX10_readsFirst_11 (fun a1 => ?_)
  refine uM32 dX10_readsFirst_14 ?_
  refine JO.aloadn dX10_readsFirst_15 rfl ?_
  refine gM32 dX10_readsFirst_16 rfl ?_
  refine JO.aloadn dX10_readsFirst_19 rfl ?_
  refine gM37 dX10_readsFirst_20 rfl ?_
  refine aM32 dX10_readsFirst_23 ?_
  refine JO.if_lt 31 dX10_readsFirst_24 rfl ?_ ?_
  · refine JO.ic 0 dX10_readsFirst_31 (by decide) ?_
    exact JO.zret (b := false) dX10_readsFirst_32 rfl rfl rfl
  · refine JO.ic 1 dX10_readsFirst_27 (by decide) ?_
    refine JO.goto 32 dX10_readsFirst_28 rfl ?_
    exact JO.zret (b := true) dX10_readsFirst_32 rfl rfl rfl
theorem C_m_readsFirst {ad : Nat → Nat} {Z : ZT} (p1 : Int32) (p2 : Int32) (σ : MS) : CO yX10_readsFirst M_m_readsFirst eZ Z (wM ad Z) [.ref (ad 0), .int p1, .int p2] (wsM ad Z σ) (m_readsFirst p1 p2 σ) :=
  CO.of rfl rfl (Nat.le_of_ble_eq_true rfl) 0 (fun X hZ => by subst hZ; exact J_m_readsFirst _ _ σ)
theorem K_m_readsFirst : Kv yX10_readsFirst M_m_readsFirst RX10 2 := ⟨rfl, k6_93, s5_12, k1_10, k6_94, by decide +kernel⟩
abbrev M_m_holdsItem : JM := (cX10_holdsItem, 3, RX10, none, 0, 0)
def m_holdsItem_b88 (x1 : Int32) (x2 : Int32) (σ : MS) : Option (Unit × MS) :=
  if inB x1 60 = true then
  if mA σ 31 (ix x1) = 3 then (
    if inB x2 6 = true then
    some ((), sA σ 1 (ix x2) 1)
    else none)
  else (
    if inB x2 6 = true then
    some ((), sA σ 1 (ix x2) 0)
    else none)
  else none
def m_holdsItem_b112 (x1 : Int32) (x2 : Int32) (σ : MS) : Option (Unit × MS) :=
  if inB x1 60 = true then
  if mA σ 31 (ix x1) = 5 then (
    if inB x2 60 = true then
    some ((), sA σ 2 (ix x2) 1)
    else none)
  else (
    if inB x2 60 = true then
    some ((), sA σ 2 (ix x2) 0)
    else none)
  else none
def m_holdsItem (p1 : Int32) (σ : MS) : Option (Unit × MS) :=
  if inB p1 60 = true then
  if inB p1 60 = true then
  sw (mA σ 31 (ix p1)) [(0, 64,
    some ((), sI σ 5 (mA σ 32 (ix p1)))), (1, 72,
    some ((), sI σ 6 (mA σ 32 (ix p1)))), (2, 80,
    some ((), sI σ 7 (mA σ 32 (ix p1)))), (3, 88,
    m_holdsItem_b88 p1 (mA σ 32 (ix p1)) σ), (4, 88,
    m_holdsItem_b88 p1 (mA σ 32 (ix p1)) σ), (5, 112,
    m_holdsItem_b112 p1 (mA σ 32 (ix p1)) σ), (6, 112,
    m_holdsItem_b112 p1 (mA σ 32 (ix p1)) σ), (7, 136,
    if inB p1 60 = true then
    if inB (mA σ 32 (ix p1)) 6 = true then
    if inB p1 60 = true then
    if inB (mA σ 32 (ix p1)) 6 = true then
    some ((), sA (sA σ 3 (ix (mA σ 32 (ix p1))) (mA σ 33 (ix p1))) 4 (ix (mA σ 32 (ix p1))) (mA σ 34 (ix p1)))
    else none
    else none
    else none
    else none), (8, 163,
    if inB (mA σ 32 (ix p1)) 6 = true then
    some ((), sA σ 3 (ix (mA σ 32 (ix p1))) (-1))
    else none)] (
    if inB p1 60 = true then
    if mA σ 31 (ix p1) = 9 then (
      some ((), sI σ 8 1))
    else (
      some ((), sI σ 8 0))
    else none)
  else none
  else none
theorem J_m_holdsItem_b88 {X : JX} {ad : Nat → Nat} (x1 : Int32) (x2 : Int32) (σ : MS) : JO X M_m_holdsItem (QF X eV (wM ad (xZ X))) 88 [some (.ref (ad 0)), some (.int x1), some (.int x2)] [] (wsM ad (xZ X) σ) (m_holdsItem_b88 x1 x2 σ) := by
  unfold m_holdsItem_b88
  refine JO.aloadn dX10_holdsItem_88 rfl ?_
  refine gM1 dX10_holdsItem_89 rfl ?_
  refine JO.iloadn dX10_holdsItem_92 rfl ?_
  refine JO.aloadn dX10_holdsItem_93 rfl ?_
  refine gM31 dX10_holdsItem_94 rfl ?_
  refine JO.iloadn dX10_holdsItem_97 rfl ?_
  refine aM31 dX10_holdsItem_98 ?_
  refine JO.ic 3 dX10_holdsItem_99 (by decide) ?_
  refine JO.icmp_ne 107 dX10_holdsItem_100 rfl ?_ ?_
  · refine JO.ic 0 dX10_holdsItem_107 (by decide) ?_
    refine uM1 dX10_holdsItem_108 ?_
    refine JO.goto 193 dX10_holdsItem_109 rfl ?_
    exact JO.vret dX10_holdsItem_193 rfl rfl rfl
  · refine JO.ic 1 dX10_holdsItem_103 (by decide) ?_
    refine JO.goto 108 dX10_holdsItem_104 rfl ?_
    refine uM1 dX10_holdsItem_108 ?_
    refine JO.goto 193 dX10_holdsItem_109 rfl ?_
    exact JO.vret dX10_holdsItem_193 rfl rfl rfl
theorem J_m_holdsItem_b112 {X : JX} {ad : Nat → Nat} (x1 : Int32) (x2 : Int32) (σ : MS) : JO X M_m_holdsItem (QF X eV (wM ad (xZ X))) 112 [some (.ref (ad 0)), some (.int x1), some (.int x2)] [] (wsM ad (xZ X) σ) (m_holdsItem_b112 x1 x2 σ) := by
  unfold m_holdsItem_b112
  refine JO.aloadn dX10_holdsItem_112 rfl ?_
  refine gM2 dX10_holdsItem_113 rfl ?_
  refine JO.iloadn dX10_holdsItem_116 rfl ?_
  refine JO.aloadn dX10_holdsItem_117 rfl ?_
  refine gM31 dX10_holdsItem_118 rfl ?_
  refine JO.iloadn dX10_holdsItem_121 rfl ?_
  refine aM31 dX10_holdsItem_122 ?_
  refine JO.ic 5 dX10_holdsItem_123 (by decide) ?_
  refine JO.icmp_ne 131 dX10_holdsItem_124 rfl ?_ ?_
  · refine JO.ic 0 dX10_holdsItem_131 (by decide) ?_
    refine uM2 dX10_holdsItem_132 ?_
    refine JO.goto 193 dX10_holdsItem_133 rfl ?_
    exact JO.vret dX10_holdsItem_193 rfl rfl rfl
  · refine JO.ic 1 dX10_holdsItem_127 (by decide) ?_
    refine JO.goto 132 dX10_holdsItem_128 rfl ?_
    refine uM2 dX10_holdsItem_132 ?_
    refine JO.goto 193 dX10_holdsItem_133 rfl ?_
    exact JO.vret dX10_holdsItem_193 rfl rfl rfl
theorem J_m_holdsItem {X : JX} {ad : Nat → Nat} (p1 : Int32) (σ : MS) : JO X M_m_holdsItem (QF X eV (wM ad (xZ X))) 0 [some (.ref (ad 0)), some (.int p1), none] [] (wsM ad (xZ X) σ) (m_holdsItem p1 σ) := by
  unfold m_holdsItem
  refine JO.aloadn dX10_holdsItem_0 rfl ?_
  refine gM32 dX10_holdsItem_1 rfl ?_
  refine JO.iloadn dX10_holdsItem_4 rfl ?_
  refine aM32 dX10_holdsItem_5 ?_
  refine JO.istoren dX10_holdsItem_6 rfl rfl ?_
  refine JO.aloadn dX10_holdsItem_7 rfl ?_
  refine gM31 dX10_holdsItem_8 rfl ?_
  refine JO.iloadn dX10_holdsItem_11 rfl ?_
  refine aM31 dX10_holdsItem_12 ?_
  refine JO.tsw [(0, 64, _), (1, 72, _), (2, 80, _), (3, 88, _), (4, 88, _), (5, 112, _), (6, 112, _), (7, 136, _), (8, 163, _)] 173 [(0, 64), (1, 72), (2, 80), (3, 88), (4, 88), (5, 112), (6, 112), (7, 136), (8, 163)] dX10_holdsItem_13 rfl (by decide) rfl (by decide) (JO.swCons ?_ (JO.swCons ?_ (JO.swCons ?_ (JO.swCons ?_ (JO.swCons ?_ (JO.swCons ?_ (JO.swCons ?_ (JO.swCons ?_ (JO.swCons ?_ (JO.swNil)))))))))) ?_
  · refine JO.aloadn dX10_holdsItem_64 rfl ?_
    refine JO.iloadn dX10_holdsItem_65 rfl ?_
    refine pM5 dX10_holdsItem_66 rfl ?_
    refine JO.goto 193 dX10_holdsItem_69 rfl ?_
    exact JO.vret dX10_holdsItem_193 rfl rfl rfl
  · refine JO.aloadn dX10_holdsItem_72 rfl ?_
    refine JO.iloadn dX10_holdsItem_73 rfl ?_
    refine pM6 dX10_holdsItem_74 rfl ?_
    refine JO.goto 193 dX10_holdsItem_77 rfl ?_
    exact JO.vret dX10_holdsItem_193 rfl rfl rfl
  · refine JO.aloadn dX10_holdsItem_80 rfl ?_
    refine JO.iloadn dX10_holdsItem_81 rfl ?_
    refine pM7 dX10_holdsItem_82 rfl ?_
    refine JO.goto 193 dX10_holdsItem_85 rfl ?_
    exact JO.vret dX10_holdsItem_193 rfl rfl rfl
  · exact (J_m_holdsItem_b88 _ _ _).jump (lvLe.so rfl (lvLe.so rfl (lvLe.so rfl (lvLe.nil))))
  · exact (J_m_holdsItem_b88 _ _ _).jump (lvLe.so rfl (lvLe.so rfl (lvLe.so rfl (lvLe.nil))))
  · exact (J_m_holdsItem_b112 _ _ _).jump (lvLe.so rfl (lvLe.so rfl (lvLe.so rfl (lvLe.nil))))
  · exact (J_m_holdsItem_b112 _ _ _).jump (lvLe.so rfl (lvLe.so rfl (lvLe.so rfl (lvLe.nil))))
  · refine JO.aloadn dX10_holdsItem_136 rfl ?_
    refine gM3 dX10_holdsItem_137 rfl ?_
    refine JO.iloadn dX10_holdsItem_140 rfl ?_
    refine JO.aloadn dX10_holdsItem_141 rfl ?_
    refine gM33 dX10_holdsItem_142 rfl ?_
    refine JO.iloadn dX10_holdsItem_145 rfl ?_
    refine aM33 dX10_holdsItem_146 ?_
    refine uM3 dX10_holdsItem_147 ?_
    refine JO.aloadn dX10_holdsItem_148 rfl ?_
    refine gM4 dX10_holdsItem_149 rfl ?_
    refine JO.iloadn dX10_holdsItem_152 rfl ?_
    refine JO.aloadn dX10_holdsItem_153 rfl ?_
    refine gM34 dX10_holdsItem_154 rfl ?_
    refine JO.iloadn dX10_holdsItem_157 rfl ?_
    refine aM34 dX10_holdsItem_158 ?_
    refine uM4 dX10_holdsItem_159 ?_
    refine JO.goto 193 dX10_holdsItem_160 rfl ?_
    exact JO.vret dX10_holdsItem_193 rfl rfl rfl
  · refine JO.aloadn dX10_holdsItem_163 rfl ?_
    refine gM3 dX10_holdsItem_164 rfl ?_
    refine JO.iloadn dX10_holdsItem_167 rfl ?_
    refine JO.ic (-1) dX10_holdsItem_168 (by decide) ?_
    refine uM3 dX10_holdsItem_169 ?_
    refine JO.goto 193 dX10_holdsItem_170 rfl ?_
    exact JO.vret dX10_holdsItem_193 rfl rfl rfl
  · refine JO.aloadn dX10_holdsItem_173 rfl ?_
    refine JO.aloadn dX10_holdsItem_174 rfl ?_
    refine gM31 dX10_holdsItem_175 rfl ?_
    refine JO.iloadn dX10_holdsItem_178 rfl ?_
    refine aM31 dX10_holdsItem_179 ?_
    refine JO.bip 9 dX10_holdsItem_180 (by decide) ?_
    refine JO.icmp_ne 189 dX10_holdsItem_182 rfl ?_ ?_
    · refine JO.ic 0 dX10_holdsItem_189 (by decide) ?_
      refine pM8 dX10_holdsItem_190 rfl ?_
      exact JO.vret dX10_holdsItem_193 rfl rfl rfl
    · refine JO.ic 1 dX10_holdsItem_185 (by decide) ?_
      refine JO.goto 190 dX10_holdsItem_186 rfl ?_
      refine pM8 dX10_holdsItem_190 rfl ?_
      exact JO.vret dX10_holdsItem_193 rfl rfl rfl
theorem C_m_holdsItem {ad : Nat → Nat} {Z : ZT} (p1 : Int32) (σ : MS) : CO yX10_holdsItem M_m_holdsItem eV Z (wM ad Z) [.ref (ad 0), .int p1] (wsM ad Z σ) (m_holdsItem p1 σ) :=
  CO.of rfl rfl (Nat.le_of_ble_eq_true rfl) 1 (fun X hZ => by subst hZ; exact J_m_holdsItem _ σ)
theorem K_m_holdsItem : Kv yX10_holdsItem M_m_holdsItem RX10 1 := ⟨rfl, k6_105, s5_15, k1_10, k6_106, by decide +kernel⟩
abbrev M_m_fault : JM := (cX10_fault, 1, RX10, (some .int), 0, 0)
def m_fault (σ : MS) : Option (Int32 × MS) :=
  some (mI σ 36, σ)
theorem J_m_fault {X : JX} {ad : Nat → Nat} (σ : MS) : JO X M_m_fault (QF X eI (wM ad (xZ X))) 0 [some (.ref (ad 0))] [] (wsM ad (xZ X) σ) (m_fault σ) := by
  unfold m_fault
  refine JO.aloadn dX10_fault_0 rfl ?_
  refine gM36 dX10_fault_1 rfl ?_
  exact JO.iret dX10_fault_4 rfl rfl rfl
theorem C_m_fault {ad : Nat → Nat} {Z : ZT} (σ : MS) : CO yX10_fault M_m_fault eI Z (wM ad Z) [.ref (ad 0)] (wsM ad Z σ) (m_fault σ) :=
  CO.of rfl rfl (Nat.le_of_ble_eq_true rfl) 0 (fun X hZ => by subst hZ; exact J_m_fault σ)
theorem K_m_fault : Kv yX10_fault M_m_fault RX10 0 := ⟨rfl, k6_108, k6_109, k1_10, k6_110, by decide +kernel⟩
abbrev M_m_setOf : JM := (cX10_setOf, 4, RX10, (some .int), 0, 0)
def m_setOf_l12 : Nat → Bool → Int32 → Int32 → MS → Option (Int32 × MS)
  | 0, _, _, _, _ => none
  | n + 1, x1, x2, x3, σ =>
    if mI σ 5 < x3 then (
      some (x2, σ))
    else (
      if x1 = true then (
        if inB x3 6 = true then
        if mA σ 1 (ix x3) = 1 then (
          m_setOf_l12 n x1 (x2 ||| (1 <<< (x3 &&& 31))) (x3 + 1) σ)
        else (
          m_setOf_l12 n x1 (x2 ||| 0) (x3 + 1) σ)
        else none)
      else (
        if inB x3 6 = true then
        if mA σ 3 (ix x3) = (-1) then (
          m_setOf_l12 n x1 (x2 ||| 0) (x3 + 1) σ)
        else (
          m_setOf_l12 n x1 (x2 ||| (1 <<< (x3 &&& 31))) (x3 + 1) σ)
        else none))
def m_setOf (p1 : Bool) (σ : MS) : Option (Int32 × MS) :=
  if p1 = true then (
    m_setOf_l12 4096 p1 0 1 σ)
  else (
    m_setOf_l12 4096 p1 0 0 σ)
theorem J_m_setOf_l12 {X : JX} {ad : Nat → Nat} : ∀ (n : Nat) (x1 : Bool) (x2 : Int32) (x3 : Int32) (σ : MS), JO X M_m_setOf (QF X eI (wM ad (xZ X))) 12 [some (.ref (ad 0)), some (.int (bI x1)), some (.int x2), some (.int x3)] [] (wsM ad (xZ X) σ) (m_setOf_l12 n x1 x2 x3 σ) := by
  intro n
  induction n with
  | zero => intro x1 x2 x3 σ; exact JO.nil
  | succ n ih =>
    intro x1 x2 x3 σ
    unfold m_setOf_l12
    refine JO.iloadn dX10_setOf_12 rfl ?_
    refine JO.aloadn dX10_setOf_13 rfl ?_
    refine gM5 dX10_setOf_14 rfl ?_
    refine JO.icmp_gt 63 dX10_setOf_17 rfl ?_ ?_
    · refine JO.iloadn dX10_setOf_63 rfl ?_
      exact JO.iret dX10_setOf_64 rfl rfl rfl
    · refine JO.iloadn dX10_setOf_20 rfl ?_
      refine JO.iloadn dX10_setOf_21 rfl ?_
      refine JO.zeq 38 dX10_setOf_22 rfl ?_ ?_
      · refine JO.aloadn dX10_setOf_38 rfl ?_
        refine gM3 dX10_setOf_39 rfl ?_
        refine JO.iloadn dX10_setOf_42 rfl ?_
        refine aM3 dX10_setOf_43 ?_
        refine JO.ic (-1) dX10_setOf_44 (by decide) ?_
        refine JO.icmp_eq 54 dX10_setOf_45 rfl ?_ ?_
        · refine JO.ic 0 dX10_setOf_54 (by decide) ?_
          refine JO.ior dX10_setOf_55 ?_
          refine JO.istoren dX10_setOf_56 rfl rfl ?_
          refine JO.iinc dX10_setOf_57 rfl 1 (by decide) rfl rfl ?_
          refine JO.goto 12 dX10_setOf_60 rfl ?_
          exact (ih x1 _ _ _).jump (lvLe.so rfl (lvLe.so rfl (lvLe.so rfl (lvLe.so rfl (lvLe.nil)))))
        · refine JO.ic 1 dX10_setOf_48 (by decide) ?_
          refine JO.iloadn dX10_setOf_49 rfl ?_
          refine JO.ishl dX10_setOf_50 ?_
          refine JO.goto 55 dX10_setOf_51 rfl ?_
          refine JO.ior dX10_setOf_55 ?_
          refine JO.istoren dX10_setOf_56 rfl rfl ?_
          refine JO.iinc dX10_setOf_57 rfl 1 (by decide) rfl rfl ?_
          refine JO.goto 12 dX10_setOf_60 rfl ?_
          exact (ih x1 _ _ _).jump (lvLe.so rfl (lvLe.so rfl (lvLe.so rfl (lvLe.so rfl (lvLe.nil)))))
      · refine JO.aloadn dX10_setOf_25 rfl ?_
        refine gM1 dX10_setOf_26 rfl ?_
        refine JO.iloadn dX10_setOf_29 rfl ?_
        refine aM1 dX10_setOf_30 ?_
        refine JO.ic 1 dX10_setOf_31 (by decide) ?_
        refine JO.icmp_ne 54 dX10_setOf_32 rfl ?_ ?_
        · refine JO.ic 0 dX10_setOf_54 (by decide) ?_
          refine JO.ior dX10_setOf_55 ?_
          refine JO.istoren dX10_setOf_56 rfl rfl ?_
          refine JO.iinc dX10_setOf_57 rfl 1 (by decide) rfl rfl ?_
          refine JO.goto 12 dX10_setOf_60 rfl ?_
          exact (ih x1 _ _ _).jump (lvLe.so rfl (lvLe.so rfl (lvLe.so rfl (lvLe.so rfl (lvLe.nil)))))
        · refine JO.goto 48 dX10_setOf_35 rfl ?_
          refine JO.ic 1 dX10_setOf_48 (by decide) ?_
          refine JO.iloadn dX10_setOf_49 rfl ?_
          refine JO.ishl dX10_setOf_50 ?_
          refine JO.goto 55 dX10_setOf_51 rfl ?_
          refine JO.ior dX10_setOf_55 ?_
          refine JO.istoren dX10_setOf_56 rfl rfl ?_
          refine JO.iinc dX10_setOf_57 rfl 1 (by decide) rfl rfl ?_
          refine JO.goto 12 dX10_setOf_60 rfl ?_
          exact (ih x1 _ _ _).jump (lvLe.so rfl (lvLe.so rfl (lvLe.so rfl (lvLe.so rfl (lvLe.nil)))))
theorem J_m_setOf {X : JX} {ad : Nat → Nat} (p1 : Bool) (σ : MS) : JO X M_m_setOf (QF X eI (wM ad (xZ X))) 0 [some (.ref (ad 0)), some (.int (bI p1)), none, none] [] (wsM ad (xZ X) σ) (m_setOf p1 σ) := by
  unfold m_setOf
  refine JO.ic 0 dX10_setOf_0 (by decide) ?_
  refine JO.istoren dX10_setOf_1 rfl rfl ?_
  refine JO.iloadn dX10_setOf_2 rfl ?_
  refine JO.zeq 10 dX10_setOf_3 rfl ?_ ?_
  · refine JO.ic 0 dX10_setOf_10 (by decide) ?_
    refine JO.istoren dX10_setOf_11 rfl rfl ?_
    exact (J_m_setOf_l12 4096 p1 _ _ _).jump (lvLe.so rfl (lvLe.so rfl (lvLe.so rfl (lvLe.so rfl (lvLe.nil)))))
  · refine JO.ic 1 dX10_setOf_6 (by decide) ?_
    refine JO.goto 11 dX10_setOf_7 rfl ?_
    refine JO.istoren dX10_setOf_11 rfl rfl ?_
    exact (J_m_setOf_l12 4096 p1 _ _ _).jump (lvLe.so rfl (lvLe.so rfl (lvLe.so rfl (lvLe.so rfl (lvLe.nil)))))
theorem C_m_setOf {ad : Nat → Nat} {Z : ZT} (p1 : Bool) (σ : MS) : CO yX10_setOf M_m_setOf eI Z (wM ad Z) [.ref (ad 0), .int (bI p1)] (wsM ad Z σ) (m_setOf p1 σ) :=
  CO.of rfl rfl (Nat.le_of_ble_eq_true rfl) 2 (fun X hZ => by subst hZ; exact J_m_setOf _ σ)
theorem K_m_setOf : Kv yX10_setOf M_m_setOf RX10 1 := ⟨rfl, k6_121, s6_0, k1_10, k6_122, by decide +kernel⟩
abbrev M_m_manyLosses : JM := (cX10_manyLosses, 3, RX10, (some .int), 0, 0)
def m_manyLosses_l4 : Nat → Int32 → Int32 → MS → Option (Int32 × MS)
  | 0, _, _, _ => none
  | n + 1, x1, x2, σ =>
    if 60 ≤ x2 then (
      some (x1, σ))
    else (
      if inB x2 60 = true then
      m_manyLosses_l4 n (x1 + mA σ 2 (ix x2)) (x2 + 1) σ
      else none)
def m_manyLosses (σ : MS) : Option (Int32 × MS) :=
  m_manyLosses_l4 4096 0 0 σ
theorem J_m_manyLosses_l4 {X : JX} {ad : Nat → Nat} : ∀ (n : Nat) (x1 : Int32) (x2 : Int32) (σ : MS), JO X M_m_manyLosses (QF X eI (wM ad (xZ X))) 4 [some (.ref (ad 0)), some (.int x1), some (.int x2)] [] (wsM ad (xZ X) σ) (m_manyLosses_l4 n x1 x2 σ) := by
  intro n
  induction n with
  | zero => intro x1 x2 σ; exact JO.nil
  | succ n ih =>
    intro x1 x2 σ
    unfold m_manyLosses_l4
    refine JO.iloadn dX10_manyLosses_4 rfl ?_
    refine JO.bip 60 dX10_manyLosses_5 (by decide) ?_
    refine JO.icmp_ge 25 dX10_manyLosses_7 rfl ?_ ?_
    · refine JO.iloadn dX10_manyLosses_25 rfl ?_
      exact JO.iret dX10_manyLosses_26 rfl rfl rfl
    · refine JO.iloadn dX10_manyLosses_10 rfl ?_
      refine JO.aloadn dX10_manyLosses_11 rfl ?_
      refine gM2 dX10_manyLosses_12 rfl ?_
      refine JO.iloadn dX10_manyLosses_15 rfl ?_
      refine aM2 dX10_manyLosses_16 ?_
      refine JO.iadd dX10_manyLosses_17 ?_
      refine JO.istoren dX10_manyLosses_18 rfl rfl ?_
      refine JO.iinc dX10_manyLosses_19 rfl 1 (by decide) rfl rfl ?_
      refine JO.goto 4 dX10_manyLosses_22 rfl ?_
      exact (ih _ _ _).jump (lvLe.so rfl (lvLe.so rfl (lvLe.so rfl (lvLe.nil))))
theorem J_m_manyLosses {X : JX} {ad : Nat → Nat} (σ : MS) : JO X M_m_manyLosses (QF X eI (wM ad (xZ X))) 0 [some (.ref (ad 0)), none, none] [] (wsM ad (xZ X) σ) (m_manyLosses σ) := by
  unfold m_manyLosses
  refine JO.ic 0 dX10_manyLosses_0 (by decide) ?_
  refine JO.istoren dX10_manyLosses_1 rfl rfl ?_
  refine JO.ic 0 dX10_manyLosses_2 (by decide) ?_
  refine JO.istoren dX10_manyLosses_3 rfl rfl ?_
  exact (J_m_manyLosses_l4 4096 _ _ _).jump (lvLe.so rfl (lvLe.so rfl (lvLe.so rfl (lvLe.nil))))
theorem C_m_manyLosses {ad : Nat → Nat} {Z : ZT} (σ : MS) : CO yX10_manyLosses M_m_manyLosses eI Z (wM ad Z) [.ref (ad 0)] (wsM ad Z σ) (m_manyLosses σ) :=
  CO.of rfl rfl (Nat.le_of_ble_eq_true rfl) 2 (fun X hZ => by subst hZ; exact J_m_manyLosses σ)
theorem K_m_manyLosses : Kv yX10_manyLosses M_m_manyLosses RX10 0 := ⟨rfl, k6_125, s6_1, k1_10, k6_126, by decide +kernel⟩
abbrev M_m_told : JM := (cX10_told, 2, RX10, (some .int), 1, 23)
def m_told (p1 : Int32) (σ : MS) : Option (Int32 × MS) :=
  sw p1 [(0, 48,
    some (mI σ 5, σ)), (1, 53,
    some (mI σ 6, σ)), (2, 58,
    some (mI σ 7, σ)), (3, 63,
    some (mI σ 8, σ)), (4, 68,
    (m_setOf true σ).bind fun a1 =>
    some (a1.1, a1.2)), (5, 74,
    (m_manyLosses σ).bind fun a2 =>
    some (a2.1, a2.2)), (6, 79,
    (m_setOf false σ).bind fun a3 =>
    some (a3.1, a3.2)), (7, 85,
    some (mI σ 9, σ))] (
    (m_no (-5) σ).bind fun a4 =>
    some (a4.1, a4.2))
theorem J_m_told {X : JX} {ad : Nat → Nat} (p1 : Int32) (σ : MS) : JO X M_m_told (QF X eI (wM ad (xZ X))) 0 [some (.ref (ad 0)), some (.int p1)] [] (wsM ad (xZ X) σ) (m_told p1 σ) := by
  unfold m_told
  refine JO.iloadn dX10_told_0 rfl ?_
  refine JO.tsw [(0, 48, _), (1, 53, _), (2, 58, _), (3, 63, _), (4, 68, _), (5, 74, _), (6, 79, _), (7, 85, _)] 90 [(0, 48), (1, 53), (2, 58), (3, 63), (4, 68), (5, 74), (6, 79), (7, 85)] dX10_told_1 rfl (by decide) rfl (by decide) (JO.swCons ?_ (JO.swCons ?_ (JO.swCons ?_ (JO.swCons ?_ (JO.swCons ?_ (JO.swCons ?_ (JO.swCons ?_ (JO.swCons ?_ (JO.swNil))))))))) ?_
  · refine JO.aloadn dX10_told_48 rfl ?_
    refine gM5 dX10_told_49 rfl ?_
    exact JO.iret dX10_told_52 rfl rfl rfl
  · refine JO.aloadn dX10_told_53 rfl ?_
    refine gM6 dX10_told_54 rfl ?_
    exact JO.iret dX10_told_57 rfl rfl rfl
  · refine JO.aloadn dX10_told_58 rfl ?_
    refine gM7 dX10_told_59 rfl ?_
    exact JO.iret dX10_told_62 rfl rfl rfl
  · refine JO.aloadn dX10_told_63 rfl ?_
    refine gM8 dX10_told_64 rfl ?_
    exact JO.iret dX10_told_67 rfl rfl rfl
  · refine JO.aloadn dX10_told_68 rfl ?_
    refine JO.ic 1 dX10_told_69 (by decide) ?_
    refine JO.mvi (C_m_setOf true _) K_m_setOf k6_119 rfl rfl rfl (Nat.le_of_ble_eq_true rfl) dX10_told_70 (fun a1 => ?_)
    exact JO.iret dX10_told_73 rfl rfl rfl
  · refine JO.aloadn dX10_told_74 rfl ?_
    refine JO.mvi (C_m_manyLosses _) K_m_manyLosses k6_123 rfl rfl rfl (Nat.le_of_ble_eq_true rfl) dX10_told_75 (fun a2 => ?_)
    exact JO.iret dX10_told_78 rfl rfl rfl
  · refine JO.aloadn dX10_told_79 rfl ?_
    refine JO.ic 0 dX10_told_80 (by decide) ?_
    refine JO.mvi (C_m_setOf false _) K_m_setOf k6_119 rfl rfl rfl (Nat.le_of_ble_eq_true rfl) dX10_told_81 (fun a3 => ?_)
    exact JO.iret dX10_told_84 rfl rfl rfl
  · refine JO.aloadn dX10_told_85 rfl ?_
    refine gM9 dX10_told_86 rfl ?_
    exact JO.iret dX10_told_89 rfl rfl rfl
  · refine JO.aloadn dX10_told_90 rfl ?_
    refine JO.bip (-5) dX10_told_91 (by decide) ?_
    refine JO.mvi (C_m_no _ _) K_m_no k5_137 rfl rfl rfl (Nat.le_of_ble_eq_true rfl) dX10_told_93 (fun a4 => ?_)
    exact JO.iret dX10_told_96 rfl rfl rfl
theorem C_m_told {ad : Nat → Nat} {Z : ZT} (p1 : Int32) (σ : MS) : CO yX10_told M_m_told eI Z (wM ad Z) [.ref (ad 0), .int p1] (wsM ad Z σ) (m_told p1 σ) :=
  CO.of rfl rfl (Nat.le_of_ble_eq_true rfl) 0 (fun X hZ => by subst hZ; exact J_m_told _ σ)
theorem K_m_told : Kv yX10_told M_m_told RX10 1 := ⟨rfl, k6_116, k6_117, k1_10, k6_118, by decide +kernel⟩
abbrev M_m_put : JM := (cX10_put, 6, RX10, (some .int), 2, 44)
def m_put_b123 (x1 : Int32) (x2 : Int32) (x5 : Int32) (σ : MS) : Option (Int32 × MS) :=
  if x1 = 3 then (
    some (x5, sI σ 8 x2))
  else (
    some (x5, σ))
def m_put_b113 (x1 : Int32) (x2 : Int32) (x5 : Int32) (σ : MS) : Option (Int32 × MS) :=
  if x1 = 2 then (
    m_put_b123 x1 x2 x5 (sI σ 7 x2))
  else (
    m_put_b123 x1 x2 x5 σ)
def m_put_b103 (x1 : Int32) (x2 : Int32) (x5 : Int32) (σ : MS) : Option (Int32 × MS) :=
  if x1 = 1 then (
    m_put_b113 x1 x2 x5 (sI σ 6 x2))
  else (
    m_put_b113 x1 x2 x5 σ)
def m_put_b73 (x1 : Int32) (x2 : Int32) (t0 : Int32) (σ : MS) : Option (Int32 × MS) :=
  if t0 = 0 then (
    (m_told x1 σ).bind fun a1 =>
    if x1 = 0 then (
      m_put_b103 x1 x2 a1.1 (sI a1.2 5 x2))
    else (
      m_put_b103 x1 x2 a1.1 a1.2))
  else (
    (m_no t0 σ).bind fun a2 =>
    some (a2.1, a2.2))
def m_put_b48 (x1 : Int32) (x2 : Int32) (t0 : Bool) (σ : MS) : Option (Int32 × MS) :=
  (m_isIn x1 0 3 σ).bind fun a1 =>
  if a1.1 = true then (
    if t0 = true then (
      m_put_b73 x1 x2 0 a1.2)
    else (
      m_put_b73 x1 x2 (-6) a1.2))
  else (
    m_put_b73 x1 x2 (-5) a1.2)
def m_put (p1 : Int32) (p2 : Int32) (σ : MS) : Option (Int32 × MS) :=
  if p1 = 0 then (
    (m_isIn p2 1 5 σ).bind fun a4 =>
    m_put_b48 p1 p2 a4.1 a4.2)
  else (
    if p1 = 1 then (
      (m_isIn p2 2 3 σ).bind fun a3 =>
      m_put_b48 p1 p2 a3.1 a3.2)
    else (
      if p1 = 2 then (
        (m_isIn p2 2 9 σ).bind fun a2 =>
        m_put_b48 p1 p2 a2.1 a2.2)
      else (
        (m_isIn p2 0 1 σ).bind fun a1 =>
        m_put_b48 p1 p2 a1.1 a1.2)))
theorem J_m_put_b123 {X : JX} {ad : Nat → Nat} (x1 : Int32) (x2 : Int32) (x5 : Int32) (σ : MS) : JO X M_m_put (QF X eI (wM ad (xZ X))) 123 [some (.ref (ad 0)), some (.int x1), some (.int x2), none, none, some (.int x5)] [] (wsM ad (xZ X) σ) (m_put_b123 x1 x2 x5 σ) := by
  unfold m_put_b123
  refine JO.iloadn dX10_put_123 rfl ?_
  refine JO.ic 3 dX10_put_124 (by decide) ?_
  refine JO.icmp_ne 133 dX10_put_125 rfl ?_ ?_
  · refine JO.iload dX10_put_133 rfl ?_
    exact JO.iret dX10_put_135 rfl rfl rfl
  · refine JO.aloadn dX10_put_128 rfl ?_
    refine JO.iloadn dX10_put_129 rfl ?_
    refine pM8 dX10_put_130 rfl ?_
    refine JO.iload dX10_put_133 rfl ?_
    exact JO.iret dX10_put_135 rfl rfl rfl
theorem J_m_put_b113 {X : JX} {ad : Nat → Nat} (x1 : Int32) (x2 : Int32) (x5 : Int32) (σ : MS) : JO X M_m_put (QF X eI (wM ad (xZ X))) 113 [some (.ref (ad 0)), some (.int x1), some (.int x2), none, none, some (.int x5)] [] (wsM ad (xZ X) σ) (m_put_b113 x1 x2 x5 σ) := by
  unfold m_put_b113
  refine JO.iloadn dX10_put_113 rfl ?_
  refine JO.ic 2 dX10_put_114 (by decide) ?_
  refine JO.icmp_ne 123 dX10_put_115 rfl ?_ ?_
  · exact (J_m_put_b123 _ _ _ _).jump (lvLe.so rfl (lvLe.so rfl (lvLe.so rfl (lvLe.no (lvLe.no (lvLe.so rfl (lvLe.nil)))))))
  · refine JO.aloadn dX10_put_118 rfl ?_
    refine JO.iloadn dX10_put_119 rfl ?_
    refine pM7 dX10_put_120 rfl ?_
    exact (J_m_put_b123 _ _ _ _).jump (lvLe.so rfl (lvLe.so rfl (lvLe.so rfl (lvLe.no (lvLe.no (lvLe.so rfl (lvLe.nil)))))))
theorem J_m_put_b103 {X : JX} {ad : Nat → Nat} (x1 : Int32) (x2 : Int32) (x5 : Int32) (σ : MS) : JO X M_m_put (QF X eI (wM ad (xZ X))) 103 [some (.ref (ad 0)), some (.int x1), some (.int x2), none, none, some (.int x5)] [] (wsM ad (xZ X) σ) (m_put_b103 x1 x2 x5 σ) := by
  unfold m_put_b103
  refine JO.iloadn dX10_put_103 rfl ?_
  refine JO.ic 1 dX10_put_104 (by decide) ?_
  refine JO.icmp_ne 113 dX10_put_105 rfl ?_ ?_
  · exact (J_m_put_b113 _ _ _ _).jump (lvLe.so rfl (lvLe.so rfl (lvLe.so rfl (lvLe.no (lvLe.no (lvLe.so rfl (lvLe.nil)))))))
  · refine JO.aloadn dX10_put_108 rfl ?_
    refine JO.iloadn dX10_put_109 rfl ?_
    refine pM6 dX10_put_110 rfl ?_
    exact (J_m_put_b113 _ _ _ _).jump (lvLe.so rfl (lvLe.so rfl (lvLe.so rfl (lvLe.no (lvLe.no (lvLe.so rfl (lvLe.nil)))))))
theorem J_m_put_b73 {X : JX} {ad : Nat → Nat} (x1 : Int32) (x2 : Int32) (t0 : Int32) (σ : MS) : JO X M_m_put (QF X eI (wM ad (xZ X))) 73 [some (.ref (ad 0)), some (.int x1), some (.int x2), none, none, none] [.int t0] (wsM ad (xZ X) σ) (m_put_b73 x1 x2 t0 σ) := by
  unfold m_put_b73
  refine JO.istore dX10_put_73 rfl rfl ?_
  refine JO.iload dX10_put_75 rfl ?_
  refine JO.if_eq 87 dX10_put_77 rfl ?_ ?_
  · refine JO.aloadn dX10_put_87 rfl ?_
    refine JO.iloadn dX10_put_88 rfl ?_
    refine JO.mvi (C_m_told _ _) K_m_told k6_115 rfl rfl rfl (Nat.le_of_ble_eq_true rfl) dX10_put_89 (fun a1 => ?_)
    refine JO.istore dX10_put_92 rfl rfl ?_
    refine JO.iloadn dX10_put_94 rfl ?_
    refine JO.if_ne 103 dX10_put_95 rfl ?_ ?_
    · exact (J_m_put_b103 _ _ _ _).jump (lvLe.so rfl (lvLe.so rfl (lvLe.so rfl (lvLe.no (lvLe.no (lvLe.so rfl (lvLe.nil)))))))
    · refine JO.aloadn dX10_put_98 rfl ?_
      refine JO.iloadn dX10_put_99 rfl ?_
      refine pM5 dX10_put_100 rfl ?_
      exact (J_m_put_b103 _ _ _ _).jump (lvLe.so rfl (lvLe.so rfl (lvLe.so rfl (lvLe.no (lvLe.no (lvLe.so rfl (lvLe.nil)))))))
  · refine JO.aloadn dX10_put_80 rfl ?_
    refine JO.iload dX10_put_81 rfl ?_
    refine JO.mvi (C_m_no _ _) K_m_no k5_137 rfl rfl rfl (Nat.le_of_ble_eq_true rfl) dX10_put_83 (fun a2 => ?_)
    exact JO.iret dX10_put_86 rfl rfl rfl
theorem J_m_put_b48 {X : JX} {ad : Nat → Nat} (x1 : Int32) (x2 : Int32) (t0 : Bool) (σ : MS) : JO X M_m_put (QF X eI (wM ad (xZ X))) 48 [some (.ref (ad 0)), some (.int x1), some (.int x2), none, none, none] [.int (bI t0)] (wsM ad (xZ X) σ) (m_put_b48 x1 x2 t0 σ) := by
  unfold m_put_b48
  refine JO.istoren dX10_put_48 rfl rfl ?_
  refine JO.iloadn dX10_put_49 rfl ?_
  refine JO.ic 0 dX10_put_50 (by decide) ?_
  refine JO.ic 3 dX10_put_51 (by decide) ?_
  refine JO.msz (C_m_isIn _ _ _ _) K_m_isIn k5_134 rfl rfl rfl (Nat.le_of_ble_eq_true rfl) dX10_put_52 (fun a1 => ?_)
  refine JO.zne 63 dX10_put_55 rfl ?_ ?_
  · refine JO.iloadn dX10_put_63 rfl ?_
    refine JO.zne 72 dX10_put_64 rfl ?_ ?_
    · refine JO.ic 0 dX10_put_72 (by decide) ?_
      exact (J_m_put_b73 _ _ _ _).jump (lvLe.so rfl (lvLe.so rfl (lvLe.so rfl (lvLe.no (lvLe.no (lvLe.no (lvLe.nil)))))))
    · refine JO.bip (-6) dX10_put_67 (by decide) ?_
      refine JO.goto 73 dX10_put_69 rfl ?_
      exact (J_m_put_b73 _ _ _ _).jump (lvLe.so rfl (lvLe.so rfl (lvLe.so rfl (lvLe.no (lvLe.no (lvLe.no (lvLe.nil)))))))
  · refine JO.bip (-5) dX10_put_58 (by decide) ?_
    refine JO.goto 73 dX10_put_60 rfl ?_
    exact (J_m_put_b73 _ _ _ _).jump (lvLe.so rfl (lvLe.so rfl (lvLe.so rfl (lvLe.no (lvLe.no (lvLe.no (lvLe.nil)))))))
theorem J_m_put {X : JX} {ad : Nat → Nat} (p1 : Int32) (p2 : Int32) (σ : MS) : JO X M_m_put (QF X eI (wM ad (xZ X))) 0 [some (.ref (ad 0)), some (.int p1), some (.int p2), none, none, none] [] (wsM ad (xZ X) σ) (m_put p1 p2 σ) := by
  unfold m_put
  refine JO.iloadn dX10_put_0 rfl ?_
  refine JO.if_ne 13 dX10_put_1 rfl ?_ ?_
  · refine JO.iloadn dX10_put_13 rfl ?_
    refine JO.ic 1 dX10_put_14 (by decide) ?_
    refine JO.icmp_ne 27 dX10_put_15 rfl ?_ ?_
    · refine JO.iloadn dX10_put_27 rfl ?_
      refine JO.ic 2 dX10_put_28 (by decide) ?_
      refine JO.icmp_ne 42 dX10_put_29 rfl ?_ ?_
      · refine JO.iloadn dX10_put_42 rfl ?_
        refine JO.ic 0 dX10_put_43 (by decide) ?_
        refine JO.ic 1 dX10_put_44 (by decide) ?_
        refine JO.msz (C_m_isIn _ _ _ _) K_m_isIn k5_134 rfl rfl rfl (Nat.le_of_ble_eq_true rfl) dX10_put_45 (fun a1 => ?_)
        exact (J_m_put_b48 _ _ a1.1 _).jump (lvLe.so rfl (lvLe.so rfl (lvLe.so rfl (lvLe.no (lvLe.no (lvLe.no (lvLe.nil)))))))
      · refine JO.iloadn dX10_put_32 rfl ?_
        refine JO.ic 2 dX10_put_33 (by decide) ?_
        refine JO.bip 9 dX10_put_34 (by decide) ?_
        refine JO.msz (C_m_isIn _ _ _ _) K_m_isIn k5_134 rfl rfl rfl (Nat.le_of_ble_eq_true rfl) dX10_put_36 (fun a2 => ?_)
        refine JO.goto 48 dX10_put_39 rfl ?_
        exact (J_m_put_b48 _ _ a2.1 _).jump (lvLe.so rfl (lvLe.so rfl (lvLe.so rfl (lvLe.no (lvLe.no (lvLe.no (lvLe.nil)))))))
    · refine JO.iloadn dX10_put_18 rfl ?_
      refine JO.ic 2 dX10_put_19 (by decide) ?_
      refine JO.ic 3 dX10_put_20 (by decide) ?_
      refine JO.msz (C_m_isIn _ _ _ _) K_m_isIn k5_134 rfl rfl rfl (Nat.le_of_ble_eq_true rfl) dX10_put_21 (fun a3 => ?_)
      refine JO.goto 48 dX10_put_24 rfl ?_
      exact (J_m_put_b48 _ _ a3.1 _).jump (lvLe.so rfl (lvLe.so rfl (lvLe.so rfl (lvLe.no (lvLe.no (lvLe.no (lvLe.nil)))))))
  · refine JO.iloadn dX10_put_4 rfl ?_
    refine JO.ic 1 dX10_put_5 (by decide) ?_
    refine JO.ic 5 dX10_put_6 (by decide) ?_
    refine JO.msz (C_m_isIn _ _ _ _) K_m_isIn k5_134 rfl rfl rfl (Nat.le_of_ble_eq_true rfl) dX10_put_7 (fun a4 => ?_)
    refine JO.goto 48 dX10_put_10 rfl ?_
    exact (J_m_put_b48 _ _ a4.1 _).jump (lvLe.so rfl (lvLe.so rfl (lvLe.so rfl (lvLe.no (lvLe.no (lvLe.no (lvLe.nil)))))))
theorem C_m_put {ad : Nat → Nat} {Z : ZT} (p1 : Int32) (p2 : Int32) (σ : MS) : CO yX10_put M_m_put eI Z (wM ad Z) [.ref (ad 0), .int p1, .int p2] (wsM ad Z σ) (m_put p1 p2 σ) :=
  CO.of rfl rfl (Nat.le_of_ble_eq_true rfl) 3 (fun X hZ => by subst hZ; exact J_m_put _ _ σ)
theorem K_m_put : Kv yX10_put M_m_put RX10 2 := ⟨rfl, k6_112, k6_113, k1_10, k6_114, by decide +kernel⟩
abbrev M_m_vote : JM := (cX10_vote, 4, RX10, (some .int), 1, 22)
def m_vote (p1 : Int32) (p2 : Bool) (σ : MS) : Option (Int32 × MS) :=
  (m_isIn p1 1 5 σ).bind fun a1 =>
  if a1.1 = true then (
    if inB p1 6 = true then
    if p2 = true then (
      if inB p1 6 = true then
      some (mA a1.2 1 (ix p1), sA a1.2 1 (ix p1) 1)
      else none)
    else (
      if inB p1 6 = true then
      some (mA a1.2 1 (ix p1), sA a1.2 1 (ix p1) 0)
      else none)
    else none)
  else (
    (m_no (-1) a1.2).bind fun a2 =>
    some (a2.1, a2.2))
theorem J_m_vote {X : JX} {ad : Nat → Nat} (p1 : Int32) (p2 : Bool) (σ : MS) : JO X M_m_vote (QF X eI (wM ad (xZ X))) 0 [some (.ref (ad 0)), some (.int p1), some (.int (bI p2)), none] [] (wsM ad (xZ X) σ) (m_vote p1 p2 σ) := by
  unfold m_vote
  refine JO.iloadn dX10_vote_0 rfl ?_
  refine JO.ic 1 dX10_vote_1 (by decide) ?_
  refine JO.ic 5 dX10_vote_2 (by decide) ?_
  refine JO.msz (C_m_isIn _ _ _ _) K_m_isIn k5_134 rfl rfl rfl (Nat.le_of_ble_eq_true rfl) dX10_vote_3 (fun a1 => ?_)
  refine JO.zne 15 dX10_vote_6 rfl ?_ ?_
  · refine JO.aloadn dX10_vote_15 rfl ?_
    refine gM1 dX10_vote_16 rfl ?_
    refine JO.iloadn dX10_vote_19 rfl ?_
    refine aM1 dX10_vote_20 ?_
    refine JO.istoren dX10_vote_21 rfl rfl ?_
    refine JO.aloadn dX10_vote_22 rfl ?_
    refine gM1 dX10_vote_23 rfl ?_
    refine JO.iloadn dX10_vote_26 rfl ?_
    refine JO.iloadn dX10_vote_27 rfl ?_
    refine JO.zeq 35 dX10_vote_28 rfl ?_ ?_
    · refine JO.ic 0 dX10_vote_35 (by decide) ?_
      refine uM1 dX10_vote_36 ?_
      refine JO.iloadn dX10_vote_37 rfl ?_
      exact JO.iret dX10_vote_38 rfl rfl rfl
    · refine JO.ic 1 dX10_vote_31 (by decide) ?_
      refine JO.goto 36 dX10_vote_32 rfl ?_
      refine uM1 dX10_vote_36 ?_
      refine JO.iloadn dX10_vote_37 rfl ?_
      exact JO.iret dX10_vote_38 rfl rfl rfl
  · refine JO.aloadn dX10_vote_9 rfl ?_
    refine JO.ic (-1) dX10_vote_10 (by decide) ?_
    refine JO.mvi (C_m_no _ _) K_m_no k5_137 rfl rfl rfl (Nat.le_of_ble_eq_true rfl) dX10_vote_11 (fun a2 => ?_)
    exact JO.iret dX10_vote_14 rfl rfl rfl
theorem C_m_vote {ad : Nat → Nat} {Z : ZT} (p1 : Int32) (p2 : Bool) (σ : MS) : CO yX10_vote M_m_vote eI Z (wM ad Z) [.ref (ad 0), .int p1, .int (bI p2)] (wsM ad Z σ) (m_vote p1 p2 σ) :=
  CO.of rfl rfl (Nat.le_of_ble_eq_true rfl) 1 (fun X hZ => by subst hZ; exact J_m_vote _ _ σ)
theorem K_m_vote : Kv yX10_vote M_m_vote RX10 2 := ⟨rfl, k6_128, k6_129, k1_10, k6_130, by decide +kernel⟩
abbrev M_m_lose : JM := (cX10_lose, 4, RX10, (some .int), 1, 22)
def m_lose (p1 : Int32) (p2 : Bool) (σ : MS) : Option (Int32 × MS) :=
  (m_isIn p1 0 59 σ).bind fun a1 =>
  if a1.1 = true then (
    if inB p1 60 = true then
    if p2 = true then (
      if inB p1 60 = true then
      some (mA a1.2 2 (ix p1), sA a1.2 2 (ix p1) 1)
      else none)
    else (
      if inB p1 60 = true then
      some (mA a1.2 2 (ix p1), sA a1.2 2 (ix p1) 0)
      else none)
    else none)
  else (
    (m_no (-1) a1.2).bind fun a2 =>
    some (a2.1, a2.2))
theorem J_m_lose {X : JX} {ad : Nat → Nat} (p1 : Int32) (p2 : Bool) (σ : MS) : JO X M_m_lose (QF X eI (wM ad (xZ X))) 0 [some (.ref (ad 0)), some (.int p1), some (.int (bI p2)), none] [] (wsM ad (xZ X) σ) (m_lose p1 p2 σ) := by
  unfold m_lose
  refine JO.iloadn dX10_lose_0 rfl ?_
  refine JO.ic 0 dX10_lose_1 (by decide) ?_
  refine JO.bip 59 dX10_lose_2 (by decide) ?_
  refine JO.msz (C_m_isIn _ _ _ _) K_m_isIn k5_134 rfl rfl rfl (Nat.le_of_ble_eq_true rfl) dX10_lose_4 (fun a1 => ?_)
  refine JO.zne 16 dX10_lose_7 rfl ?_ ?_
  · refine JO.aloadn dX10_lose_16 rfl ?_
    refine gM2 dX10_lose_17 rfl ?_
    refine JO.iloadn dX10_lose_20 rfl ?_
    refine aM2 dX10_lose_21 ?_
    refine JO.istoren dX10_lose_22 rfl rfl ?_
    refine JO.aloadn dX10_lose_23 rfl ?_
    refine gM2 dX10_lose_24 rfl ?_
    refine JO.iloadn dX10_lose_27 rfl ?_
    refine JO.iloadn dX10_lose_28 rfl ?_
    refine JO.zeq 36 dX10_lose_29 rfl ?_ ?_
    · refine JO.ic 0 dX10_lose_36 (by decide) ?_
      refine uM2 dX10_lose_37 ?_
      refine JO.iloadn dX10_lose_38 rfl ?_
      exact JO.iret dX10_lose_39 rfl rfl rfl
    · refine JO.ic 1 dX10_lose_32 (by decide) ?_
      refine JO.goto 37 dX10_lose_33 rfl ?_
      refine uM2 dX10_lose_37 ?_
      refine JO.iloadn dX10_lose_38 rfl ?_
      exact JO.iret dX10_lose_39 rfl rfl rfl
  · refine JO.aloadn dX10_lose_10 rfl ?_
    refine JO.ic (-1) dX10_lose_11 (by decide) ?_
    refine JO.mvi (C_m_no _ _) K_m_no k5_137 rfl rfl rfl (Nat.le_of_ble_eq_true rfl) dX10_lose_12 (fun a2 => ?_)
    exact JO.iret dX10_lose_15 rfl rfl rfl
theorem C_m_lose {ad : Nat → Nat} {Z : ZT} (p1 : Int32) (p2 : Bool) (σ : MS) : CO yX10_lose M_m_lose eI Z (wM ad Z) [.ref (ad 0), .int p1, .int (bI p2)] (wsM ad Z σ) (m_lose p1 p2 σ) :=
  CO.of rfl rfl (Nat.le_of_ble_eq_true rfl) 1 (fun X hZ => by subst hZ; exact J_m_lose _ _ σ)
theorem K_m_lose : Kv yX10_lose M_m_lose RX10 2 := ⟨rfl, k6_132, k6_133, k1_10, k6_134, by decide +kernel⟩
abbrev M_m_down : JM := (cX10_down, 5, RX10, (some .int), 2, 43)
def m_down_b27 (x1 : Int32) (x2 : Int32) (x3 : Int32) (t0 : Int32) (σ : MS) : Option (Int32 × MS) :=
  if t0 = 0 then (
    if inB x1 6 = true then
    if inB x1 6 = true then
    some (1, sA (sA σ 3 (ix x1) x2) 4 (ix x1) x3)
    else none
    else none)
  else (
    (m_no t0 σ).bind fun a1 =>
    some (a1.1, a1.2))
def m_down (p1 : Int32) (p2 : Int32) (p3 : Int32) (σ : MS) : Option (Int32 × MS) :=
  (m_isIn p1 0 5 σ).bind fun a1 =>
  if a1.1 = true then (
    (m_isDown p2 p3 a1.2).bind fun a2 =>
    if a2.1 = true then (
      m_down_b27 p1 p2 p3 0 a2.2)
    else (
      m_down_b27 p1 p2 p3 (-6) a2.2))
  else (
    m_down_b27 p1 p2 p3 (-1) a1.2)
theorem J_m_down_b27 {X : JX} {ad : Nat → Nat} (x1 : Int32) (x2 : Int32) (x3 : Int32) (t0 : Int32) (σ : MS) : JO X M_m_down (QF X eI (wM ad (xZ X))) 27 [some (.ref (ad 0)), some (.int x1), some (.int x2), some (.int x3), none] [.int t0] (wsM ad (xZ X) σ) (m_down_b27 x1 x2 x3 t0 σ) := by
  unfold m_down_b27
  refine JO.istore dX10_down_27 rfl rfl ?_
  refine JO.iload dX10_down_29 rfl ?_
  refine JO.if_eq 41 dX10_down_31 rfl ?_ ?_
  · refine JO.aloadn dX10_down_41 rfl ?_
    refine gM3 dX10_down_42 rfl ?_
    refine JO.iloadn dX10_down_45 rfl ?_
    refine JO.iloadn dX10_down_46 rfl ?_
    refine uM3 dX10_down_47 ?_
    refine JO.aloadn dX10_down_48 rfl ?_
    refine gM4 dX10_down_49 rfl ?_
    refine JO.iloadn dX10_down_52 rfl ?_
    refine JO.iloadn dX10_down_53 rfl ?_
    refine uM4 dX10_down_54 ?_
    refine JO.ic 1 dX10_down_55 (by decide) ?_
    exact JO.iret dX10_down_56 rfl rfl rfl
  · refine JO.aloadn dX10_down_34 rfl ?_
    refine JO.iload dX10_down_35 rfl ?_
    refine JO.mvi (C_m_no _ _) K_m_no k5_137 rfl rfl rfl (Nat.le_of_ble_eq_true rfl) dX10_down_37 (fun a1 => ?_)
    exact JO.iret dX10_down_40 rfl rfl rfl
theorem J_m_down {X : JX} {ad : Nat → Nat} (p1 : Int32) (p2 : Int32) (p3 : Int32) (σ : MS) : JO X M_m_down (QF X eI (wM ad (xZ X))) 0 [some (.ref (ad 0)), some (.int p1), some (.int p2), some (.int p3), none] [] (wsM ad (xZ X) σ) (m_down p1 p2 p3 σ) := by
  unfold m_down
  refine JO.iloadn dX10_down_0 rfl ?_
  refine JO.ic 0 dX10_down_1 (by decide) ?_
  refine JO.ic 5 dX10_down_2 (by decide) ?_
  refine JO.msz (C_m_isIn _ _ _ _) K_m_isIn k5_134 rfl rfl rfl (Nat.le_of_ble_eq_true rfl) dX10_down_3 (fun a1 => ?_)
  refine JO.zne 13 dX10_down_6 rfl ?_ ?_
  · refine JO.iloadn dX10_down_13 rfl ?_
    refine JO.iloadn dX10_down_14 rfl ?_
    refine JO.msz (C_m_isDown _ _ _) K_m_isDown k6_139 rfl rfl rfl (Nat.le_of_ble_eq_true rfl) dX10_down_15 (fun a2 => ?_)
    refine JO.zne 26 dX10_down_18 rfl ?_ ?_
    · refine JO.ic 0 dX10_down_26 (by decide) ?_
      exact (J_m_down_b27 _ _ _ _ _).jump (lvLe.so rfl (lvLe.so rfl (lvLe.so rfl (lvLe.so rfl (lvLe.no (lvLe.nil))))))
    · refine JO.bip (-6) dX10_down_21 (by decide) ?_
      refine JO.goto 27 dX10_down_23 rfl ?_
      exact (J_m_down_b27 _ _ _ _ _).jump (lvLe.so rfl (lvLe.so rfl (lvLe.so rfl (lvLe.so rfl (lvLe.no (lvLe.nil))))))
  · refine JO.ic (-1) dX10_down_9 (by decide) ?_
    refine JO.goto 27 dX10_down_10 rfl ?_
    exact (J_m_down_b27 _ _ _ _ _).jump (lvLe.so rfl (lvLe.so rfl (lvLe.so rfl (lvLe.so rfl (lvLe.no (lvLe.nil))))))
theorem C_m_down {ad : Nat → Nat} {Z : ZT} (p1 : Int32) (p2 : Int32) (p3 : Int32) (σ : MS) : CO yX10_down M_m_down eI Z (wM ad Z) [.ref (ad 0), .int p1, .int p2, .int p3] (wsM ad Z σ) (m_down p1 p2 p3 σ) :=
  CO.of rfl rfl (Nat.le_of_ble_eq_true rfl) 1 (fun X hZ => by subst hZ; exact J_m_down _ _ _ σ)
theorem K_m_down : Kv yX10_down M_m_down RX10 3 := ⟨rfl, k6_136, k6_137, k1_10, k6_138, by decide +kernel⟩
abbrev M_m_notThen : JM := (cX10_notThen, 3, RX10, (some .int), 2, 43)
def m_notThen (p1 : Int32) (p2 : Int32) (σ : MS) : Option (Int32 × MS) :=
  (m_isSite p2 σ).bind fun a1 =>
  if a1.1 = true then (
    (m_isTick p1 a1.2).bind fun a2 =>
    if a2.1 = true then (
      some (0, a2.2))
    else (
      some ((-6), a2.2)))
  else (
    some ((-1), a1.2))
theorem J_m_notThen {X : JX} {ad : Nat → Nat} (p1 : Int32) (p2 : Int32) (σ : MS) : JO X M_m_notThen (QF X eI (wM ad (xZ X))) 0 [some (.ref (ad 0)), some (.int p1), some (.int p2)] [] (wsM ad (xZ X) σ) (m_notThen p1 p2 σ) := by
  unfold m_notThen
  refine JO.aloadn dX10_notThen_0 rfl ?_
  refine JO.iloadn dX10_notThen_1 rfl ?_
  refine JO.mvz (C_m_isSite _ _) K_m_isSite k6_151 rfl rfl rfl (Nat.le_of_ble_eq_true rfl) dX10_notThen_2 (fun a1 => ?_)
  refine JO.zne 12 dX10_notThen_5 rfl ?_ ?_
  · refine JO.iloadn dX10_notThen_12 rfl ?_
    refine JO.msz (C_m_isTick _ _) K_m_isTick k6_155 rfl rfl rfl (Nat.le_of_ble_eq_true rfl) dX10_notThen_13 (fun a2 => ?_)
    refine JO.zne 24 dX10_notThen_16 rfl ?_ ?_
    · refine JO.ic 0 dX10_notThen_24 (by decide) ?_
      exact JO.iret dX10_notThen_25 rfl rfl rfl
    · refine JO.bip (-6) dX10_notThen_19 (by decide) ?_
      refine JO.goto 25 dX10_notThen_21 rfl ?_
      exact JO.iret dX10_notThen_25 rfl rfl rfl
  · refine JO.ic (-1) dX10_notThen_8 (by decide) ?_
    refine JO.goto 25 dX10_notThen_9 rfl ?_
    exact JO.iret dX10_notThen_25 rfl rfl rfl
theorem C_m_notThen {ad : Nat → Nat} {Z : ZT} (p1 : Int32) (p2 : Int32) (σ : MS) : CO yX10_notThen M_m_notThen eI Z (wM ad Z) [.ref (ad 0), .int p1, .int p2] (wsM ad Z σ) (m_notThen p1 p2 σ) :=
  CO.of rfl rfl (Nat.le_of_ble_eq_true rfl) 0 (fun X hZ => by subst hZ; exact J_m_notThen _ _ σ)
theorem K_m_notThen : Kv yX10_notThen M_m_notThen RX10 2 := ⟨rfl, k6_149, s6_2, k1_10, k6_150, by decide +kernel⟩
abbrev M_m_state : JM := (cX10_state, 4, RX10, (some .int), 8, 171)
def m_state (p1 : Int32) (p2 : Int32) (σ : MS) : Option (Int32 × MS) :=
  (m_notThen p1 p2 σ).bind fun a1 =>
  if a1.1 = 0 then (
    (m_runs a1.2).bind fun a2 =>
    if inB ((6 * p1) + p2) 366 = true then
    some (mA a2.2 25 (ix ((6 * p1) + p2)), a2.2)
    else none)
  else (
    (m_no a1.1 a1.2).bind fun a3 =>
    some (a3.1, a3.2))
theorem J_m_state {X : JX} {ad : Nat → Nat} (p1 : Int32) (p2 : Int32) (σ : MS) : JO X M_m_state (QF X eI (wM ad (xZ X))) 0 [some (.ref (ad 0)), some (.int p1), some (.int p2), none] [] (wsM ad (xZ X) σ) (m_state p1 p2 σ) := by
  unfold m_state
  refine JO.aloadn dX10_state_0 rfl ?_
  refine JO.iloadn dX10_state_1 rfl ?_
  refine JO.iloadn dX10_state_2 rfl ?_
  refine JO.mvi (C_m_notThen _ _ _) K_m_notThen k6_147 rfl rfl rfl (Nat.le_of_ble_eq_true rfl) dX10_state_3 (fun a1 => ?_)
  refine JO.istoren dX10_state_6 rfl rfl ?_
  refine JO.iloadn dX10_state_7 rfl ?_
  refine JO.if_eq 17 dX10_state_8 rfl ?_ ?_
  · refine JO.aloadn dX10_state_17 rfl ?_
    refine JO.mvv (C_m_runs _) K_m_runs k5_172 rfl rfl rfl (Nat.le_of_ble_eq_true rfl) dX10_state_18 (fun a2 => ?_)
    refine JO.aloadn dX10_state_21 rfl ?_
    refine gM25 dX10_state_22 rfl ?_
    refine JO.bip 6 dX10_state_25 (by decide) ?_
    refine JO.iloadn dX10_state_27 rfl ?_
    refine JO.imul dX10_state_28 ?_
    refine JO.iloadn dX10_state_29 rfl ?_
    refine JO.iadd dX10_state_30 ?_
    refine aM25 dX10_state_31 ?_
    exact JO.iret dX10_state_32 rfl rfl rfl
  · refine JO.aloadn dX10_state_11 rfl ?_
    refine JO.iloadn dX10_state_12 rfl ?_
    refine JO.mvi (C_m_no _ _) K_m_no k5_137 rfl rfl rfl (Nat.le_of_ble_eq_true rfl) dX10_state_13 (fun a3 => ?_)
    exact JO.iret dX10_state_16 rfl rfl rfl
theorem C_m_state {ad : Nat → Nat} {Z : ZT} (p1 : Int32) (p2 : Int32) (σ : MS) : CO yX10_state M_m_state eI Z (wM ad Z) [.ref (ad 0), .int p1, .int p2] (wsM ad Z σ) (m_state p1 p2 σ) :=
  CO.of rfl rfl (Nat.le_of_ble_eq_true rfl) 1 (fun X hZ => by subst hZ; exact J_m_state _ _ σ)
theorem K_m_state : Kv yX10_state M_m_state RX10 2 := ⟨rfl, k6_144, k6_145, k1_10, k6_146, by decide +kernel⟩
abbrev M_m_hasNoted : JM := (cX10_hasNoted, 5, RX10, (some .boolean), 0, 0)
def m_hasNoted_l3 : Nat → Int32 → Int32 → Int32 → Int32 → MS → Option (Bool × MS)
  | 0, _, _, _, _, _ => none
  | n + 1, x1, x2, x3, x4, σ =>
    if inB ((6 * x1) + x2) 366 = true then
    if mA σ 26 (ix ((6 * x1) + x2)) ≤ x4 then (
      some (false, σ))
    else (
      if inB ((20 * x2) + x4) 120 = true then
      if mA σ 13 (ix ((20 * x2) + x4)) = x3 then (
        some (true, σ))
      else (
        m_hasNoted_l3 n x1 x2 x3 (x4 + 1) σ)
      else none)
    else none
def m_hasNoted (p1 : Int32) (p2 : Int32) (p3 : Int32) (σ : MS) : Option (Bool × MS) :=
  m_hasNoted_l3 4096 p1 p2 p3 0 σ
theorem J_m_hasNoted_l3 {X : JX} {ad : Nat → Nat} : ∀ (n : Nat) (x1 : Int32) (x2 : Int32) (x3 : Int32) (x4 : Int32) (σ : MS), JO X M_m_hasNoted (QF X eZ (wM ad (xZ X))) 3 [some (.ref (ad 0)), some (.int x1), some (.int x2), some (.int x3), some (.int x4)] [] (wsM ad (xZ X) σ) (m_hasNoted_l3 n x1 x2 x3 x4 σ) := by
  intro n
  induction n with
  | zero => intro x1 x2 x3 x4 σ; exact JO.nil
  | succ n ih =>
    intro x1 x2 x3 x4 σ
    unfold m_hasNoted_l3
    refine JO.iload dX10_hasNoted_3 rfl ?_
    refine JO.aloadn dX10_hasNoted_5 rfl ?_
    refine gM26 dX10_hasNoted_6 rfl ?_
    refine JO.bip 6 dX10_hasNoted_9 (by decide) ?_
    refine JO.iloadn dX10_hasNoted_11 rfl ?_
    refine JO.imul dX10_hasNoted_12 ?_
    refine JO.iloadn dX10_hasNoted_13 rfl ?_
    refine JO.iadd dX10_hasNoted_14 ?_
    refine aM26 dX10_hasNoted_15 ?_
    refine JO.icmp_ge 43 dX10_hasNoted_16 rfl ?_ ?_
    · refine JO.ic 0 dX10_hasNoted_43 (by decide) ?_
      exact JO.zret (b := false) dX10_hasNoted_44 rfl rfl rfl
    · refine JO.aloadn dX10_hasNoted_19 rfl ?_
      refine gM13 dX10_hasNoted_20 rfl ?_
      refine JO.bip 20 dX10_hasNoted_23 (by decide) ?_
      refine JO.iloadn dX10_hasNoted_25 rfl ?_
      refine JO.imul dX10_hasNoted_26 ?_
      refine JO.iload dX10_hasNoted_27 rfl ?_
      refine JO.iadd dX10_hasNoted_29 ?_
      refine aM13 dX10_hasNoted_30 ?_
      refine JO.iloadn dX10_hasNoted_31 rfl ?_
      refine JO.icmp_ne 37 dX10_hasNoted_32 rfl ?_ ?_
      · refine JO.iinc dX10_hasNoted_37 rfl 1 (by decide) rfl rfl ?_
        refine JO.goto 3 dX10_hasNoted_40 rfl ?_
        exact (ih _ _ _ _ _).jump (lvLe.so rfl (lvLe.so rfl (lvLe.so rfl (lvLe.so rfl (lvLe.so rfl (lvLe.nil))))))
      · refine JO.ic 1 dX10_hasNoted_35 (by decide) ?_
        exact JO.zret (b := true) dX10_hasNoted_36 rfl rfl rfl
theorem J_m_hasNoted {X : JX} {ad : Nat → Nat} (p1 : Int32) (p2 : Int32) (p3 : Int32) (σ : MS) : JO X M_m_hasNoted (QF X eZ (wM ad (xZ X))) 0 [some (.ref (ad 0)), some (.int p1), some (.int p2), some (.int p3), none] [] (wsM ad (xZ X) σ) (m_hasNoted p1 p2 p3 σ) := by
  unfold m_hasNoted
  refine JO.ic 0 dX10_hasNoted_0 (by decide) ?_
  refine JO.istore dX10_hasNoted_1 rfl rfl ?_
  exact (J_m_hasNoted_l3 4096 _ _ _ _ _).jump (lvLe.so rfl (lvLe.so rfl (lvLe.so rfl (lvLe.so rfl (lvLe.so rfl (lvLe.nil))))))
theorem C_m_hasNoted {ad : Nat → Nat} {Z : ZT} (p1 : Int32) (p2 : Int32) (p3 : Int32) (σ : MS) : CO yX10_hasNoted M_m_hasNoted eZ Z (wM ad Z) [.ref (ad 0), .int p1, .int p2, .int p3] (wsM ad Z σ) (m_hasNoted p1 p2 p3 σ) :=
  CO.of rfl rfl (Nat.le_of_ble_eq_true rfl) 1 (fun X hZ => by subst hZ; exact J_m_hasNoted _ _ _ σ)
theorem K_m_hasNoted : Kv yX10_hasNoted M_m_hasNoted RX10 3 := ⟨rfl, k6_168, s6_5, k1_10, k6_169, by decide +kernel⟩
abbrev M_m_decidedAt : JM := (cX10_decidedAt, 3, RX10, (some .int), 1, 24)
def m_decidedAt (p1 : Int32) (p2 : Int32) (σ : MS) : Option (Int32 × MS) :=
  (m_hasNoted p1 p2 4 σ).bind fun a1 =>
  if a1.1 = true then (
    some (1, a1.2))
  else (
    (m_hasNoted p1 p2 5 a1.2).bind fun a2 =>
    if a2.1 = true then (
      some (2, a2.2))
    else (
      if p2 = 0 then (
        if mI a2.2 8 = 1 then (
          if inB (6 * p1) 366 = true then
          if mA a2.2 25 (ix (6 * p1)) = 5 then (
            some (2, a2.2))
          else (
            some (0, a2.2))
          else none)
        else (
          some (0, a2.2)))
      else (
        some (0, a2.2))))
theorem J_m_decidedAt {X : JX} {ad : Nat → Nat} (p1 : Int32) (p2 : Int32) (σ : MS) : JO X M_m_decidedAt (QF X eI (wM ad (xZ X))) 0 [some (.ref (ad 0)), some (.int p1), some (.int p2)] [] (wsM ad (xZ X) σ) (m_decidedAt p1 p2 σ) := by
  unfold m_decidedAt
  refine JO.aloadn dX10_decidedAt_0 rfl ?_
  refine JO.iloadn dX10_decidedAt_1 rfl ?_
  refine JO.iloadn dX10_decidedAt_2 rfl ?_
  refine JO.ic 4 dX10_decidedAt_3 (by decide) ?_
  refine JO.mvz (C_m_hasNoted _ _ _ _) K_m_hasNoted k6_166 rfl rfl rfl (Nat.le_of_ble_eq_true rfl) dX10_decidedAt_4 (fun a1 => ?_)
  refine JO.zeq 12 dX10_decidedAt_7 rfl ?_ ?_
  · refine JO.aloadn dX10_decidedAt_12 rfl ?_
    refine JO.iloadn dX10_decidedAt_13 rfl ?_
    refine JO.iloadn dX10_decidedAt_14 rfl ?_
    refine JO.ic 5 dX10_decidedAt_15 (by decide) ?_
    refine JO.mvz (C_m_hasNoted _ _ _ _) K_m_hasNoted k6_166 rfl rfl rfl (Nat.le_of_ble_eq_true rfl) dX10_decidedAt_16 (fun a2 => ?_)
    refine JO.zeq 24 dX10_decidedAt_19 rfl ?_ ?_
    · refine JO.iloadn dX10_decidedAt_24 rfl ?_
      refine JO.if_ne 53 dX10_decidedAt_25 rfl ?_ ?_
      · refine JO.ic 0 dX10_decidedAt_53 (by decide) ?_
        exact JO.iret dX10_decidedAt_54 rfl rfl rfl
      · refine JO.aloadn dX10_decidedAt_28 rfl ?_
        refine gM8 dX10_decidedAt_29 rfl ?_
        refine JO.ic 1 dX10_decidedAt_32 (by decide) ?_
        refine JO.icmp_ne 53 dX10_decidedAt_33 rfl ?_ ?_
        · refine JO.ic 0 dX10_decidedAt_53 (by decide) ?_
          exact JO.iret dX10_decidedAt_54 rfl rfl rfl
        · refine JO.aloadn dX10_decidedAt_36 rfl ?_
          refine gM25 dX10_decidedAt_37 rfl ?_
          refine JO.bip 6 dX10_decidedAt_40 (by decide) ?_
          refine JO.iloadn dX10_decidedAt_42 rfl ?_
          refine JO.imul dX10_decidedAt_43 ?_
          refine aM25 dX10_decidedAt_44 ?_
          refine JO.ic 5 dX10_decidedAt_45 (by decide) ?_
          refine JO.icmp_ne 53 dX10_decidedAt_46 rfl ?_ ?_
          · refine JO.ic 0 dX10_decidedAt_53 (by decide) ?_
            exact JO.iret dX10_decidedAt_54 rfl rfl rfl
          · refine JO.ic 2 dX10_decidedAt_49 (by decide) ?_
            refine JO.goto 54 dX10_decidedAt_50 rfl ?_
            exact JO.iret dX10_decidedAt_54 rfl rfl rfl
    · refine JO.ic 2 dX10_decidedAt_22 (by decide) ?_
      exact JO.iret dX10_decidedAt_23 rfl rfl rfl
  · refine JO.ic 1 dX10_decidedAt_10 (by decide) ?_
    exact JO.iret dX10_decidedAt_11 rfl rfl rfl
theorem C_m_decidedAt {ad : Nat → Nat} {Z : ZT} (p1 : Int32) (p2 : Int32) (σ : MS) : CO yX10_decidedAt M_m_decidedAt eI Z (wM ad Z) [.ref (ad 0), .int p1, .int p2] (wsM ad Z σ) (m_decidedAt p1 p2 σ) :=
  CO.of rfl rfl (Nat.le_of_ble_eq_true rfl) 0 (fun X hZ => by subst hZ; exact J_m_decidedAt _ _ σ)
theorem K_m_decidedAt : Kv yX10_decidedAt M_m_decidedAt RX10 2 := ⟨rfl, k6_164, s6_4, k1_10, k6_165, by decide +kernel⟩
