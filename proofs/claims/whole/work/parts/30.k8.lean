abbrev M_cP_partOf : JM := (cX9_partOf, 3, RX9, (some .int), 0, 0)
def cP_partOf (p1 : Int64) (p2 : Int32) (σ : CS) : Option (Int32 × CS) :=
  some (((Int64.toInt32 ((Int64.toUInt64 p1 >>> ((Int32.toInt64 (p2 * 30)).toUInt64 &&& Int64.toUInt64 63)).toInt64)) &&& 1073741823), σ)
theorem J_cP_partOf {X : JX} {ad : Nat → Nat} (p1 : Int64) (p2 : Int32) (σ : CS) : JO X M_cP_partOf (QF X eI (wC ad (xZ X))) 0 [some (.long p1), none, some (.int p2)] [] (wsC ad (xZ X) σ) (cP_partOf p1 p2 σ) := by
  unfold cP_partOf
  refine JO.lloadn dX9_partOf_0 rfl ?_
  refine JO.iloadn dX9_partOf_1 rfl ?_
  refine JO.bip 30 dX9_partOf_2 (by decide) ?_
  refine JO.imul dX9_partOf_4 ?_
  refine JO.lushr dX9_partOf_5 ?_
  refine JO.l2i dX9_partOf_6 ?_
  refine JO.ldcw (v := 1073741823) k4_201 dX9_partOf_7 ?_
  refine JO.iand dX9_partOf_10 ?_
  exact JO.iret dX9_partOf_11 rfl rfl rfl
theorem C_cP_partOf {ad : Nat → Nat} {Z : ZT} (p1 : Int64) (p2 : Int32) (σ : CS) : CO yX9_partOf M_cP_partOf eI Z (wC ad Z) [.long p1, .int p2] (wsC ad Z σ) (cP_partOf p1 p2 σ) :=
  CO.of rfl rfl (Nat.le_of_ble_eq_true rfl) 0 (fun X hZ => by subst hZ; exact J_cP_partOf _ _ σ)
theorem K_cP_partOf : Ks yX9_partOf M_cP_partOf 2 := ⟨k4_199, k1_1, k4_200, by decide +kernel⟩
abbrev M_cP_harm : JM := (cX9_harm, 2, RX9, (some .int), 6, 144)
def cP_harm_b9 (σ : CS) : Option (Int32 × CS) :=
  (cP_refuse (-5) σ).bind fun a1 =>
  some (a1.1, a1.2)
def cP_harm (p1 : Int32) (σ : CS) : Option (Int32 × CS) :=
  if p1 < 0 then (
    cP_harm_b9 σ)
  else (
    if p1 ≤ 1 then (
      (cP_current σ).bind fun a1 =>
      (cP_tryLosses a1.2).bind fun a2 =>
      (cP_partOf (cG a2.2 0 11) p1 a2.2).bind fun a3 =>
      some (a3.1, a3.2))
    else (
      cP_harm_b9 σ))
theorem J_cP_harm_b9 {X : JX} {ad : Nat → Nat} (σ : CS) : JO X M_cP_harm (QF X eI (wC ad (xZ X))) 9 [some (.ref (ad 0)), none] [] (wsC ad (xZ X) σ) (cP_harm_b9 σ) := by
  unfold cP_harm_b9
  refine JO.aloadn dX9_harm_9 rfl ?_
  refine JO.bip (-5) dX9_harm_10 (by decide) ?_
  refine JO.cvi (C_cP_refuse _ _) rcvP K_cP_refuse k2_86 rfl rfl rfl (Nat.le_of_ble_eq_true rfl) dX9_harm_12 (fun a1 => ?_)
  exact JO.iret dX9_harm_15 rfl rfl rfl
theorem J_cP_harm {X : JX} {ad : Nat → Nat} (p1 : Int32) (σ : CS) : JO X M_cP_harm (QF X eI (wC ad (xZ X))) 0 [some (.ref (ad 0)), some (.int p1)] [] (wsC ad (xZ X) σ) (cP_harm p1 σ) := by
  unfold cP_harm
  refine JO.iloadn dX9_harm_0 rfl ?_
  refine JO.if_lt 9 dX9_harm_1 rfl ?_ ?_
  · exact (J_cP_harm_b9 _).jump (lvLe.so rfl (lvLe.no (lvLe.nil)))
  · refine JO.iloadn dX9_harm_4 rfl ?_
    refine JO.ic 1 dX9_harm_5 (by decide) ?_
    refine JO.icmp_le 16 dX9_harm_6 rfl ?_ ?_
    · refine JO.aloadn dX9_harm_16 rfl ?_
      refine JO.aloadn dX9_harm_17 rfl ?_
      refine JO.cvn (C_cP_current _) rcvP K_cP_current k2_153 rfl rfl rfl (Nat.le_of_ble_eq_true rfl) dX9_harm_18 (fun a1 => ?_)
      refine JO.cvv (C_cP_tryLosses _) rcvP K_cP_tryLosses k4_193 rfl rfl rfl (Nat.le_of_ble_eq_true rfl) dX9_harm_21 (fun a2 => ?_)
      refine JO.aloadn dX9_harm_24 rfl ?_
      refine gP11 k2_50 dX9_harm_25 ?_
      refine JO.iloadn dX9_harm_28 rfl ?_
      refine JO.csi (C_cP_partOf _ _ _) K_cP_partOf k4_198 rfl rfl rfl (Nat.le_of_ble_eq_true rfl) dX9_harm_29 (fun a3 => ?_)
      exact JO.iret dX9_harm_32 rfl rfl rfl
    · exact (J_cP_harm_b9 _).jump (lvLe.so rfl (lvLe.no (lvLe.nil)))
theorem C_cP_harm {ad : Nat → Nat} {Z : ZT} (p1 : Int32) (σ : CS) : CO yX9_harm M_cP_harm eI Z (wC ad Z) [.ref (ad 0), .int p1] (wsC ad Z σ) (cP_harm p1 σ) :=
  CO.of rfl rfl (Nat.le_of_ble_eq_true rfl) 0 (fun X hZ => by subst hZ; exact J_cP_harm _ σ)
theorem K_cP_harm : Kv yX9_harm M_cP_harm RX9 1 := ⟨rfl, k4_190, k4_191, k1_1, k4_192, by decide +kernel⟩
abbrev M_cP_block : JM := (cX9_block, 2, RX9, (some .int), 6, 144)
def cP_block_b9 (σ : CS) : Option (Int32 × CS) :=
  (cP_refuse (-5) σ).bind fun a1 =>
  some (a1.1, a1.2)
def cP_block (p1 : Int32) (σ : CS) : Option (Int32 × CS) :=
  if p1 < 0 then (
    cP_block_b9 σ)
  else (
    if p1 ≤ 1 then (
      (cP_current σ).bind fun a1 =>
      (cP_tryLosses a1.2).bind fun a2 =>
      (cP_partOf (cG a2.2 0 12) p1 a2.2).bind fun a3 =>
      some (a3.1, a3.2))
    else (
      cP_block_b9 σ))
theorem J_cP_block_b9 {X : JX} {ad : Nat → Nat} (σ : CS) : JO X M_cP_block (QF X eI (wC ad (xZ X))) 9 [some (.ref (ad 0)), none] [] (wsC ad (xZ X) σ) (cP_block_b9 σ) := by
  unfold cP_block_b9
  refine JO.aloadn dX9_block_9 rfl ?_
  refine JO.bip (-5) dX9_block_10 (by decide) ?_
  refine JO.cvi (C_cP_refuse _ _) rcvP K_cP_refuse k2_86 rfl rfl rfl (Nat.le_of_ble_eq_true rfl) dX9_block_12 (fun a1 => ?_)
  exact JO.iret dX9_block_15 rfl rfl rfl
theorem J_cP_block {X : JX} {ad : Nat → Nat} (p1 : Int32) (σ : CS) : JO X M_cP_block (QF X eI (wC ad (xZ X))) 0 [some (.ref (ad 0)), some (.int p1)] [] (wsC ad (xZ X) σ) (cP_block p1 σ) := by
  unfold cP_block
  refine JO.iloadn dX9_block_0 rfl ?_
  refine JO.if_lt 9 dX9_block_1 rfl ?_ ?_
  · exact (J_cP_block_b9 _).jump (lvLe.so rfl (lvLe.no (lvLe.nil)))
  · refine JO.iloadn dX9_block_4 rfl ?_
    refine JO.ic 1 dX9_block_5 (by decide) ?_
    refine JO.icmp_le 16 dX9_block_6 rfl ?_ ?_
    · refine JO.aloadn dX9_block_16 rfl ?_
      refine JO.aloadn dX9_block_17 rfl ?_
      refine JO.cvn (C_cP_current _) rcvP K_cP_current k2_153 rfl rfl rfl (Nat.le_of_ble_eq_true rfl) dX9_block_18 (fun a1 => ?_)
      refine JO.cvv (C_cP_tryLosses _) rcvP K_cP_tryLosses k4_193 rfl rfl rfl (Nat.le_of_ble_eq_true rfl) dX9_block_21 (fun a2 => ?_)
      refine JO.aloadn dX9_block_24 rfl ?_
      refine gP12 k2_51 dX9_block_25 ?_
      refine JO.iloadn dX9_block_28 rfl ?_
      refine JO.csi (C_cP_partOf _ _ _) K_cP_partOf k4_198 rfl rfl rfl (Nat.le_of_ble_eq_true rfl) dX9_block_29 (fun a3 => ?_)
      exact JO.iret dX9_block_32 rfl rfl rfl
    · exact (J_cP_block_b9 _).jump (lvLe.so rfl (lvLe.no (lvLe.nil)))
theorem C_cP_block {ad : Nat → Nat} {Z : ZT} (p1 : Int32) (σ : CS) : CO yX9_block M_cP_block eI Z (wC ad Z) [.ref (ad 0), .int p1] (wsC ad Z σ) (cP_block p1 σ) :=
  CO.of rfl rfl (Nat.le_of_ble_eq_true rfl) 0 (fun X hZ => by subst hZ; exact J_cP_block _ σ)
theorem K_cP_block : Kv yX9_block M_cP_block RX9 1 := ⟨rfl, k4_203, k4_204, k1_1, k4_205, by decide +kernel⟩
abbrev M_cP_recovery : JM := (cX9_recovery, 5, RX9, (some .int), 6, 139)
def cP_recovery_b36 (σ : CS) : Option (Int32 × CS) :=
  (cP_refuse (-5) σ).bind fun a1 =>
  some (a1.1, a1.2)
def cP_recovery_b59 (x1 : Int32) (t0 : Int32) (σ : CS) : Option (Int32 × CS) :=
  if x1 = 0 then (
    (cC_stateBehind t0 (cZ σ 3 3) σ).bind fun a2 =>
    some (a2.1, a2.2))
  else (
    (cA_stateBehind t0 σ).bind fun a1 =>
    some (a1.1, a1.2))
def cP_recovery (p1 : Int32) (p2 : Int32) (σ : CS) : Option (Int32 × CS) :=
  (cP_isSite p1 σ).bind fun a1 =>
  if a1.1 = true then (
    (cP_current a1.2).bind fun a2 =>
    if inB p1 6 = true then
    if p2 < 0 then (
      cP_recovery_b36 a2.2)
    else (
      if p2 ≤ cI a2.2 (14 + 2 + (ix p1)) 2 then (
        if p2 = 0 then (
          cP_recovery_b59 p1 0 a2.2)
        else (
          if inB (p2 - 1) 8 = true then
          cP_recovery_b59 p1 (cA a2.2 (14 + 8 + (ix p1)) (ix (p2 - 1))) a2.2
          else none))
      else (
        cP_recovery_b36 a2.2))
    else none)
  else (
    (cP_refuse (-1) a1.2).bind fun a3 =>
    some (a3.1, a3.2))
theorem J_cP_recovery_b36 {X : JX} {ad : Nat → Nat} (σ : CS) : JO X M_cP_recovery (QF X eI (wC ad (xZ X))) 36 [some (.ref (ad 0)), none, none, none, none] [] (wsC ad (xZ X) σ) (cP_recovery_b36 σ) := by
  unfold cP_recovery_b36
  refine JO.aloadn dX9_recovery_36 rfl ?_
  refine JO.bip (-5) dX9_recovery_37 (by decide) ?_
  refine JO.cvi (C_cP_refuse _ _) rcvP K_cP_refuse k2_86 rfl rfl rfl (Nat.le_of_ble_eq_true rfl) dX9_recovery_39 (fun a1 => ?_)
  exact JO.iret dX9_recovery_42 rfl rfl rfl
theorem J_cP_recovery_b59 {X : JX} {ad : Nat → Nat} (x1 : Int32) (t0 : Int32) (σ : CS) : JO X M_cP_recovery (QF X eI (wC ad (xZ X))) 59 [some (.ref (ad 0)), some (.int x1), none, none, none] [.int t0] (wsC ad (xZ X) σ) (cP_recovery_b59 x1 t0 σ) := by
  unfold cP_recovery_b59
  refine JO.istore dX9_recovery_59 rfl rfl ?_
  refine JO.iloadn dX9_recovery_61 rfl ?_
  refine JO.if_ne 80 dX9_recovery_62 rfl ?_ ?_
  · refine JO.iload dX9_recovery_80 rfl ?_
    refine JO.csi (C_cA_stateBehind _ _) K_cA_stateBehind k4_213 rfl rfl rfl (Nat.le_of_ble_eq_true rfl) dX9_recovery_82 (fun a1 => ?_)
    exact JO.iret dX9_recovery_85 rfl rfl rfl
  · refine JO.iload dX9_recovery_65 rfl ?_
    refine JO.aloadn dX9_recovery_67 rfl ?_
    refine gP2 k2_41 dX9_recovery_68 ?_
    refine gS3 isS3 k1_49 dX9_recovery_71 ?_
    refine JO.csi (C_cC_stateBehind _ (cZ σ 3 3) _) K_cC_stateBehind k4_210 rfl rfl rfl (Nat.le_of_ble_eq_true rfl) dX9_recovery_74 (fun a2 => ?_)
    refine JO.goto 85 dX9_recovery_77 rfl ?_
    exact JO.iret dX9_recovery_85 rfl rfl rfl
theorem J_cP_recovery {X : JX} {ad : Nat → Nat} (p1 : Int32) (p2 : Int32) (σ : CS) : JO X M_cP_recovery (QF X eI (wC ad (xZ X))) 0 [some (.ref (ad 0)), some (.int p1), some (.int p2), none, none] [] (wsC ad (xZ X) σ) (cP_recovery p1 p2 σ) := by
  unfold cP_recovery
  refine JO.aloadn dX9_recovery_0 rfl ?_
  refine JO.iloadn dX9_recovery_1 rfl ?_
  refine JO.cvz (C_cP_isSite _ _) rcvP K_cP_isSite k4_110 rfl rfl rfl (Nat.le_of_ble_eq_true rfl) dX9_recovery_2 (fun a1 => ?_)
  refine JO.zne 14 dX9_recovery_5 rfl ?_ ?_
  · refine JO.aloadn dX9_recovery_14 rfl ?_
    refine JO.cvn (C_cP_current _) rcvP K_cP_current k2_153 rfl rfl rfl (Nat.le_of_ble_eq_true rfl) dX9_recovery_15 (fun a2 => ?_)
    refine gR2 isR14 k1_182 dX9_recovery_18 ?_
    refine JO.iloadn dX9_recovery_21 rfl ?_
    refine JO.aT isR14 dX9_recovery_22 (fun h21 => ?_)
    refine JO.astoren dX9_recovery_23 rfl rfl ?_
    refine JO.iloadn dX9_recovery_24 rfl ?_
    refine JO.if_lt 36 dX9_recovery_25 rfl ?_ ?_
    · exact (J_cP_recovery_b36 _).jump (lvLe.so rfl (lvLe.no (lvLe.no (lvLe.no (lvLe.no (lvLe.nil))))))
    · refine JO.iloadn dX9_recovery_28 rfl ?_
      refine JO.aloadn dX9_recovery_29 rfl ?_
      refine gT2 (j := ix p1) isR14 h21 (Or.inl rfl) k1_130 dX9_recovery_30 ?_
      refine JO.icmp_le 43 dX9_recovery_33 rfl ?_ ?_
      · refine JO.iloadn dX9_recovery_43 rfl ?_
        refine JO.if_ne 51 dX9_recovery_44 rfl ?_ ?_
        · refine JO.aloadn dX9_recovery_51 rfl ?_
          refine gT1 (j := ix p1) isR14 h21 (Or.inl rfl) k1_125 dX9_recovery_52 ?_
          refine JO.iloadn dX9_recovery_55 rfl ?_
          refine JO.ic 1 dX9_recovery_56 (by decide) ?_
          refine JO.isub dX9_recovery_57 ?_
          refine JO.aC (i_log isR14 (j := ix p1) h21) dX9_recovery_58 ?_
          exact (J_cP_recovery_b59 _ _ _).jump (lvLe.so rfl (lvLe.so rfl (lvLe.no (lvLe.no (lvLe.no (lvLe.nil))))))
        · refine JO.ic 0 dX9_recovery_47 (by decide) ?_
          refine JO.goto 59 dX9_recovery_48 rfl ?_
          exact (J_cP_recovery_b59 _ _ _).jump (lvLe.so rfl (lvLe.so rfl (lvLe.no (lvLe.no (lvLe.no (lvLe.nil))))))
      · exact (J_cP_recovery_b36 _).jump (lvLe.so rfl (lvLe.no (lvLe.no (lvLe.no (lvLe.no (lvLe.nil))))))
  · refine JO.aloadn dX9_recovery_8 rfl ?_
    refine JO.ic (-1) dX9_recovery_9 (by decide) ?_
    refine JO.cvi (C_cP_refuse _ _) rcvP K_cP_refuse k2_86 rfl rfl rfl (Nat.le_of_ble_eq_true rfl) dX9_recovery_10 (fun a3 => ?_)
    exact JO.iret dX9_recovery_13 rfl rfl rfl
theorem C_cP_recovery {ad : Nat → Nat} {Z : ZT} (p1 : Int32) (p2 : Int32) (σ : CS) : CO yX9_recovery M_cP_recovery eI Z (wC ad Z) [.ref (ad 0), .int p1, .int p2] (wsC ad Z σ) (cP_recovery p1 p2 σ) :=
  CO.of rfl rfl (Nat.le_of_ble_eq_true rfl) 2 (fun X hZ => by subst hZ; exact J_cP_recovery _ _ σ)
theorem K_cP_recovery : Kv yX9_recovery M_cP_recovery RX9 2 := ⟨rfl, k4_207, k4_208, k1_1, k4_209, by decide +kernel⟩
abbrev M_cP_spared : JM := (cX9_spared, 2, RX9, (some .int), 6, 139)
def cP_spared_b34 (x1 : Int32) (t0 : Bool) (t1 : Int64) (σ : CS) : Option (Int32 × CS) :=
  (cR_play 36 t1 t0 σ).bind fun a1 =>
  if cZ a1.2 3 3 = true then (
    some ((cI a1.2 36 8 - x1), a1.2))
  else (
    some ((x1 - cI a1.2 36 8), a1.2))
def cP_spared (σ : CS) : Option (Int32 × CS) :=
  (cP_current σ).bind fun a1 =>
  if cZ a1.2 3 3 = true then (
    cP_spared_b34 (cI a1.2 14 8) false (cG a1.2 3 5) a1.2)
  else (
    cP_spared_b34 (cI a1.2 14 8) true (cG a1.2 3 5) a1.2)
theorem J_cP_spared_b34 {X : JX} {ad : Nat → Nat} (x1 : Int32) (t0 : Bool) (t1 : Int64) (σ : CS) : JO X M_cP_spared (QF X eI (wC ad (xZ X))) 34 [some (.ref (ad 0)), some (.int x1)] [.int (bI t0), .long t1, .ref (ad 36)] (wsC ad (xZ X) σ) (cP_spared_b34 x1 t0 t1 σ) := by
  unfold cP_spared_b34
  refine JO.cvv (C_cR_play isR36 _ t0 _) (rcvR isR36) K_cR_play k2_157 rfl rfl rfl (Nat.le_of_ble_eq_true rfl) dX9_spared_34 (fun a1 => ?_)
  refine JO.aloadn dX9_spared_37 rfl ?_
  refine gP2 k2_41 dX9_spared_38 ?_
  refine gS3 isS3 k1_49 dX9_spared_41 ?_
  refine JO.zeq 59 dX9_spared_44 rfl ?_ ?_
  · refine JO.iloadn dX9_spared_59 rfl ?_
    refine JO.aloadn dX9_spared_60 rfl ?_
    refine gP9 k2_48 dX9_spared_61 ?_
    refine gR8 isR36 k1_194 dX9_spared_64 ?_
    refine JO.isub dX9_spared_67 ?_
    exact JO.iret dX9_spared_68 rfl rfl rfl
  · refine JO.aloadn dX9_spared_47 rfl ?_
    refine gP9 k2_48 dX9_spared_48 ?_
    refine gR8 isR36 k1_194 dX9_spared_51 ?_
    refine JO.iloadn dX9_spared_54 rfl ?_
    refine JO.isub dX9_spared_55 ?_
    refine JO.goto 68 dX9_spared_56 rfl ?_
    exact JO.iret dX9_spared_68 rfl rfl rfl
theorem J_cP_spared {X : JX} {ad : Nat → Nat} (σ : CS) : JO X M_cP_spared (QF X eI (wC ad (xZ X))) 0 [some (.ref (ad 0)), none] [] (wsC ad (xZ X) σ) (cP_spared σ) := by
  unfold cP_spared
  refine JO.aloadn dX9_spared_0 rfl ?_
  refine JO.cvn (C_cP_current _) rcvP K_cP_current k2_153 rfl rfl rfl (Nat.le_of_ble_eq_true rfl) dX9_spared_1 (fun a1 => ?_)
  refine gR8 isR14 k1_194 dX9_spared_4 ?_
  refine JO.istoren dX9_spared_7 rfl rfl ?_
  refine JO.aloadn dX9_spared_8 rfl ?_
  refine gP9 k2_48 dX9_spared_9 ?_
  refine JO.aloadn dX9_spared_12 rfl ?_
  refine gP2 k2_41 dX9_spared_13 ?_
  refine gS5 isS3 k1_53 dX9_spared_16 ?_
  refine JO.aloadn dX9_spared_19 rfl ?_
  refine gP2 k2_41 dX9_spared_20 ?_
  refine gS3 isS3 k1_49 dX9_spared_23 ?_
  refine JO.zne 33 dX9_spared_26 rfl ?_ ?_
  · refine JO.ic 0 dX9_spared_33 (by decide) ?_
    exact (J_cP_spared_b34 _ false _ _).jump (lvLe.so rfl (lvLe.so rfl (lvLe.nil)))
  · refine JO.ic 1 dX9_spared_29 (by decide) ?_
    refine JO.goto 34 dX9_spared_30 rfl ?_
    exact (J_cP_spared_b34 _ true _ _).jump (lvLe.so rfl (lvLe.so rfl (lvLe.nil)))
theorem C_cP_spared {ad : Nat → Nat} {Z : ZT} (σ : CS) : CO yX9_spared M_cP_spared eI Z (wC ad Z) [.ref (ad 0)] (wsC ad Z σ) (cP_spared σ) :=
  CO.of rfl rfl (Nat.le_of_ble_eq_true rfl) 1 (fun X hZ => by subst hZ; exact J_cP_spared σ)
theorem K_cP_spared : Kv yX9_spared M_cP_spared RX9 0 := ⟨rfl, k4_215, k4_216, k1_1, k4_217, by decide +kernel⟩
abbrev M_cP_judgeLack : JM := (cX9_judgeLack, 5, RX9, (some .int), 2, 41)
def cP_judgeLack (p1 : Int32) (p2 : Int32) (p3 : Int32) (σ : CS) : Option (Int32 × CS) :=
  (cP_isSite p2 σ).bind fun a1 =>
  if a1.1 = true then (
    (cP_rowLack p1 a1.2).bind fun a2 =>
    if a2.1 = 0 then (
      if 0 ≤ p3 then (
        if inB p1 8 = true then
        if p3 ≤ cI a2.2 (58 + (ix p1)) 2 then (
          if p3 ≤ 61 then (
            some (0, a2.2))
          else (
            some ((-6), a2.2)))
        else (
          some ((-5), a2.2))
        else none)
      else (
        some ((-4), a2.2)))
    else (
      some (a2.1, a2.2)))
  else (
    some ((-1), a1.2))
theorem J_cP_judgeLack {X : JX} {ad : Nat → Nat} (p1 : Int32) (p2 : Int32) (p3 : Int32) (σ : CS) : JO X M_cP_judgeLack (QF X eI (wC ad (xZ X))) 0 [some (.ref (ad 0)), some (.int p1), some (.int p2), some (.int p3), none] [] (wsC ad (xZ X) σ) (cP_judgeLack p1 p2 p3 σ) := by
  unfold cP_judgeLack
  refine JO.aloadn dX9_judgeLack_0 rfl ?_
  refine JO.iloadn dX9_judgeLack_1 rfl ?_
  refine JO.cvz (C_cP_isSite _ _) rcvP K_cP_isSite k4_110 rfl rfl rfl (Nat.le_of_ble_eq_true rfl) dX9_judgeLack_2 (fun a1 => ?_)
  refine JO.zne 10 dX9_judgeLack_5 rfl ?_ ?_
  · refine JO.aloadn dX9_judgeLack_10 rfl ?_
    refine JO.iloadn dX9_judgeLack_11 rfl ?_
    refine JO.cvi (C_cP_rowLack _ _) rcvP K_cP_rowLack k2_101 rfl rfl rfl (Nat.le_of_ble_eq_true rfl) dX9_judgeLack_12 (fun a2 => ?_)
    refine JO.istore dX9_judgeLack_15 rfl rfl ?_
    refine JO.iload dX9_judgeLack_17 rfl ?_
    refine JO.if_eq 25 dX9_judgeLack_19 rfl ?_ ?_
    · refine JO.iloadn dX9_judgeLack_25 rfl ?_
      refine JO.if_ge 32 dX9_judgeLack_26 rfl ?_ ?_
      · refine JO.iloadn dX9_judgeLack_32 rfl ?_
        refine JO.aloadn dX9_judgeLack_33 rfl ?_
        refine gP0 k2_39 dX9_judgeLack_34 ?_
        refine JO.iloadn dX9_judgeLack_37 rfl ?_
        refine JO.aH dX9_judgeLack_38 (fun h21 => ?_)
        refine gH2 h21 k2_13 dX9_judgeLack_39 ?_
        refine JO.icmp_le 48 dX9_judgeLack_42 rfl ?_ ?_
        · refine JO.iloadn dX9_judgeLack_48 rfl ?_
          refine JO.bip 61 dX9_judgeLack_49 (by decide) ?_
          refine JO.icmp_le 59 dX9_judgeLack_51 rfl ?_ ?_
          · refine JO.ic 0 dX9_judgeLack_59 (by decide) ?_
            exact JO.iret dX9_judgeLack_60 rfl rfl rfl
          · refine JO.bip (-6) dX9_judgeLack_54 (by decide) ?_
            refine JO.goto 60 dX9_judgeLack_56 rfl ?_
            exact JO.iret dX9_judgeLack_60 rfl rfl rfl
        · refine JO.bip (-5) dX9_judgeLack_45 (by decide) ?_
          exact JO.iret dX9_judgeLack_47 rfl rfl rfl
      · refine JO.bip (-4) dX9_judgeLack_29 (by decide) ?_
        exact JO.iret dX9_judgeLack_31 rfl rfl rfl
    · refine JO.iload dX9_judgeLack_22 rfl ?_
      exact JO.iret dX9_judgeLack_24 rfl rfl rfl
  · refine JO.ic (-1) dX9_judgeLack_8 (by decide) ?_
    exact JO.iret dX9_judgeLack_9 rfl rfl rfl
theorem C_cP_judgeLack {ad : Nat → Nat} {Z : ZT} (p1 : Int32) (p2 : Int32) (p3 : Int32) (σ : CS) : CO yX9_judgeLack M_cP_judgeLack eI Z (wC ad Z) [.ref (ad 0), .int p1, .int p2, .int p3] (wsC ad Z σ) (cP_judgeLack p1 p2 p3 σ) :=
  CO.of rfl rfl (Nat.le_of_ble_eq_true rfl) 1 (fun X hZ => by subst hZ; exact J_cP_judgeLack _ _ _ σ)
theorem K_cP_judgeLack : Kv yX9_judgeLack M_cP_judgeLack RX9 3 := ⟨rfl, k4_224, s3_5, k1_1, k4_225, by decide +kernel⟩
abbrev M_cP_judge : JM := (cX9_judge, 6, RX9, (some .int), 6, 139)
def cP_judge_l27 : Nat → Int32 → Int32 → Int32 → Int32 → CS → Option (Int32 × CS)
  | 0, _, _, _, _, _ => none
  | n + 1, x1, x2, x3, x5, σ =>
    if x3 ≤ x5 then (
      some ((-1), σ))
    else (
      if inB x1 8 = true then
      (cH_letter (ix x1) x5 σ).bind fun a1 =>
      (cP_current a1.2).bind fun a2 =>
      (cR_stateAt 14 x5 x2 a2.2).bind fun a3 =>
      if a1.1 = a3.1 then (
        cP_judge_l27 n x1 x2 x3 (x5 + 1) a3.2)
      else (
        some (x5, a3.2))
      else none)
def cP_judge (p1 : Int32) (p2 : Int32) (p3 : Int32) (σ : CS) : Option (Int32 × CS) :=
  (cP_judgeLack p1 p2 p3 σ).bind fun a1 =>
  if a1.1 = 0 then (
    cP_judge_l27 4096 p1 p2 p3 0 a1.2)
  else (
    (cP_refuse a1.1 a1.2).bind fun a2 =>
    some ((a2.1 - 10), a2.2))
theorem J_cP_judge_l27 {X : JX} {ad : Nat → Nat} : ∀ (n : Nat) (x1 : Int32) (x2 : Int32) (x3 : Int32) (x5 : Int32) (σ : CS), JO X M_cP_judge (QF X eI (wC ad (xZ X))) 27 [some (.ref (ad 0)), some (.int x1), some (.int x2), some (.int x3), none, some (.int x5)] [] (wsC ad (xZ X) σ) (cP_judge_l27 n x1 x2 x3 x5 σ) := by
  intro n
  induction n with
  | zero => intro x1 x2 x3 x5 σ; exact JO.nil
  | succ n ih =>
    intro x1 x2 x3 x5 σ
    unfold cP_judge_l27
    refine JO.iload dX9_judge_27 rfl ?_
    refine JO.iloadn dX9_judge_29 rfl ?_
    refine JO.icmp_ge 66 dX9_judge_30 rfl ?_ ?_
    · refine JO.ic (-1) dX9_judge_66 (by decide) ?_
      exact JO.iret dX9_judge_67 rfl rfl rfl
    · refine JO.aloadn dX9_judge_33 rfl ?_
      refine gP0 k2_39 dX9_judge_34 ?_
      refine JO.iloadn dX9_judge_37 rfl ?_
      refine JO.aH dX9_judge_38 (fun h21 => ?_)
      refine JO.iload dX9_judge_39 rfl ?_
      refine JO.cvi (C_cH_letter h21 _ _) (rcvH h21) K_cH_letter k4_226 rfl rfl rfl (Nat.le_of_ble_eq_true rfl) dX9_judge_41 (fun a1 => ?_)
      refine JO.aloadn dX9_judge_44 rfl ?_
      refine JO.cvn (C_cP_current _) rcvP K_cP_current k2_153 rfl rfl rfl (Nat.le_of_ble_eq_true rfl) dX9_judge_45 (fun a2 => ?_)
      refine JO.iload dX9_judge_48 rfl ?_
      refine JO.iloadn dX9_judge_50 rfl ?_
      refine JO.cvi (C_cR_stateAt isR14 _ _ _) (rcvR isR14) K_cR_stateAt k4_114 rfl rfl rfl (Nat.le_of_ble_eq_true rfl) dX9_judge_51 (fun a3 => ?_)
      refine JO.icmp_eq 60 dX9_judge_54 rfl ?_ ?_
      · refine JO.iinc dX9_judge_60 rfl 1 (by decide) rfl rfl ?_
        refine JO.goto 27 dX9_judge_63 rfl ?_
        exact (ih _ _ _ _ _).jump (lvLe.so rfl (lvLe.so rfl (lvLe.so rfl (lvLe.so rfl (lvLe.no (lvLe.so rfl (lvLe.nil)))))))
      · refine JO.iload dX9_judge_57 rfl ?_
        exact JO.iret dX9_judge_59 rfl rfl rfl
theorem J_cP_judge {X : JX} {ad : Nat → Nat} (p1 : Int32) (p2 : Int32) (p3 : Int32) (σ : CS) : JO X M_cP_judge (QF X eI (wC ad (xZ X))) 0 [some (.ref (ad 0)), some (.int p1), some (.int p2), some (.int p3), none, none] [] (wsC ad (xZ X) σ) (cP_judge p1 p2 p3 σ) := by
  unfold cP_judge
  refine JO.aloadn dX9_judge_0 rfl ?_
  refine JO.iloadn dX9_judge_1 rfl ?_
  refine JO.iloadn dX9_judge_2 rfl ?_
  refine JO.iloadn dX9_judge_3 rfl ?_
  refine JO.cvi (C_cP_judgeLack _ _ _ _) rcvP K_cP_judgeLack k4_222 rfl rfl rfl (Nat.le_of_ble_eq_true rfl) dX9_judge_4 (fun a1 => ?_)
  refine JO.istore dX9_judge_7 rfl rfl ?_
  refine JO.iload dX9_judge_9 rfl ?_
  refine JO.if_eq 24 dX9_judge_11 rfl ?_ ?_
  · refine JO.ic 0 dX9_judge_24 (by decide) ?_
    refine JO.istore dX9_judge_25 rfl rfl ?_
    exact (J_cP_judge_l27 4096 _ _ _ _ _).jump (lvLe.so rfl (lvLe.so rfl (lvLe.so rfl (lvLe.so rfl (lvLe.no (lvLe.so rfl (lvLe.nil)))))))
  · refine JO.aloadn dX9_judge_14 rfl ?_
    refine JO.iload dX9_judge_15 rfl ?_
    refine JO.cvi (C_cP_refuse _ _) rcvP K_cP_refuse k2_86 rfl rfl rfl (Nat.le_of_ble_eq_true rfl) dX9_judge_17 (fun a2 => ?_)
    refine JO.bip 10 dX9_judge_20 (by decide) ?_
    refine JO.isub dX9_judge_22 ?_
    exact JO.iret dX9_judge_23 rfl rfl rfl
theorem C_cP_judge {ad : Nat → Nat} {Z : ZT} (p1 : Int32) (p2 : Int32) (p3 : Int32) (σ : CS) : CO yX9_judge M_cP_judge eI Z (wC ad Z) [.ref (ad 0), .int p1, .int p2, .int p3] (wsC ad Z σ) (cP_judge p1 p2 p3 σ) :=
  CO.of rfl rfl (Nat.le_of_ble_eq_true rfl) 2 (fun X hZ => by subst hZ; exact J_cP_judge _ _ _ σ)
theorem K_cP_judge : Kv yX9_judge M_cP_judge RX9 3 := ⟨rfl, k4_219, k4_220, k1_1, k4_221, by decide +kernel⟩
abbrev M_cP_status : JM := (cX9_status, 4, RX9, (some .int), 1, 20)
def cP_status_l32 : Nat → Int32 → Int32 → CS → Option (Int32 × CS)
  | 0, _, _, _ => none
  | n + 1, x2, x3, σ =>
    if 8 ≤ x3 then (
      some (x2, σ))
    else (
      if inB x3 8 = true then
      (cH_isEmpty (ix x3) σ).bind fun a1 =>
      if a1.1 = true then (
        cP_status_l32 n x2 (x3 + 1) a1.2)
      else (
        cP_status_l32 n (x2 + 1) (x3 + 1) a1.2)
      else none)
def cP_status_b22 (x1 : Int32) (σ : CS) : Option (Int32 × CS) :=
  if x1 = 0 then (
    cP_status_l32 4096 0 0 σ)
  else (
    some ((-1), σ))
def cP_status (p1 : Int32) (σ : CS) : Option (Int32 × CS) :=
  if p1 ≤ 10 then (
    cP_status_b22 p1 σ)
  else (
    if 17 < p1 then (
      cP_status_b22 p1 σ)
    else (
      if inB (p1 - 10) 8 = true then
      some (cA σ 2 (ix (p1 - 10)), σ)
      else none))
theorem J_cP_status_l32 {X : JX} {ad : Nat → Nat} : ∀ (n : Nat) (x2 : Int32) (x3 : Int32) (σ : CS), JO X M_cP_status (QF X eI (wC ad (xZ X))) 32 [some (.ref (ad 0)), none, some (.int x2), some (.int x3)] [] (wsC ad (xZ X) σ) (cP_status_l32 n x2 x3 σ) := by
  intro n
  induction n with
  | zero => intro x2 x3 σ; exact JO.nil
  | succ n ih =>
    intro x2 x3 σ
    unfold cP_status_l32
    refine JO.iloadn dX9_status_32 rfl ?_
    refine JO.bip 8 dX9_status_33 (by decide) ?_
    refine JO.icmp_ge 59 dX9_status_35 rfl ?_ ?_
    · refine JO.iloadn dX9_status_59 rfl ?_
      exact JO.iret dX9_status_60 rfl rfl rfl
    · refine JO.aloadn dX9_status_38 rfl ?_
      refine gP0 k2_39 dX9_status_39 ?_
      refine JO.iloadn dX9_status_42 rfl ?_
      refine JO.aH dX9_status_43 (fun h21 => ?_)
      refine JO.cvz (C_cH_isEmpty h21 _) (rcvH h21) K_cH_isEmpty k2_109 rfl rfl rfl (Nat.le_of_ble_eq_true rfl) dX9_status_44 (fun a1 => ?_)
      refine JO.zne 53 dX9_status_47 rfl ?_ ?_
      · refine JO.iinc dX9_status_53 rfl 1 (by decide) rfl rfl ?_
        refine JO.goto 32 dX9_status_56 rfl ?_
        exact (ih _ _ _).jump (lvLe.so rfl (lvLe.no (lvLe.so rfl (lvLe.so rfl (lvLe.nil)))))
      · refine JO.iinc dX9_status_50 rfl 1 (by decide) rfl rfl ?_
        refine JO.iinc dX9_status_53 rfl 1 (by decide) rfl rfl ?_
        refine JO.goto 32 dX9_status_56 rfl ?_
        exact (ih _ _ _).jump (lvLe.so rfl (lvLe.no (lvLe.so rfl (lvLe.so rfl (lvLe.nil)))))
theorem J_cP_status_b22 {X : JX} {ad : Nat → Nat} (x1 : Int32) (σ : CS) : JO X M_cP_status (QF X eI (wC ad (xZ X))) 22 [some (.ref (ad 0)), some (.int x1), none, none] [] (wsC ad (xZ X) σ) (cP_status_b22 x1 σ) := by
  unfold cP_status_b22
  refine JO.iloadn dX9_status_22 rfl ?_
  refine JO.if_eq 28 dX9_status_23 rfl ?_ ?_
  · refine JO.ic 0 dX9_status_28 (by decide) ?_
    refine JO.istoren dX9_status_29 rfl rfl ?_
    refine JO.ic 0 dX9_status_30 (by decide) ?_
    refine JO.istoren dX9_status_31 rfl rfl ?_
    exact (J_cP_status_l32 4096 _ _ _).jump (lvLe.so rfl (lvLe.no (lvLe.so rfl (lvLe.so rfl (lvLe.nil)))))
  · refine JO.ic (-1) dX9_status_26 (by decide) ?_
    exact JO.iret dX9_status_27 rfl rfl rfl
theorem J_cP_status {X : JX} {ad : Nat → Nat} (p1 : Int32) (σ : CS) : JO X M_cP_status (QF X eI (wC ad (xZ X))) 0 [some (.ref (ad 0)), some (.int p1), none, none] [] (wsC ad (xZ X) σ) (cP_status p1 σ) := by
  unfold cP_status
  refine JO.iloadn dX9_status_0 rfl ?_
  refine JO.bip 10 dX9_status_1 (by decide) ?_
  refine JO.icmp_le 22 dX9_status_3 rfl ?_ ?_
  · exact (J_cP_status_b22 _ _).jump (lvLe.so rfl (lvLe.so rfl (lvLe.no (lvLe.no (lvLe.nil)))))
  · refine JO.iloadn dX9_status_6 rfl ?_
    refine JO.bip 17 dX9_status_7 (by decide) ?_
    refine JO.icmp_gt 22 dX9_status_9 rfl ?_ ?_
    · exact (J_cP_status_b22 _ _).jump (lvLe.so rfl (lvLe.so rfl (lvLe.no (lvLe.no (lvLe.nil)))))
    · refine JO.aloadn dX9_status_12 rfl ?_
      refine gP1 k2_40 dX9_status_13 ?_
      refine JO.iloadn dX9_status_16 rfl ?_
      refine JO.bip 10 dX9_status_17 (by decide) ?_
      refine JO.isub dX9_status_19 ?_
      refine JO.aC i_2 dX9_status_20 ?_
      exact JO.iret dX9_status_21 rfl rfl rfl
theorem C_cP_status {ad : Nat → Nat} {Z : ZT} (p1 : Int32) (σ : CS) : CO yX9_status M_cP_status eI Z (wC ad Z) [.ref (ad 0), .int p1] (wsC ad Z σ) (cP_status p1 σ) :=
  CO.of rfl rfl (Nat.le_of_ble_eq_true rfl) 2 (fun X hZ => by subst hZ; exact J_cP_status _ σ)
theorem K_cP_status : Kv yX9_status M_cP_status RX9 1 := ⟨rfl, k4_228, k4_229, k1_1, k4_230, by decide +kernel⟩
