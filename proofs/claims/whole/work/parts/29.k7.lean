abbrev M_cP_isTick : JM := (cX9_isTick, 1, RX9, (some .boolean), 0, 0)
def cP_isTick (p1 : Int32) (σ : CS) : Option (Bool × CS) :=
  if p1 < 0 then (
    some (false, σ))
  else (
    if 60 < p1 then (
      some (false, σ))
    else (
      some (true, σ)))
theorem J_cP_isTick {X : JX} {ad : Nat → Nat} (p1 : Int32) (σ : CS) : JO X M_cP_isTick (QF X eZ (wC ad (xZ X))) 0 [some (.int p1)] [] (wsC ad (xZ X) σ) (cP_isTick p1 σ) := by
  unfold cP_isTick
  refine JO.iloadn dX9_isTick_0 rfl ?_
  refine JO.if_lt 14 dX9_isTick_1 rfl ?_ ?_
  · refine JO.ic 0 dX9_isTick_14 (by decide) ?_
    exact JO.zret (b := false) dX9_isTick_15 rfl rfl rfl
  · refine JO.iloadn dX9_isTick_4 rfl ?_
    refine JO.bip 60 dX9_isTick_5 (by decide) ?_
    refine JO.icmp_gt 14 dX9_isTick_7 rfl ?_ ?_
    · refine JO.ic 0 dX9_isTick_14 (by decide) ?_
      exact JO.zret (b := false) dX9_isTick_15 rfl rfl rfl
    · refine JO.ic 1 dX9_isTick_10 (by decide) ?_
      refine JO.goto 15 dX9_isTick_11 rfl ?_
      exact JO.zret (b := true) dX9_isTick_15 rfl rfl rfl
theorem C_cP_isTick {ad : Nat → Nat} {Z : ZT} (p1 : Int32) (σ : CS) : CO yX9_isTick M_cP_isTick eZ Z (wC ad Z) [.int p1] (wsC ad Z σ) (cP_isTick p1 σ) :=
  CO.of rfl rfl (Nat.le_of_ble_eq_true rfl) 0 (fun X hZ => by subst hZ; exact J_cP_isTick _ σ)
theorem K_cP_isTick : Ks yX9_isTick M_cP_isTick 1 := ⟨k4_64, k1_1, k4_65, by decide +kernel⟩
abbrev M_cP_down : JM := (cX9_down, 4, RX9, (some .int), 1, 23)
def cP_down_b10 (σ : CS) : Option (Int32 × CS) :=
  (cP_refuse (-1) σ).bind fun a1 =>
  some (a1.1, a1.2)
def cP_down_b66 (σ : CS) : Option (Int32 × CS) :=
  (cP_refuse (-6) σ).bind fun a1 =>
  some (a1.1, a1.2)
def cP_down_b73 (σ : CS) : Option (Int32 × CS) :=
  (cP_forgetRuns σ).bind fun a1 =>
  some (1, a1.2)
def cP_down (p1 : Int32) (p2 : Int32) (p3 : Int32) (σ : CS) : Option (Int32 × CS) :=
  if p1 < 0 then (
    cP_down_b10 σ)
  else (
    if p1 < 6 then (
      if p2 = (-1) then (
        (cS_giveDown 3 p1 (-1) (-1) σ).bind fun a4 =>
        cP_down_b73 a4.2)
      else (
        (cP_isTick p2 σ).bind fun a1 =>
        if a1.1 = true then (
          (cP_isTick p3 a1.2).bind fun a2 =>
          if a2.1 = true then (
            if p3 ≤ p2 then (
              cP_down_b66 a2.2)
            else (
              (cS_giveDown 3 p1 p2 p3 a2.2).bind fun a3 =>
              cP_down_b73 a3.2))
          else (
            cP_down_b66 a2.2))
        else (
          cP_down_b66 a1.2)))
    else (
      cP_down_b10 σ))
theorem J_cP_down_b10 {X : JX} {ad : Nat → Nat} (σ : CS) : JO X M_cP_down (QF X eI (wC ad (xZ X))) 10 [some (.ref (ad 0)), none, none, none] [] (wsC ad (xZ X) σ) (cP_down_b10 σ) := by
  unfold cP_down_b10
  refine JO.aloadn dX9_down_10 rfl ?_
  refine JO.ic (-1) dX9_down_11 (by decide) ?_
  refine JO.cvi (C_cP_refuse _ _) rcvP K_cP_refuse k2_86 rfl rfl rfl (Nat.le_of_ble_eq_true rfl) dX9_down_12 (fun a1 => ?_)
  exact JO.iret dX9_down_15 rfl rfl rfl
theorem J_cP_down_b66 {X : JX} {ad : Nat → Nat} (σ : CS) : JO X M_cP_down (QF X eI (wC ad (xZ X))) 66 [some (.ref (ad 0)), none, none, none] [] (wsC ad (xZ X) σ) (cP_down_b66 σ) := by
  unfold cP_down_b66
  refine JO.aloadn dX9_down_66 rfl ?_
  refine JO.bip (-6) dX9_down_67 (by decide) ?_
  refine JO.cvi (C_cP_refuse _ _) rcvP K_cP_refuse k2_86 rfl rfl rfl (Nat.le_of_ble_eq_true rfl) dX9_down_69 (fun a1 => ?_)
  exact JO.iret dX9_down_72 rfl rfl rfl
theorem J_cP_down_b73 {X : JX} {ad : Nat → Nat} (σ : CS) : JO X M_cP_down (QF X eI (wC ad (xZ X))) 73 [some (.ref (ad 0)), none, none, none] [] (wsC ad (xZ X) σ) (cP_down_b73 σ) := by
  unfold cP_down_b73
  refine JO.aloadn dX9_down_73 rfl ?_
  refine JO.cvv (C_cP_forgetRuns _) rcvP K_cP_forgetRuns k4_17 rfl rfl rfl (Nat.le_of_ble_eq_true rfl) dX9_down_74 (fun a1 => ?_)
  refine JO.ic 1 dX9_down_77 (by decide) ?_
  exact JO.iret dX9_down_78 rfl rfl rfl
theorem J_cP_down {X : JX} {ad : Nat → Nat} (p1 : Int32) (p2 : Int32) (p3 : Int32) (σ : CS) : JO X M_cP_down (QF X eI (wC ad (xZ X))) 0 [some (.ref (ad 0)), some (.int p1), some (.int p2), some (.int p3)] [] (wsC ad (xZ X) σ) (cP_down p1 p2 p3 σ) := by
  unfold cP_down
  refine JO.iloadn dX9_down_0 rfl ?_
  refine JO.if_lt 10 dX9_down_1 rfl ?_ ?_
  · exact (J_cP_down_b10 _).jump (lvLe.so rfl (lvLe.no (lvLe.no (lvLe.no (lvLe.nil)))))
  · refine JO.iloadn dX9_down_4 rfl ?_
    refine JO.bip 6 dX9_down_5 (by decide) ?_
    refine JO.icmp_lt 16 dX9_down_7 rfl ?_ ?_
    · refine JO.iloadn dX9_down_16 rfl ?_
      refine JO.ic (-1) dX9_down_17 (by decide) ?_
      refine JO.icmp_ne 34 dX9_down_18 rfl ?_ ?_
      · refine JO.iloadn dX9_down_34 rfl ?_
        refine JO.csz (C_cP_isTick _ _) K_cP_isTick k4_63 rfl rfl rfl (Nat.le_of_ble_eq_true rfl) dX9_down_35 (fun a1 => ?_)
        refine JO.zeq 66 dX9_down_38 rfl ?_ ?_
        · exact (J_cP_down_b66 _).jump (lvLe.so rfl (lvLe.no (lvLe.no (lvLe.no (lvLe.nil)))))
        · refine JO.iloadn dX9_down_41 rfl ?_
          refine JO.csz (C_cP_isTick _ _) K_cP_isTick k4_63 rfl rfl rfl (Nat.le_of_ble_eq_true rfl) dX9_down_42 (fun a2 => ?_)
          refine JO.zeq 66 dX9_down_45 rfl ?_ ?_
          · exact (J_cP_down_b66 _).jump (lvLe.so rfl (lvLe.no (lvLe.no (lvLe.no (lvLe.nil)))))
          · refine JO.iloadn dX9_down_48 rfl ?_
            refine JO.iloadn dX9_down_49 rfl ?_
            refine JO.icmp_ge 66 dX9_down_50 rfl ?_ ?_
            · exact (J_cP_down_b66 _).jump (lvLe.so rfl (lvLe.no (lvLe.no (lvLe.no (lvLe.nil)))))
            · refine JO.aloadn dX9_down_53 rfl ?_
              refine gP2 k2_41 dX9_down_54 ?_
              refine JO.iloadn dX9_down_57 rfl ?_
              refine JO.iloadn dX9_down_58 rfl ?_
              refine JO.iloadn dX9_down_59 rfl ?_
              refine JO.cvv (C_cS_giveDown isS3 _ _ _ _) (rcvS isS3) K_cS_giveDown k4_62 rfl rfl rfl (Nat.le_of_ble_eq_true rfl) dX9_down_60 (fun a3 => ?_)
              refine JO.goto 73 dX9_down_63 rfl ?_
              exact (J_cP_down_b73 _).jump (lvLe.so rfl (lvLe.no (lvLe.no (lvLe.no (lvLe.nil)))))
      · refine JO.aloadn dX9_down_21 rfl ?_
        refine gP2 k2_41 dX9_down_22 ?_
        refine JO.iloadn dX9_down_25 rfl ?_
        refine JO.ic (-1) dX9_down_26 (by decide) ?_
        refine JO.ic (-1) dX9_down_27 (by decide) ?_
        refine JO.cvv (C_cS_giveDown isS3 _ _ _ _) (rcvS isS3) K_cS_giveDown k4_62 rfl rfl rfl (Nat.le_of_ble_eq_true rfl) dX9_down_28 (fun a4 => ?_)
        refine JO.goto 73 dX9_down_31 rfl ?_
        exact (J_cP_down_b73 _).jump (lvLe.so rfl (lvLe.no (lvLe.no (lvLe.no (lvLe.nil)))))
    · exact (J_cP_down_b10 _).jump (lvLe.so rfl (lvLe.no (lvLe.no (lvLe.no (lvLe.nil)))))
theorem C_cP_down {ad : Nat → Nat} {Z : ZT} (p1 : Int32) (p2 : Int32) (p3 : Int32) (σ : CS) : CO yX9_down M_cP_down eI Z (wC ad Z) [.ref (ad 0), .int p1, .int p2, .int p3] (wsC ad Z σ) (cP_down p1 p2 p3 σ) :=
  CO.of rfl rfl (Nat.le_of_ble_eq_true rfl) 0 (fun X hZ => by subst hZ; exact J_cP_down _ _ _ σ)
theorem K_cP_down : Kv yX9_down M_cP_down RX9 3 := ⟨rfl, k4_59, k4_60, k1_1, k4_61, by decide +kernel⟩
abbrev M_cJ_bitCount : JM := (cJ13_bitCount_95d88, 2, RJ13, (some .int), 0, 0)
def cJ_bitCount (p1 : Int64) (σ : CS) : Option (Int32 × CS) :=
  some (((Int64.toInt32 ((((((((p1 - ((Int64.toUInt64 p1 >>> ((Int32.toInt64 1).toUInt64 &&& Int64.toUInt64 63)).toInt64 &&& 6148914691236517205)) &&& 3689348814741910323) + ((Int64.toUInt64 (p1 - ((Int64.toUInt64 p1 >>> ((Int32.toInt64 1).toUInt64 &&& Int64.toUInt64 63)).toInt64 &&& 6148914691236517205)) >>> ((Int32.toInt64 2).toUInt64 &&& Int64.toUInt64 63)).toInt64 &&& 3689348814741910323)) + (Int64.toUInt64 (((p1 - ((Int64.toUInt64 p1 >>> ((Int32.toInt64 1).toUInt64 &&& Int64.toUInt64 63)).toInt64 &&& 6148914691236517205)) &&& 3689348814741910323) + ((Int64.toUInt64 (p1 - ((Int64.toUInt64 p1 >>> ((Int32.toInt64 1).toUInt64 &&& Int64.toUInt64 63)).toInt64 &&& 6148914691236517205)) >>> ((Int32.toInt64 2).toUInt64 &&& Int64.toUInt64 63)).toInt64 &&& 3689348814741910323)) >>> ((Int32.toInt64 4).toUInt64 &&& Int64.toUInt64 63)).toInt64) &&& 1085102592571150095) + (Int64.toUInt64 (((((p1 - ((Int64.toUInt64 p1 >>> ((Int32.toInt64 1).toUInt64 &&& Int64.toUInt64 63)).toInt64 &&& 6148914691236517205)) &&& 3689348814741910323) + ((Int64.toUInt64 (p1 - ((Int64.toUInt64 p1 >>> ((Int32.toInt64 1).toUInt64 &&& Int64.toUInt64 63)).toInt64 &&& 6148914691236517205)) >>> ((Int32.toInt64 2).toUInt64 &&& Int64.toUInt64 63)).toInt64 &&& 3689348814741910323)) + (Int64.toUInt64 (((p1 - ((Int64.toUInt64 p1 >>> ((Int32.toInt64 1).toUInt64 &&& Int64.toUInt64 63)).toInt64 &&& 6148914691236517205)) &&& 3689348814741910323) + ((Int64.toUInt64 (p1 - ((Int64.toUInt64 p1 >>> ((Int32.toInt64 1).toUInt64 &&& Int64.toUInt64 63)).toInt64 &&& 6148914691236517205)) >>> ((Int32.toInt64 2).toUInt64 &&& Int64.toUInt64 63)).toInt64 &&& 3689348814741910323)) >>> ((Int32.toInt64 4).toUInt64 &&& Int64.toUInt64 63)).toInt64) &&& 1085102592571150095) >>> ((Int32.toInt64 8).toUInt64 &&& Int64.toUInt64 63)).toInt64) + (Int64.toUInt64 ((((((p1 - ((Int64.toUInt64 p1 >>> ((Int32.toInt64 1).toUInt64 &&& Int64.toUInt64 63)).toInt64 &&& 6148914691236517205)) &&& 3689348814741910323) + ((Int64.toUInt64 (p1 - ((Int64.toUInt64 p1 >>> ((Int32.toInt64 1).toUInt64 &&& Int64.toUInt64 63)).toInt64 &&& 6148914691236517205)) >>> ((Int32.toInt64 2).toUInt64 &&& Int64.toUInt64 63)).toInt64 &&& 3689348814741910323)) + (Int64.toUInt64 (((p1 - ((Int64.toUInt64 p1 >>> ((Int32.toInt64 1).toUInt64 &&& Int64.toUInt64 63)).toInt64 &&& 6148914691236517205)) &&& 3689348814741910323) + ((Int64.toUInt64 (p1 - ((Int64.toUInt64 p1 >>> ((Int32.toInt64 1).toUInt64 &&& Int64.toUInt64 63)).toInt64 &&& 6148914691236517205)) >>> ((Int32.toInt64 2).toUInt64 &&& Int64.toUInt64 63)).toInt64 &&& 3689348814741910323)) >>> ((Int32.toInt64 4).toUInt64 &&& Int64.toUInt64 63)).toInt64) &&& 1085102592571150095) + (Int64.toUInt64 (((((p1 - ((Int64.toUInt64 p1 >>> ((Int32.toInt64 1).toUInt64 &&& Int64.toUInt64 63)).toInt64 &&& 6148914691236517205)) &&& 3689348814741910323) + ((Int64.toUInt64 (p1 - ((Int64.toUInt64 p1 >>> ((Int32.toInt64 1).toUInt64 &&& Int64.toUInt64 63)).toInt64 &&& 6148914691236517205)) >>> ((Int32.toInt64 2).toUInt64 &&& Int64.toUInt64 63)).toInt64 &&& 3689348814741910323)) + (Int64.toUInt64 (((p1 - ((Int64.toUInt64 p1 >>> ((Int32.toInt64 1).toUInt64 &&& Int64.toUInt64 63)).toInt64 &&& 6148914691236517205)) &&& 3689348814741910323) + ((Int64.toUInt64 (p1 - ((Int64.toUInt64 p1 >>> ((Int32.toInt64 1).toUInt64 &&& Int64.toUInt64 63)).toInt64 &&& 6148914691236517205)) >>> ((Int32.toInt64 2).toUInt64 &&& Int64.toUInt64 63)).toInt64 &&& 3689348814741910323)) >>> ((Int32.toInt64 4).toUInt64 &&& Int64.toUInt64 63)).toInt64) &&& 1085102592571150095) >>> ((Int32.toInt64 8).toUInt64 &&& Int64.toUInt64 63)).toInt64) >>> ((Int32.toInt64 16).toUInt64 &&& Int64.toUInt64 63)).toInt64) + (Int64.toUInt64 (((((((p1 - ((Int64.toUInt64 p1 >>> ((Int32.toInt64 1).toUInt64 &&& Int64.toUInt64 63)).toInt64 &&& 6148914691236517205)) &&& 3689348814741910323) + ((Int64.toUInt64 (p1 - ((Int64.toUInt64 p1 >>> ((Int32.toInt64 1).toUInt64 &&& Int64.toUInt64 63)).toInt64 &&& 6148914691236517205)) >>> ((Int32.toInt64 2).toUInt64 &&& Int64.toUInt64 63)).toInt64 &&& 3689348814741910323)) + (Int64.toUInt64 (((p1 - ((Int64.toUInt64 p1 >>> ((Int32.toInt64 1).toUInt64 &&& Int64.toUInt64 63)).toInt64 &&& 6148914691236517205)) &&& 3689348814741910323) + ((Int64.toUInt64 (p1 - ((Int64.toUInt64 p1 >>> ((Int32.toInt64 1).toUInt64 &&& Int64.toUInt64 63)).toInt64 &&& 6148914691236517205)) >>> ((Int32.toInt64 2).toUInt64 &&& Int64.toUInt64 63)).toInt64 &&& 3689348814741910323)) >>> ((Int32.toInt64 4).toUInt64 &&& Int64.toUInt64 63)).toInt64) &&& 1085102592571150095) + (Int64.toUInt64 (((((p1 - ((Int64.toUInt64 p1 >>> ((Int32.toInt64 1).toUInt64 &&& Int64.toUInt64 63)).toInt64 &&& 6148914691236517205)) &&& 3689348814741910323) + ((Int64.toUInt64 (p1 - ((Int64.toUInt64 p1 >>> ((Int32.toInt64 1).toUInt64 &&& Int64.toUInt64 63)).toInt64 &&& 6148914691236517205)) >>> ((Int32.toInt64 2).toUInt64 &&& Int64.toUInt64 63)).toInt64 &&& 3689348814741910323)) + (Int64.toUInt64 (((p1 - ((Int64.toUInt64 p1 >>> ((Int32.toInt64 1).toUInt64 &&& Int64.toUInt64 63)).toInt64 &&& 6148914691236517205)) &&& 3689348814741910323) + ((Int64.toUInt64 (p1 - ((Int64.toUInt64 p1 >>> ((Int32.toInt64 1).toUInt64 &&& Int64.toUInt64 63)).toInt64 &&& 6148914691236517205)) >>> ((Int32.toInt64 2).toUInt64 &&& Int64.toUInt64 63)).toInt64 &&& 3689348814741910323)) >>> ((Int32.toInt64 4).toUInt64 &&& Int64.toUInt64 63)).toInt64) &&& 1085102592571150095) >>> ((Int32.toInt64 8).toUInt64 &&& Int64.toUInt64 63)).toInt64) + (Int64.toUInt64 ((((((p1 - ((Int64.toUInt64 p1 >>> ((Int32.toInt64 1).toUInt64 &&& Int64.toUInt64 63)).toInt64 &&& 6148914691236517205)) &&& 3689348814741910323) + ((Int64.toUInt64 (p1 - ((Int64.toUInt64 p1 >>> ((Int32.toInt64 1).toUInt64 &&& Int64.toUInt64 63)).toInt64 &&& 6148914691236517205)) >>> ((Int32.toInt64 2).toUInt64 &&& Int64.toUInt64 63)).toInt64 &&& 3689348814741910323)) + (Int64.toUInt64 (((p1 - ((Int64.toUInt64 p1 >>> ((Int32.toInt64 1).toUInt64 &&& Int64.toUInt64 63)).toInt64 &&& 6148914691236517205)) &&& 3689348814741910323) + ((Int64.toUInt64 (p1 - ((Int64.toUInt64 p1 >>> ((Int32.toInt64 1).toUInt64 &&& Int64.toUInt64 63)).toInt64 &&& 6148914691236517205)) >>> ((Int32.toInt64 2).toUInt64 &&& Int64.toUInt64 63)).toInt64 &&& 3689348814741910323)) >>> ((Int32.toInt64 4).toUInt64 &&& Int64.toUInt64 63)).toInt64) &&& 1085102592571150095) + (Int64.toUInt64 (((((p1 - ((Int64.toUInt64 p1 >>> ((Int32.toInt64 1).toUInt64 &&& Int64.toUInt64 63)).toInt64 &&& 6148914691236517205)) &&& 3689348814741910323) + ((Int64.toUInt64 (p1 - ((Int64.toUInt64 p1 >>> ((Int32.toInt64 1).toUInt64 &&& Int64.toUInt64 63)).toInt64 &&& 6148914691236517205)) >>> ((Int32.toInt64 2).toUInt64 &&& Int64.toUInt64 63)).toInt64 &&& 3689348814741910323)) + (Int64.toUInt64 (((p1 - ((Int64.toUInt64 p1 >>> ((Int32.toInt64 1).toUInt64 &&& Int64.toUInt64 63)).toInt64 &&& 6148914691236517205)) &&& 3689348814741910323) + ((Int64.toUInt64 (p1 - ((Int64.toUInt64 p1 >>> ((Int32.toInt64 1).toUInt64 &&& Int64.toUInt64 63)).toInt64 &&& 6148914691236517205)) >>> ((Int32.toInt64 2).toUInt64 &&& Int64.toUInt64 63)).toInt64 &&& 3689348814741910323)) >>> ((Int32.toInt64 4).toUInt64 &&& Int64.toUInt64 63)).toInt64) &&& 1085102592571150095) >>> ((Int32.toInt64 8).toUInt64 &&& Int64.toUInt64 63)).toInt64) >>> ((Int32.toInt64 16).toUInt64 &&& Int64.toUInt64 63)).toInt64) >>> ((Int32.toInt64 32).toUInt64 &&& Int64.toUInt64 63)).toInt64)) &&& 127), σ)
theorem J_cJ_bitCount {X : JX} {ad : Nat → Nat} (p1 : Int64) (σ : CS) : JO X M_cJ_bitCount (QF X eI (wC ad (xZ X))) 0 [some (.long p1), none] [] (wsC ad (xZ X) σ) (cJ_bitCount p1 σ) := by
  unfold cJ_bitCount
  refine JO.lloadn dJ13_bitCount_95d88_0 rfl ?_
  refine JO.lloadn dJ13_bitCount_95d88_1 rfl ?_
  refine JO.ic 1 dJ13_bitCount_95d88_2 (by decide) ?_
  refine JO.lushr dJ13_bitCount_95d88_3 ?_
  refine JO.ldc2 (v := 6148914691236517205) k4_74 dJ13_bitCount_95d88_4 ?_
  refine JO.land dJ13_bitCount_95d88_7 ?_
  refine JO.lsub dJ13_bitCount_95d88_8 ?_
  refine JO.lstoren dJ13_bitCount_95d88_9 rfl rfl ?_
  refine JO.lloadn dJ13_bitCount_95d88_10 rfl ?_
  refine JO.ldc2 (v := 3689348814741910323) k4_75 dJ13_bitCount_95d88_11 ?_
  refine JO.land dJ13_bitCount_95d88_14 ?_
  refine JO.lloadn dJ13_bitCount_95d88_15 rfl ?_
  refine JO.ic 2 dJ13_bitCount_95d88_16 (by decide) ?_
  refine JO.lushr dJ13_bitCount_95d88_17 ?_
  refine JO.ldc2 (v := 3689348814741910323) k4_75 dJ13_bitCount_95d88_18 ?_
  refine JO.land dJ13_bitCount_95d88_21 ?_
  refine JO.ladd dJ13_bitCount_95d88_22 ?_
  refine JO.lstoren dJ13_bitCount_95d88_23 rfl rfl ?_
  refine JO.lloadn dJ13_bitCount_95d88_24 rfl ?_
  refine JO.lloadn dJ13_bitCount_95d88_25 rfl ?_
  refine JO.ic 4 dJ13_bitCount_95d88_26 (by decide) ?_
  refine JO.lushr dJ13_bitCount_95d88_27 ?_
  refine JO.ladd dJ13_bitCount_95d88_28 ?_
  refine JO.ldc2 (v := 1085102592571150095) k4_76 dJ13_bitCount_95d88_29 ?_
  refine JO.land dJ13_bitCount_95d88_32 ?_
  refine JO.lstoren dJ13_bitCount_95d88_33 rfl rfl ?_
  refine JO.lloadn dJ13_bitCount_95d88_34 rfl ?_
  refine JO.lloadn dJ13_bitCount_95d88_35 rfl ?_
  refine JO.bip 8 dJ13_bitCount_95d88_36 (by decide) ?_
  refine JO.lushr dJ13_bitCount_95d88_38 ?_
  refine JO.ladd dJ13_bitCount_95d88_39 ?_
  refine JO.lstoren dJ13_bitCount_95d88_40 rfl rfl ?_
  refine JO.lloadn dJ13_bitCount_95d88_41 rfl ?_
  refine JO.lloadn dJ13_bitCount_95d88_42 rfl ?_
  refine JO.bip 16 dJ13_bitCount_95d88_43 (by decide) ?_
  refine JO.lushr dJ13_bitCount_95d88_45 ?_
  refine JO.ladd dJ13_bitCount_95d88_46 ?_
  refine JO.lstoren dJ13_bitCount_95d88_47 rfl rfl ?_
  refine JO.lloadn dJ13_bitCount_95d88_48 rfl ?_
  refine JO.lloadn dJ13_bitCount_95d88_49 rfl ?_
  refine JO.bip 32 dJ13_bitCount_95d88_50 (by decide) ?_
  refine JO.lushr dJ13_bitCount_95d88_52 ?_
  refine JO.ladd dJ13_bitCount_95d88_53 ?_
  refine JO.lstoren dJ13_bitCount_95d88_54 rfl rfl ?_
  refine JO.lloadn dJ13_bitCount_95d88_55 rfl ?_
  refine JO.l2i dJ13_bitCount_95d88_56 ?_
  refine JO.bip 127 dJ13_bitCount_95d88_57 (by decide) ?_
  refine JO.iand dJ13_bitCount_95d88_59 ?_
  exact JO.iret dJ13_bitCount_95d88_60 rfl rfl rfl
theorem C_cJ_bitCount {ad : Nat → Nat} {Z : ZT} (p1 : Int64) (σ : CS) : CO yJ13_bitCount_95d88 M_cJ_bitCount eI Z (wC ad Z) [.long p1] (wsC ad Z σ) (cJ_bitCount p1 σ) :=
  CO.of rfl rfl (Nat.le_of_ble_eq_true rfl) 0 (fun X hZ => by subst hZ; exact J_cJ_bitCount _ σ)
theorem K_cJ_bitCount : Ks yJ13_bitCount_95d88 M_cJ_bitCount 1 := ⟨k4_72, k1_20, k4_73, by decide +kernel⟩
abbrev M_cP_told : JM := (cX9_told, 2, RX9, (some .int), 1, 22)
def cP_told_b48 (x1 : Int32) (σ : CS) : Option (Int32 × CS) :=
  (cS_number 3 x1 σ).bind fun a1 =>
  some (a1.1, a1.2)
def cP_told (p1 : Int32) (σ : CS) : Option (Int32 × CS) :=
  sw p1 [(0, 48,
    cP_told_b48 p1 σ), (1, 48,
    cP_told_b48 p1 σ), (2, 48,
    cP_told_b48 p1 σ), (3, 48,
    cP_told_b48 p1 σ), (4, 57,
    (cS_everyone 3 σ).bind fun a1 =>
    some ((cI σ 3 4 &&& a1.1), a1.2)), (5, 73,
    (cJ_bitCount (cG σ 3 5) σ).bind fun a2 =>
    some (a2.1, a2.2)), (6, 84,
    (cS_sitesWithDown 3 σ).bind fun a3 =>
    some (a3.1, a3.2)), (7, 92,
    some (cI σ 3 8, σ))] (
    (cP_refuse (-5) σ).bind fun a4 =>
    some (a4.1, a4.2))
theorem J_cP_told_b48 {X : JX} {ad : Nat → Nat} (x1 : Int32) (σ : CS) : JO X M_cP_told (QF X eI (wC ad (xZ X))) 48 [some (.ref (ad 0)), some (.int x1)] [] (wsC ad (xZ X) σ) (cP_told_b48 x1 σ) := by
  unfold cP_told_b48
  refine JO.aloadn dX9_told_48 rfl ?_
  refine gP2 k2_41 dX9_told_49 ?_
  refine JO.iloadn dX9_told_52 rfl ?_
  refine JO.cvi (C_cS_number isS3 _ _) (rcvS isS3) K_cS_number k4_38 rfl rfl rfl (Nat.le_of_ble_eq_true rfl) dX9_told_53 (fun a1 => ?_)
  exact JO.iret dX9_told_56 rfl rfl rfl
theorem J_cP_told {X : JX} {ad : Nat → Nat} (p1 : Int32) (σ : CS) : JO X M_cP_told (QF X eI (wC ad (xZ X))) 0 [some (.ref (ad 0)), some (.int p1)] [] (wsC ad (xZ X) σ) (cP_told p1 σ) := by
  unfold cP_told
  refine JO.iloadn dX9_told_0 rfl ?_
  refine JO.tsw [(0, 48, _), (1, 48, _), (2, 48, _), (3, 48, _), (4, 57, _), (5, 73, _), (6, 84, _), (7, 92, _)] 100 [(0, 48), (1, 48), (2, 48), (3, 48), (4, 57), (5, 73), (6, 84), (7, 92)] dX9_told_1 rfl (by decide) rfl (by decide) (JO.swCons ?_ (JO.swCons ?_ (JO.swCons ?_ (JO.swCons ?_ (JO.swCons ?_ (JO.swCons ?_ (JO.swCons ?_ (JO.swCons ?_ (JO.swNil))))))))) ?_
  · exact (J_cP_told_b48 _ _).jump (lvLe.so rfl (lvLe.so rfl (lvLe.nil)))
  · exact (J_cP_told_b48 _ _).jump (lvLe.so rfl (lvLe.so rfl (lvLe.nil)))
  · exact (J_cP_told_b48 _ _).jump (lvLe.so rfl (lvLe.so rfl (lvLe.nil)))
  · exact (J_cP_told_b48 _ _).jump (lvLe.so rfl (lvLe.so rfl (lvLe.nil)))
  · refine JO.aloadn dX9_told_57 rfl ?_
    refine gP2 k2_41 dX9_told_58 ?_
    refine gS4 isS3 k1_51 dX9_told_61 ?_
    refine JO.aloadn dX9_told_64 rfl ?_
    refine gP2 k2_41 dX9_told_65 ?_
    refine JO.cvi (C_cS_everyone isS3 _) (rcvS isS3) K_cS_everyone k4_70 rfl rfl rfl (Nat.le_of_ble_eq_true rfl) dX9_told_68 (fun a1 => ?_)
    refine JO.iand dX9_told_71 ?_
    exact JO.iret dX9_told_72 rfl rfl rfl
  · refine JO.aloadn dX9_told_73 rfl ?_
    refine gP2 k2_41 dX9_told_74 ?_
    refine gS5 isS3 k1_53 dX9_told_77 ?_
    refine JO.csi (C_cJ_bitCount _ _) K_cJ_bitCount k4_71 rfl rfl rfl (Nat.le_of_ble_eq_true rfl) dX9_told_80 (fun a2 => ?_)
    exact JO.iret dX9_told_83 rfl rfl rfl
  · refine JO.aloadn dX9_told_84 rfl ?_
    refine gP2 k2_41 dX9_told_85 ?_
    refine JO.cvi (C_cS_sitesWithDown isS3 _) (rcvS isS3) K_cS_sitesWithDown k4_77 rfl rfl rfl (Nat.le_of_ble_eq_true rfl) dX9_told_88 (fun a3 => ?_)
    exact JO.iret dX9_told_91 rfl rfl rfl
  · refine JO.aloadn dX9_told_92 rfl ?_
    refine gP2 k2_41 dX9_told_93 ?_
    refine gS8 isS3 k1_59 dX9_told_96 ?_
    exact JO.iret dX9_told_99 rfl rfl rfl
  · refine JO.aloadn dX9_told_100 rfl ?_
    refine JO.bip (-5) dX9_told_101 (by decide) ?_
    refine JO.cvi (C_cP_refuse _ _) rcvP K_cP_refuse k2_86 rfl rfl rfl (Nat.le_of_ble_eq_true rfl) dX9_told_103 (fun a4 => ?_)
    exact JO.iret dX9_told_106 rfl rfl rfl
theorem C_cP_told {ad : Nat → Nat} {Z : ZT} (p1 : Int32) (σ : CS) : CO yX9_told M_cP_told eI Z (wC ad Z) [.ref (ad 0), .int p1] (wsC ad Z σ) (cP_told p1 σ) :=
  CO.of rfl rfl (Nat.le_of_ble_eq_true rfl) 0 (fun X hZ => by subst hZ; exact J_cP_told _ σ)
theorem K_cP_told : Kv yX9_told M_cP_told RX9 1 := ⟨rfl, k4_67, k4_68, k1_1, k4_69, by decide +kernel⟩
abbrev M_cP_drawn : JM := (cX9_drawn, 3, RX9, (some .int), 1, 22)
def cP_drawn_b11 (σ : CS) : Option (Int32 × CS) :=
  (cP_refuse (-6) σ).bind fun a1 =>
  some (a1.1, a1.2)
def cP_drawn_b48 (σ : CS) : Option (Int32 × CS) :=
  (cP_forgetRuns σ).bind fun a1 =>
  (cJ_bitCount (cG a1.2 3 5) a1.2).bind fun a2 =>
  some (a2.1, a2.2)
def cP_drawn_l20 : Nat → Int32 → Int32 → CS → Option (Int32 × CS)
  | 0, _, _, _ => none
  | n + 1, x1, x2, σ =>
    if x1 ≤ x2 then (
      cP_drawn_b48 σ)
    else (
      (cS_draw 3 60 σ).bind fun a1 =>
      (cS_giveLoss 3 a1.1 true a1.2).bind fun a2 =>
      cP_drawn_l20 n x1 (x2 + 1) a2.2)
def cP_drawn (p1 : Int32) (σ : CS) : Option (Int32 × CS) :=
  if p1 < 1 then (
    cP_drawn_b11 σ)
  else (
    if p1 ≤ 20 then (
      cP_drawn_l20 4096 p1 0 σ)
    else (
      cP_drawn_b11 σ))
theorem J_cP_drawn_b11 {X : JX} {ad : Nat → Nat} (σ : CS) : JO X M_cP_drawn (QF X eI (wC ad (xZ X))) 11 [some (.ref (ad 0)), none, none] [] (wsC ad (xZ X) σ) (cP_drawn_b11 σ) := by
  unfold cP_drawn_b11
  refine JO.aloadn dX9_drawn_11 rfl ?_
  refine JO.bip (-6) dX9_drawn_12 (by decide) ?_
  refine JO.cvi (C_cP_refuse _ _) rcvP K_cP_refuse k2_86 rfl rfl rfl (Nat.le_of_ble_eq_true rfl) dX9_drawn_14 (fun a1 => ?_)
  exact JO.iret dX9_drawn_17 rfl rfl rfl
theorem J_cP_drawn_b48 {X : JX} {ad : Nat → Nat} (σ : CS) : JO X M_cP_drawn (QF X eI (wC ad (xZ X))) 48 [some (.ref (ad 0)), none, none] [] (wsC ad (xZ X) σ) (cP_drawn_b48 σ) := by
  unfold cP_drawn_b48
  refine JO.aloadn dX9_drawn_48 rfl ?_
  refine JO.cvv (C_cP_forgetRuns _) rcvP K_cP_forgetRuns k4_17 rfl rfl rfl (Nat.le_of_ble_eq_true rfl) dX9_drawn_49 (fun a1 => ?_)
  refine JO.aloadn dX9_drawn_52 rfl ?_
  refine gP2 k2_41 dX9_drawn_53 ?_
  refine gS5 isS3 k1_53 dX9_drawn_56 ?_
  refine JO.csi (C_cJ_bitCount _ _) K_cJ_bitCount k4_71 rfl rfl rfl (Nat.le_of_ble_eq_true rfl) dX9_drawn_59 (fun a2 => ?_)
  exact JO.iret dX9_drawn_62 rfl rfl rfl
theorem J_cP_drawn_l20 {X : JX} {ad : Nat → Nat} : ∀ (n : Nat) (x1 : Int32) (x2 : Int32) (σ : CS), JO X M_cP_drawn (QF X eI (wC ad (xZ X))) 20 [some (.ref (ad 0)), some (.int x1), some (.int x2)] [] (wsC ad (xZ X) σ) (cP_drawn_l20 n x1 x2 σ) := by
  intro n
  induction n with
  | zero => intro x1 x2 σ; exact JO.nil
  | succ n ih =>
    intro x1 x2 σ
    unfold cP_drawn_l20
    refine JO.iloadn dX9_drawn_20 rfl ?_
    refine JO.iloadn dX9_drawn_21 rfl ?_
    refine JO.icmp_ge 48 dX9_drawn_22 rfl ?_ ?_
    · exact (J_cP_drawn_b48 _).jump (lvLe.so rfl (lvLe.no (lvLe.no (lvLe.nil))))
    · refine JO.aloadn dX9_drawn_25 rfl ?_
      refine gP2 k2_41 dX9_drawn_26 ?_
      refine JO.aloadn dX9_drawn_29 rfl ?_
      refine gP2 k2_41 dX9_drawn_30 ?_
      refine JO.bip 60 dX9_drawn_33 (by decide) ?_
      refine JO.cvi (C_cS_draw isS3 _ _) (rcvS isS3) K_cS_draw k4_85 rfl rfl rfl (Nat.le_of_ble_eq_true rfl) dX9_drawn_35 (fun a1 => ?_)
      refine JO.ic 1 dX9_drawn_38 (by decide) ?_
      refine JO.cvv (C_cS_giveLoss isS3 _ true _) (rcvS isS3) K_cS_giveLoss k4_57 rfl rfl rfl (Nat.le_of_ble_eq_true rfl) dX9_drawn_39 (fun a2 => ?_)
      refine JO.iinc dX9_drawn_42 rfl 1 (by decide) rfl rfl ?_
      refine JO.goto 20 dX9_drawn_45 rfl ?_
      exact (ih _ _ _).jump (lvLe.so rfl (lvLe.so rfl (lvLe.so rfl (lvLe.nil))))
theorem J_cP_drawn {X : JX} {ad : Nat → Nat} (p1 : Int32) (σ : CS) : JO X M_cP_drawn (QF X eI (wC ad (xZ X))) 0 [some (.ref (ad 0)), some (.int p1), none] [] (wsC ad (xZ X) σ) (cP_drawn p1 σ) := by
  unfold cP_drawn
  refine JO.iloadn dX9_drawn_0 rfl ?_
  refine JO.ic 1 dX9_drawn_1 (by decide) ?_
  refine JO.icmp_lt 11 dX9_drawn_2 rfl ?_ ?_
  · exact (J_cP_drawn_b11 _).jump (lvLe.so rfl (lvLe.no (lvLe.no (lvLe.nil))))
  · refine JO.iloadn dX9_drawn_5 rfl ?_
    refine JO.bip 20 dX9_drawn_6 (by decide) ?_
    refine JO.icmp_le 18 dX9_drawn_8 rfl ?_ ?_
    · refine JO.ic 0 dX9_drawn_18 (by decide) ?_
      refine JO.istoren dX9_drawn_19 rfl rfl ?_
      exact (J_cP_drawn_l20 4096 _ _ _).jump (lvLe.so rfl (lvLe.so rfl (lvLe.so rfl (lvLe.nil))))
    · exact (J_cP_drawn_b11 _).jump (lvLe.so rfl (lvLe.no (lvLe.no (lvLe.nil))))
theorem C_cP_drawn {ad : Nat → Nat} {Z : ZT} (p1 : Int32) (σ : CS) : CO yX9_drawn M_cP_drawn eI Z (wC ad Z) [.ref (ad 0), .int p1] (wsC ad Z σ) (cP_drawn p1 σ) :=
  CO.of rfl rfl (Nat.le_of_ble_eq_true rfl) 1 (fun X hZ => by subst hZ; exact J_cP_drawn _ σ)
theorem K_cP_drawn : Kv yX9_drawn M_cP_drawn RX9 1 := ⟨rfl, k4_82, k4_83, k1_1, k4_84, by decide +kernel⟩
abbrev M_cP_seed : JM := (cX9_seed, 3, RX9, (some .int), 0, 0)
def cP_seed (p1 : Int32) (σ : CS) : Option (Int32 × CS) :=
  some (cI σ 3 8, tI σ 3 8 p1)
theorem J_cP_seed {X : JX} {ad : Nat → Nat} (p1 : Int32) (σ : CS) : JO X M_cP_seed (QF X eI (wC ad (xZ X))) 0 [some (.ref (ad 0)), some (.int p1), none] [] (wsC ad (xZ X) σ) (cP_seed p1 σ) := by
  unfold cP_seed
  refine JO.aloadn dX9_seed_0 rfl ?_
  refine gP2 k2_41 dX9_seed_1 ?_
  refine gS8 isS3 k1_59 dX9_seed_4 ?_
  refine JO.istoren dX9_seed_7 rfl rfl ?_
  refine JO.aloadn dX9_seed_8 rfl ?_
  refine gP2 k2_41 dX9_seed_9 ?_
  refine JO.iloadn dX9_seed_12 rfl ?_
  refine pS8 isS3 k1_59 dX9_seed_13 ?_
  refine JO.iloadn dX9_seed_16 rfl ?_
  exact JO.iret dX9_seed_17 rfl rfl rfl
theorem C_cP_seed {ad : Nat → Nat} {Z : ZT} (p1 : Int32) (σ : CS) : CO yX9_seed M_cP_seed eI Z (wC ad Z) [.ref (ad 0), .int p1] (wsC ad Z σ) (cP_seed p1 σ) :=
  CO.of rfl rfl (Nat.le_of_ble_eq_true rfl) 1 (fun X hZ => by subst hZ; exact J_cP_seed _ σ)
theorem K_cP_seed : Kv yX9_seed M_cP_seed RX9 1 := ⟨rfl, k4_91, k4_92, k1_1, k4_93, by decide +kernel⟩
abbrev M_cP_image : JM := (cX9_image, 1, RX9, (some .int), 2, 69)
def cP_image (σ : CS) : Option (Int32 × CS) :=
  (cS_takeFrom 6 3 σ).bind fun a1 =>
  some (1, tZ a1.2 0 4 true)
theorem J_cP_image {X : JX} {ad : Nat → Nat} (σ : CS) : JO X M_cP_image (QF X eI (wC ad (xZ X))) 0 [some (.ref (ad 0))] [] (wsC ad (xZ X) σ) (cP_image σ) := by
  unfold cP_image
  refine JO.aloadn dX9_image_0 rfl ?_
  refine gP3 k2_42 dX9_image_1 ?_
  refine JO.aloadn dX9_image_4 rfl ?_
  refine gP2 k2_41 dX9_image_5 ?_
  refine JO.cvv (C_cS_takeFrom isS6 isS3 _) (rcvS isS6) K_cS_takeFrom k3_123 rfl rfl rfl (Nat.le_of_ble_eq_true rfl) dX9_image_8 (fun a1 => ?_)
  refine JO.aloadn dX9_image_11 rfl ?_
  refine JO.ic 1 dX9_image_12 (by decide) ?_
  refine pP4 (v := true) k2_43 dX9_image_13 ?_
  refine JO.ic 1 dX9_image_16 (by decide) ?_
  exact JO.iret dX9_image_17 rfl rfl rfl
theorem C_cP_image {ad : Nat → Nat} {Z : ZT} (σ : CS) : CO yX9_image M_cP_image eI Z (wC ad Z) [.ref (ad 0)] (wsC ad Z σ) (cP_image σ) :=
  CO.of rfl rfl (Nat.le_of_ble_eq_true rfl) 0 (fun X hZ => by subst hZ; exact J_cP_image σ)
theorem K_cP_image : Kv yX9_image M_cP_image RX9 0 := ⟨rfl, k4_95, k4_96, k1_1, k4_97, by decide +kernel⟩
abbrev M_cP_restore : JM := (cX9_restore, 1, RX9, (some .int), 2, 69)
def cP_restore (σ : CS) : Option (Int32 × CS) :=
  if cZ σ 0 4 = true then (
    (cS_takeFrom 3 6 σ).bind fun a1 =>
    (cP_forgetRuns a1.2).bind fun a2 =>
    some (1, a2.2))
  else (
    (cP_refuse (-6) σ).bind fun a3 =>
    some (a3.1, a3.2))
theorem J_cP_restore {X : JX} {ad : Nat → Nat} (σ : CS) : JO X M_cP_restore (QF X eI (wC ad (xZ X))) 0 [some (.ref (ad 0))] [] (wsC ad (xZ X) σ) (cP_restore σ) := by
  unfold cP_restore
  refine JO.aloadn dX9_restore_0 rfl ?_
  refine gP4 k2_43 dX9_restore_1 ?_
  refine JO.zne 14 dX9_restore_4 rfl ?_ ?_
  · refine JO.aloadn dX9_restore_14 rfl ?_
    refine gP2 k2_41 dX9_restore_15 ?_
    refine JO.aloadn dX9_restore_18 rfl ?_
    refine gP3 k2_42 dX9_restore_19 ?_
    refine JO.cvv (C_cS_takeFrom isS3 isS6 _) (rcvS isS3) K_cS_takeFrom k3_123 rfl rfl rfl (Nat.le_of_ble_eq_true rfl) dX9_restore_22 (fun a1 => ?_)
    refine JO.aloadn dX9_restore_25 rfl ?_
    refine JO.cvv (C_cP_forgetRuns _) rcvP K_cP_forgetRuns k4_17 rfl rfl rfl (Nat.le_of_ble_eq_true rfl) dX9_restore_26 (fun a2 => ?_)
    refine JO.ic 1 dX9_restore_29 (by decide) ?_
    exact JO.iret dX9_restore_30 rfl rfl rfl
  · refine JO.aloadn dX9_restore_7 rfl ?_
    refine JO.bip (-6) dX9_restore_8 (by decide) ?_
    refine JO.cvi (C_cP_refuse _ _) rcvP K_cP_refuse k2_86 rfl rfl rfl (Nat.le_of_ble_eq_true rfl) dX9_restore_10 (fun a3 => ?_)
    exact JO.iret dX9_restore_13 rfl rfl rfl
theorem C_cP_restore {ad : Nat → Nat} {Z : ZT} (σ : CS) : CO yX9_restore M_cP_restore eI Z (wC ad Z) [.ref (ad 0)] (wsC ad Z σ) (cP_restore σ) :=
  CO.of rfl rfl (Nat.le_of_ble_eq_true rfl) 0 (fun X hZ => by subst hZ; exact J_cP_restore σ)
theorem K_cP_restore : Kv yX9_restore M_cP_restore RX9 0 := ⟨rfl, k4_99, k4_100, k1_1, k4_101, by decide +kernel⟩
abbrev M_cP_isSite : JM := (cX9_isSite, 2, RX9, (some .boolean), 0, 0)
def cP_isSite (p1 : Int32) (σ : CS) : Option (Bool × CS) :=
  if p1 < 0 then (
    some (false, σ))
  else (
    if cI σ 3 0 < p1 then (
      some (false, σ))
    else (
      some (true, σ)))
theorem J_cP_isSite {X : JX} {ad : Nat → Nat} (p1 : Int32) (σ : CS) : JO X M_cP_isSite (QF X eZ (wC ad (xZ X))) 0 [some (.ref (ad 0)), some (.int p1)] [] (wsC ad (xZ X) σ) (cP_isSite p1 σ) := by
  unfold cP_isSite
  refine JO.iloadn dX9_isSite_0 rfl ?_
  refine JO.if_lt 19 dX9_isSite_1 rfl ?_ ?_
  · refine JO.ic 0 dX9_isSite_19 (by decide) ?_
    exact JO.zret (b := false) dX9_isSite_20 rfl rfl rfl
  · refine JO.iloadn dX9_isSite_4 rfl ?_
    refine JO.aloadn dX9_isSite_5 rfl ?_
    refine gP2 k2_41 dX9_isSite_6 ?_
    refine gS0 isS3 k1_42 dX9_isSite_9 ?_
    refine JO.icmp_gt 19 dX9_isSite_12 rfl ?_ ?_
    · refine JO.ic 0 dX9_isSite_19 (by decide) ?_
      exact JO.zret (b := false) dX9_isSite_20 rfl rfl rfl
    · refine JO.ic 1 dX9_isSite_15 (by decide) ?_
      refine JO.goto 20 dX9_isSite_16 rfl ?_
      exact JO.zret (b := true) dX9_isSite_20 rfl rfl rfl
theorem C_cP_isSite {ad : Nat → Nat} {Z : ZT} (p1 : Int32) (σ : CS) : CO yX9_isSite M_cP_isSite eZ Z (wC ad Z) [.ref (ad 0), .int p1] (wsC ad Z σ) (cP_isSite p1 σ) :=
  CO.of rfl rfl (Nat.le_of_ble_eq_true rfl) 0 (fun X hZ => by subst hZ; exact J_cP_isSite _ σ)
theorem K_cP_isSite : Kv yX9_isSite M_cP_isSite RX9 1 := ⟨rfl, k4_112, s3_1, k1_1, k4_113, by decide +kernel⟩
abbrev M_cP_momentLack : JM := (cX9_momentLack, 3, RX9, (some .int), 1, 21)
def cP_momentLack (p1 : Int32) (p2 : Int32) (σ : CS) : Option (Int32 × CS) :=
  (cP_isSite p2 σ).bind fun a1 =>
  if a1.1 = true then (
    (cP_isTick p1 a1.2).bind fun a2 =>
    if a2.1 = true then (
      some (0, a2.2))
    else (
      some ((-6), a2.2)))
  else (
    some ((-1), a1.2))
theorem J_cP_momentLack {X : JX} {ad : Nat → Nat} (p1 : Int32) (p2 : Int32) (σ : CS) : JO X M_cP_momentLack (QF X eI (wC ad (xZ X))) 0 [some (.ref (ad 0)), some (.int p1), some (.int p2)] [] (wsC ad (xZ X) σ) (cP_momentLack p1 p2 σ) := by
  unfold cP_momentLack
  refine JO.aloadn dX9_momentLack_0 rfl ?_
  refine JO.iloadn dX9_momentLack_1 rfl ?_
  refine JO.cvz (C_cP_isSite _ _) rcvP K_cP_isSite k4_110 rfl rfl rfl (Nat.le_of_ble_eq_true rfl) dX9_momentLack_2 (fun a1 => ?_)
  refine JO.zne 10 dX9_momentLack_5 rfl ?_ ?_
  · refine JO.iloadn dX9_momentLack_10 rfl ?_
    refine JO.csz (C_cP_isTick _ _) K_cP_isTick k4_63 rfl rfl rfl (Nat.le_of_ble_eq_true rfl) dX9_momentLack_11 (fun a2 => ?_)
    refine JO.zeq 21 dX9_momentLack_14 rfl ?_ ?_
    · refine JO.bip (-6) dX9_momentLack_21 (by decide) ?_
      exact JO.iret dX9_momentLack_23 rfl rfl rfl
    · refine JO.ic 0 dX9_momentLack_17 (by decide) ?_
      refine JO.goto 23 dX9_momentLack_18 rfl ?_
      exact JO.iret dX9_momentLack_23 rfl rfl rfl
  · refine JO.ic (-1) dX9_momentLack_8 (by decide) ?_
    exact JO.iret dX9_momentLack_9 rfl rfl rfl
theorem C_cP_momentLack {ad : Nat → Nat} {Z : ZT} (p1 : Int32) (p2 : Int32) (σ : CS) : CO yX9_momentLack M_cP_momentLack eI Z (wC ad Z) [.ref (ad 0), .int p1, .int p2] (wsC ad Z σ) (cP_momentLack p1 p2 σ) :=
  CO.of rfl rfl (Nat.le_of_ble_eq_true rfl) 0 (fun X hZ => by subst hZ; exact J_cP_momentLack _ _ σ)
theorem K_cP_momentLack : Kv yX9_momentLack M_cP_momentLack RX9 2 := ⟨rfl, k4_108, s3_0, k1_1, k4_109, by decide +kernel⟩
abbrev M_cP_state : JM := (cX9_state, 4, RX9, (some .int), 6, 139)
def cP_state (p1 : Int32) (p2 : Int32) (σ : CS) : Option (Int32 × CS) :=
  (cP_momentLack p1 p2 σ).bind fun a1 =>
  if a1.1 = 0 then (
    (cP_current a1.2).bind fun a2 =>
    (cR_stateAt 14 p1 p2 a2.2).bind fun a3 =>
    some (a3.1, a3.2))
  else (
    (cP_refuse a1.1 a1.2).bind fun a4 =>
    some (a4.1, a4.2))
theorem J_cP_state {X : JX} {ad : Nat → Nat} (p1 : Int32) (p2 : Int32) (σ : CS) : JO X M_cP_state (QF X eI (wC ad (xZ X))) 0 [some (.ref (ad 0)), some (.int p1), some (.int p2), none] [] (wsC ad (xZ X) σ) (cP_state p1 p2 σ) := by
  unfold cP_state
  refine JO.aloadn dX9_state_0 rfl ?_
  refine JO.iloadn dX9_state_1 rfl ?_
  refine JO.iloadn dX9_state_2 rfl ?_
  refine JO.cvi (C_cP_momentLack _ _ _) rcvP K_cP_momentLack k4_106 rfl rfl rfl (Nat.le_of_ble_eq_true rfl) dX9_state_3 (fun a1 => ?_)
  refine JO.istoren dX9_state_6 rfl rfl ?_
  refine JO.iloadn dX9_state_7 rfl ?_
  refine JO.if_eq 19 dX9_state_8 rfl ?_ ?_
  · refine JO.aloadn dX9_state_19 rfl ?_
    refine JO.cvn (C_cP_current _) rcvP K_cP_current k2_153 rfl rfl rfl (Nat.le_of_ble_eq_true rfl) dX9_state_20 (fun a2 => ?_)
    refine JO.iloadn dX9_state_23 rfl ?_
    refine JO.iloadn dX9_state_24 rfl ?_
    refine JO.cvi (C_cR_stateAt isR14 _ _ _) (rcvR isR14) K_cR_stateAt k4_114 rfl rfl rfl (Nat.le_of_ble_eq_true rfl) dX9_state_25 (fun a3 => ?_)
    exact JO.iret dX9_state_28 rfl rfl rfl
  · refine JO.aloadn dX9_state_11 rfl ?_
    refine JO.iloadn dX9_state_12 rfl ?_
    refine JO.cvi (C_cP_refuse _ _) rcvP K_cP_refuse k2_86 rfl rfl rfl (Nat.le_of_ble_eq_true rfl) dX9_state_13 (fun a4 => ?_)
    refine JO.goto 28 dX9_state_16 rfl ?_
    exact JO.iret dX9_state_28 rfl rfl rfl
theorem C_cP_state {ad : Nat → Nat} {Z : ZT} (p1 : Int32) (p2 : Int32) (σ : CS) : CO yX9_state M_cP_state eI Z (wC ad Z) [.ref (ad 0), .int p1, .int p2] (wsC ad Z σ) (cP_state p1 p2 σ) :=
  CO.of rfl rfl (Nat.le_of_ble_eq_true rfl) 1 (fun X hZ => by subst hZ; exact J_cP_state _ _ σ)
theorem K_cP_state : Kv yX9_state M_cP_state RX9 2 := ⟨rfl, k4_103, k4_104, k1_1, k4_105, by decide +kernel⟩
abbrev M_cP_decided : JM := (cX9_decided, 4, RX9, (some .int), 6, 139)
def cP_decided (p1 : Int32) (p2 : Int32) (σ : CS) : Option (Int32 × CS) :=
  (cP_momentLack p1 p2 σ).bind fun a1 =>
  if a1.1 = 0 then (
    (cP_current a1.2).bind fun a2 =>
    (cR_decisionAt 14 p1 p2 a2.2).bind fun a3 =>
    some (a3.1, a3.2))
  else (
    (cP_refuse a1.1 a1.2).bind fun a4 =>
    some (a4.1, a4.2))
theorem J_cP_decided {X : JX} {ad : Nat → Nat} (p1 : Int32) (p2 : Int32) (σ : CS) : JO X M_cP_decided (QF X eI (wC ad (xZ X))) 0 [some (.ref (ad 0)), some (.int p1), some (.int p2), none] [] (wsC ad (xZ X) σ) (cP_decided p1 p2 σ) := by
  unfold cP_decided
  refine JO.aloadn dX9_decided_0 rfl ?_
  refine JO.iloadn dX9_decided_1 rfl ?_
  refine JO.iloadn dX9_decided_2 rfl ?_
  refine JO.cvi (C_cP_momentLack _ _ _) rcvP K_cP_momentLack k4_106 rfl rfl rfl (Nat.le_of_ble_eq_true rfl) dX9_decided_3 (fun a1 => ?_)
  refine JO.istoren dX9_decided_6 rfl rfl ?_
  refine JO.iloadn dX9_decided_7 rfl ?_
  refine JO.if_eq 19 dX9_decided_8 rfl ?_ ?_
  · refine JO.aloadn dX9_decided_19 rfl ?_
    refine JO.cvn (C_cP_current _) rcvP K_cP_current k2_153 rfl rfl rfl (Nat.le_of_ble_eq_true rfl) dX9_decided_20 (fun a2 => ?_)
    refine JO.iloadn dX9_decided_23 rfl ?_
    refine JO.iloadn dX9_decided_24 rfl ?_
    refine JO.cvi (C_cR_decisionAt isR14 _ _ _) (rcvR isR14) K_cR_decisionAt k4_129 rfl rfl rfl (Nat.le_of_ble_eq_true rfl) dX9_decided_25 (fun a3 => ?_)
    exact JO.iret dX9_decided_28 rfl rfl rfl
  · refine JO.aloadn dX9_decided_11 rfl ?_
    refine JO.iloadn dX9_decided_12 rfl ?_
    refine JO.cvi (C_cP_refuse _ _) rcvP K_cP_refuse k2_86 rfl rfl rfl (Nat.le_of_ble_eq_true rfl) dX9_decided_13 (fun a4 => ?_)
    refine JO.goto 28 dX9_decided_16 rfl ?_
    exact JO.iret dX9_decided_28 rfl rfl rfl
theorem C_cP_decided {ad : Nat → Nat} {Z : ZT} (p1 : Int32) (p2 : Int32) (σ : CS) : CO yX9_decided M_cP_decided eI Z (wC ad Z) [.ref (ad 0), .int p1, .int p2] (wsC ad Z σ) (cP_decided p1 p2 σ) :=
  CO.of rfl rfl (Nat.le_of_ble_eq_true rfl) 1 (fun X hZ => by subst hZ; exact J_cP_decided _ _ σ)
theorem K_cP_decided : Kv yX9_decided M_cP_decided RX9 2 := ⟨rfl, k4_126, k4_127, k1_1, k4_128, by decide +kernel⟩
abbrev M_cP_records : JM := (cX9_records, 4, RX9, (some .int), 6, 139)
def cP_records (p1 : Int32) (p2 : Int32) (σ : CS) : Option (Int32 × CS) :=
  (cP_momentLack p1 p2 σ).bind fun a1 =>
  if a1.1 = 0 then (
    (cP_current a1.2).bind fun a2 =>
    (cR_lengthAt 14 p1 p2 a2.2).bind fun a3 =>
    some (a3.1, a3.2))
  else (
    (cP_refuse a1.1 a1.2).bind fun a4 =>
    some (a4.1, a4.2))
theorem J_cP_records {X : JX} {ad : Nat → Nat} (p1 : Int32) (p2 : Int32) (σ : CS) : JO X M_cP_records (QF X eI (wC ad (xZ X))) 0 [some (.ref (ad 0)), some (.int p1), some (.int p2), none] [] (wsC ad (xZ X) σ) (cP_records p1 p2 σ) := by
  unfold cP_records
  refine JO.aloadn dX9_records_0 rfl ?_
  refine JO.iloadn dX9_records_1 rfl ?_
  refine JO.iloadn dX9_records_2 rfl ?_
  refine JO.cvi (C_cP_momentLack _ _ _) rcvP K_cP_momentLack k4_106 rfl rfl rfl (Nat.le_of_ble_eq_true rfl) dX9_records_3 (fun a1 => ?_)
  refine JO.istoren dX9_records_6 rfl rfl ?_
  refine JO.iloadn dX9_records_7 rfl ?_
  refine JO.if_eq 19 dX9_records_8 rfl ?_ ?_
  · refine JO.aloadn dX9_records_19 rfl ?_
    refine JO.cvn (C_cP_current _) rcvP K_cP_current k2_153 rfl rfl rfl (Nat.le_of_ble_eq_true rfl) dX9_records_20 (fun a2 => ?_)
    refine JO.iloadn dX9_records_23 rfl ?_
    refine JO.iloadn dX9_records_24 rfl ?_
    refine JO.cvi (C_cR_lengthAt isR14 _ _ _) (rcvR isR14) K_cR_lengthAt k4_143 rfl rfl rfl (Nat.le_of_ble_eq_true rfl) dX9_records_25 (fun a3 => ?_)
    exact JO.iret dX9_records_28 rfl rfl rfl
  · refine JO.aloadn dX9_records_11 rfl ?_
    refine JO.iloadn dX9_records_12 rfl ?_
    refine JO.cvi (C_cP_refuse _ _) rcvP K_cP_refuse k2_86 rfl rfl rfl (Nat.le_of_ble_eq_true rfl) dX9_records_13 (fun a4 => ?_)
    refine JO.goto 28 dX9_records_16 rfl ?_
    exact JO.iret dX9_records_28 rfl rfl rfl
theorem C_cP_records {ad : Nat → Nat} {Z : ZT} (p1 : Int32) (p2 : Int32) (σ : CS) : CO yX9_records M_cP_records eI Z (wC ad Z) [.ref (ad 0), .int p1, .int p2] (wsC ad Z σ) (cP_records p1 p2 σ) :=
  CO.of rfl rfl (Nat.le_of_ble_eq_true rfl) 1 (fun X hZ => by subst hZ; exact J_cP_records _ _ σ)
theorem K_cP_records : Kv yX9_records M_cP_records RX9 2 := ⟨rfl, k4_140, k4_141, k1_1, k4_142, by decide +kernel⟩
abbrev M_cP_record : JM := (cX9_record, 4, RX9, (some .int), 6, 139)
def cP_record_b36 (σ : CS) : Option (Int32 × CS) :=
  (cP_refuse (-5) σ).bind fun a1 =>
  some (a1.1, a1.2)
def cP_record (p1 : Int32) (p2 : Int32) (σ : CS) : Option (Int32 × CS) :=
  (cP_isSite p1 σ).bind fun a1 =>
  if a1.1 = true then (
    (cP_current a1.2).bind fun a2 =>
    if inB p1 6 = true then
    if p2 < 0 then (
      cP_record_b36 a2.2)
    else (
      if p2 < cI a2.2 (14 + 2 + (ix p1)) 2 then (
        if inB p2 8 = true then
        some (cA a2.2 (14 + 8 + (ix p1)) (ix p2), a2.2)
        else none)
      else (
        cP_record_b36 a2.2))
    else none)
  else (
    (cP_refuse (-1) a1.2).bind fun a3 =>
    some (a3.1, a3.2))
theorem J_cP_record_b36 {X : JX} {ad : Nat → Nat} (σ : CS) : JO X M_cP_record (QF X eI (wC ad (xZ X))) 36 [some (.ref (ad 0)), none, none, none] [] (wsC ad (xZ X) σ) (cP_record_b36 σ) := by
  unfold cP_record_b36
  refine JO.aloadn dX9_record_36 rfl ?_
  refine JO.bip (-5) dX9_record_37 (by decide) ?_
  refine JO.cvi (C_cP_refuse _ _) rcvP K_cP_refuse k2_86 rfl rfl rfl (Nat.le_of_ble_eq_true rfl) dX9_record_39 (fun a1 => ?_)
  exact JO.iret dX9_record_42 rfl rfl rfl
theorem J_cP_record {X : JX} {ad : Nat → Nat} (p1 : Int32) (p2 : Int32) (σ : CS) : JO X M_cP_record (QF X eI (wC ad (xZ X))) 0 [some (.ref (ad 0)), some (.int p1), some (.int p2), none] [] (wsC ad (xZ X) σ) (cP_record p1 p2 σ) := by
  unfold cP_record
  refine JO.aloadn dX9_record_0 rfl ?_
  refine JO.iloadn dX9_record_1 rfl ?_
  refine JO.cvz (C_cP_isSite _ _) rcvP K_cP_isSite k4_110 rfl rfl rfl (Nat.le_of_ble_eq_true rfl) dX9_record_2 (fun a1 => ?_)
  refine JO.zne 14 dX9_record_5 rfl ?_ ?_
  · refine JO.aloadn dX9_record_14 rfl ?_
    refine JO.cvn (C_cP_current _) rcvP K_cP_current k2_153 rfl rfl rfl (Nat.le_of_ble_eq_true rfl) dX9_record_15 (fun a2 => ?_)
    refine gR2 isR14 k1_182 dX9_record_18 ?_
    refine JO.iloadn dX9_record_21 rfl ?_
    refine JO.aT isR14 dX9_record_22 (fun h21 => ?_)
    refine JO.astoren dX9_record_23 rfl rfl ?_
    refine JO.iloadn dX9_record_24 rfl ?_
    refine JO.if_lt 36 dX9_record_25 rfl ?_ ?_
    · exact (J_cP_record_b36 _).jump (lvLe.so rfl (lvLe.no (lvLe.no (lvLe.no (lvLe.nil)))))
    · refine JO.iloadn dX9_record_28 rfl ?_
      refine JO.aloadn dX9_record_29 rfl ?_
      refine gT2 (j := ix p1) isR14 h21 (Or.inl rfl) k1_130 dX9_record_30 ?_
      refine JO.icmp_lt 43 dX9_record_33 rfl ?_ ?_
      · refine JO.aloadn dX9_record_43 rfl ?_
        refine gT1 (j := ix p1) isR14 h21 (Or.inl rfl) k1_125 dX9_record_44 ?_
        refine JO.iloadn dX9_record_47 rfl ?_
        refine JO.aC (i_log isR14 (j := ix p1) h21) dX9_record_48 ?_
        exact JO.iret dX9_record_49 rfl rfl rfl
      · exact (J_cP_record_b36 _).jump (lvLe.so rfl (lvLe.no (lvLe.no (lvLe.no (lvLe.nil)))))
  · refine JO.aloadn dX9_record_8 rfl ?_
    refine JO.ic (-1) dX9_record_9 (by decide) ?_
    refine JO.cvi (C_cP_refuse _ _) rcvP K_cP_refuse k2_86 rfl rfl rfl (Nat.le_of_ble_eq_true rfl) dX9_record_10 (fun a3 => ?_)
    exact JO.iret dX9_record_13 rfl rfl rfl
theorem C_cP_record {ad : Nat → Nat} {Z : ZT} (p1 : Int32) (p2 : Int32) (σ : CS) : CO yX9_record M_cP_record eI Z (wC ad Z) [.ref (ad 0), .int p1, .int p2] (wsC ad Z σ) (cP_record p1 p2 σ) :=
  CO.of rfl rfl (Nat.le_of_ble_eq_true rfl) 1 (fun X hZ => by subst hZ; exact J_cP_record _ _ σ)
theorem K_cP_record : Kv yX9_record M_cP_record RX9 2 := ⟨rfl, k4_145, k4_146, k1_1, k4_147, by decide +kernel⟩
abbrev M_cP_sent : JM := (cX9_sent, 2, RX9, (some .int), 6, 139)
def cP_sent (p1 : Int32) (σ : CS) : Option (Int32 × CS) :=
  (cP_isTick p1 σ).bind fun a1 =>
  if a1.1 = true then (
    (cP_current a1.2).bind fun a3 =>
    (cR_sentAt 14 p1 a3.2).bind fun a4 =>
    some (a4.1, a4.2))
  else (
    (cP_refuse (-6) a1.2).bind fun a2 =>
    some (a2.1, a2.2))
theorem J_cP_sent {X : JX} {ad : Nat → Nat} (p1 : Int32) (σ : CS) : JO X M_cP_sent (QF X eI (wC ad (xZ X))) 0 [some (.ref (ad 0)), some (.int p1)] [] (wsC ad (xZ X) σ) (cP_sent p1 σ) := by
  unfold cP_sent
  refine JO.iloadn dX9_sent_0 rfl ?_
  refine JO.csz (C_cP_isTick _ _) K_cP_isTick k4_63 rfl rfl rfl (Nat.le_of_ble_eq_true rfl) dX9_sent_1 (fun a1 => ?_)
  refine JO.zeq 18 dX9_sent_4 rfl ?_ ?_
  · refine JO.aloadn dX9_sent_18 rfl ?_
    refine JO.bip (-6) dX9_sent_19 (by decide) ?_
    refine JO.cvi (C_cP_refuse _ _) rcvP K_cP_refuse k2_86 rfl rfl rfl (Nat.le_of_ble_eq_true rfl) dX9_sent_21 (fun a2 => ?_)
    exact JO.iret dX9_sent_24 rfl rfl rfl
  · refine JO.aloadn dX9_sent_7 rfl ?_
    refine JO.cvn (C_cP_current _) rcvP K_cP_current k2_153 rfl rfl rfl (Nat.le_of_ble_eq_true rfl) dX9_sent_8 (fun a3 => ?_)
    refine JO.iloadn dX9_sent_11 rfl ?_
    refine JO.cvi (C_cR_sentAt isR14 _ _) (rcvR isR14) K_cR_sentAt k4_152 rfl rfl rfl (Nat.le_of_ble_eq_true rfl) dX9_sent_12 (fun a4 => ?_)
    refine JO.goto 24 dX9_sent_15 rfl ?_
    exact JO.iret dX9_sent_24 rfl rfl rfl
theorem C_cP_sent {ad : Nat → Nat} {Z : ZT} (p1 : Int32) (σ : CS) : CO yX9_sent M_cP_sent eI Z (wC ad Z) [.ref (ad 0), .int p1] (wsC ad Z σ) (cP_sent p1 σ) :=
  CO.of rfl rfl (Nat.le_of_ble_eq_true rfl) 0 (fun X hZ => by subst hZ; exact J_cP_sent _ σ)
theorem K_cP_sent : Kv yX9_sent M_cP_sent RX9 1 := ⟨rfl, k4_149, k4_150, k1_1, k4_151, by decide +kernel⟩
abbrev M_cP_message : JM := (cX9_message, 3, RX9, (some .int), 6, 139)
def cP_message (p1 : Int32) (p2 : Int32) (σ : CS) : Option (Int32 × CS) :=
  (cP_current σ).bind fun a1 =>
  (cR_wasSent 14 p1 a1.2).bind fun a2 =>
  if a2.1 = true then (
    sw p2 [(0, 52,
      if inB p1 200 = true then
      some (cA a2.2 (14 + 14) (ix p1), a2.2)
      else none), (1, 62,
      if inB p1 200 = true then
      some (cA a2.2 (14 + 15) (ix p1), a2.2)
      else none), (2, 72,
      if inB p1 200 = true then
      some (cA a2.2 (14 + 16) (ix p1), a2.2)
      else none), (3, 82,
      if inB p1 200 = true then
      some (cA a2.2 (14 + 17) (ix p1), a2.2)
      else none), (4, 92,
      if inB p1 200 = true then
      some (cA a2.2 (14 + 18) (ix p1), a2.2)
      else none)] (
      (cP_refuse (-5) a2.2).bind fun a3 =>
      some (a3.1, a3.2)))
  else (
    (cP_refuse (-5) a2.2).bind fun a4 =>
    some (a4.1, a4.2))
theorem J_cP_message {X : JX} {ad : Nat → Nat} (p1 : Int32) (p2 : Int32) (σ : CS) : JO X M_cP_message (QF X eI (wC ad (xZ X))) 0 [some (.ref (ad 0)), some (.int p1), some (.int p2)] [] (wsC ad (xZ X) σ) (cP_message p1 p2 σ) := by
  unfold cP_message
  refine JO.aloadn dX9_message_0 rfl ?_
  refine JO.cvn (C_cP_current _) rcvP K_cP_current k2_153 rfl rfl rfl (Nat.le_of_ble_eq_true rfl) dX9_message_1 (fun a1 => ?_)
  refine JO.iloadn dX9_message_4 rfl ?_
  refine JO.cvz (C_cR_wasSent isR14 _ _) (rcvR isR14) K_cR_wasSent k3_90 rfl rfl rfl (Nat.le_of_ble_eq_true rfl) dX9_message_5 (fun a2 => ?_)
  refine JO.zne 18 dX9_message_8 rfl ?_ ?_
  · refine JO.iloadn dX9_message_18 rfl ?_
    refine JO.tsw [(0, 52, _), (1, 62, _), (2, 72, _), (3, 82, _), (4, 92, _)] 102 [(0, 52), (1, 62), (2, 72), (3, 82), (4, 92)] dX9_message_19 rfl (by decide) rfl (by decide) (JO.swCons ?_ (JO.swCons ?_ (JO.swCons ?_ (JO.swCons ?_ (JO.swCons ?_ (JO.swNil)))))) ?_
    · refine JO.aloadn dX9_message_52 rfl ?_
      refine gP7 k2_46 dX9_message_53 ?_
      refine gR9 isR14 k1_196 dX9_message_56 ?_
      refine JO.iloadn dX9_message_59 rfl ?_
      refine JO.aC (i_r14 isR14) dX9_message_60 ?_
      exact JO.iret dX9_message_61 rfl rfl rfl
    · refine JO.aloadn dX9_message_62 rfl ?_
      refine gP7 k2_46 dX9_message_63 ?_
      refine gR10 isR14 k1_198 dX9_message_66 ?_
      refine JO.iloadn dX9_message_69 rfl ?_
      refine JO.aC (i_r15 isR14) dX9_message_70 ?_
      exact JO.iret dX9_message_71 rfl rfl rfl
    · refine JO.aloadn dX9_message_72 rfl ?_
      refine gP7 k2_46 dX9_message_73 ?_
      refine gR11 isR14 k1_200 dX9_message_76 ?_
      refine JO.iloadn dX9_message_79 rfl ?_
      refine JO.aC (i_r16 isR14) dX9_message_80 ?_
      exact JO.iret dX9_message_81 rfl rfl rfl
    · refine JO.aloadn dX9_message_82 rfl ?_
      refine gP7 k2_46 dX9_message_83 ?_
      refine gR12 isR14 k1_202 dX9_message_86 ?_
      refine JO.iloadn dX9_message_89 rfl ?_
      refine JO.aC (i_r17 isR14) dX9_message_90 ?_
      exact JO.iret dX9_message_91 rfl rfl rfl
    · refine JO.aloadn dX9_message_92 rfl ?_
      refine gP7 k2_46 dX9_message_93 ?_
      refine gR13 isR14 k1_204 dX9_message_96 ?_
      refine JO.iloadn dX9_message_99 rfl ?_
      refine JO.aC (i_r18 isR14) dX9_message_100 ?_
      exact JO.iret dX9_message_101 rfl rfl rfl
    · refine JO.aloadn dX9_message_102 rfl ?_
      refine JO.bip (-5) dX9_message_103 (by decide) ?_
      refine JO.cvi (C_cP_refuse _ _) rcvP K_cP_refuse k2_86 rfl rfl rfl (Nat.le_of_ble_eq_true rfl) dX9_message_105 (fun a3 => ?_)
      exact JO.iret dX9_message_108 rfl rfl rfl
  · refine JO.aloadn dX9_message_11 rfl ?_
    refine JO.bip (-5) dX9_message_12 (by decide) ?_
    refine JO.cvi (C_cP_refuse _ _) rcvP K_cP_refuse k2_86 rfl rfl rfl (Nat.le_of_ble_eq_true rfl) dX9_message_14 (fun a4 => ?_)
    exact JO.iret dX9_message_17 rfl rfl rfl
theorem C_cP_message {ad : Nat → Nat} {Z : ZT} (p1 : Int32) (p2 : Int32) (σ : CS) : CO yX9_message M_cP_message eI Z (wC ad Z) [.ref (ad 0), .int p1, .int p2] (wsC ad Z σ) (cP_message p1 p2 σ) :=
  CO.of rfl rfl (Nat.le_of_ble_eq_true rfl) 0 (fun X hZ => by subst hZ; exact J_cP_message _ _ σ)
theorem K_cP_message : Kv yX9_message M_cP_message RX9 2 := ⟨rfl, k4_157, k4_158, k1_1, k4_159, by decide +kernel⟩
abbrev M_cP_alike : JM := (cX9_alike, 2, RX9, (some .int), 6, 139)
def cP_alike (p1 : Int32) (σ : CS) : Option (Int32 × CS) :=
  (cP_isTick p1 σ).bind fun a1 =>
  if a1.1 = true then (
    (cP_current a1.2).bind fun a2 =>
    (cR_isAlikeAt 14 p1 a2.2).bind fun a3 =>
    if a3.1 = true then (
      some (1, a3.2))
    else (
      some (0, a3.2)))
  else (
    (cP_refuse (-6) a1.2).bind fun a4 =>
    some (a4.1, a4.2))
theorem J_cP_alike {X : JX} {ad : Nat → Nat} (p1 : Int32) (σ : CS) : JO X M_cP_alike (QF X eI (wC ad (xZ X))) 0 [some (.ref (ad 0)), some (.int p1)] [] (wsC ad (xZ X) σ) (cP_alike p1 σ) := by
  unfold cP_alike
  refine JO.iloadn dX9_alike_0 rfl ?_
  refine JO.csz (C_cP_isTick _ _) K_cP_isTick k4_63 rfl rfl rfl (Nat.le_of_ble_eq_true rfl) dX9_alike_1 (fun a1 => ?_)
  refine JO.zne 14 dX9_alike_4 rfl ?_ ?_
  · refine JO.aloadn dX9_alike_14 rfl ?_
    refine JO.cvn (C_cP_current _) rcvP K_cP_current k2_153 rfl rfl rfl (Nat.le_of_ble_eq_true rfl) dX9_alike_15 (fun a2 => ?_)
    refine JO.iloadn dX9_alike_18 rfl ?_
    refine JO.cvz (C_cR_isAlikeAt isR14 _ _) (rcvR isR14) K_cR_isAlikeAt k4_164 rfl rfl rfl (Nat.le_of_ble_eq_true rfl) dX9_alike_19 (fun a3 => ?_)
    refine JO.zeq 29 dX9_alike_22 rfl ?_ ?_
    · refine JO.ic 0 dX9_alike_29 (by decide) ?_
      exact JO.iret dX9_alike_30 rfl rfl rfl
    · refine JO.ic 1 dX9_alike_25 (by decide) ?_
      refine JO.goto 30 dX9_alike_26 rfl ?_
      exact JO.iret dX9_alike_30 rfl rfl rfl
  · refine JO.aloadn dX9_alike_7 rfl ?_
    refine JO.bip (-6) dX9_alike_8 (by decide) ?_
    refine JO.cvi (C_cP_refuse _ _) rcvP K_cP_refuse k2_86 rfl rfl rfl (Nat.le_of_ble_eq_true rfl) dX9_alike_10 (fun a4 => ?_)
    exact JO.iret dX9_alike_13 rfl rfl rfl
theorem C_cP_alike {ad : Nat → Nat} {Z : ZT} (p1 : Int32) (σ : CS) : CO yX9_alike M_cP_alike eI Z (wC ad Z) [.ref (ad 0), .int p1] (wsC ad Z σ) (cP_alike p1 σ) :=
  CO.of rfl rfl (Nat.le_of_ble_eq_true rfl) 0 (fun X hZ => by subst hZ; exact J_cP_alike _ σ)
theorem K_cP_alike : Kv yX9_alike M_cP_alike RX9 1 := ⟨rfl, k4_161, k4_162, k1_1, k4_163, by decide +kernel⟩
abbrev M_cP_blocked : JM := (cX9_blocked, 1, RX9, (some .int), 6, 139)
def cP_blocked (σ : CS) : Option (Int32 × CS) :=
  (cP_current σ).bind fun a1 =>
  (cR_whoIsBlocked 14 a1.2).bind fun a2 =>
  some (a2.1, a2.2)
theorem J_cP_blocked {X : JX} {ad : Nat → Nat} (σ : CS) : JO X M_cP_blocked (QF X eI (wC ad (xZ X))) 0 [some (.ref (ad 0))] [] (wsC ad (xZ X) σ) (cP_blocked σ) := by
  unfold cP_blocked
  refine JO.aloadn dX9_blocked_0 rfl ?_
  refine JO.cvn (C_cP_current _) rcvP K_cP_current k2_153 rfl rfl rfl (Nat.le_of_ble_eq_true rfl) dX9_blocked_1 (fun a1 => ?_)
  refine JO.cvi (C_cR_whoIsBlocked isR14 _) (rcvR isR14) K_cR_whoIsBlocked k4_173 rfl rfl rfl (Nat.le_of_ble_eq_true rfl) dX9_blocked_4 (fun a2 => ?_)
  exact JO.iret dX9_blocked_7 rfl rfl rfl
theorem C_cP_blocked {ad : Nat → Nat} {Z : ZT} (σ : CS) : CO yX9_blocked M_cP_blocked eI Z (wC ad Z) [.ref (ad 0)] (wsC ad Z σ) (cP_blocked σ) :=
  CO.of rfl rfl (Nat.le_of_ble_eq_true rfl) 0 (fun X hZ => by subst hZ; exact J_cP_blocked σ)
theorem K_cP_blocked : Kv yX9_blocked M_cP_blocked RX9 0 := ⟨rfl, k4_170, k4_171, k1_1, k4_172, by decide +kernel⟩
abbrev M_cP_quiet : JM := (cX9_quiet, 1, RX9, (some .int), 6, 139)
def cP_quiet (σ : CS) : Option (Int32 × CS) :=
  (cP_current σ).bind fun a1 =>
  (cR_quietTick 14 a1.2).bind fun a2 =>
  some (a2.1, a2.2)
theorem J_cP_quiet {X : JX} {ad : Nat → Nat} (σ : CS) : JO X M_cP_quiet (QF X eI (wC ad (xZ X))) 0 [some (.ref (ad 0))] [] (wsC ad (xZ X) σ) (cP_quiet σ) := by
  unfold cP_quiet
  refine JO.aloadn dX9_quiet_0 rfl ?_
  refine JO.cvn (C_cP_current _) rcvP K_cP_current k2_153 rfl rfl rfl (Nat.le_of_ble_eq_true rfl) dX9_quiet_1 (fun a1 => ?_)
  refine JO.cvi (C_cR_quietTick isR14 _) (rcvR isR14) K_cR_quietTick k4_181 rfl rfl rfl (Nat.le_of_ble_eq_true rfl) dX9_quiet_4 (fun a2 => ?_)
  exact JO.iret dX9_quiet_7 rfl rfl rfl
theorem C_cP_quiet {ad : Nat → Nat} {Z : ZT} (σ : CS) : CO yX9_quiet M_cP_quiet eI Z (wC ad Z) [.ref (ad 0)] (wsC ad Z σ) (cP_quiet σ) :=
  CO.of rfl rfl (Nat.le_of_ble_eq_true rfl) 0 (fun X hZ => by subst hZ; exact J_cP_quiet σ)
theorem K_cP_quiet : Kv yX9_quiet M_cP_quiet RX9 0 := ⟨rfl, k4_178, k4_179, k1_1, k4_180, by decide +kernel⟩
abbrev M_cP_tryLosses : JM := (cX9_tryLosses, 6, RX9, none, 5, 119)
def cP_tryLosses_b104 (k30 : Int32 → Int32 → CS → Option (Unit × CS)) (x2 : Int32) (x3 : Int32) (x4 : Int64) (σ : CS) : Option (Unit × CS) :=
  (cR_whoIsBlocked 36 σ).bind fun a1 =>
  if a1.1 = 0 then (
    k30 x2 (x3 + 1) a1.2)
  else (
    k30 x2 (x3 + 1) (tG a1.2 0 12 (cG a1.2 0 12 ||| x4)))
def cP_tryLosses_l30 : Nat → Int32 → Int32 → CS → Option (Unit × CS)
  | 0, _, _, _ => none
  | n + 1, x2, x3, σ =>
    if x2 ≤ x3 then (
      some ((), tZ σ 0 10 true))
    else (
      (cP_isIn (cG σ 3 5) x3 σ).bind fun a1 =>
      if a1.1 = true then (
        cP_tryLosses_l30 n x2 (x3 + 1) a1.2)
      else (
        (cR_play 36 (cG a1.2 3 5 ||| ((1 : Int64) <<< (Int32.toInt64 x3 &&& 63))) (cZ a1.2 3 3) a1.2).bind fun a2 =>
        (cR_isAlikeAt 36 60 a2.2).bind fun a3 =>
        if a3.1 = true then (
          cP_tryLosses_b104 (fun x2 x3 σ => cP_tryLosses_l30 n x2 x3 σ) x2 x3 ((1 : Int64) <<< (Int32.toInt64 x3 &&& 63)) a3.2)
        else (
          cP_tryLosses_b104 (fun x2 x3 σ => cP_tryLosses_l30 n x2 x3 σ) x2 x3 ((1 : Int64) <<< (Int32.toInt64 x3 &&& 63)) (tG a3.2 0 11 (cG a3.2 0 11 ||| ((1 : Int64) <<< (Int32.toInt64 x3 &&& 63)))))))
def cP_tryLosses (σ : CS) : Option (Unit × CS) :=
  if cZ σ 0 10 = true then (
    some ((), σ))
  else (
    cP_tryLosses_l30 4096 (if 60 < cI σ 14 8 then 60 else cI σ 14 8) 0 (tG (tG σ 0 11 0) 0 12 0))
theorem J_cP_tryLosses_b104 {X : JX} {ad : Nat → Nat} {k30 : Int32 → Int32 → CS → Option (Unit × CS)} (hk30 : ∀ (x2 : Int32) (x3 : Int32) (σ : CS), JO X M_cP_tryLosses (QF X eV (wC ad (xZ X))) 30 [some (.ref (ad 0)), none, some (.int x2), some (.int x3), none, none] [] (wsC ad (xZ X) σ) (k30 x2 x3 σ)) (x2 : Int32) (x3 : Int32) (x4 : Int64) (σ : CS) : JO X M_cP_tryLosses (QF X eV (wC ad (xZ X))) 104 [some (.ref (ad 0)), none, some (.int x2), some (.int x3), some (.long x4), none] [] (wsC ad (xZ X) σ) (cP_tryLosses_b104 k30 x2 x3 x4 σ) := by
  unfold cP_tryLosses_b104
  refine JO.aloadn dX9_tryLosses_104 rfl ?_
  refine gP9 k2_48 dX9_tryLosses_105 ?_
  refine JO.cvi (C_cR_whoIsBlocked isR36 _) (rcvR isR36) K_cR_whoIsBlocked k4_173 rfl rfl rfl (Nat.le_of_ble_eq_true rfl) dX9_tryLosses_108 (fun a1 => ?_)
  refine JO.if_eq 125 dX9_tryLosses_111 rfl ?_ ?_
  · refine JO.iinc dX9_tryLosses_125 rfl 1 (by decide) rfl rfl ?_
    refine JO.goto 30 dX9_tryLosses_128 rfl ?_
    exact (hk30 _ _ _).jump (lvLe.so rfl (lvLe.no (lvLe.so rfl (lvLe.so rfl (lvLe.no (lvLe.no (lvLe.nil)))))))
  · refine JO.aloadn dX9_tryLosses_114 rfl ?_
    refine JO.dup dX9_tryLosses_115 rfl ?_
    refine gP12 k2_51 dX9_tryLosses_116 ?_
    refine JO.lload dX9_tryLosses_119 rfl ?_
    refine JO.lor dX9_tryLosses_121 ?_
    refine pP12 k2_51 dX9_tryLosses_122 ?_
    refine JO.iinc dX9_tryLosses_125 rfl 1 (by decide) rfl rfl ?_
    refine JO.goto 30 dX9_tryLosses_128 rfl ?_
    exact (hk30 _ _ _).jump (lvLe.so rfl (lvLe.no (lvLe.so rfl (lvLe.so rfl (lvLe.no (lvLe.no (lvLe.nil)))))))
theorem J_cP_tryLosses_l30 {X : JX} {ad : Nat → Nat} : ∀ (n : Nat) (x2 : Int32) (x3 : Int32) (σ : CS), JO X M_cP_tryLosses (QF X eV (wC ad (xZ X))) 30 [some (.ref (ad 0)), none, some (.int x2), some (.int x3), none, none] [] (wsC ad (xZ X) σ) (cP_tryLosses_l30 n x2 x3 σ) := by
  intro n
  induction n with
  | zero => intro x2 x3 σ; exact JO.nil
  | succ n ih =>
    intro x2 x3 σ
    unfold cP_tryLosses_l30
    refine JO.iloadn dX9_tryLosses_30 rfl ?_
    refine JO.iloadn dX9_tryLosses_31 rfl ?_
    refine JO.icmp_ge 131 dX9_tryLosses_32 rfl ?_ ?_
    · refine JO.aloadn dX9_tryLosses_131 rfl ?_
      refine JO.ic 1 dX9_tryLosses_132 (by decide) ?_
      refine pP10 (v := true) k2_49 dX9_tryLosses_133 ?_
      exact JO.vret dX9_tryLosses_136 rfl rfl rfl
    · refine JO.aloadn dX9_tryLosses_35 rfl ?_
      refine gP2 k2_41 dX9_tryLosses_36 ?_
      refine gS5 isS3 k1_53 dX9_tryLosses_39 ?_
      refine JO.iloadn dX9_tryLosses_42 rfl ?_
      refine JO.csz (C_cP_isIn _ _ _) K_cP_isIn k4_56 rfl rfl rfl (Nat.le_of_ble_eq_true rfl) dX9_tryLosses_43 (fun a1 => ?_)
      refine JO.zeq 52 dX9_tryLosses_46 rfl ?_ ?_
      · refine JO.lc 1 dX9_tryLosses_52 (by decide) ?_
        refine JO.iloadn dX9_tryLosses_53 rfl ?_
        refine JO.lshl dX9_tryLosses_54 ?_
        refine JO.lstore dX9_tryLosses_55 rfl rfl ?_
        refine JO.aloadn dX9_tryLosses_57 rfl ?_
        refine gP9 k2_48 dX9_tryLosses_58 ?_
        refine JO.aloadn dX9_tryLosses_61 rfl ?_
        refine gP2 k2_41 dX9_tryLosses_62 ?_
        refine gS5 isS3 k1_53 dX9_tryLosses_65 ?_
        refine JO.lload dX9_tryLosses_68 rfl ?_
        refine JO.lor dX9_tryLosses_70 ?_
        refine JO.aloadn dX9_tryLosses_71 rfl ?_
        refine gP2 k2_41 dX9_tryLosses_72 ?_
        refine gS3 isS3 k1_49 dX9_tryLosses_75 ?_
        refine JO.cvv (C_cR_play isR36 _ (cZ a1.2 3 3) _) (rcvR isR36) K_cR_play k2_157 rfl rfl rfl (Nat.le_of_ble_eq_true rfl) dX9_tryLosses_78 (fun a2 => ?_)
        refine JO.aloadn dX9_tryLosses_81 rfl ?_
        refine gP9 k2_48 dX9_tryLosses_82 ?_
        refine JO.bip 60 dX9_tryLosses_85 (by decide) ?_
        refine JO.cvz (C_cR_isAlikeAt isR36 _ _) (rcvR isR36) K_cR_isAlikeAt k4_164 rfl rfl rfl (Nat.le_of_ble_eq_true rfl) dX9_tryLosses_87 (fun a3 => ?_)
        refine JO.zne 104 dX9_tryLosses_90 rfl ?_ ?_
        · exact (J_cP_tryLosses_b104 ih _ _ _ _).jump (lvLe.so rfl (lvLe.no (lvLe.so rfl (lvLe.so rfl (lvLe.so rfl (lvLe.no (lvLe.nil)))))))
        · refine JO.aloadn dX9_tryLosses_93 rfl ?_
          refine JO.dup dX9_tryLosses_94 rfl ?_
          refine gP11 k2_50 dX9_tryLosses_95 ?_
          refine JO.lload dX9_tryLosses_98 rfl ?_
          refine JO.lor dX9_tryLosses_100 ?_
          refine pP11 k2_50 dX9_tryLosses_101 ?_
          exact (J_cP_tryLosses_b104 ih _ _ _ _).jump (lvLe.so rfl (lvLe.no (lvLe.so rfl (lvLe.so rfl (lvLe.so rfl (lvLe.no (lvLe.nil)))))))
      · refine JO.goto 125 dX9_tryLosses_49 rfl ?_
        refine JO.iinc dX9_tryLosses_125 rfl 1 (by decide) rfl rfl ?_
        refine JO.goto 30 dX9_tryLosses_128 rfl ?_
        exact (ih _ _ _).jump (lvLe.so rfl (lvLe.no (lvLe.so rfl (lvLe.so rfl (lvLe.no (lvLe.no (lvLe.nil)))))))
theorem J_cP_tryLosses {X : JX} {ad : Nat → Nat} (σ : CS) : JO X M_cP_tryLosses (QF X eV (wC ad (xZ X))) 0 [some (.ref (ad 0)), some (.ref (ad 14)), none, none, none, none] [] (wsC ad (xZ X) σ) (cP_tryLosses σ) := by
  unfold cP_tryLosses
  refine JO.aloadn dX9_tryLosses_0 rfl ?_
  refine gP10 k2_49 dX9_tryLosses_1 ?_
  refine JO.zeq 8 dX9_tryLosses_4 rfl ?_ ?_
  · refine JO.aloadn dX9_tryLosses_8 rfl ?_
    refine JO.lc 0 dX9_tryLosses_9 (by decide) ?_
    refine pP11 k2_50 dX9_tryLosses_10 ?_
    refine JO.aloadn dX9_tryLosses_13 rfl ?_
    refine JO.lc 0 dX9_tryLosses_14 (by decide) ?_
    refine pP12 k2_51 dX9_tryLosses_15 ?_
    refine JO.aloadn dX9_tryLosses_18 rfl ?_
    refine gR8 isR14 k1_194 dX9_tryLosses_19 ?_
    refine JO.bip 60 dX9_tryLosses_22 (by decide) ?_
    refine JO.math rfl rfl k4_197 k4_123 k1_16 k4_124 rfl dX9_tryLosses_24 ?_
    refine JO.istoren dX9_tryLosses_27 rfl rfl ?_
    refine JO.ic 0 dX9_tryLosses_28 (by decide) ?_
    refine JO.istoren dX9_tryLosses_29 rfl rfl ?_
    exact (J_cP_tryLosses_l30 4096 _ _ _).jump (lvLe.so rfl (lvLe.no (lvLe.so rfl (lvLe.so rfl (lvLe.no (lvLe.no (lvLe.nil)))))))
  · exact JO.vret dX9_tryLosses_7 rfl rfl rfl
theorem C_cP_tryLosses {ad : Nat → Nat} {Z : ZT} (σ : CS) : CO yX9_tryLosses M_cP_tryLosses eV Z (wC ad Z) [.ref (ad 0), .ref (ad 14)] (wsC ad Z σ) (cP_tryLosses σ) :=
  CO.of rfl rfl (Nat.le_of_ble_eq_true rfl) 4 (fun X hZ => by subst hZ; exact J_cP_tryLosses σ)
theorem K_cP_tryLosses : Kv yX9_tryLosses M_cP_tryLosses RX9 1 := ⟨rfl, k4_195, s3_4, k1_1, k4_196, by decide +kernel⟩
