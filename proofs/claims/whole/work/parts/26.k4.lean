abbrev M_cS_number : JM := (cX5_number, 2, RX5, (some .int), 0, 0)
def cS_number (q : Nat) (p1 : Int32) (σ : CS) : Option (Int32 × CS) :=
  sw p1 [(0, 28,
    some (cI σ q 0, σ)), (1, 33,
    some (cI σ q 1, σ)), (2, 38,
    some (cI σ q 2, σ))] (
    if cZ σ q 3 = true then (
      some (1, σ))
    else (
      some (0, σ)))
theorem J_cS_number {X : JX} {ad : Nat → Nat} {q : Nat} (hq : isS q) (p1 : Int32) (σ : CS) : JO X M_cS_number (QF X eI (wC ad (xZ X))) 0 [some (.ref (ad q)), some (.int p1)] [] (wsC ad (xZ X) σ) (cS_number q p1 σ) := by
  unfold cS_number
  refine JO.iloadn dX5_number_0 rfl ?_
  refine JO.tsw [(0, 28, _), (1, 33, _), (2, 38, _)] 43 [(0, 28), (1, 33), (2, 38)] dX5_number_1 rfl (by decide) rfl (by decide) (JO.swCons ?_ (JO.swCons ?_ (JO.swCons ?_ (JO.swNil)))) ?_
  · refine JO.aloadn dX5_number_28 rfl ?_
    refine gS0 hq k1_40 dX5_number_29 ?_
    exact JO.iret dX5_number_32 rfl rfl rfl
  · refine JO.aloadn dX5_number_33 rfl ?_
    refine gS1 hq k1_43 dX5_number_34 ?_
    exact JO.iret dX5_number_37 rfl rfl rfl
  · refine JO.aloadn dX5_number_38 rfl ?_
    refine gS2 hq k1_46 dX5_number_39 ?_
    exact JO.iret dX5_number_42 rfl rfl rfl
  · refine JO.aloadn dX5_number_43 rfl ?_
    refine gS3 hq k1_48 dX5_number_44 ?_
    refine JO.zeq 54 dX5_number_47 rfl ?_ ?_
    · refine JO.ic 0 dX5_number_54 (by decide) ?_
      exact JO.iret dX5_number_55 rfl rfl rfl
    · refine JO.ic 1 dX5_number_50 (by decide) ?_
      refine JO.goto 55 dX5_number_51 rfl ?_
      exact JO.iret dX5_number_55 rfl rfl rfl
theorem C_cS_number {ad : Nat → Nat} {q : Nat} {Z : ZT} (hq : isS q) (p1 : Int32) (σ : CS) : CO yX5_number M_cS_number eI Z (wC ad Z) [.ref (ad q), .int p1] (wsC ad Z σ) (cS_number q p1 σ) :=
  CO.of rfl rfl (Nat.le_of_ble_eq_true rfl) 0 (fun X hZ => by subst hZ; exact J_cS_number hq _ σ)
theorem K_cS_number : Kv yX5_number M_cS_number RX5 1 := ⟨rfl, k4_39, k4_40, k1_2, k4_41, by decide +kernel⟩
abbrev M_cS_giveNumber : JM := (cX5_giveNumber, 3, RX5, none, 0, 0)
def cS_giveNumber (q : Nat) (p1 : Int32) (p2 : Int32) (σ : CS) : Option (Unit × CS) :=
  sw p1 [(0, 28,
    some ((), tI σ q 0 p2)), (1, 36,
    some ((), tI σ q 1 p2)), (2, 44,
    some ((), tI σ q 2 p2))] (
    if p2 = 1 then (
      some ((), tZ σ q 3 true))
    else (
      some ((), tZ σ q 3 false)))
theorem J_cS_giveNumber {X : JX} {ad : Nat → Nat} {q : Nat} (hq : isS q) (p1 : Int32) (p2 : Int32) (σ : CS) : JO X M_cS_giveNumber (QF X eV (wC ad (xZ X))) 0 [some (.ref (ad q)), some (.int p1), some (.int p2)] [] (wsC ad (xZ X) σ) (cS_giveNumber q p1 p2 σ) := by
  unfold cS_giveNumber
  refine JO.iloadn dX5_giveNumber_0 rfl ?_
  refine JO.tsw [(0, 28, _), (1, 36, _), (2, 44, _)] 52 [(0, 28), (1, 36), (2, 44)] dX5_giveNumber_1 rfl (by decide) rfl (by decide) (JO.swCons ?_ (JO.swCons ?_ (JO.swCons ?_ (JO.swNil)))) ?_
  · refine JO.aloadn dX5_giveNumber_28 rfl ?_
    refine JO.iloadn dX5_giveNumber_29 rfl ?_
    refine pS0 hq k1_40 dX5_giveNumber_30 ?_
    refine JO.goto 66 dX5_giveNumber_33 rfl ?_
    exact JO.vret dX5_giveNumber_66 rfl rfl rfl
  · refine JO.aloadn dX5_giveNumber_36 rfl ?_
    refine JO.iloadn dX5_giveNumber_37 rfl ?_
    refine pS1 hq k1_43 dX5_giveNumber_38 ?_
    refine JO.goto 66 dX5_giveNumber_41 rfl ?_
    exact JO.vret dX5_giveNumber_66 rfl rfl rfl
  · refine JO.aloadn dX5_giveNumber_44 rfl ?_
    refine JO.iloadn dX5_giveNumber_45 rfl ?_
    refine pS2 hq k1_46 dX5_giveNumber_46 ?_
    refine JO.goto 66 dX5_giveNumber_49 rfl ?_
    exact JO.vret dX5_giveNumber_66 rfl rfl rfl
  · refine JO.aloadn dX5_giveNumber_52 rfl ?_
    refine JO.iloadn dX5_giveNumber_53 rfl ?_
    refine JO.ic 1 dX5_giveNumber_54 (by decide) ?_
    refine JO.icmp_ne 62 dX5_giveNumber_55 rfl ?_ ?_
    · refine JO.ic 0 dX5_giveNumber_62 (by decide) ?_
      refine pS3 (v := false) hq k1_48 dX5_giveNumber_63 ?_
      exact JO.vret dX5_giveNumber_66 rfl rfl rfl
    · refine JO.ic 1 dX5_giveNumber_58 (by decide) ?_
      refine JO.goto 63 dX5_giveNumber_59 rfl ?_
      refine pS3 (v := true) hq k1_48 dX5_giveNumber_63 ?_
      exact JO.vret dX5_giveNumber_66 rfl rfl rfl
theorem C_cS_giveNumber {ad : Nat → Nat} {q : Nat} {Z : ZT} (hq : isS q) (p1 : Int32) (p2 : Int32) (σ : CS) : CO yX5_giveNumber M_cS_giveNumber eV Z (wC ad Z) [.ref (ad q), .int p1, .int p2] (wsC ad Z σ) (cS_giveNumber q p1 p2 σ) :=
  CO.of rfl rfl (Nat.le_of_ble_eq_true rfl) 0 (fun X hZ => by subst hZ; exact J_cS_giveNumber hq _ _ σ)
theorem K_cS_giveNumber : Kv yX5_giveNumber M_cS_giveNumber RX5 2 := ⟨rfl, k4_43, k4_44, k1_2, k4_45, by decide +kernel⟩
abbrev M_cS_giveVote : JM := (cX5_giveVote, 3, RX5, none, 0, 0)
def cS_giveVote (q : Nat) (p1 : Int32) (p2 : Bool) (σ : CS) : Option (Unit × CS) :=
  if p2 = true then (
    some ((), tI σ q 4 (cI σ q 4 ||| ((1 : Int32) <<< (p1 &&& 31)))))
  else (
    some ((), tI σ q 4 (cI σ q 4 &&& (((1 : Int32) <<< (p1 &&& 31)) ^^^ (-1)))))
theorem J_cS_giveVote {X : JX} {ad : Nat → Nat} {q : Nat} (hq : isS q) (p1 : Int32) (p2 : Bool) (σ : CS) : JO X M_cS_giveVote (QF X eV (wC ad (xZ X))) 0 [some (.ref (ad q)), some (.int p1), some (.int (bI p2))] [] (wsC ad (xZ X) σ) (cS_giveVote q p1 p2 σ) := by
  unfold cS_giveVote
  refine JO.aloadn dX5_giveVote_0 rfl ?_
  refine JO.iloadn dX5_giveVote_1 rfl ?_
  refine JO.zeq 16 dX5_giveVote_2 rfl ?_ ?_
  · refine JO.aloadn dX5_giveVote_16 rfl ?_
    refine gS4 hq k1_50 dX5_giveVote_17 ?_
    refine JO.ic 1 dX5_giveVote_20 (by decide) ?_
    refine JO.iloadn dX5_giveVote_21 rfl ?_
    refine JO.ishl dX5_giveVote_22 ?_
    refine JO.ic (-1) dX5_giveVote_23 (by decide) ?_
    refine JO.ixor dX5_giveVote_24 ?_
    refine JO.iand dX5_giveVote_25 ?_
    refine pS4 hq k1_50 dX5_giveVote_26 ?_
    exact JO.vret dX5_giveVote_29 rfl rfl rfl
  · refine JO.aloadn dX5_giveVote_5 rfl ?_
    refine gS4 hq k1_50 dX5_giveVote_6 ?_
    refine JO.ic 1 dX5_giveVote_9 (by decide) ?_
    refine JO.iloadn dX5_giveVote_10 rfl ?_
    refine JO.ishl dX5_giveVote_11 ?_
    refine JO.ior dX5_giveVote_12 ?_
    refine JO.goto 26 dX5_giveVote_13 rfl ?_
    refine pS4 hq k1_50 dX5_giveVote_26 ?_
    exact JO.vret dX5_giveVote_29 rfl rfl rfl
theorem C_cS_giveVote {ad : Nat → Nat} {q : Nat} {Z : ZT} (hq : isS q) (p1 : Int32) (p2 : Bool) (σ : CS) : CO yX5_giveVote M_cS_giveVote eV Z (wC ad Z) [.ref (ad q), .int p1, .int (bI p2)] (wsC ad Z σ) (cS_giveVote q p1 p2 σ) :=
  CO.of rfl rfl (Nat.le_of_ble_eq_true rfl) 0 (fun X hZ => by subst hZ; exact J_cS_giveVote hq _ _ σ)
theorem K_cS_giveVote : Kv yX5_giveVote M_cS_giveVote RX5 2 := ⟨rfl, k4_1, k4_2, k1_2, k4_3, by decide +kernel⟩
abbrev M_cS_giveLoss : JM := (cX5_giveLoss, 3, RX5, none, 0, 0)
def cS_giveLoss (q : Nat) (p1 : Int32) (p2 : Bool) (σ : CS) : Option (Unit × CS) :=
  if p2 = true then (
    some ((), tG σ q 5 (cG σ q 5 ||| ((1 : Int64) <<< (Int32.toInt64 p1 &&& 63)))))
  else (
    some ((), tG σ q 5 (cG σ q 5 &&& (((1 : Int64) <<< (Int32.toInt64 p1 &&& 63)) ^^^ (-1)))))
theorem J_cS_giveLoss {X : JX} {ad : Nat → Nat} {q : Nat} (hq : isS q) (p1 : Int32) (p2 : Bool) (σ : CS) : JO X M_cS_giveLoss (QF X eV (wC ad (xZ X))) 0 [some (.ref (ad q)), some (.int p1), some (.int (bI p2))] [] (wsC ad (xZ X) σ) (cS_giveLoss q p1 p2 σ) := by
  unfold cS_giveLoss
  refine JO.aloadn dX5_giveLoss_0 rfl ?_
  refine JO.iloadn dX5_giveLoss_1 rfl ?_
  refine JO.zeq 16 dX5_giveLoss_2 rfl ?_ ?_
  · refine JO.aloadn dX5_giveLoss_16 rfl ?_
    refine gS5 hq k1_52 dX5_giveLoss_17 ?_
    refine JO.lc 1 dX5_giveLoss_20 (by decide) ?_
    refine JO.iloadn dX5_giveLoss_21 rfl ?_
    refine JO.lshl dX5_giveLoss_22 ?_
    refine JO.ldc2 (v := (-1)) k4_10 dX5_giveLoss_23 ?_
    refine JO.lxor dX5_giveLoss_26 ?_
    refine JO.land dX5_giveLoss_27 ?_
    refine pS5 hq k1_52 dX5_giveLoss_28 ?_
    exact JO.vret dX5_giveLoss_31 rfl rfl rfl
  · refine JO.aloadn dX5_giveLoss_5 rfl ?_
    refine gS5 hq k1_52 dX5_giveLoss_6 ?_
    refine JO.lc 1 dX5_giveLoss_9 (by decide) ?_
    refine JO.iloadn dX5_giveLoss_10 rfl ?_
    refine JO.lshl dX5_giveLoss_11 ?_
    refine JO.lor dX5_giveLoss_12 ?_
    refine JO.goto 28 dX5_giveLoss_13 rfl ?_
    refine pS5 hq k1_52 dX5_giveLoss_28 ?_
    exact JO.vret dX5_giveLoss_31 rfl rfl rfl
theorem C_cS_giveLoss {ad : Nat → Nat} {q : Nat} {Z : ZT} (hq : isS q) (p1 : Int32) (p2 : Bool) (σ : CS) : CO yX5_giveLoss M_cS_giveLoss eV Z (wC ad Z) [.ref (ad q), .int p1, .int (bI p2)] (wsC ad Z σ) (cS_giveLoss q p1 p2 σ) :=
  CO.of rfl rfl (Nat.le_of_ble_eq_true rfl) 0 (fun X hZ => by subst hZ; exact J_cS_giveLoss hq _ _ σ)
theorem K_cS_giveLoss : Kv yX5_giveLoss M_cS_giveLoss RX5 2 := ⟨rfl, k4_7, k4_8, k1_2, k4_9, by decide +kernel⟩
abbrev M_cS_giveDown : JM := (cX5_giveDown, 4, RX5, none, 0, 0)
def cS_giveDown (q : Nat) (p1 : Int32) (p2 : Int32) (p3 : Int32) (σ : CS) : Option (Unit × CS) :=
  if p1 < 0 then (
    some ((), σ))
  else (
    if 6 ≤ p1 then (
      some ((), σ))
    else (
      if inB p1 6 = true then
      if inB p1 6 = true then
      some ((), tA (tA σ (q + 1) (ix p1) p2) (q + 2) (ix p1) p3)
      else none
      else none))
theorem J_cS_giveDown {X : JX} {ad : Nat → Nat} {q : Nat} (hq : isS q) (p1 : Int32) (p2 : Int32) (p3 : Int32) (σ : CS) : JO X M_cS_giveDown (QF X eV (wC ad (xZ X))) 0 [some (.ref (ad q)), some (.int p1), some (.int p2), some (.int p3)] [] (wsC ad (xZ X) σ) (cS_giveDown q p1 p2 p3 σ) := by
  unfold cS_giveDown
  refine JO.iloadn dX5_giveDown_0 rfl ?_
  refine JO.if_lt 24 dX5_giveDown_1 rfl ?_ ?_
  · exact JO.vret dX5_giveDown_24 rfl rfl rfl
  · refine JO.iloadn dX5_giveDown_4 rfl ?_
    refine JO.bip 6 dX5_giveDown_5 (by decide) ?_
    refine JO.icmp_ge 24 dX5_giveDown_7 rfl ?_ ?_
    · exact JO.vret dX5_giveDown_24 rfl rfl rfl
    · refine JO.aloadn dX5_giveDown_10 rfl ?_
      refine gS6 hq k1_54 dX5_giveDown_11 ?_
      refine JO.iloadn dX5_giveDown_14 rfl ?_
      refine JO.iloadn dX5_giveDown_15 rfl ?_
      refine JO.uC (i_gd hq) dX5_giveDown_16 ?_
      refine JO.aloadn dX5_giveDown_17 rfl ?_
      refine gS7 hq k1_56 dX5_giveDown_18 ?_
      refine JO.iloadn dX5_giveDown_21 rfl ?_
      refine JO.iloadn dX5_giveDown_22 rfl ?_
      refine JO.uC (i_cu hq) dX5_giveDown_23 ?_
      exact JO.vret dX5_giveDown_24 rfl rfl rfl
theorem C_cS_giveDown {ad : Nat → Nat} {q : Nat} {Z : ZT} (hq : isS q) (p1 : Int32) (p2 : Int32) (p3 : Int32) (σ : CS) : CO yX5_giveDown M_cS_giveDown eV Z (wC ad Z) [.ref (ad q), .int p1, .int p2, .int p3] (wsC ad Z σ) (cS_giveDown q p1 p2 p3 σ) :=
  CO.of rfl rfl (Nat.le_of_ble_eq_true rfl) 0 (fun X hZ => by subst hZ; exact J_cS_giveDown hq _ _ _ σ)
theorem K_cS_giveDown : Kv yX5_giveDown M_cS_giveDown RX5 3 := ⟨rfl, k4_12, k4_13, k1_2, k4_14, by decide +kernel⟩
abbrev M_cS_sitesWithDown : JM := (cX5_sitesWithDown, 3, RX5, (some .int), 0, 0)
def cS_sitesWithDown_l4 (q : Nat) : Nat → Int32 → Int32 → CS → Option (Int32 × CS)
  | 0, _, _, _ => none
  | n + 1, x1, x2, σ =>
    if cI σ q 0 < x2 then (
      some (x1, σ))
    else (
      if inB x2 6 = true then
      if cA σ (q + 1) (ix x2) = (-1) then (
        cS_sitesWithDown_l4 q n x1 (x2 + 1) σ)
      else (
        cS_sitesWithDown_l4 q n (x1 ||| ((1 : Int32) <<< (x2 &&& 31))) (x2 + 1) σ)
      else none)
def cS_sitesWithDown (q : Nat) (σ : CS) : Option (Int32 × CS) :=
  cS_sitesWithDown_l4 q 4096 0 0 σ
theorem J_cS_sitesWithDown_l4 {X : JX} {ad : Nat → Nat} {q : Nat} (hq : isS q) : ∀ (n : Nat) (x1 : Int32) (x2 : Int32) (σ : CS), JO X M_cS_sitesWithDown (QF X eI (wC ad (xZ X))) 4 [some (.ref (ad q)), some (.int x1), some (.int x2)] [] (wsC ad (xZ X) σ) (cS_sitesWithDown_l4 q n x1 x2 σ) := by
  intro n
  induction n with
  | zero => intro x1 x2 σ; exact JO.nil
  | succ n ih =>
    intro x1 x2 σ
    unfold cS_sitesWithDown_l4
    refine JO.iloadn dX5_sitesWithDown_4 rfl ?_
    refine JO.aloadn dX5_sitesWithDown_5 rfl ?_
    refine gS0 hq k1_40 dX5_sitesWithDown_6 ?_
    refine JO.icmp_gt 34 dX5_sitesWithDown_9 rfl ?_ ?_
    · refine JO.iloadn dX5_sitesWithDown_34 rfl ?_
      exact JO.iret dX5_sitesWithDown_35 rfl rfl rfl
    · refine JO.aloadn dX5_sitesWithDown_12 rfl ?_
      refine gS6 hq k1_54 dX5_sitesWithDown_13 ?_
      refine JO.iloadn dX5_sitesWithDown_16 rfl ?_
      refine JO.aC (i_gd hq) dX5_sitesWithDown_17 ?_
      refine JO.ic (-1) dX5_sitesWithDown_18 (by decide) ?_
      refine JO.icmp_eq 28 dX5_sitesWithDown_19 rfl ?_ ?_
      · refine JO.iinc dX5_sitesWithDown_28 rfl 1 (by decide) rfl rfl ?_
        refine JO.goto 4 dX5_sitesWithDown_31 rfl ?_
        exact (ih _ _ _).jump (lvLe.so rfl (lvLe.so rfl (lvLe.so rfl (lvLe.nil))))
      · refine JO.iloadn dX5_sitesWithDown_22 rfl ?_
        refine JO.ic 1 dX5_sitesWithDown_23 (by decide) ?_
        refine JO.iloadn dX5_sitesWithDown_24 rfl ?_
        refine JO.ishl dX5_sitesWithDown_25 ?_
        refine JO.ior dX5_sitesWithDown_26 ?_
        refine JO.istoren dX5_sitesWithDown_27 rfl rfl ?_
        refine JO.iinc dX5_sitesWithDown_28 rfl 1 (by decide) rfl rfl ?_
        refine JO.goto 4 dX5_sitesWithDown_31 rfl ?_
        exact (ih _ _ _).jump (lvLe.so rfl (lvLe.so rfl (lvLe.so rfl (lvLe.nil))))
theorem J_cS_sitesWithDown {X : JX} {ad : Nat → Nat} {q : Nat} (hq : isS q) (σ : CS) : JO X M_cS_sitesWithDown (QF X eI (wC ad (xZ X))) 0 [some (.ref (ad q)), none, none] [] (wsC ad (xZ X) σ) (cS_sitesWithDown q σ) := by
  unfold cS_sitesWithDown
  refine JO.ic 0 dX5_sitesWithDown_0 (by decide) ?_
  refine JO.istoren dX5_sitesWithDown_1 rfl rfl ?_
  refine JO.ic 0 dX5_sitesWithDown_2 (by decide) ?_
  refine JO.istoren dX5_sitesWithDown_3 rfl rfl ?_
  exact (J_cS_sitesWithDown_l4 hq 4096 _ _ _).jump (lvLe.so rfl (lvLe.so rfl (lvLe.so rfl (lvLe.nil))))
theorem C_cS_sitesWithDown {ad : Nat → Nat} {q : Nat} {Z : ZT} (hq : isS q) (σ : CS) : CO yX5_sitesWithDown M_cS_sitesWithDown eI Z (wC ad Z) [.ref (ad q)] (wsC ad Z σ) (cS_sitesWithDown q σ) :=
  CO.of rfl rfl (Nat.le_of_ble_eq_true rfl) 2 (fun X hZ => by subst hZ; exact J_cS_sitesWithDown hq σ)
theorem K_cS_sitesWithDown : Kv yX5_sitesWithDown M_cS_sitesWithDown RX5 0 := ⟨rfl, k4_78, k4_79, k1_2, k4_80, by decide +kernel⟩
abbrev M_cS_draw : JM := (cX5_draw, 2, RX5, (some .int), 0, 0)
def cS_draw (q : Nat) (p1 : Int32) (σ : CS) : Option (Int32 × CS) :=
  if p1 ≤ 0 then (
    some (0, tI σ q 8 ((cI σ q 8 * 1103515245) + 12345)))
  else (
    if p1 = 0 then none else
    some ((((cI (tI σ q 8 ((cI σ q 8 * 1103515245) + 12345)) q 8).toUInt32 >>> (Int32.toUInt32 16 &&& Int32.toUInt32 31)).toInt32 - (((cI (tI σ q 8 ((cI σ q 8 * 1103515245) + 12345)) q 8).toUInt32 >>> (Int32.toUInt32 16 &&& Int32.toUInt32 31)).toInt32) / p1 * p1), tI σ q 8 ((cI σ q 8 * 1103515245) + 12345)))
theorem J_cS_draw {X : JX} {ad : Nat → Nat} {q : Nat} (hq : isS q) (p1 : Int32) (σ : CS) : JO X M_cS_draw (QF X eI (wC ad (xZ X))) 0 [some (.ref (ad q)), some (.int p1)] [] (wsC ad (xZ X) σ) (cS_draw q p1 σ) := by
  unfold cS_draw
  refine JO.aloadn dX5_draw_0 rfl ?_
  refine JO.aloadn dX5_draw_1 rfl ?_
  refine gS8 hq k1_58 dX5_draw_2 ?_
  refine JO.ldc (v := 1103515245) k4_89 dX5_draw_5 ?_
  refine JO.imul dX5_draw_7 ?_
  refine JO.sip 12345 dX5_draw_8 (by decide) ?_
  refine JO.iadd dX5_draw_11 ?_
  refine pS8 hq k1_58 dX5_draw_12 ?_
  refine JO.iloadn dX5_draw_15 rfl ?_
  refine JO.if_le 31 dX5_draw_16 rfl ?_ ?_
  · refine JO.ic 0 dX5_draw_31 (by decide) ?_
    exact JO.iret dX5_draw_32 rfl rfl rfl
  · refine JO.aloadn dX5_draw_19 rfl ?_
    refine gS8 hq k1_58 dX5_draw_20 ?_
    refine JO.bip 16 dX5_draw_23 (by decide) ?_
    refine JO.iushr dX5_draw_25 ?_
    refine JO.iloadn dX5_draw_26 rfl ?_
    refine JO.irem dX5_draw_27 ?_
    refine JO.goto 32 dX5_draw_28 rfl ?_
    exact JO.iret dX5_draw_32 rfl rfl rfl
theorem C_cS_draw {ad : Nat → Nat} {q : Nat} {Z : ZT} (hq : isS q) (p1 : Int32) (σ : CS) : CO yX5_draw M_cS_draw eI Z (wC ad Z) [.ref (ad q), .int p1] (wsC ad Z σ) (cS_draw q p1 σ) :=
  CO.of rfl rfl (Nat.le_of_ble_eq_true rfl) 0 (fun X hZ => by subst hZ; exact J_cS_draw hq _ σ)
theorem K_cS_draw : Kv yX5_draw M_cS_draw RX5 1 := ⟨rfl, k4_86, k4_87, k1_2, k4_88, by decide +kernel⟩
abbrev M_cJ_ordinal : JM := (cJx29ce0_ordinal_8abf5, 1, RJx29ce0, (some .int), 0, 0)
def cJ_ordinal (w : Nat) (σ : CS) : Option (Int32 × CS) :=
  some (([0, 1, 2, 3, 4, 5, 6, 7, 8, 9, 10] : List Int32).getD w 0, σ)
theorem J_cJ_ordinal {X : JX} {ad : Nat → Nat} {w : Nat} (hw : w < 11) (σ : CS) : JO X M_cJ_ordinal (QF X eI (wC ad (xZ X))) 0 [some (.ref (kz (xZ X) 1 w))] [] (wsC ad (xZ X) σ) (cJ_ordinal w σ) := by
  unfold cJ_ordinal
  refine JO.aloadn dJx29ce0_ordinal_8abf5_0 rfl ?_
  refine JO.getO (cw_ord hw) k7_51 dJx29ce0_ordinal_8abf5_1 ?_
  exact JO.iret dJx29ce0_ordinal_8abf5_4 rfl rfl rfl
theorem C_cJ_ordinal {ad : Nat → Nat} {w : Nat} {Z : ZT} (hw : w < 11) (σ : CS) : CO yJx29ce0_ordinal_8abf5 M_cJ_ordinal eI Z (wC ad Z) [.ref (kz Z 1 w)] (wsC ad Z σ) (cJ_ordinal w σ) :=
  CO.of rfl rfl (Nat.le_of_ble_eq_true rfl) 0 (fun X hZ => by subst hZ; exact J_cJ_ordinal hw σ)
theorem U_cJ_ordinal_I_I : Ku "CommitPrefixes$Item" "java/lang/Enum" ⟨"CommitPrefixes$Item", "ordinal", "()I"⟩ yJx29ce0_ordinal_8abf5 M_cJ_ordinal 0 := ⟨k3_233, k3_235, k3_236, k1_18, k3_237, by decide +kernel⟩
abbrev M_cS_apply : JM := (cX5_apply, 5, RX5, none, 1, 23)
def cS_apply_b106 (q : Nat) (w : Nat) (t0 : Bool) (t1 : Int32) (σ : CS) : Option (Unit × CS) :=
  (cS_giveVote q t1 t0 σ).bind fun a1 =>
  some ((), a1.2)
def cS_apply_b92 (q : Nat) (w : Nat) (x2 : Int32) (σ : CS) : Option (Unit × CS) :=
  if w = 3 then (
    cS_apply_b106 q w true x2 σ)
  else (
    cS_apply_b106 q w false x2 σ)
def cS_apply_b126 (q : Nat) (w : Nat) (t0 : Bool) (t1 : Int32) (σ : CS) : Option (Unit × CS) :=
  (cS_giveLoss q t1 t0 σ).bind fun a1 =>
  some ((), a1.2)
def cS_apply_b112 (q : Nat) (w : Nat) (x2 : Int32) (σ : CS) : Option (Unit × CS) :=
  if w = 5 then (
    cS_apply_b126 q w true x2 σ)
  else (
    cS_apply_b126 q w false x2 σ)
def cS_apply_b153 (q : Nat) (w : Nat) (σ : CS) : Option (Unit × CS) :=
  if w = 9 then (
    some ((), tZ σ q 3 true))
  else (
    some ((), tZ σ q 3 false))
def cS_apply (q : Nat) (w : Nat) (p2 : Int32) (p3 : Int32) (p4 : Int32) (σ : CS) : Option (Unit × CS) :=
  (cJ_ordinal w σ).bind fun a1 =>
  if inB a1.1 11 = true then
  sw (Int32.ofNat (ix a1.1 + 1)) [(1, 68,
    some ((), tI a1.2 q 0 p2)), (2, 76,
    some ((), tI a1.2 q 1 p2)), (3, 84,
    some ((), tI a1.2 q 2 p2)), (4, 92,
    cS_apply_b92 q w p2 a1.2), (5, 92,
    cS_apply_b92 q w p2 a1.2), (6, 112,
    cS_apply_b112 q w p2 a1.2), (7, 112,
    cS_apply_b112 q w p2 a1.2), (8, 132,
    (cS_giveDown q p2 p3 p4 a1.2).bind fun a2 =>
    some ((), a2.2)), (9, 143,
    (cS_giveDown q p2 (-1) (-1) a1.2).bind fun a3 =>
    some ((), a3.2)), (10, 153,
    cS_apply_b153 q w a1.2), (11, 153,
    cS_apply_b153 q w a1.2)] (
    some ((), a1.2))
  else none
theorem J_cS_apply_b106 {X : JX} {ad : Nat → Nat} {q : Nat} {w : Nat} (hq : isS q) (hw : w < 11) (t0 : Bool) (t1 : Int32) (σ : CS) : JO X M_cS_apply (QF X eV (wC ad (xZ X))) 106 [none, none, none, none, none] [.int (bI t0), .int t1, .ref (ad q)] (wsC ad (xZ X) σ) (cS_apply_b106 q w t0 t1 σ) := by
  unfold cS_apply_b106
  refine JO.cvv (C_cS_giveVote hq _ t0 _) (rcvS hq) K_cS_giveVote k4_0 rfl rfl rfl (Nat.le_of_ble_eq_true rfl) dX5_apply_106 (fun a1 => ?_)
  refine JO.goto 172 dX5_apply_109 rfl ?_
  exact JO.vret dX5_apply_172 rfl rfl rfl
theorem J_cS_apply_b92 {X : JX} {ad : Nat → Nat} {q : Nat} {w : Nat} (hq : isS q) (hw : w < 11) (x2 : Int32) (σ : CS) : JO X M_cS_apply (QF X eV (wC ad (xZ X))) 92 [some (.ref (ad q)), some (.ref (kz (xZ X) 1 w)), some (.int x2), none, none] [] (wsC ad (xZ X) σ) (cS_apply_b92 q w x2 σ) := by
  unfold cS_apply_b92
  refine JO.aloadn dX5_apply_92 rfl ?_
  refine JO.iloadn dX5_apply_93 rfl ?_
  refine JO.aloadn dX5_apply_94 rfl ?_
  refine JO.gets (v := .ref (kz (xZ X) 1 3)) (fun h => (h.2.1.1 3 (by decide)).1) k3_238 dX5_apply_95 ?_
  refine JO.itne 105 hw (by decide) dX5_apply_98 rfl ?_ ?_
  · refine JO.ic 0 dX5_apply_105 (by decide) ?_
    exact (J_cS_apply_b106 hq hw false _ _).jump (lvLe.no (lvLe.no (lvLe.no (lvLe.no (lvLe.no (lvLe.nil))))))
  · refine JO.ic 1 dX5_apply_101 (by decide) ?_
    refine JO.goto 106 dX5_apply_102 rfl ?_
    exact (J_cS_apply_b106 hq hw true _ _).jump (lvLe.no (lvLe.no (lvLe.no (lvLe.no (lvLe.no (lvLe.nil))))))
theorem J_cS_apply_b126 {X : JX} {ad : Nat → Nat} {q : Nat} {w : Nat} (hq : isS q) (hw : w < 11) (t0 : Bool) (t1 : Int32) (σ : CS) : JO X M_cS_apply (QF X eV (wC ad (xZ X))) 126 [none, none, none, none, none] [.int (bI t0), .int t1, .ref (ad q)] (wsC ad (xZ X) σ) (cS_apply_b126 q w t0 t1 σ) := by
  unfold cS_apply_b126
  refine JO.cvv (C_cS_giveLoss hq _ t0 _) (rcvS hq) K_cS_giveLoss k4_6 rfl rfl rfl (Nat.le_of_ble_eq_true rfl) dX5_apply_126 (fun a1 => ?_)
  refine JO.goto 172 dX5_apply_129 rfl ?_
  exact JO.vret dX5_apply_172 rfl rfl rfl
theorem J_cS_apply_b112 {X : JX} {ad : Nat → Nat} {q : Nat} {w : Nat} (hq : isS q) (hw : w < 11) (x2 : Int32) (σ : CS) : JO X M_cS_apply (QF X eV (wC ad (xZ X))) 112 [some (.ref (ad q)), some (.ref (kz (xZ X) 1 w)), some (.int x2), none, none] [] (wsC ad (xZ X) σ) (cS_apply_b112 q w x2 σ) := by
  unfold cS_apply_b112
  refine JO.aloadn dX5_apply_112 rfl ?_
  refine JO.iloadn dX5_apply_113 rfl ?_
  refine JO.aloadn dX5_apply_114 rfl ?_
  refine JO.gets (v := .ref (kz (xZ X) 1 5)) (fun h => (h.2.1.1 5 (by decide)).1) k4_4 dX5_apply_115 ?_
  refine JO.itne 125 hw (by decide) dX5_apply_118 rfl ?_ ?_
  · refine JO.ic 0 dX5_apply_125 (by decide) ?_
    exact (J_cS_apply_b126 hq hw false _ _).jump (lvLe.no (lvLe.no (lvLe.no (lvLe.no (lvLe.no (lvLe.nil))))))
  · refine JO.ic 1 dX5_apply_121 (by decide) ?_
    refine JO.goto 126 dX5_apply_122 rfl ?_
    exact (J_cS_apply_b126 hq hw true _ _).jump (lvLe.no (lvLe.no (lvLe.no (lvLe.no (lvLe.no (lvLe.nil))))))
theorem J_cS_apply_b153 {X : JX} {ad : Nat → Nat} {q : Nat} {w : Nat} (hq : isS q) (hw : w < 11) (σ : CS) : JO X M_cS_apply (QF X eV (wC ad (xZ X))) 153 [some (.ref (ad q)), some (.ref (kz (xZ X) 1 w)), none, none, none] [] (wsC ad (xZ X) σ) (cS_apply_b153 q w σ) := by
  unfold cS_apply_b153
  refine JO.aloadn dX5_apply_153 rfl ?_
  refine JO.aloadn dX5_apply_154 rfl ?_
  refine JO.gets (v := .ref (kz (xZ X) 1 9)) (fun h => (h.2.1.1 9 (by decide)).1) k4_15 dX5_apply_155 ?_
  refine JO.itne 165 hw (by decide) dX5_apply_158 rfl ?_ ?_
  · refine JO.ic 0 dX5_apply_165 (by decide) ?_
    refine pS3 (v := false) hq k1_48 dX5_apply_166 ?_
    refine JO.goto 172 dX5_apply_169 rfl ?_
    exact JO.vret dX5_apply_172 rfl rfl rfl
  · refine JO.ic 1 dX5_apply_161 (by decide) ?_
    refine JO.goto 166 dX5_apply_162 rfl ?_
    refine pS3 (v := true) hq k1_48 dX5_apply_166 ?_
    refine JO.goto 172 dX5_apply_169 rfl ?_
    exact JO.vret dX5_apply_172 rfl rfl rfl
theorem J_cS_apply {X : JX} {ad : Nat → Nat} {q : Nat} {w : Nat} (hq : isS q) (hw : w < 11) (p2 : Int32) (p3 : Int32) (p4 : Int32) (σ : CS) : JO X M_cS_apply (QF X eV (wC ad (xZ X))) 0 [some (.ref (ad q)), some (.ref (kz (xZ X) 1 w)), some (.int p2), some (.int p3), some (.int p4)] [] (wsC ad (xZ X) σ) (cS_apply q w p2 p3 p4 σ) := by
  unfold cS_apply
  refine JO.gets (v := .ref (kz (xZ X) 3 0)) (fun h => h.2.2.2.2.1.1) k3_230 dX5_apply_0 ?_
  refine JO.aloadn dX5_apply_3 rfl ?_
  refine JO.cui (C_cJ_ordinal hw _) (rcvI hw) U_cJ_ordinal_I_I (decl_of k3_236 k3_237) k3_232 rfl rfl rfl (Nat.le_of_ble_eq_true rfl) dX5_apply_4 (fun a1 => ?_)
  refine JO.ti (N := 11) (f := fun j => Int32.ofNat (j + 1)) (fun h => h.2.2.2.2.1.2) dX5_apply_7 ?_
  refine JO.tsw [(1, 68, _), (2, 76, _), (3, 84, _), (4, 92, _), (5, 92, _), (6, 112, _), (7, 112, _), (8, 132, _), (9, 143, _), (10, 153, _), (11, 153, _)] 172 [(1, 68), (2, 76), (3, 84), (4, 92), (5, 92), (6, 112), (7, 112), (8, 132), (9, 143), (10, 153), (11, 153)] dX5_apply_8 rfl (by decide) rfl (by decide) (JO.swCons ?_ (JO.swCons ?_ (JO.swCons ?_ (JO.swCons ?_ (JO.swCons ?_ (JO.swCons ?_ (JO.swCons ?_ (JO.swCons ?_ (JO.swCons ?_ (JO.swCons ?_ (JO.swCons ?_ (JO.swNil)))))))))))) ?_
  · refine JO.aloadn dX5_apply_68 rfl ?_
    refine JO.iloadn dX5_apply_69 rfl ?_
    refine pS0 hq k1_40 dX5_apply_70 ?_
    refine JO.goto 172 dX5_apply_73 rfl ?_
    exact JO.vret dX5_apply_172 rfl rfl rfl
  · refine JO.aloadn dX5_apply_76 rfl ?_
    refine JO.iloadn dX5_apply_77 rfl ?_
    refine pS1 hq k1_43 dX5_apply_78 ?_
    refine JO.goto 172 dX5_apply_81 rfl ?_
    exact JO.vret dX5_apply_172 rfl rfl rfl
  · refine JO.aloadn dX5_apply_84 rfl ?_
    refine JO.iloadn dX5_apply_85 rfl ?_
    refine pS2 hq k1_46 dX5_apply_86 ?_
    refine JO.goto 172 dX5_apply_89 rfl ?_
    exact JO.vret dX5_apply_172 rfl rfl rfl
  · exact (J_cS_apply_b92 hq hw _ _).jump (lvLe.so rfl (lvLe.so rfl (lvLe.so rfl (lvLe.no (lvLe.no (lvLe.nil))))))
  · exact (J_cS_apply_b92 hq hw _ _).jump (lvLe.so rfl (lvLe.so rfl (lvLe.so rfl (lvLe.no (lvLe.no (lvLe.nil))))))
  · exact (J_cS_apply_b112 hq hw _ _).jump (lvLe.so rfl (lvLe.so rfl (lvLe.so rfl (lvLe.no (lvLe.no (lvLe.nil))))))
  · exact (J_cS_apply_b112 hq hw _ _).jump (lvLe.so rfl (lvLe.so rfl (lvLe.so rfl (lvLe.no (lvLe.no (lvLe.nil))))))
  · refine JO.aloadn dX5_apply_132 rfl ?_
    refine JO.iloadn dX5_apply_133 rfl ?_
    refine JO.iloadn dX5_apply_134 rfl ?_
    refine JO.iload dX5_apply_135 rfl ?_
    refine JO.cvv (C_cS_giveDown hq _ _ _ _) (rcvS hq) K_cS_giveDown k4_11 rfl rfl rfl (Nat.le_of_ble_eq_true rfl) dX5_apply_137 (fun a2 => ?_)
    refine JO.goto 172 dX5_apply_140 rfl ?_
    exact JO.vret dX5_apply_172 rfl rfl rfl
  · refine JO.aloadn dX5_apply_143 rfl ?_
    refine JO.iloadn dX5_apply_144 rfl ?_
    refine JO.ic (-1) dX5_apply_145 (by decide) ?_
    refine JO.ic (-1) dX5_apply_146 (by decide) ?_
    refine JO.cvv (C_cS_giveDown hq _ _ _ _) (rcvS hq) K_cS_giveDown k4_11 rfl rfl rfl (Nat.le_of_ble_eq_true rfl) dX5_apply_147 (fun a3 => ?_)
    refine JO.goto 172 dX5_apply_150 rfl ?_
    exact JO.vret dX5_apply_172 rfl rfl rfl
  · exact (J_cS_apply_b153 hq hw _).jump (lvLe.so rfl (lvLe.so rfl (lvLe.no (lvLe.no (lvLe.no (lvLe.nil))))))
  · exact (J_cS_apply_b153 hq hw _).jump (lvLe.so rfl (lvLe.so rfl (lvLe.no (lvLe.no (lvLe.no (lvLe.nil))))))
  · exact JO.vret dX5_apply_172 rfl rfl rfl
theorem C_cS_apply {ad : Nat → Nat} {q : Nat} {w : Nat} {Z : ZT} (hq : isS q) (hw : w < 11) (p2 : Int32) (p3 : Int32) (p4 : Int32) (σ : CS) : CO yX5_apply M_cS_apply eV Z (wC ad Z) [.ref (ad q), .ref (kz Z 1 w), .int p2, .int p3, .int p4] (wsC ad Z σ) (cS_apply q w p2 p3 p4 σ) :=
  CO.of rfl rfl (Nat.le_of_ble_eq_true rfl) 0 (fun X hZ => by subst hZ; exact J_cS_apply hq hw _ _ _ σ)
theorem K_cS_apply : Kv yX5_apply M_cS_apply RX5 4 := ⟨rfl, k3_227, k3_228, k1_2, k3_229, by decide +kernel⟩
abbrev M_cH_isEmpty : JM := (cX6_isEmpty, 1, RX6, (some .boolean), 0, 0)
def cH_isEmpty (i : Nat) (σ : CS) : Option (Bool × CS) :=
  if cI σ (58 + i) 0 = 0 then (
    some (true, σ))
  else (
    some (false, σ))
theorem J_cH_isEmpty {X : JX} {ad : Nat → Nat} {i : Nat} (hi : i < 8) (σ : CS) : JO X M_cH_isEmpty (QF X eZ (wC ad (xZ X))) 0 [some (.ref (ad (58 + i)))] [] (wsC ad (xZ X) σ) (cH_isEmpty i σ) := by
  unfold cH_isEmpty
  refine JO.aloadn dX6_isEmpty_0 rfl ?_
  refine gH0 hi k2_8 dX6_isEmpty_1 ?_
  refine JO.if_ne 11 dX6_isEmpty_4 rfl ?_ ?_
  · refine JO.ic 0 dX6_isEmpty_11 (by decide) ?_
    exact JO.zret (b := false) dX6_isEmpty_12 rfl rfl rfl
  · refine JO.ic 1 dX6_isEmpty_7 (by decide) ?_
    refine JO.goto 12 dX6_isEmpty_8 rfl ?_
    exact JO.zret (b := true) dX6_isEmpty_12 rfl rfl rfl
theorem C_cH_isEmpty {ad : Nat → Nat} {i : Nat} {Z : ZT} (hi : i < 8) (σ : CS) : CO yX6_isEmpty M_cH_isEmpty eZ Z (wC ad Z) [.ref (ad (58 + i))] (wsC ad Z σ) (cH_isEmpty i σ) :=
  CO.of rfl rfl (Nat.le_of_ble_eq_true rfl) 0 (fun X hZ => by subst hZ; exact J_cH_isEmpty hi σ)
theorem K_cH_isEmpty : Kv yX6_isEmpty M_cH_isEmpty RX6 0 := ⟨rfl, k2_110, k2_111, k1_9, k2_112, by decide +kernel⟩
abbrev M_cH_isRow : JM := (cX6_isRow, 1, RX6, (some .boolean), 0, 0)
def cH_isRow (i : Nat) (σ : CS) : Option (Bool × CS) :=
  if cI σ (58 + i) 0 = 1 then (
    some (true, σ))
  else (
    some (false, σ))
theorem J_cH_isRow {X : JX} {ad : Nat → Nat} {i : Nat} (hi : i < 8) (σ : CS) : JO X M_cH_isRow (QF X eZ (wC ad (xZ X))) 0 [some (.ref (ad (58 + i)))] [] (wsC ad (xZ X) σ) (cH_isRow i σ) := by
  unfold cH_isRow
  refine JO.aloadn dX6_isRow_0 rfl ?_
  refine gH0 hi k2_8 dX6_isRow_1 ?_
  refine JO.ic 1 dX6_isRow_4 (by decide) ?_
  refine JO.icmp_ne 12 dX6_isRow_5 rfl ?_ ?_
  · refine JO.ic 0 dX6_isRow_12 (by decide) ?_
    exact JO.zret (b := false) dX6_isRow_13 rfl rfl rfl
  · refine JO.ic 1 dX6_isRow_8 (by decide) ?_
    refine JO.goto 13 dX6_isRow_9 rfl ?_
    exact JO.zret (b := true) dX6_isRow_13 rfl rfl rfl
theorem C_cH_isRow {ad : Nat → Nat} {i : Nat} {Z : ZT} (hi : i < 8) (σ : CS) : CO yX6_isRow M_cH_isRow eZ Z (wC ad Z) [.ref (ad (58 + i))] (wsC ad Z σ) (cH_isRow i σ) :=
  CO.of rfl rfl (Nat.le_of_ble_eq_true rfl) 0 (fun X hZ => by subst hZ; exact J_cH_isRow hi σ)
theorem K_cH_isRow : Kv yX6_isRow M_cH_isRow RX6 0 := ⟨rfl, k3_104, k3_105, k1_9, k3_106, by decide +kernel⟩
abbrev M_cH_isMessage : JM := (cX6_isMessage, 1, RX6, (some .boolean), 0, 0)
def cH_isMessage (i : Nat) (σ : CS) : Option (Bool × CS) :=
  if cI σ (58 + i) 0 = 2 then (
    some (true, σ))
  else (
    some (false, σ))
theorem J_cH_isMessage {X : JX} {ad : Nat → Nat} {i : Nat} (hi : i < 8) (σ : CS) : JO X M_cH_isMessage (QF X eZ (wC ad (xZ X))) 0 [some (.ref (ad (58 + i)))] [] (wsC ad (xZ X) σ) (cH_isMessage i σ) := by
  unfold cH_isMessage
  refine JO.aloadn dX6_isMessage_0 rfl ?_
  refine gH0 hi k2_8 dX6_isMessage_1 ?_
  refine JO.ic 2 dX6_isMessage_4 (by decide) ?_
  refine JO.icmp_ne 12 dX6_isMessage_5 rfl ?_ ?_
  · refine JO.ic 0 dX6_isMessage_12 (by decide) ?_
    exact JO.zret (b := false) dX6_isMessage_13 rfl rfl rfl
  · refine JO.ic 1 dX6_isMessage_8 (by decide) ?_
    refine JO.goto 13 dX6_isMessage_9 rfl ?_
    exact JO.zret (b := true) dX6_isMessage_13 rfl rfl rfl
theorem C_cH_isMessage {ad : Nat → Nat} {i : Nat} {Z : ZT} (hi : i < 8) (σ : CS) : CO yX6_isMessage M_cH_isMessage eZ Z (wC ad Z) [.ref (ad (58 + i))] (wsC ad Z σ) (cH_isMessage i σ) :=
  CO.of rfl rfl (Nat.le_of_ble_eq_true rfl) 0 (fun X hZ => by subst hZ; exact J_cH_isMessage hi σ)
theorem K_cH_isMessage : Kv yX6_isMessage M_cH_isMessage RX6 0 := ⟨rfl, k2_106, k2_107, k1_9, k2_108, by decide +kernel⟩
abbrev M_cH_clear : JM := (cX6_clear, 1, RX6, none, 0, 0)
def cH_clear (i : Nat) (σ : CS) : Option (Unit × CS) :=
  some ((), tI (tI σ (58 + i) 0 0) (58 + i) 2 0)
theorem J_cH_clear {X : JX} {ad : Nat → Nat} {i : Nat} (hi : i < 8) (σ : CS) : JO X M_cH_clear (QF X eV (wC ad (xZ X))) 0 [some (.ref (ad (58 + i)))] [] (wsC ad (xZ X) σ) (cH_clear i σ) := by
  unfold cH_clear
  refine JO.aloadn dX6_clear_0 rfl ?_
  refine JO.ic 0 dX6_clear_1 (by decide) ?_
  refine pH0 hi k2_8 dX6_clear_2 ?_
  refine JO.aloadn dX6_clear_5 rfl ?_
  refine JO.ic 0 dX6_clear_6 (by decide) ?_
  refine pH2 hi k2_11 dX6_clear_7 ?_
  exact JO.vret dX6_clear_10 rfl rfl rfl
theorem C_cH_clear {ad : Nat → Nat} {i : Nat} {Z : ZT} (hi : i < 8) (σ : CS) : CO yX6_clear M_cH_clear eV Z (wC ad Z) [.ref (ad (58 + i))] (wsC ad Z σ) (cH_clear i σ) :=
  CO.of rfl rfl (Nat.le_of_ble_eq_true rfl) 0 (fun X hZ => by subst hZ; exact J_cH_clear hi σ)
theorem K_cH_clear : Kv yX6_clear M_cH_clear RX6 0 := ⟨rfl, k2_150, k2_151, k1_9, k2_152, by decide +kernel⟩
abbrev M_cJ_fill : JM := (cJ7_fill_d0a16, 5, RJ7, none, 0, 0)
def cJ_fill_l6 (i : Nat) : Nat → Int64 → Int32 → Int32 → CS → Option (Unit × CS)
  | 0, _, _, _, _ => none
  | n + 1, x1, x3, x4, σ =>
    if x4 ≤ x3 then (
      some ((), σ))
    else (
      if inB x3 160 = true then
      cJ_fill_l6 i n x1 (x3 + 1) x4 (tB σ (66 + i) (ix x3) x1)
      else none)
def cJ_fill (i : Nat) (p2 : Int64) (σ : CS) : Option (Unit × CS) :=
  cJ_fill_l6 i 4096 p2 0 160 σ
theorem J_cJ_fill_l6 {X : JX} {ad : Nat → Nat} {i : Nat} (hi : i < 8) : ∀ (n : Nat) (x1 : Int64) (x3 : Int32) (x4 : Int32) (σ : CS), JO X M_cJ_fill (QF X eV (wC ad (xZ X))) 6 [some (.ref (ad (66 + i))), some (.long x1), none, some (.int x3), some (.int x4)] [] (wsC ad (xZ X) σ) (cJ_fill_l6 i n x1 x3 x4 σ) := by
  intro n
  induction n with
  | zero => intro x1 x3 x4 σ; exact JO.nil
  | succ n ih =>
    intro x1 x3 x4 σ
    unfold cJ_fill_l6
    refine JO.iloadn dJ7_fill_d0a16_6 rfl ?_
    refine JO.iload dJ7_fill_d0a16_7 rfl ?_
    refine JO.icmp_ge 22 dJ7_fill_d0a16_9 rfl ?_ ?_
    · exact JO.vret dJ7_fill_d0a16_22 rfl rfl rfl
    · refine JO.aloadn dJ7_fill_d0a16_12 rfl ?_
      refine JO.iloadn dJ7_fill_d0a16_13 rfl ?_
      refine JO.lloadn dJ7_fill_d0a16_14 rfl ?_
      refine JO.vC (l_el hi) dJ7_fill_d0a16_15 ?_
      refine JO.iinc dJ7_fill_d0a16_16 rfl 1 (by decide) rfl rfl ?_
      refine JO.goto 6 dJ7_fill_d0a16_19 rfl ?_
      exact (ih _ _ _ _).jump (lvLe.so rfl (lvLe.so rfl (lvLe.no (lvLe.so rfl (lvLe.so rfl (lvLe.nil))))))
theorem J_cJ_fill {X : JX} {ad : Nat → Nat} {i : Nat} (hi : i < 8) (p2 : Int64) (σ : CS) : JO X M_cJ_fill (QF X eV (wC ad (xZ X))) 0 [some (.ref (ad (66 + i))), some (.long p2), none, none, none] [] (wsC ad (xZ X) σ) (cJ_fill i p2 σ) := by
  unfold cJ_fill
  refine JO.ic 0 dJ7_fill_d0a16_0 (by decide) ?_
  refine JO.istoren dJ7_fill_d0a16_1 rfl rfl ?_
  refine JO.aloadn dJ7_fill_d0a16_2 rfl ?_
  refine JO.nL 160 (l_el hi) rfl dJ7_fill_d0a16_3 ?_
  refine JO.istore dJ7_fill_d0a16_4 rfl rfl ?_
  exact (J_cJ_fill_l6 hi 4096 _ _ _ _).jump (lvLe.so rfl (lvLe.so rfl (lvLe.no (lvLe.so rfl (lvLe.so rfl (lvLe.nil))))))
theorem C_cJ_fill {ad : Nat → Nat} {i : Nat} {Z : ZT} (hi : i < 8) (p2 : Int64) (σ : CS) : CO yJ7_fill_d0a16 M_cJ_fill eV Z (wC ad Z) [.ref (ad (66 + i)), .long p2] (wsC ad Z σ) (cJ_fill i p2 σ) :=
  CO.of rfl rfl (Nat.le_of_ble_eq_true rfl) 2 (fun X hZ => by subst hZ; exact J_cJ_fill hi _ σ)
theorem K_cJ_fill : Ks yJ7_fill_d0a16 M_cJ_fill 2 := ⟨k2_95, k1_3, k2_96, by decide +kernel⟩
abbrev M_cH_holdRow : JM := (cX6_holdRow, 3, RX6, none, 1, 24)
def cH_holdRow (i : Nat) (p1 : Int32) (p2 : Int32) (σ : CS) : Option (Unit × CS) :=
  (cJ_fill i 0 (tI (tI (tI σ (58 + i) 0 1) (58 + i) 1 p1) (58 + i) 2 p2)).bind fun a1 =>
  some ((), a1.2)
theorem J_cH_holdRow {X : JX} {ad : Nat → Nat} {i : Nat} (hi : i < 8) (p1 : Int32) (p2 : Int32) (σ : CS) : JO X M_cH_holdRow (QF X eV (wC ad (xZ X))) 0 [some (.ref (ad (58 + i))), some (.int p1), some (.int p2)] [] (wsC ad (xZ X) σ) (cH_holdRow i p1 p2 σ) := by
  unfold cH_holdRow
  refine JO.aloadn dX6_holdRow_0 rfl ?_
  refine JO.ic 1 dX6_holdRow_1 (by decide) ?_
  refine pH0 hi k2_8 dX6_holdRow_2 ?_
  refine JO.aloadn dX6_holdRow_5 rfl ?_
  refine JO.iloadn dX6_holdRow_6 rfl ?_
  refine pH1 hi k2_9 dX6_holdRow_7 ?_
  refine JO.aloadn dX6_holdRow_10 rfl ?_
  refine JO.iloadn dX6_holdRow_11 rfl ?_
  refine pH2 hi k2_11 dX6_holdRow_12 ?_
  refine JO.aloadn dX6_holdRow_15 rfl ?_
  refine gH3 hi k2_14 dX6_holdRow_16 ?_
  refine JO.lc 0 dX6_holdRow_19 (by decide) ?_
  refine JO.csv (C_cJ_fill hi _ _) K_cJ_fill k2_94 rfl rfl rfl (Nat.le_of_ble_eq_true rfl) dX6_holdRow_20 (fun a1 => ?_)
  exact JO.vret dX6_holdRow_23 rfl rfl rfl
theorem C_cH_holdRow {ad : Nat → Nat} {i : Nat} {Z : ZT} (hi : i < 8) (p1 : Int32) (p2 : Int32) (σ : CS) : CO yX6_holdRow M_cH_holdRow eV Z (wC ad Z) [.ref (ad (58 + i)), .int p1, .int p2] (wsC ad Z σ) (cH_holdRow i p1 p2 σ) :=
  CO.of rfl rfl (Nat.le_of_ble_eq_true rfl) 0 (fun X hZ => by subst hZ; exact J_cH_holdRow hi _ _ σ)
theorem K_cH_holdRow : Kv yX6_holdRow M_cH_holdRow RX6 2 := ⟨rfl, k2_91, k2_92, k1_9, k2_93, by decide +kernel⟩
abbrev M_cH_holdMessage : JM := (cX6_holdMessage, 5, RX6, none, 1, 20)
def cH_holdMessage (i : Nat) (p1 : Int32) (p2 : Int32) (p3 : Int32) (p4 : Int32) (σ : CS) : Option (Unit × CS) :=
  (cH_clear i σ).bind fun a1 =>
  some ((), tI (tI (tI (tI (tI a1.2 (58 + i) 0 2) (58 + i) 4 p1) (58 + i) 5 p2) (58 + i) 6 p3) (58 + i) 7 p4)
theorem J_cH_holdMessage {X : JX} {ad : Nat → Nat} {i : Nat} (hi : i < 8) (p1 : Int32) (p2 : Int32) (p3 : Int32) (p4 : Int32) (σ : CS) : JO X M_cH_holdMessage (QF X eV (wC ad (xZ X))) 0 [some (.ref (ad (58 + i))), some (.int p1), some (.int p2), some (.int p3), some (.int p4)] [] (wsC ad (xZ X) σ) (cH_holdMessage i p1 p2 p3 p4 σ) := by
  unfold cH_holdMessage
  refine JO.aloadn dX6_holdMessage_0 rfl ?_
  refine JO.cvv (C_cH_clear hi _) (rcvH hi) K_cH_clear k3_98 rfl rfl rfl (Nat.le_of_ble_eq_true rfl) dX6_holdMessage_1 (fun a1 => ?_)
  refine JO.aloadn dX6_holdMessage_4 rfl ?_
  refine JO.ic 2 dX6_holdMessage_5 (by decide) ?_
  refine pH0 hi k2_8 dX6_holdMessage_6 ?_
  refine JO.aloadn dX6_holdMessage_9 rfl ?_
  refine JO.iloadn dX6_holdMessage_10 rfl ?_
  refine pH4 hi k2_16 dX6_holdMessage_11 ?_
  refine JO.aloadn dX6_holdMessage_14 rfl ?_
  refine JO.iloadn dX6_holdMessage_15 rfl ?_
  refine pH5 hi k2_18 dX6_holdMessage_16 ?_
  refine JO.aloadn dX6_holdMessage_19 rfl ?_
  refine JO.iloadn dX6_holdMessage_20 rfl ?_
  refine pH6 hi k2_19 dX6_holdMessage_21 ?_
  refine JO.aloadn dX6_holdMessage_24 rfl ?_
  refine JO.iload dX6_holdMessage_25 rfl ?_
  refine pH7 hi k2_20 dX6_holdMessage_27 ?_
  exact JO.vret dX6_holdMessage_30 rfl rfl rfl
theorem C_cH_holdMessage {ad : Nat → Nat} {i : Nat} {Z : ZT} (hi : i < 8) (p1 : Int32) (p2 : Int32) (p3 : Int32) (p4 : Int32) (σ : CS) : CO yX6_holdMessage M_cH_holdMessage eV Z (wC ad Z) [.ref (ad (58 + i)), .int p1, .int p2, .int p3, .int p4] (wsC ad Z σ) (cH_holdMessage i p1 p2 p3 p4 σ) :=
  CO.of rfl rfl (Nat.le_of_ble_eq_true rfl) 0 (fun X hZ => by subst hZ; exact J_cH_holdMessage hi _ _ _ _ σ)
theorem K_cH_holdMessage : Kv yX6_holdMessage M_cH_holdMessage RX6 4 := ⟨rfl, k3_95, k3_96, k1_9, k3_97, by decide +kernel⟩
abbrev M_cH_has : JM := (cX6_has, 2, RX6, (some .boolean), 0, 0)
def cH_has (i : Nat) (p1 : Int32) (σ : CS) : Option (Bool × CS) :=
  if p1 < 0 then (
    some (false, σ))
  else (
    if cI σ (58 + i) 2 ≤ p1 then (
      some (false, σ))
    else (
      some (true, σ)))
theorem J_cH_has {X : JX} {ad : Nat → Nat} {i : Nat} (hi : i < 8) (p1 : Int32) (σ : CS) : JO X M_cH_has (QF X eZ (wC ad (xZ X))) 0 [some (.ref (ad (58 + i))), some (.int p1)] [] (wsC ad (xZ X) σ) (cH_has i p1 σ) := by
  unfold cH_has
  refine JO.iloadn dX6_has_0 rfl ?_
  refine JO.if_lt 16 dX6_has_1 rfl ?_ ?_
  · refine JO.ic 0 dX6_has_16 (by decide) ?_
    exact JO.zret (b := false) dX6_has_17 rfl rfl rfl
  · refine JO.iloadn dX6_has_4 rfl ?_
    refine JO.aloadn dX6_has_5 rfl ?_
    refine gH2 hi k2_11 dX6_has_6 ?_
    refine JO.icmp_ge 16 dX6_has_9 rfl ?_ ?_
    · refine JO.ic 0 dX6_has_16 (by decide) ?_
      exact JO.zret (b := false) dX6_has_17 rfl rfl rfl
    · refine JO.ic 1 dX6_has_12 (by decide) ?_
      refine JO.goto 17 dX6_has_13 rfl ?_
      exact JO.zret (b := true) dX6_has_17 rfl rfl rfl
theorem C_cH_has {ad : Nat → Nat} {i : Nat} {Z : ZT} (hi : i < 8) (p1 : Int32) (σ : CS) : CO yX6_has M_cH_has eZ Z (wC ad Z) [.ref (ad (58 + i)), .int p1] (wsC ad Z σ) (cH_has i p1 σ) :=
  CO.of rfl rfl (Nat.le_of_ble_eq_true rfl) 0 (fun X hZ => by subst hZ; exact J_cH_has hi _ σ)
theorem K_cH_has : Kv yX6_has M_cH_has RX6 1 := ⟨rfl, k2_114, k2_115, k1_9, k2_116, by decide +kernel⟩
abbrev M_cH_hasStretch : JM := (cX6_hasStretch, 3, RX6, (some .boolean), 0, 0)
def cH_hasStretch (i : Nat) (p1 : Int32) (p2 : Int32) (σ : CS) : Option (Bool × CS) :=
  if p1 < 0 then (
    some (false, σ))
  else (
    if 0 < (lg_cmp ((Int32.toInt64 p1) + (Int32.toInt64 p2)) (Int32.toInt64 (cI σ (58 + i) 2))) then (
      some (false, σ))
    else (
      some (true, σ)))
theorem J_cH_hasStretch {X : JX} {ad : Nat → Nat} {i : Nat} (hi : i < 8) (p1 : Int32) (p2 : Int32) (σ : CS) : JO X M_cH_hasStretch (QF X eZ (wC ad (xZ X))) 0 [some (.ref (ad (58 + i))), some (.int p1), some (.int p2)] [] (wsC ad (xZ X) σ) (cH_hasStretch i p1 p2 σ) := by
  unfold cH_hasStretch
  refine JO.iloadn dX6_hasStretch_0 rfl ?_
  refine JO.if_lt 22 dX6_hasStretch_1 rfl ?_ ?_
  · refine JO.ic 0 dX6_hasStretch_22 (by decide) ?_
    exact JO.zret (b := false) dX6_hasStretch_23 rfl rfl rfl
  · refine JO.iloadn dX6_hasStretch_4 rfl ?_
    refine JO.i2l dX6_hasStretch_5 ?_
    refine JO.iloadn dX6_hasStretch_6 rfl ?_
    refine JO.i2l dX6_hasStretch_7 ?_
    refine JO.ladd dX6_hasStretch_8 ?_
    refine JO.aloadn dX6_hasStretch_9 rfl ?_
    refine gH2 hi k2_11 dX6_hasStretch_10 ?_
    refine JO.i2l dX6_hasStretch_13 ?_
    refine JO.lcmp dX6_hasStretch_14 ?_
    refine JO.if_gt 22 dX6_hasStretch_15 rfl ?_ ?_
    · refine JO.ic 0 dX6_hasStretch_22 (by decide) ?_
      exact JO.zret (b := false) dX6_hasStretch_23 rfl rfl rfl
    · refine JO.ic 1 dX6_hasStretch_18 (by decide) ?_
      refine JO.goto 23 dX6_hasStretch_19 rfl ?_
      exact JO.zret (b := true) dX6_hasStretch_23 rfl rfl rfl
theorem C_cH_hasStretch {ad : Nat → Nat} {i : Nat} {Z : ZT} (hi : i < 8) (p1 : Int32) (p2 : Int32) (σ : CS) : CO yX6_hasStretch M_cH_hasStretch eZ Z (wC ad Z) [.ref (ad (58 + i)), .int p1, .int p2] (wsC ad Z σ) (cH_hasStretch i p1 p2 σ) :=
  CO.of rfl rfl (Nat.le_of_ble_eq_true rfl) 0 (fun X hZ => by subst hZ; exact J_cH_hasStretch hi _ _ σ)
theorem K_cH_hasStretch : Kv yX6_hasStretch M_cH_hasStretch RX6 2 := ⟨rfl, k2_135, k2_136, k1_9, k2_137, by decide +kernel⟩
abbrev M_cH_lowestBits : JM := (cX6_lowestBits, 3, RX6, (some .long), 0, 0)
def cH_lowestBits (i : Nat) (p1 : Int64) (σ : CS) : Option (Int64 × CS) :=
  sw (cI σ (58 + i) 1) [(0, 32,
    some ((Int32.toInt64 ((Int32.toInt8 (Int64.toInt32 p1)).toInt32)), σ)), (1, 37,
    some ((Int32.toInt64 ((Int32.toInt16 (Int64.toInt32 p1)).toInt32)), σ)), (2, 42,
    some ((Int32.toInt64 (Int64.toInt32 p1)), σ))] (
    some (p1, σ))
theorem J_cH_lowestBits {X : JX} {ad : Nat → Nat} {i : Nat} (hi : i < 8) (p1 : Int64) (σ : CS) : JO X M_cH_lowestBits (QF X eL (wC ad (xZ X))) 0 [some (.ref (ad (58 + i))), some (.long p1), none] [] (wsC ad (xZ X) σ) (cH_lowestBits i p1 σ) := by
  unfold cH_lowestBits
  refine JO.aloadn dX6_lowestBits_0 rfl ?_
  refine gH1 hi k2_9 dX6_lowestBits_1 ?_
  refine JO.tsw [(0, 32, _), (1, 37, _), (2, 42, _)] 46 [(0, 32), (1, 37), (2, 42)] dX6_lowestBits_4 rfl (by decide) rfl (by decide) (JO.swCons ?_ (JO.swCons ?_ (JO.swCons ?_ (JO.swNil)))) ?_
  · refine JO.lloadn dX6_lowestBits_32 rfl ?_
    refine JO.l2i dX6_lowestBits_33 ?_
    refine JO.i2b dX6_lowestBits_34 ?_
    refine JO.i2l dX6_lowestBits_35 ?_
    exact JO.lret dX6_lowestBits_36 rfl rfl rfl
  · refine JO.lloadn dX6_lowestBits_37 rfl ?_
    refine JO.l2i dX6_lowestBits_38 ?_
    refine JO.i2s dX6_lowestBits_39 ?_
    refine JO.i2l dX6_lowestBits_40 ?_
    exact JO.lret dX6_lowestBits_41 rfl rfl rfl
  · refine JO.lloadn dX6_lowestBits_42 rfl ?_
    refine JO.l2i dX6_lowestBits_43 ?_
    refine JO.i2l dX6_lowestBits_44 ?_
    exact JO.lret dX6_lowestBits_45 rfl rfl rfl
  · refine JO.lloadn dX6_lowestBits_46 rfl ?_
    exact JO.lret dX6_lowestBits_47 rfl rfl rfl
theorem C_cH_lowestBits {ad : Nat → Nat} {i : Nat} {Z : ZT} (hi : i < 8) (p1 : Int64) (σ : CS) : CO yX6_lowestBits M_cH_lowestBits eL Z (wC ad Z) [.ref (ad (58 + i)), .long p1] (wsC ad Z σ) (cH_lowestBits i p1 σ) :=
  CO.of rfl rfl (Nat.le_of_ble_eq_true rfl) 0 (fun X hZ => by subst hZ; exact J_cH_lowestBits hi _ σ)
theorem K_cH_lowestBits : Kv yX6_lowestBits M_cH_lowestBits RX6 1 := ⟨rfl, k2_124, s1_2, k1_9, k2_125, by decide +kernel⟩
abbrev M_cH_keepAt : JM := (cX6_keepAt, 4, RX6, none, 1, 22)
def cH_keepAt (i : Nat) (p1 : Int32) (p2 : Int64) (σ : CS) : Option (Unit × CS) :=
  (cH_has i p1 σ).bind fun a1 =>
  if a1.1 = true then (
    (cH_lowestBits i p2 a1.2).bind fun a2 =>
    if inB p1 160 = true then
    some ((), tB a2.2 (66 + i) (ix p1) a2.1)
    else none)
  else (
    some ((), a1.2))
theorem J_cH_keepAt {X : JX} {ad : Nat → Nat} {i : Nat} (hi : i < 8) (p1 : Int32) (p2 : Int64) (σ : CS) : JO X M_cH_keepAt (QF X eV (wC ad (xZ X))) 0 [some (.ref (ad (58 + i))), some (.int p1), some (.long p2), none] [] (wsC ad (xZ X) σ) (cH_keepAt i p1 p2 σ) := by
  unfold cH_keepAt
  refine JO.aloadn dX6_keepAt_0 rfl ?_
  refine JO.iloadn dX6_keepAt_1 rfl ?_
  refine JO.cvz (C_cH_has hi _ _) (rcvH hi) K_cH_has k2_121 rfl rfl rfl (Nat.le_of_ble_eq_true rfl) dX6_keepAt_2 (fun a1 => ?_)
  refine JO.zeq 19 dX6_keepAt_5 rfl ?_ ?_
  · exact JO.vret dX6_keepAt_19 rfl rfl rfl
  · refine JO.aloadn dX6_keepAt_8 rfl ?_
    refine gH3 hi k2_14 dX6_keepAt_9 ?_
    refine JO.iloadn dX6_keepAt_12 rfl ?_
    refine JO.aloadn dX6_keepAt_13 rfl ?_
    refine JO.lloadn dX6_keepAt_14 rfl ?_
    refine JO.cvl (C_cH_lowestBits hi _ _) (rcvH hi) K_cH_lowestBits k2_122 rfl rfl rfl (Nat.le_of_ble_eq_true rfl) dX6_keepAt_15 (fun a2 => ?_)
    refine JO.vC (l_el hi) dX6_keepAt_18 ?_
    exact JO.vret dX6_keepAt_19 rfl rfl rfl
theorem C_cH_keepAt {ad : Nat → Nat} {i : Nat} {Z : ZT} (hi : i < 8) (p1 : Int32) (p2 : Int64) (σ : CS) : CO yX6_keepAt M_cH_keepAt eV Z (wC ad Z) [.ref (ad (58 + i)), .int p1, .long p2] (wsC ad Z σ) (cH_keepAt i p1 p2 σ) :=
  CO.of rfl rfl (Nat.le_of_ble_eq_true rfl) 0 (fun X hZ => by subst hZ; exact J_cH_keepAt hi _ _ σ)
theorem K_cH_keepAt : Kv yX6_keepAt M_cH_keepAt RX6 2 := ⟨rfl, k2_118, k2_119, k1_9, k2_120, by decide +kernel⟩
abbrev M_cH_letter : JM := (cX6_letter, 2, RX6, (some .int), 0, 0)
def cH_letter (i : Nat) (p1 : Int32) (σ : CS) : Option (Int32 × CS) :=
  if p1 < 0 then (
    some (0, σ))
  else (
    if cI σ (58 + i) 2 ≤ p1 then (
      some (0, σ))
    else (
      if inB p1 160 = true then
      some ((Int64.toInt32 (cB σ (66 + i) (ix p1))), σ)
      else none))
theorem J_cH_letter {X : JX} {ad : Nat → Nat} {i : Nat} (hi : i < 8) (p1 : Int32) (σ : CS) : JO X M_cH_letter (QF X eI (wC ad (xZ X))) 0 [some (.ref (ad (58 + i))), some (.int p1)] [] (wsC ad (xZ X) σ) (cH_letter i p1 σ) := by
  unfold cH_letter
  refine JO.iloadn dX6_letter_0 rfl ?_
  refine JO.if_lt 22 dX6_letter_1 rfl ?_ ?_
  · refine JO.ic 0 dX6_letter_22 (by decide) ?_
    exact JO.iret dX6_letter_23 rfl rfl rfl
  · refine JO.iloadn dX6_letter_4 rfl ?_
    refine JO.aloadn dX6_letter_5 rfl ?_
    refine gH2 hi k2_11 dX6_letter_6 ?_
    refine JO.icmp_ge 22 dX6_letter_9 rfl ?_ ?_
    · refine JO.ic 0 dX6_letter_22 (by decide) ?_
      exact JO.iret dX6_letter_23 rfl rfl rfl
    · refine JO.aloadn dX6_letter_12 rfl ?_
      refine gH3 hi k2_14 dX6_letter_13 ?_
      refine JO.iloadn dX6_letter_16 rfl ?_
      refine JO.lC (l_el hi) dX6_letter_17 ?_
      refine JO.l2i dX6_letter_18 ?_
      refine JO.goto 23 dX6_letter_19 rfl ?_
      exact JO.iret dX6_letter_23 rfl rfl rfl
theorem C_cH_letter {ad : Nat → Nat} {i : Nat} {Z : ZT} (hi : i < 8) (p1 : Int32) (σ : CS) : CO yX6_letter M_cH_letter eI Z (wC ad Z) [.ref (ad (58 + i)), .int p1] (wsC ad Z σ) (cH_letter i p1 σ) :=
  CO.of rfl rfl (Nat.le_of_ble_eq_true rfl) 0 (fun X hZ => by subst hZ; exact J_cH_letter hi _ σ)
theorem K_cH_letter : Kv yX6_letter M_cH_letter RX6 1 := ⟨rfl, k3_200, k3_201, k1_9, k3_202, by decide +kernel⟩
abbrev M_cH_isOfSort : JM := (cX6_isOfSort, 2, RX6, (some .boolean), 0, 0)
def cH_isOfSort (i : Nat) (p1 : Int32) (σ : CS) : Option (Bool × CS) :=
  sw p1 [(1, 28,
    if cI σ (58 + i) 4 = 2 then (
      some (true, σ))
    else (
      if cI σ (58 + i) 4 = 3 then (
        some (true, σ))
      else (
        if cI σ (58 + i) 4 = 5 then (
          some (true, σ))
        else (
          if cI σ (58 + i) 4 = 8 then (
            some (true, σ))
          else (
            some (false, σ)))))), (2, 67,
    if cI σ (58 + i) 4 = 6 then (
      some (true, σ))
    else (
      if cI σ (58 + i) 4 = 7 then (
        some (true, σ))
      else (
        some (false, σ)))), (3, 91,
    if cI σ (58 + i) 4 = 9 then (
      some (true, σ))
    else (
      some (false, σ)))] (
    some (true, σ))
theorem J_cH_isOfSort {X : JX} {ad : Nat → Nat} {i : Nat} (hi : i < 8) (p1 : Int32) (σ : CS) : JO X M_cH_isOfSort (QF X eZ (wC ad (xZ X))) 0 [some (.ref (ad (58 + i))), some (.int p1)] [] (wsC ad (xZ X) σ) (cH_isOfSort i p1 σ) := by
  unfold cH_isOfSort
  refine JO.iloadn dX6_isOfSort_0 rfl ?_
  refine JO.tsw [(1, 28, _), (2, 67, _), (3, 91, _)] 106 [(1, 28), (2, 67), (3, 91)] dX6_isOfSort_1 rfl (by decide) rfl (by decide) (JO.swCons ?_ (JO.swCons ?_ (JO.swCons ?_ (JO.swNil)))) ?_
  · refine JO.aloadn dX6_isOfSort_28 rfl ?_
    refine gH4 hi k2_16 dX6_isOfSort_29 ?_
    refine JO.ic 2 dX6_isOfSort_32 (by decide) ?_
    refine JO.icmp_eq 61 dX6_isOfSort_33 rfl ?_ ?_
    · refine JO.ic 1 dX6_isOfSort_61 (by decide) ?_
      refine JO.goto 66 dX6_isOfSort_62 rfl ?_
      exact JO.zret (b := true) dX6_isOfSort_66 rfl rfl rfl
    · refine JO.aloadn dX6_isOfSort_36 rfl ?_
      refine gH4 hi k2_16 dX6_isOfSort_37 ?_
      refine JO.ic 3 dX6_isOfSort_40 (by decide) ?_
      refine JO.icmp_eq 61 dX6_isOfSort_41 rfl ?_ ?_
      · refine JO.ic 1 dX6_isOfSort_61 (by decide) ?_
        refine JO.goto 66 dX6_isOfSort_62 rfl ?_
        exact JO.zret (b := true) dX6_isOfSort_66 rfl rfl rfl
      · refine JO.aloadn dX6_isOfSort_44 rfl ?_
        refine gH4 hi k2_16 dX6_isOfSort_45 ?_
        refine JO.ic 5 dX6_isOfSort_48 (by decide) ?_
        refine JO.icmp_eq 61 dX6_isOfSort_49 rfl ?_ ?_
        · refine JO.ic 1 dX6_isOfSort_61 (by decide) ?_
          refine JO.goto 66 dX6_isOfSort_62 rfl ?_
          exact JO.zret (b := true) dX6_isOfSort_66 rfl rfl rfl
        · refine JO.aloadn dX6_isOfSort_52 rfl ?_
          refine gH4 hi k2_16 dX6_isOfSort_53 ?_
          refine JO.bip 8 dX6_isOfSort_56 (by decide) ?_
          refine JO.icmp_ne 65 dX6_isOfSort_58 rfl ?_ ?_
          · refine JO.ic 0 dX6_isOfSort_65 (by decide) ?_
            exact JO.zret (b := false) dX6_isOfSort_66 rfl rfl rfl
          · refine JO.ic 1 dX6_isOfSort_61 (by decide) ?_
            refine JO.goto 66 dX6_isOfSort_62 rfl ?_
            exact JO.zret (b := true) dX6_isOfSort_66 rfl rfl rfl
  · refine JO.aloadn dX6_isOfSort_67 rfl ?_
    refine gH4 hi k2_16 dX6_isOfSort_68 ?_
    refine JO.bip 6 dX6_isOfSort_71 (by decide) ?_
    refine JO.icmp_eq 85 dX6_isOfSort_73 rfl ?_ ?_
    · refine JO.ic 1 dX6_isOfSort_85 (by decide) ?_
      refine JO.goto 90 dX6_isOfSort_86 rfl ?_
      exact JO.zret (b := true) dX6_isOfSort_90 rfl rfl rfl
    · refine JO.aloadn dX6_isOfSort_76 rfl ?_
      refine gH4 hi k2_16 dX6_isOfSort_77 ?_
      refine JO.bip 7 dX6_isOfSort_80 (by decide) ?_
      refine JO.icmp_ne 89 dX6_isOfSort_82 rfl ?_ ?_
      · refine JO.ic 0 dX6_isOfSort_89 (by decide) ?_
        exact JO.zret (b := false) dX6_isOfSort_90 rfl rfl rfl
      · refine JO.ic 1 dX6_isOfSort_85 (by decide) ?_
        refine JO.goto 90 dX6_isOfSort_86 rfl ?_
        exact JO.zret (b := true) dX6_isOfSort_90 rfl rfl rfl
  · refine JO.aloadn dX6_isOfSort_91 rfl ?_
    refine gH4 hi k2_16 dX6_isOfSort_92 ?_
    refine JO.bip 9 dX6_isOfSort_95 (by decide) ?_
    refine JO.icmp_ne 104 dX6_isOfSort_97 rfl ?_ ?_
    · refine JO.ic 0 dX6_isOfSort_104 (by decide) ?_
      exact JO.zret (b := false) dX6_isOfSort_105 rfl rfl rfl
    · refine JO.ic 1 dX6_isOfSort_100 (by decide) ?_
      refine JO.goto 105 dX6_isOfSort_101 rfl ?_
      exact JO.zret (b := true) dX6_isOfSort_105 rfl rfl rfl
  · refine JO.ic 1 dX6_isOfSort_106 (by decide) ?_
    exact JO.zret (b := true) dX6_isOfSort_107 rfl rfl rfl
theorem C_cH_isOfSort {ad : Nat → Nat} {i : Nat} {Z : ZT} (hi : i < 8) (p1 : Int32) (σ : CS) : CO yX6_isOfSort M_cH_isOfSort eZ Z (wC ad Z) [.ref (ad (58 + i)), .int p1] (wsC ad Z σ) (cH_isOfSort i p1 σ) :=
  CO.of rfl rfl (Nat.le_of_ble_eq_true rfl) 0 (fun X hZ => by subst hZ; exact J_cH_isOfSort hi _ σ)
theorem K_cH_isOfSort : Kv yX6_isOfSort M_cH_isOfSort RX6 1 := ⟨rfl, k3_112, k3_113, k1_9, k3_114, by decide +kernel⟩
abbrev M_cH_saysAs : JM := (cX6_saysAs, 2, RX6, (some .int), 0, 0)
def cH_saysAs (i : Nat) (p1 : Int32) (σ : CS) : Option (Int32 × CS) :=
  sw p1 [(1, 28,
    if cI σ (58 + i) 4 = 2 then (
      some (1, σ))
    else (
      some (0, σ))), (2, 42,
    if cI σ (58 + i) 4 = 6 then (
      some (1, σ))
    else (
      some (2, σ))), (3, 57,
    some (cI σ (58 + i) 7, σ))] (
    some (((10 * cI σ (58 + i) 5) + cI σ (58 + i) 6), σ))
theorem J_cH_saysAs {X : JX} {ad : Nat → Nat} {i : Nat} (hi : i < 8) (p1 : Int32) (σ : CS) : JO X M_cH_saysAs (QF X eI (wC ad (xZ X))) 0 [some (.ref (ad (58 + i))), some (.int p1)] [] (wsC ad (xZ X) σ) (cH_saysAs i p1 σ) := by
  unfold cH_saysAs
  refine JO.iloadn dX6_saysAs_0 rfl ?_
  refine JO.tsw [(1, 28, _), (2, 42, _), (3, 57, _)] 62 [(1, 28), (2, 42), (3, 57)] dX6_saysAs_1 rfl (by decide) rfl (by decide) (JO.swCons ?_ (JO.swCons ?_ (JO.swCons ?_ (JO.swNil)))) ?_
  · refine JO.aloadn dX6_saysAs_28 rfl ?_
    refine gH4 hi k2_16 dX6_saysAs_29 ?_
    refine JO.ic 2 dX6_saysAs_32 (by decide) ?_
    refine JO.icmp_ne 40 dX6_saysAs_33 rfl ?_ ?_
    · refine JO.ic 0 dX6_saysAs_40 (by decide) ?_
      exact JO.iret dX6_saysAs_41 rfl rfl rfl
    · refine JO.ic 1 dX6_saysAs_36 (by decide) ?_
      refine JO.goto 41 dX6_saysAs_37 rfl ?_
      exact JO.iret dX6_saysAs_41 rfl rfl rfl
  · refine JO.aloadn dX6_saysAs_42 rfl ?_
    refine gH4 hi k2_16 dX6_saysAs_43 ?_
    refine JO.bip 6 dX6_saysAs_46 (by decide) ?_
    refine JO.icmp_ne 55 dX6_saysAs_48 rfl ?_ ?_
    · refine JO.ic 2 dX6_saysAs_55 (by decide) ?_
      exact JO.iret dX6_saysAs_56 rfl rfl rfl
    · refine JO.ic 1 dX6_saysAs_51 (by decide) ?_
      refine JO.goto 56 dX6_saysAs_52 rfl ?_
      exact JO.iret dX6_saysAs_56 rfl rfl rfl
  · refine JO.aloadn dX6_saysAs_57 rfl ?_
    refine gH7 hi k2_20 dX6_saysAs_58 ?_
    exact JO.iret dX6_saysAs_61 rfl rfl rfl
  · refine JO.bip 10 dX6_saysAs_62 (by decide) ?_
    refine JO.aloadn dX6_saysAs_64 rfl ?_
    refine gH5 hi k2_18 dX6_saysAs_65 ?_
    refine JO.imul dX6_saysAs_68 ?_
    refine JO.aloadn dX6_saysAs_69 rfl ?_
    refine gH6 hi k2_19 dX6_saysAs_70 ?_
    refine JO.iadd dX6_saysAs_73 ?_
    exact JO.iret dX6_saysAs_74 rfl rfl rfl
theorem C_cH_saysAs {ad : Nat → Nat} {i : Nat} {Z : ZT} (hi : i < 8) (p1 : Int32) (σ : CS) : CO yX6_saysAs M_cH_saysAs eI Z (wC ad Z) [.ref (ad (58 + i)), .int p1] (wsC ad Z σ) (cH_saysAs i p1 σ) :=
  CO.of rfl rfl (Nat.le_of_ble_eq_true rfl) 0 (fun X hZ => by subst hZ; exact J_cH_saysAs hi _ σ)
theorem K_cH_saysAs : Kv yX6_saysAs M_cH_saysAs RX6 1 := ⟨rfl, k3_116, k3_117, k1_9, k3_118, by decide +kernel⟩
