abbrev M_cR_keepMoment : JM := (cX4_keepMoment, 3, RX4, none, 0, 0)
def cR_keepMoment_b54 (b : Nat) (k10 : Int32 → Int32 → CS → Option (Unit × CS)) (x1 : Int32) (x2 : Int32) (t0 : Int32) (t1 : Int32) (σ : CS) : Option (Unit × CS) :=
  if inB t1 366 = true then
  if inB x2 6 = true then
  if inB (x1 + x2) 366 = true then
  k10 x1 (x2 + 1) (tA (tA σ (b + 19) (ix t1) t0) (b + 20) (ix (x1 + x2)) (cI σ (b + 2 + (ix x2)) 2))
  else none
  else none
  else none
def cR_keepMoment_l10 (b : Nat) : Nat → Int32 → Int32 → CS → Option (Unit × CS)
  | 0, _, _, _ => none
  | n + 1, x1, x2, σ =>
    if cI σ 3 0 < x2 then (
      if inB (cI σ b 6) 61 = true then
      some ((), tA σ (b + 21) (ix (cI σ b 6)) (cI σ b 8))
      else none)
    else (
      if inB x2 6 = true then
      if cZ σ (b + 2 + (ix x2)) 3 = true then (
        if inB x2 6 = true then
        cR_keepMoment_b54 b (fun x1 x2 σ => cR_keepMoment_l10 b n x1 x2 σ) x1 x2 (cI σ (b + 2 + (ix x2)) 4) (x1 + x2) σ
        else none)
      else (
        cR_keepMoment_b54 b (fun x1 x2 σ => cR_keepMoment_l10 b n x1 x2 σ) x1 x2 9 (x1 + x2) σ)
      else none)
def cR_keepMoment (b : Nat) (σ : CS) : Option (Unit × CS) :=
  cR_keepMoment_l10 b 4096 (cI σ b 6 * 6) 0 σ
theorem J_cR_keepMoment_b54 {X : JX} {ad : Nat → Nat} {b : Nat} (hb : isR b) {k10 : Int32 → Int32 → CS → Option (Unit × CS)} (hk10 : ∀ (x1 : Int32) (x2 : Int32) (σ : CS), JO X M_cR_keepMoment (QF X eV (wC ad (xZ X))) 10 [some (.ref (ad b)), some (.int x1), some (.int x2)] [] (wsC ad (xZ X) σ) (k10 x1 x2 σ)) (x1 : Int32) (x2 : Int32) (t0 : Int32) (t1 : Int32) (σ : CS) : JO X M_cR_keepMoment (QF X eV (wC ad (xZ X))) 54 [some (.ref (ad b)), some (.int x1), some (.int x2)] [.int t0, .int t1, .ref (ad (b + 19))] (wsC ad (xZ X) σ) (cR_keepMoment_b54 b k10 x1 x2 t0 t1 σ) := by
  unfold cR_keepMoment_b54
  refine JO.uC (i_r19 hb) dX4_keepMoment_54 ?_
  refine JO.aloadn dX4_keepMoment_55 rfl ?_
  refine gR15 hb k1_206 dX4_keepMoment_56 ?_
  refine JO.iloadn dX4_keepMoment_59 rfl ?_
  refine JO.iloadn dX4_keepMoment_60 rfl ?_
  refine JO.iadd dX4_keepMoment_61 ?_
  refine JO.aloadn dX4_keepMoment_62 rfl ?_
  refine gR2 hb k1_181 dX4_keepMoment_63 ?_
  refine JO.iloadn dX4_keepMoment_66 rfl ?_
  refine JO.aT hb dX4_keepMoment_67 (fun h21 => ?_)
  refine gT2 (j := ix x2) hb h21 (Or.inl rfl) k1_127 dX4_keepMoment_68 ?_
  refine JO.uC (i_r20 hb) dX4_keepMoment_71 ?_
  refine JO.iinc dX4_keepMoment_72 rfl 1 (by decide) rfl rfl ?_
  refine JO.goto 10 dX4_keepMoment_75 rfl ?_
  exact (hk10 _ _ _).jump (lvLe.so rfl (lvLe.so rfl (lvLe.so rfl (lvLe.nil))))
theorem J_cR_keepMoment_l10 {X : JX} {ad : Nat → Nat} {b : Nat} (hb : isR b) : ∀ (n : Nat) (x1 : Int32) (x2 : Int32) (σ : CS), JO X M_cR_keepMoment (QF X eV (wC ad (xZ X))) 10 [some (.ref (ad b)), some (.int x1), some (.int x2)] [] (wsC ad (xZ X) σ) (cR_keepMoment_l10 b n x1 x2 σ) := by
  intro n
  induction n with
  | zero => intro x1 x2 σ; exact JO.nil
  | succ n ih =>
    intro x1 x2 σ
    unfold cR_keepMoment_l10
    refine JO.iloadn dX4_keepMoment_10 rfl ?_
    refine JO.aloadn dX4_keepMoment_11 rfl ?_
    refine gR0 hb k1_177 dX4_keepMoment_12 ?_
    refine gS0 isS3 k1_41 dX4_keepMoment_15 ?_
    refine JO.icmp_gt 78 dX4_keepMoment_18 rfl ?_ ?_
    · refine JO.aloadn dX4_keepMoment_78 rfl ?_
      refine gR16 hb k1_207 dX4_keepMoment_79 ?_
      refine JO.aloadn dX4_keepMoment_82 rfl ?_
      refine gR6 hb k1_190 dX4_keepMoment_83 ?_
      refine JO.aloadn dX4_keepMoment_86 rfl ?_
      refine gR8 hb k1_193 dX4_keepMoment_87 ?_
      refine JO.uC (i_r21 hb) dX4_keepMoment_90 ?_
      exact JO.vret dX4_keepMoment_91 rfl rfl rfl
    · refine JO.aloadn dX4_keepMoment_21 rfl ?_
      refine gR14 hb k1_205 dX4_keepMoment_22 ?_
      refine JO.iloadn dX4_keepMoment_25 rfl ?_
      refine JO.iloadn dX4_keepMoment_26 rfl ?_
      refine JO.iadd dX4_keepMoment_27 ?_
      refine JO.aloadn dX4_keepMoment_28 rfl ?_
      refine gR2 hb k1_181 dX4_keepMoment_29 ?_
      refine JO.iloadn dX4_keepMoment_32 rfl ?_
      refine JO.aT hb dX4_keepMoment_33 (fun h21 => ?_)
      refine gT3 (j := ix x2) hb h21 (Or.inl rfl) k1_132 dX4_keepMoment_34 ?_
      refine JO.zeq 52 dX4_keepMoment_37 rfl ?_ ?_
      · refine JO.bip 9 dX4_keepMoment_52 (by decide) ?_
        exact (J_cR_keepMoment_b54 hb ih _ _ _ _ _).jump (lvLe.so rfl (lvLe.so rfl (lvLe.so rfl (lvLe.nil))))
      · refine JO.aloadn dX4_keepMoment_40 rfl ?_
        refine gR2 hb k1_181 dX4_keepMoment_41 ?_
        refine JO.iloadn dX4_keepMoment_44 rfl ?_
        refine JO.aT hb dX4_keepMoment_45 (fun h22 => ?_)
        refine gT4 (j := ix x2) hb h22 (Or.inl rfl) k1_140 dX4_keepMoment_46 ?_
        refine JO.goto 54 dX4_keepMoment_49 rfl ?_
        exact (J_cR_keepMoment_b54 hb ih _ _ _ _ _).jump (lvLe.so rfl (lvLe.so rfl (lvLe.so rfl (lvLe.nil))))
theorem J_cR_keepMoment {X : JX} {ad : Nat → Nat} {b : Nat} (hb : isR b) (σ : CS) : JO X M_cR_keepMoment (QF X eV (wC ad (xZ X))) 0 [some (.ref (ad b)), none, none] [] (wsC ad (xZ X) σ) (cR_keepMoment b σ) := by
  unfold cR_keepMoment
  refine JO.aloadn dX4_keepMoment_0 rfl ?_
  refine gR6 hb k1_190 dX4_keepMoment_1 ?_
  refine JO.bip 6 dX4_keepMoment_4 (by decide) ?_
  refine JO.imul dX4_keepMoment_6 ?_
  refine JO.istoren dX4_keepMoment_7 rfl rfl ?_
  refine JO.ic 0 dX4_keepMoment_8 (by decide) ?_
  refine JO.istoren dX4_keepMoment_9 rfl rfl ?_
  exact (J_cR_keepMoment_l10 hb 4096 _ _ _).jump (lvLe.so rfl (lvLe.so rfl (lvLe.so rfl (lvLe.nil))))
theorem C_cR_keepMoment {ad : Nat → Nat} {b : Nat} {Z : ZT} (hb : isR b) (σ : CS) : CO yX4_keepMoment M_cR_keepMoment eV Z (wC ad Z) [.ref (ad b)] (wsC ad Z σ) (cR_keepMoment b σ) :=
  CO.of rfl rfl (Nat.le_of_ble_eq_true rfl) 2 (fun X hZ => by subst hZ; exact J_cR_keepMoment hb σ)
theorem K_cR_keepMoment : Kv yX4_keepMoment M_cR_keepMoment RX4 0 := ⟨rfl, k3_84, s2_4, k1_5, k3_85, by decide +kernel⟩
abbrev M_cR_isAnythingAhead : JM := (cX4_isAnythingAhead, 2, RX4, (some .boolean), 0, 0)
def cR_isAnythingAhead_l2 (b : Nat) : Nat → Int32 → CS → Option (Bool × CS)
  | 0, _, _ => none
  | n + 1, x1, σ =>
    if cI σ 3 0 < x1 then (
      some (false, σ))
    else (
      if inB x1 6 = true then
      if cI σ (b + 2 + (ix x1)) 5 = 160 then (
        if inB x1 6 = true then
        if cA σ (3 + 2) (ix x1) ≤ cI σ b 6 then (
          cR_isAnythingAhead_l2 b n (x1 + 1) σ)
        else (
          some (true, σ))
        else none)
      else (
        some (true, σ))
      else none)
def cR_isAnythingAhead (b : Nat) (σ : CS) : Option (Bool × CS) :=
  cR_isAnythingAhead_l2 b 4096 0 σ
theorem J_cR_isAnythingAhead_l2 {X : JX} {ad : Nat → Nat} {b : Nat} (hb : isR b) : ∀ (n : Nat) (x1 : Int32) (σ : CS), JO X M_cR_isAnythingAhead (QF X eZ (wC ad (xZ X))) 2 [some (.ref (ad b)), some (.int x1)] [] (wsC ad (xZ X) σ) (cR_isAnythingAhead_l2 b n x1 σ) := by
  intro n
  induction n with
  | zero => intro x1 σ; exact JO.nil
  | succ n ih =>
    intro x1 σ
    unfold cR_isAnythingAhead_l2
    refine JO.iloadn dX4_isAnythingAhead_2 rfl ?_
    refine JO.aloadn dX4_isAnythingAhead_3 rfl ?_
    refine gR0 hb k1_177 dX4_isAnythingAhead_4 ?_
    refine gS0 isS3 k1_41 dX4_isAnythingAhead_7 ?_
    refine JO.icmp_gt 52 dX4_isAnythingAhead_10 rfl ?_ ?_
    · refine JO.ic 0 dX4_isAnythingAhead_52 (by decide) ?_
      exact JO.zret (b := false) dX4_isAnythingAhead_53 rfl rfl rfl
    · refine JO.aloadn dX4_isAnythingAhead_13 rfl ?_
      refine gR2 hb k1_181 dX4_isAnythingAhead_14 ?_
      refine JO.iloadn dX4_isAnythingAhead_17 rfl ?_
      refine JO.aT hb dX4_isAnythingAhead_18 (fun h21 => ?_)
      refine gT5 (j := ix x1) hb h21 (Or.inl rfl) k1_144 dX4_isAnythingAhead_19 ?_
      refine JO.sip 160 dX4_isAnythingAhead_22 (by decide) ?_
      refine JO.icmp_ne 44 dX4_isAnythingAhead_25 rfl ?_ ?_
      · refine JO.ic 1 dX4_isAnythingAhead_44 (by decide) ?_
        exact JO.zret (b := true) dX4_isAnythingAhead_45 rfl rfl rfl
      · refine JO.aloadn dX4_isAnythingAhead_28 rfl ?_
        refine gR0 hb k1_177 dX4_isAnythingAhead_29 ?_
        refine gS7 isS3 k1_57 dX4_isAnythingAhead_32 ?_
        refine JO.iloadn dX4_isAnythingAhead_35 rfl ?_
        refine JO.aC (i_cu isS3) dX4_isAnythingAhead_36 ?_
        refine JO.aloadn dX4_isAnythingAhead_37 rfl ?_
        refine gR6 hb k1_190 dX4_isAnythingAhead_38 ?_
        refine JO.icmp_le 46 dX4_isAnythingAhead_41 rfl ?_ ?_
        · refine JO.iinc dX4_isAnythingAhead_46 rfl 1 (by decide) rfl rfl ?_
          refine JO.goto 2 dX4_isAnythingAhead_49 rfl ?_
          exact (ih _ _).jump (lvLe.so rfl (lvLe.so rfl (lvLe.nil)))
        · refine JO.ic 1 dX4_isAnythingAhead_44 (by decide) ?_
          exact JO.zret (b := true) dX4_isAnythingAhead_45 rfl rfl rfl
theorem J_cR_isAnythingAhead {X : JX} {ad : Nat → Nat} {b : Nat} (hb : isR b) (σ : CS) : JO X M_cR_isAnythingAhead (QF X eZ (wC ad (xZ X))) 0 [some (.ref (ad b)), none] [] (wsC ad (xZ X) σ) (cR_isAnythingAhead b σ) := by
  unfold cR_isAnythingAhead
  refine JO.ic 0 dX4_isAnythingAhead_0 (by decide) ?_
  refine JO.istoren dX4_isAnythingAhead_1 rfl rfl ?_
  exact (J_cR_isAnythingAhead_l2 hb 4096 _ _).jump (lvLe.so rfl (lvLe.so rfl (lvLe.nil)))
theorem C_cR_isAnythingAhead {ad : Nat → Nat} {b : Nat} {Z : ZT} (hb : isR b) (σ : CS) : CO yX4_isAnythingAhead M_cR_isAnythingAhead eZ Z (wC ad Z) [.ref (ad b)] (wsC ad Z σ) (cR_isAnythingAhead b σ) :=
  CO.of rfl rfl (Nat.le_of_ble_eq_true rfl) 1 (fun X hZ => by subst hZ; exact J_cR_isAnythingAhead hb σ)
theorem K_cR_isAnythingAhead : Kv yX4_isAnythingAhead M_cR_isAnythingAhead RX4 0 := ⟨rfl, k3_88, s2_5, k1_5, k3_89, by decide +kernel⟩
abbrev M_cR_play : JM := (cX4_play, 8, RX4, none, 4, 92)
def cR_play_l61 (b : Nat) : Nat → Int32 → Bool → Int32 → CS → Option (Unit × CS)
  | 0, _, _, _, _ => none
  | n + 1, x4, x5, x6, σ =>
    if 60 < x6 then (
      some ((), σ))
    else (
      if x5 = true then (
        some ((), σ))
      else (
        (cR_comeUp b (tI σ b 6 x6)).bind fun a1 =>
        (cR_goDown b a1.2).bind fun a2 =>
        (cR_deliver b x4 (cI (tI σ b 6 x6) b 8) a2.2).bind fun a3 =>
        (cR_endWaits b a3.2).bind fun a4 =>
        (cR_keepMoment b (tI a4.2 b 7 x6)).bind fun a5 =>
        if cI a5.2 b 8 = cI (tI σ b 6 x6) b 8 then (
          (cR_isAnythingAhead b a5.2).bind fun a6 =>
          if a6.1 = true then (
            cR_play_l61 b n (cI (tI σ b 6 x6) b 8) false (x6 + 1) a6.2)
          else (
            cR_play_l61 b n (cI (tI σ b 6 x6) b 8) true (x6 + 1) a6.2))
        else (
          cR_play_l61 b n (cI (tI σ b 6 x6) b 8) false (x6 + 1) a5.2)))
def cR_play_l29 (b : Nat) : Nat → Int32 → CS → Option (Unit × CS)
  | 0, _, _ => none
  | n + 1, x4, σ =>
    if 6 ≤ x4 then (
      cR_play_l61 b 4096 0 false 0 σ)
    else (
      if inB x4 6 = true then
      (cT_startAnew b (ix x4) σ).bind fun a1 =>
      cR_play_l29 b n (x4 + 1) a1.2
      else none)
def cR_play (b : Nat) (p1 : Int64) (p2 : Bool) (σ : CS) : Option (Unit × CS) :=
  (cS_everyone 3 (tZ (tG σ b 4 p1) b 3 p2)).bind fun a1 =>
  cR_play_l29 b 4096 0 (tI (tI a1.2 b 5 a1.1) b 8 0)
theorem J_cR_play_l61 {X : JX} {ad : Nat → Nat} {b : Nat} (hb : isR b) : ∀ (n : Nat) (x4 : Int32) (x5 : Bool) (x6 : Int32) (σ : CS), JO X M_cR_play (QF X eV (wC ad (xZ X))) 61 [some (.ref (ad b)), none, none, none, some (.int x4), some (.int (bI x5)), some (.int x6), none] [] (wsC ad (xZ X) σ) (cR_play_l61 b n x4 x5 x6 σ) := by
  intro n
  induction n with
  | zero => intro x4 x5 x6 σ; exact JO.nil
  | succ n ih =>
    intro x4 x5 x6 σ
    unfold cR_play_l61
    refine JO.iload dX4_play_61 rfl ?_
    refine JO.bip 60 dX4_play_63 (by decide) ?_
    refine JO.icmp_gt 148 dX4_play_65 rfl ?_ ?_
    · exact JO.vret dX4_play_148 rfl rfl rfl
    · refine JO.iload dX4_play_68 rfl ?_
      refine JO.zne 148 dX4_play_70 rfl ?_ ?_
      · exact JO.vret dX4_play_148 rfl rfl rfl
      · refine JO.aloadn dX4_play_73 rfl ?_
        refine JO.iload dX4_play_74 rfl ?_
        refine pR6 hb k1_190 dX4_play_76 ?_
        refine JO.aloadn dX4_play_79 rfl ?_
        refine gR8 hb k1_193 dX4_play_80 ?_
        refine JO.istore dX4_play_83 rfl rfl ?_
        refine JO.aloadn dX4_play_85 rfl ?_
        refine JO.cvv (C_cR_comeUp hb _) (rcvR hb) K_cR_comeUp k2_177 rfl rfl rfl (Nat.le_of_ble_eq_true rfl) dX4_play_86 (fun a1 => ?_)
        refine JO.aloadn dX4_play_89 rfl ?_
        refine JO.cvv (C_cR_goDown hb _) (rcvR hb) K_cR_goDown k2_232 rfl rfl rfl (Nat.le_of_ble_eq_true rfl) dX4_play_90 (fun a2 => ?_)
        refine JO.aloadn dX4_play_93 rfl ?_
        refine JO.iload dX4_play_94 rfl ?_
        refine JO.iload dX4_play_96 rfl ?_
        refine JO.cvv (C_cR_deliver hb _ _ _) (rcvR hb) K_cR_deliver k3_2 rfl rfl rfl (Nat.le_of_ble_eq_true rfl) dX4_play_98 (fun a3 => ?_)
        refine JO.aloadn dX4_play_101 rfl ?_
        refine JO.cvv (C_cR_endWaits hb _) (rcvR hb) K_cR_endWaits k3_65 rfl rfl rfl (Nat.le_of_ble_eq_true rfl) dX4_play_102 (fun a4 => ?_)
        refine JO.iload dX4_play_105 rfl ?_
        refine JO.istore dX4_play_107 rfl rfl ?_
        refine JO.aloadn dX4_play_109 rfl ?_
        refine JO.iload dX4_play_110 rfl ?_
        refine pR7 hb k1_192 dX4_play_112 ?_
        refine JO.aloadn dX4_play_115 rfl ?_
        refine JO.cvv (C_cR_keepMoment hb _) (rcvR hb) K_cR_keepMoment k3_82 rfl rfl rfl (Nat.le_of_ble_eq_true rfl) dX4_play_116 (fun a5 => ?_)
        refine JO.aloadn dX4_play_119 rfl ?_
        refine gR8 hb k1_193 dX4_play_120 ?_
        refine JO.iload dX4_play_123 rfl ?_
        refine JO.icmp_ne 139 dX4_play_125 rfl ?_ ?_
        · refine JO.ic 0 dX4_play_139 (by decide) ?_
          refine JO.istore dX4_play_140 rfl rfl ?_
          refine JO.iinc dX4_play_142 rfl 1 (by decide) rfl rfl ?_
          refine JO.goto 61 dX4_play_145 rfl ?_
          exact (ih _ false _ _).jump (lvLe.so rfl (lvLe.no (lvLe.no (lvLe.no (lvLe.so rfl (lvLe.so rfl (lvLe.so rfl (lvLe.no (lvLe.nil)))))))))
        · refine JO.aloadn dX4_play_128 rfl ?_
          refine JO.cvz (C_cR_isAnythingAhead hb _) (rcvR hb) K_cR_isAnythingAhead k3_86 rfl rfl rfl (Nat.le_of_ble_eq_true rfl) dX4_play_129 (fun a6 => ?_)
          refine JO.zne 139 dX4_play_132 rfl ?_ ?_
          · refine JO.ic 0 dX4_play_139 (by decide) ?_
            refine JO.istore dX4_play_140 rfl rfl ?_
            refine JO.iinc dX4_play_142 rfl 1 (by decide) rfl rfl ?_
            refine JO.goto 61 dX4_play_145 rfl ?_
            exact (ih _ false _ _).jump (lvLe.so rfl (lvLe.no (lvLe.no (lvLe.no (lvLe.so rfl (lvLe.so rfl (lvLe.so rfl (lvLe.no (lvLe.nil)))))))))
          · refine JO.ic 1 dX4_play_135 (by decide) ?_
            refine JO.goto 140 dX4_play_136 rfl ?_
            refine JO.istore dX4_play_140 rfl rfl ?_
            refine JO.iinc dX4_play_142 rfl 1 (by decide) rfl rfl ?_
            refine JO.goto 61 dX4_play_145 rfl ?_
            exact (ih _ true _ _).jump (lvLe.so rfl (lvLe.no (lvLe.no (lvLe.no (lvLe.so rfl (lvLe.so rfl (lvLe.so rfl (lvLe.no (lvLe.nil)))))))))
theorem J_cR_play_l29 {X : JX} {ad : Nat → Nat} {b : Nat} (hb : isR b) : ∀ (n : Nat) (x4 : Int32) (σ : CS), JO X M_cR_play (QF X eV (wC ad (xZ X))) 29 [some (.ref (ad b)), none, none, none, some (.int x4), none, none, none] [] (wsC ad (xZ X) σ) (cR_play_l29 b n x4 σ) := by
  intro n
  induction n with
  | zero => intro x4 σ; exact JO.nil
  | succ n ih =>
    intro x4 σ
    unfold cR_play_l29
    refine JO.iload dX4_play_29 rfl ?_
    refine JO.bip 6 dX4_play_31 (by decide) ?_
    refine JO.icmp_ge 52 dX4_play_33 rfl ?_ ?_
    · refine JO.ic 0 dX4_play_52 (by decide) ?_
      refine JO.istore dX4_play_53 rfl rfl ?_
      refine JO.ic 0 dX4_play_55 (by decide) ?_
      refine JO.istore dX4_play_56 rfl rfl ?_
      refine JO.ic 0 dX4_play_58 (by decide) ?_
      refine JO.istore dX4_play_59 rfl rfl ?_
      exact (J_cR_play_l61 hb 4096 _ false _ _).jump (lvLe.so rfl (lvLe.no (lvLe.no (lvLe.no (lvLe.so rfl (lvLe.so rfl (lvLe.so rfl (lvLe.no (lvLe.nil)))))))))
    · refine JO.aloadn dX4_play_36 rfl ?_
      refine gR2 hb k1_181 dX4_play_37 ?_
      refine JO.iload dX4_play_40 rfl ?_
      refine JO.aT hb dX4_play_42 (fun h21 => ?_)
      refine JO.ctv (C_cT_startAnew hb h21 _) hb h21 U_cT_startAnew_C_T U_cT_startAnew_A_T (decl_of k2_166 k2_170) k2_165 rfl rfl rfl (Nat.le_of_ble_eq_true rfl) dX4_play_43 (fun a1 => ?_)
      refine JO.iinc dX4_play_46 rfl 1 (by decide) rfl rfl ?_
      refine JO.goto 29 dX4_play_49 rfl ?_
      exact (ih _ _).jump (lvLe.so rfl (lvLe.no (lvLe.no (lvLe.no (lvLe.so rfl (lvLe.no (lvLe.no (lvLe.no (lvLe.nil)))))))))
theorem J_cR_play {X : JX} {ad : Nat → Nat} {b : Nat} (hb : isR b) (p1 : Int64) (p2 : Bool) (σ : CS) : JO X M_cR_play (QF X eV (wC ad (xZ X))) 0 [some (.ref (ad b)), some (.long p1), none, some (.int (bI p2)), none, none, none, none] [] (wsC ad (xZ X) σ) (cR_play b p1 p2 σ) := by
  unfold cR_play
  refine JO.aloadn dX4_play_0 rfl ?_
  refine JO.lloadn dX4_play_1 rfl ?_
  refine pR4 hb k1_186 dX4_play_2 ?_
  refine JO.aloadn dX4_play_5 rfl ?_
  refine JO.iloadn dX4_play_6 rfl ?_
  refine pR3 (v := p2) hb k1_183 dX4_play_7 ?_
  refine JO.aloadn dX4_play_10 rfl ?_
  refine JO.aloadn dX4_play_11 rfl ?_
  refine gR0 hb k1_177 dX4_play_12 ?_
  refine JO.cvi (C_cS_everyone isS3 _) (rcvS isS3) K_cS_everyone k2_161 rfl rfl rfl (Nat.le_of_ble_eq_true rfl) dX4_play_15 (fun a1 => ?_)
  refine pR5 hb k1_187 dX4_play_18 ?_
  refine JO.aloadn dX4_play_21 rfl ?_
  refine JO.ic 0 dX4_play_22 (by decide) ?_
  refine pR8 hb k1_193 dX4_play_23 ?_
  refine JO.ic 0 dX4_play_26 (by decide) ?_
  refine JO.istore dX4_play_27 rfl rfl ?_
  exact (J_cR_play_l29 hb 4096 _ _).jump (lvLe.so rfl (lvLe.no (lvLe.no (lvLe.no (lvLe.so rfl (lvLe.no (lvLe.no (lvLe.no (lvLe.nil)))))))))
theorem C_cR_play {ad : Nat → Nat} {b : Nat} {Z : ZT} (hb : isR b) (p1 : Int64) (p2 : Bool) (σ : CS) : CO yX4_play M_cR_play eV Z (wC ad Z) [.ref (ad b), .long p1, .int (bI p2)] (wsC ad Z σ) (cR_play b p1 p2 σ) :=
  CO.of rfl rfl (Nat.le_of_ble_eq_true rfl) 4 (fun X hZ => by subst hZ; exact J_cR_play hb _ _ σ)
theorem K_cR_play : Kv yX4_play M_cR_play RX4 2 := ⟨rfl, k2_158, k2_159, k1_5, k2_160, by decide +kernel⟩
abbrev M_cR_wasSent : JM := (cX4_wasSent, 2, RX4, (some .boolean), 0, 0)
def cR_wasSent (b : Nat) (p1 : Int32) (σ : CS) : Option (Bool × CS) :=
  if p1 < 0 then (
    some (false, σ))
  else (
    if cI σ b 8 ≤ p1 then (
      some (false, σ))
    else (
      some (true, σ)))
theorem J_cR_wasSent {X : JX} {ad : Nat → Nat} {b : Nat} (hb : isR b) (p1 : Int32) (σ : CS) : JO X M_cR_wasSent (QF X eZ (wC ad (xZ X))) 0 [some (.ref (ad b)), some (.int p1)] [] (wsC ad (xZ X) σ) (cR_wasSent b p1 σ) := by
  unfold cR_wasSent
  refine JO.iloadn dX4_wasSent_0 rfl ?_
  refine JO.if_lt 16 dX4_wasSent_1 rfl ?_ ?_
  · refine JO.ic 0 dX4_wasSent_16 (by decide) ?_
    exact JO.zret (b := false) dX4_wasSent_17 rfl rfl rfl
  · refine JO.iloadn dX4_wasSent_4 rfl ?_
    refine JO.aloadn dX4_wasSent_5 rfl ?_
    refine gR8 hb k1_193 dX4_wasSent_6 ?_
    refine JO.icmp_ge 16 dX4_wasSent_9 rfl ?_ ?_
    · refine JO.ic 0 dX4_wasSent_16 (by decide) ?_
      exact JO.zret (b := false) dX4_wasSent_17 rfl rfl rfl
    · refine JO.ic 1 dX4_wasSent_12 (by decide) ?_
      refine JO.goto 17 dX4_wasSent_13 rfl ?_
      exact JO.zret (b := true) dX4_wasSent_17 rfl rfl rfl
theorem C_cR_wasSent {ad : Nat → Nat} {b : Nat} {Z : ZT} (hb : isR b) (p1 : Int32) (σ : CS) : CO yX4_wasSent M_cR_wasSent eZ Z (wC ad Z) [.ref (ad b), .int p1] (wsC ad Z σ) (cR_wasSent b p1 σ) :=
  CO.of rfl rfl (Nat.le_of_ble_eq_true rfl) 0 (fun X hZ => by subst hZ; exact J_cR_wasSent hb _ σ)
theorem K_cR_wasSent : Kv yX4_wasSent M_cR_wasSent RX4 1 := ⟨rfl, k3_91, k3_92, k1_5, k3_93, by decide +kernel⟩
abbrev M_cR_moment : JM := (cX4_moment, 3, RX4, (some .int), 1, 21)
def cR_moment (b : Nat) (p1 : Int32) (p2 : Int32) (σ : CS) : Option (Int32 × CS) :=
  some ((((if cI σ b 7 < p1 then cI σ b 7 else p1) * 6) + p2), σ)
theorem J_cR_moment {X : JX} {ad : Nat → Nat} {b : Nat} (hb : isR b) (p1 : Int32) (p2 : Int32) (σ : CS) : JO X M_cR_moment (QF X eI (wC ad (xZ X))) 0 [some (.ref (ad b)), some (.int p1), some (.int p2)] [] (wsC ad (xZ X) σ) (cR_moment b p1 p2 σ) := by
  unfold cR_moment
  refine JO.iloadn dX4_moment_0 rfl ?_
  refine JO.aloadn dX4_moment_1 rfl ?_
  refine gR7 hb k1_192 dX4_moment_2 ?_
  refine JO.math rfl rfl k4_122 k4_123 k1_16 k4_124 rfl dX4_moment_5 ?_
  refine JO.bip 6 dX4_moment_8 (by decide) ?_
  refine JO.imul dX4_moment_10 ?_
  refine JO.iloadn dX4_moment_11 rfl ?_
  refine JO.iadd dX4_moment_12 ?_
  exact JO.iret dX4_moment_13 rfl rfl rfl
theorem C_cR_moment {ad : Nat → Nat} {b : Nat} {Z : ZT} (hb : isR b) (p1 : Int32) (p2 : Int32) (σ : CS) : CO yX4_moment M_cR_moment eI Z (wC ad Z) [.ref (ad b), .int p1, .int p2] (wsC ad Z σ) (cR_moment b p1 p2 σ) :=
  CO.of rfl rfl (Nat.le_of_ble_eq_true rfl) 0 (fun X hZ => by subst hZ; exact J_cR_moment hb _ _ σ)
theorem K_cR_moment : Kv yX4_moment M_cR_moment RX4 2 := ⟨rfl, k4_120, s3_2, k1_5, k4_121, by decide +kernel⟩
abbrev M_cR_stateAt : JM := (cX4_stateAt, 3, RX4, (some .int), 2, 43)
def cR_stateAt (b : Nat) (p1 : Int32) (p2 : Int32) (σ : CS) : Option (Int32 × CS) :=
  (cR_moment b p1 p2 σ).bind fun a1 =>
  if inB a1.1 366 = true then
  some (cA a1.2 (b + 19) (ix a1.1), a1.2)
  else none
theorem J_cR_stateAt {X : JX} {ad : Nat → Nat} {b : Nat} (hb : isR b) (p1 : Int32) (p2 : Int32) (σ : CS) : JO X M_cR_stateAt (QF X eI (wC ad (xZ X))) 0 [some (.ref (ad b)), some (.int p1), some (.int p2)] [] (wsC ad (xZ X) σ) (cR_stateAt b p1 p2 σ) := by
  unfold cR_stateAt
  refine JO.aloadn dX4_stateAt_0 rfl ?_
  refine gR14 hb k1_205 dX4_stateAt_1 ?_
  refine JO.aloadn dX4_stateAt_4 rfl ?_
  refine JO.iloadn dX4_stateAt_5 rfl ?_
  refine JO.iloadn dX4_stateAt_6 rfl ?_
  refine JO.cvi (C_cR_moment hb _ _ _) (rcvR hb) K_cR_moment k4_118 rfl rfl rfl (Nat.le_of_ble_eq_true rfl) dX4_stateAt_7 (fun a1 => ?_)
  refine JO.aC (i_r19 hb) dX4_stateAt_10 ?_
  exact JO.iret dX4_stateAt_11 rfl rfl rfl
theorem C_cR_stateAt {ad : Nat → Nat} {b : Nat} {Z : ZT} (hb : isR b) (p1 : Int32) (p2 : Int32) (σ : CS) : CO yX4_stateAt M_cR_stateAt eI Z (wC ad Z) [.ref (ad b), .int p1, .int p2] (wsC ad Z σ) (cR_stateAt b p1 p2 σ) :=
  CO.of rfl rfl (Nat.le_of_ble_eq_true rfl) 0 (fun X hZ => by subst hZ; exact J_cR_stateAt hb _ _ σ)
theorem K_cR_stateAt : Kv yX4_stateAt M_cR_stateAt RX4 2 := ⟨rfl, k4_115, k4_116, k1_5, k4_117, by decide +kernel⟩
abbrev M_cR_lengthAt : JM := (cX4_lengthAt, 3, RX4, (some .int), 2, 43)
def cR_lengthAt (b : Nat) (p1 : Int32) (p2 : Int32) (σ : CS) : Option (Int32 × CS) :=
  (cR_moment b p1 p2 σ).bind fun a1 =>
  if inB a1.1 366 = true then
  some (cA a1.2 (b + 20) (ix a1.1), a1.2)
  else none
theorem J_cR_lengthAt {X : JX} {ad : Nat → Nat} {b : Nat} (hb : isR b) (p1 : Int32) (p2 : Int32) (σ : CS) : JO X M_cR_lengthAt (QF X eI (wC ad (xZ X))) 0 [some (.ref (ad b)), some (.int p1), some (.int p2)] [] (wsC ad (xZ X) σ) (cR_lengthAt b p1 p2 σ) := by
  unfold cR_lengthAt
  refine JO.aloadn dX4_lengthAt_0 rfl ?_
  refine gR15 hb k1_206 dX4_lengthAt_1 ?_
  refine JO.aloadn dX4_lengthAt_4 rfl ?_
  refine JO.iloadn dX4_lengthAt_5 rfl ?_
  refine JO.iloadn dX4_lengthAt_6 rfl ?_
  refine JO.cvi (C_cR_moment hb _ _ _) (rcvR hb) K_cR_moment k4_118 rfl rfl rfl (Nat.le_of_ble_eq_true rfl) dX4_lengthAt_7 (fun a1 => ?_)
  refine JO.aC (i_r20 hb) dX4_lengthAt_10 ?_
  exact JO.iret dX4_lengthAt_11 rfl rfl rfl
theorem C_cR_lengthAt {ad : Nat → Nat} {b : Nat} {Z : ZT} (hb : isR b) (p1 : Int32) (p2 : Int32) (σ : CS) : CO yX4_lengthAt M_cR_lengthAt eI Z (wC ad Z) [.ref (ad b), .int p1, .int p2] (wsC ad Z σ) (cR_lengthAt b p1 p2 σ) :=
  CO.of rfl rfl (Nat.le_of_ble_eq_true rfl) 0 (fun X hZ => by subst hZ; exact J_cR_lengthAt hb _ _ σ)
theorem K_cR_lengthAt : Kv yX4_lengthAt M_cR_lengthAt RX4 2 := ⟨rfl, k4_134, k4_135, k1_5, k4_136, by decide +kernel⟩
abbrev M_cR_sentAt : JM := (cX4_sentAt, 2, RX4, (some .int), 1, 21)
def cR_sentAt (b : Nat) (p1 : Int32) (σ : CS) : Option (Int32 × CS) :=
  if inB (if cI σ b 7 < p1 then cI σ b 7 else p1) 61 = true then
  some (cA σ (b + 21) (ix (if cI σ b 7 < p1 then cI σ b 7 else p1)), σ)
  else none
theorem J_cR_sentAt {X : JX} {ad : Nat → Nat} {b : Nat} (hb : isR b) (p1 : Int32) (σ : CS) : JO X M_cR_sentAt (QF X eI (wC ad (xZ X))) 0 [some (.ref (ad b)), some (.int p1)] [] (wsC ad (xZ X) σ) (cR_sentAt b p1 σ) := by
  unfold cR_sentAt
  refine JO.aloadn dX4_sentAt_0 rfl ?_
  refine gR16 hb k1_207 dX4_sentAt_1 ?_
  refine JO.iloadn dX4_sentAt_4 rfl ?_
  refine JO.aloadn dX4_sentAt_5 rfl ?_
  refine gR7 hb k1_192 dX4_sentAt_6 ?_
  refine JO.math rfl rfl k4_122 k4_123 k1_16 k4_124 rfl dX4_sentAt_9 ?_
  refine JO.aC (i_r21 hb) dX4_sentAt_12 ?_
  exact JO.iret dX4_sentAt_13 rfl rfl rfl
theorem C_cR_sentAt {ad : Nat → Nat} {b : Nat} {Z : ZT} (hb : isR b) (p1 : Int32) (σ : CS) : CO yX4_sentAt M_cR_sentAt eI Z (wC ad Z) [.ref (ad b), .int p1] (wsC ad Z σ) (cR_sentAt b p1 σ) :=
  CO.of rfl rfl (Nat.le_of_ble_eq_true rfl) 0 (fun X hZ => by subst hZ; exact J_cR_sentAt hb _ σ)
theorem K_cR_sentAt : Kv yX4_sentAt M_cR_sentAt RX4 1 := ⟨rfl, k4_153, k4_154, k1_5, k4_155, by decide +kernel⟩
abbrev M_cR_decisionAt : JM := (cX4_decisionAt, 4, RX4, (some .int), 3, 65)
def cR_decisionAt (b : Nat) (p1 : Int32) (p2 : Int32) (σ : CS) : Option (Int32 × CS) :=
  (cR_lengthAt b p1 p2 σ).bind fun a1 =>
  if inB p2 6 = true then
  (cT_hasNoted b (ix p2) 4 a1.1 a1.2).bind fun a2 =>
  if a2.1 = true then (
    some (1, a2.2))
  else (
    if inB p2 6 = true then
    (cT_hasNoted b (ix p2) 5 a1.1 a2.2).bind fun a3 =>
    if a3.1 = true then (
      some (2, a3.2))
    else (
      if p2 = 0 then (
        if cZ a3.2 b 3 = true then (
          (cR_stateAt b p1 p2 a3.2).bind fun a4 =>
          if a4.1 = 5 then (
            some (2, a4.2))
          else (
            some (0, a4.2)))
        else (
          some (0, a3.2)))
      else (
        some (0, a3.2)))
    else none)
  else none
theorem J_cR_decisionAt {X : JX} {ad : Nat → Nat} {b : Nat} (hb : isR b) (p1 : Int32) (p2 : Int32) (σ : CS) : JO X M_cR_decisionAt (QF X eI (wC ad (xZ X))) 0 [some (.ref (ad b)), some (.int p1), some (.int p2), none] [] (wsC ad (xZ X) σ) (cR_decisionAt b p1 p2 σ) := by
  unfold cR_decisionAt
  refine JO.aloadn dX4_decisionAt_0 rfl ?_
  refine JO.iloadn dX4_decisionAt_1 rfl ?_
  refine JO.iloadn dX4_decisionAt_2 rfl ?_
  refine JO.cvi (C_cR_lengthAt hb _ _ _) (rcvR hb) K_cR_lengthAt k4_133 rfl rfl rfl (Nat.le_of_ble_eq_true rfl) dX4_decisionAt_3 (fun a1 => ?_)
  refine JO.istoren dX4_decisionAt_6 rfl rfl ?_
  refine JO.aloadn dX4_decisionAt_7 rfl ?_
  refine gR2 hb k1_181 dX4_decisionAt_8 ?_
  refine JO.iloadn dX4_decisionAt_11 rfl ?_
  refine JO.aT hb dX4_decisionAt_12 (fun h21 => ?_)
  refine JO.ic 4 dX4_decisionAt_13 (by decide) ?_
  refine JO.iloadn dX4_decisionAt_14 rfl ?_
  refine JO.ctz (C_cT_hasNoted hb h21 _ _ _) hb h21 U_cT_hasNoted_C_T U_cT_hasNoted_A_T (decl_of k3_39 k3_40) k4_137 rfl rfl rfl (Nat.le_of_ble_eq_true rfl) dX4_decisionAt_15 (fun a2 => ?_)
  refine JO.zeq 23 dX4_decisionAt_18 rfl ?_ ?_
  · refine JO.aloadn dX4_decisionAt_23 rfl ?_
    refine gR2 hb k1_181 dX4_decisionAt_24 ?_
    refine JO.iloadn dX4_decisionAt_27 rfl ?_
    refine JO.aT hb dX4_decisionAt_28 (fun h22 => ?_)
    refine JO.ic 5 dX4_decisionAt_29 (by decide) ?_
    refine JO.iloadn dX4_decisionAt_30 rfl ?_
    refine JO.ctz (C_cT_hasNoted hb h22 _ _ _) hb h22 U_cT_hasNoted_C_T U_cT_hasNoted_A_T (decl_of k3_39 k3_40) k4_137 rfl rfl rfl (Nat.le_of_ble_eq_true rfl) dX4_decisionAt_31 (fun a3 => ?_)
    refine JO.zeq 39 dX4_decisionAt_34 rfl ?_ ?_
    · refine JO.iloadn dX4_decisionAt_39 rfl ?_
      refine JO.if_ne 64 dX4_decisionAt_40 rfl ?_ ?_
      · refine JO.ic 0 dX4_decisionAt_64 (by decide) ?_
        exact JO.iret dX4_decisionAt_65 rfl rfl rfl
      · refine JO.aloadn dX4_decisionAt_43 rfl ?_
        refine gR3 hb k1_183 dX4_decisionAt_44 ?_
        refine JO.zeq 64 dX4_decisionAt_47 rfl ?_ ?_
        · refine JO.ic 0 dX4_decisionAt_64 (by decide) ?_
          exact JO.iret dX4_decisionAt_65 rfl rfl rfl
        · refine JO.aloadn dX4_decisionAt_50 rfl ?_
          refine JO.iloadn dX4_decisionAt_51 rfl ?_
          refine JO.iloadn dX4_decisionAt_52 rfl ?_
          refine JO.cvi (C_cR_stateAt hb _ _ _) (rcvR hb) K_cR_stateAt k4_138 rfl rfl rfl (Nat.le_of_ble_eq_true rfl) dX4_decisionAt_53 (fun a4 => ?_)
          refine JO.ic 5 dX4_decisionAt_56 (by decide) ?_
          refine JO.icmp_ne 64 dX4_decisionAt_57 rfl ?_ ?_
          · refine JO.ic 0 dX4_decisionAt_64 (by decide) ?_
            exact JO.iret dX4_decisionAt_65 rfl rfl rfl
          · refine JO.ic 2 dX4_decisionAt_60 (by decide) ?_
            refine JO.goto 65 dX4_decisionAt_61 rfl ?_
            exact JO.iret dX4_decisionAt_65 rfl rfl rfl
    · refine JO.ic 2 dX4_decisionAt_37 (by decide) ?_
      exact JO.iret dX4_decisionAt_38 rfl rfl rfl
  · refine JO.ic 1 dX4_decisionAt_21 (by decide) ?_
    exact JO.iret dX4_decisionAt_22 rfl rfl rfl
theorem C_cR_decisionAt {ad : Nat → Nat} {b : Nat} {Z : ZT} (hb : isR b) (p1 : Int32) (p2 : Int32) (σ : CS) : CO yX4_decisionAt M_cR_decisionAt eI Z (wC ad Z) [.ref (ad b), .int p1, .int p2] (wsC ad Z σ) (cR_decisionAt b p1 p2 σ) :=
  CO.of rfl rfl (Nat.le_of_ble_eq_true rfl) 1 (fun X hZ => by subst hZ; exact J_cR_decisionAt hb _ _ σ)
theorem K_cR_decisionAt : Kv yX4_decisionAt M_cR_decisionAt RX4 2 := ⟨rfl, k4_130, k4_131, k1_5, k4_132, by decide +kernel⟩
abbrev M_cR_isAlikeAt : JM := (cX4_isAlikeAt, 4, RX4, (some .boolean), 4, 88)
def cR_isAlikeAt_b30 (b : Nat) (x2 : Int32) (σ : CS) : Option (Bool × CS) :=
  if x2 = 3 then (
    some (false, σ))
  else (
    some (true, σ))
def cR_isAlikeAt_l4 (b : Nat) : Nat → Int32 → Int32 → Int32 → CS → Option (Bool × CS)
  | 0, _, _, _, _ => none
  | n + 1, x1, x2, x3, σ =>
    if cI σ 3 0 < x3 then (
      cR_isAlikeAt_b30 b x2 σ)
    else (
      (cR_decisionAt b x1 x3 σ).bind fun a1 =>
      cR_isAlikeAt_l4 b n x1 (x2 ||| a1.1) (x3 + 1) a1.2)
def cR_isAlikeAt (b : Nat) (p1 : Int32) (σ : CS) : Option (Bool × CS) :=
  cR_isAlikeAt_l4 b 4096 p1 0 0 σ
theorem J_cR_isAlikeAt_b30 {X : JX} {ad : Nat → Nat} {b : Nat} (hb : isR b) (x2 : Int32) (σ : CS) : JO X M_cR_isAlikeAt (QF X eZ (wC ad (xZ X))) 30 [none, none, some (.int x2), none] [] (wsC ad (xZ X) σ) (cR_isAlikeAt_b30 b x2 σ) := by
  unfold cR_isAlikeAt_b30
  refine JO.iloadn dX4_isAlikeAt_30 rfl ?_
  refine JO.ic 3 dX4_isAlikeAt_31 (by decide) ?_
  refine JO.icmp_eq 39 dX4_isAlikeAt_32 rfl ?_ ?_
  · refine JO.ic 0 dX4_isAlikeAt_39 (by decide) ?_
    exact JO.zret (b := false) dX4_isAlikeAt_40 rfl rfl rfl
  · refine JO.ic 1 dX4_isAlikeAt_35 (by decide) ?_
    refine JO.goto 40 dX4_isAlikeAt_36 rfl ?_
    exact JO.zret (b := true) dX4_isAlikeAt_40 rfl rfl rfl
theorem J_cR_isAlikeAt_l4 {X : JX} {ad : Nat → Nat} {b : Nat} (hb : isR b) : ∀ (n : Nat) (x1 : Int32) (x2 : Int32) (x3 : Int32) (σ : CS), JO X M_cR_isAlikeAt (QF X eZ (wC ad (xZ X))) 4 [some (.ref (ad b)), some (.int x1), some (.int x2), some (.int x3)] [] (wsC ad (xZ X) σ) (cR_isAlikeAt_l4 b n x1 x2 x3 σ) := by
  intro n
  induction n with
  | zero => intro x1 x2 x3 σ; exact JO.nil
  | succ n ih =>
    intro x1 x2 x3 σ
    unfold cR_isAlikeAt_l4
    refine JO.iloadn dX4_isAlikeAt_4 rfl ?_
    refine JO.aloadn dX4_isAlikeAt_5 rfl ?_
    refine gR0 hb k1_177 dX4_isAlikeAt_6 ?_
    refine gS0 isS3 k1_41 dX4_isAlikeAt_9 ?_
    refine JO.icmp_gt 30 dX4_isAlikeAt_12 rfl ?_ ?_
    · exact (J_cR_isAlikeAt_b30 hb _ _).jump (lvLe.no (lvLe.no (lvLe.so rfl (lvLe.no (lvLe.nil)))))
    · refine JO.iloadn dX4_isAlikeAt_15 rfl ?_
      refine JO.aloadn dX4_isAlikeAt_16 rfl ?_
      refine JO.iloadn dX4_isAlikeAt_17 rfl ?_
      refine JO.iloadn dX4_isAlikeAt_18 rfl ?_
      refine JO.cvi (C_cR_decisionAt hb _ _ _) (rcvR hb) K_cR_decisionAt k4_168 rfl rfl rfl (Nat.le_of_ble_eq_true rfl) dX4_isAlikeAt_19 (fun a1 => ?_)
      refine JO.ior dX4_isAlikeAt_22 ?_
      refine JO.istoren dX4_isAlikeAt_23 rfl rfl ?_
      refine JO.iinc dX4_isAlikeAt_24 rfl 1 (by decide) rfl rfl ?_
      refine JO.goto 4 dX4_isAlikeAt_27 rfl ?_
      exact (ih _ _ _ _).jump (lvLe.so rfl (lvLe.so rfl (lvLe.so rfl (lvLe.so rfl (lvLe.nil)))))
theorem J_cR_isAlikeAt {X : JX} {ad : Nat → Nat} {b : Nat} (hb : isR b) (p1 : Int32) (σ : CS) : JO X M_cR_isAlikeAt (QF X eZ (wC ad (xZ X))) 0 [some (.ref (ad b)), some (.int p1), none, none] [] (wsC ad (xZ X) σ) (cR_isAlikeAt b p1 σ) := by
  unfold cR_isAlikeAt
  refine JO.ic 0 dX4_isAlikeAt_0 (by decide) ?_
  refine JO.istoren dX4_isAlikeAt_1 rfl rfl ?_
  refine JO.ic 0 dX4_isAlikeAt_2 (by decide) ?_
  refine JO.istoren dX4_isAlikeAt_3 rfl rfl ?_
  exact (J_cR_isAlikeAt_l4 hb 4096 _ _ _ _).jump (lvLe.so rfl (lvLe.so rfl (lvLe.so rfl (lvLe.so rfl (lvLe.nil)))))
theorem C_cR_isAlikeAt {ad : Nat → Nat} {b : Nat} {Z : ZT} (hb : isR b) (p1 : Int32) (σ : CS) : CO yX4_isAlikeAt M_cR_isAlikeAt eZ Z (wC ad Z) [.ref (ad b), .int p1] (wsC ad Z σ) (cR_isAlikeAt b p1 σ) :=
  CO.of rfl rfl (Nat.le_of_ble_eq_true rfl) 2 (fun X hZ => by subst hZ; exact J_cR_isAlikeAt hb _ σ)
theorem K_cR_isAlikeAt : Kv yX4_isAlikeAt M_cR_isAlikeAt RX4 1 := ⟨rfl, k4_165, k4_166, k1_5, k4_167, by decide +kernel⟩
abbrev M_cR_whoIsBlocked : JM := (cX4_whoIsBlocked, 4, RX4, (some .int), 3, 65)
def cR_whoIsBlocked_l4 (b : Nat) : Nat → Int32 → Int32 → CS → Option (Int32 × CS)
  | 0, _, _, _ => none
  | n + 1, x1, x2, σ =>
    if cI σ 3 0 < x2 then (
      some (x1, σ))
    else (
      (cR_stateAt b 60 x2 σ).bind fun a1 =>
      if a1.1 = 1 then (
        cR_whoIsBlocked_l4 b n (x1 ||| ((1 : Int32) <<< (x2 &&& 31))) (x2 + 1) a1.2)
      else (
        if a1.1 = 2 then (
          cR_whoIsBlocked_l4 b n (x1 ||| ((1 : Int32) <<< (x2 &&& 31))) (x2 + 1) a1.2)
        else (
          cR_whoIsBlocked_l4 b n x1 (x2 + 1) a1.2)))
def cR_whoIsBlocked (b : Nat) (σ : CS) : Option (Int32 × CS) :=
  cR_whoIsBlocked_l4 b 4096 0 1 σ
theorem J_cR_whoIsBlocked_l4 {X : JX} {ad : Nat → Nat} {b : Nat} (hb : isR b) : ∀ (n : Nat) (x1 : Int32) (x2 : Int32) (σ : CS), JO X M_cR_whoIsBlocked (QF X eI (wC ad (xZ X))) 4 [some (.ref (ad b)), some (.int x1), some (.int x2), none] [] (wsC ad (xZ X) σ) (cR_whoIsBlocked_l4 b n x1 x2 σ) := by
  intro n
  induction n with
  | zero => intro x1 x2 σ; exact JO.nil
  | succ n ih =>
    intro x1 x2 σ
    unfold cR_whoIsBlocked_l4
    refine JO.iloadn dX4_whoIsBlocked_4 rfl ?_
    refine JO.aloadn dX4_whoIsBlocked_5 rfl ?_
    refine gR0 hb k1_177 dX4_whoIsBlocked_6 ?_
    refine gS0 isS3 k1_41 dX4_whoIsBlocked_9 ?_
    refine JO.icmp_gt 45 dX4_whoIsBlocked_12 rfl ?_ ?_
    · refine JO.iloadn dX4_whoIsBlocked_45 rfl ?_
      exact JO.iret dX4_whoIsBlocked_46 rfl rfl rfl
    · refine JO.aloadn dX4_whoIsBlocked_15 rfl ?_
      refine JO.bip 60 dX4_whoIsBlocked_16 (by decide) ?_
      refine JO.iloadn dX4_whoIsBlocked_18 rfl ?_
      refine JO.cvi (C_cR_stateAt hb _ _ _) (rcvR hb) K_cR_stateAt k4_138 rfl rfl rfl (Nat.le_of_ble_eq_true rfl) dX4_whoIsBlocked_19 (fun a1 => ?_)
      refine JO.istoren dX4_whoIsBlocked_22 rfl rfl ?_
      refine JO.iloadn dX4_whoIsBlocked_23 rfl ?_
      refine JO.ic 1 dX4_whoIsBlocked_24 (by decide) ?_
      refine JO.icmp_eq 33 dX4_whoIsBlocked_25 rfl ?_ ?_
      · refine JO.iloadn dX4_whoIsBlocked_33 rfl ?_
        refine JO.ic 1 dX4_whoIsBlocked_34 (by decide) ?_
        refine JO.iloadn dX4_whoIsBlocked_35 rfl ?_
        refine JO.ishl dX4_whoIsBlocked_36 ?_
        refine JO.ior dX4_whoIsBlocked_37 ?_
        refine JO.istoren dX4_whoIsBlocked_38 rfl rfl ?_
        refine JO.iinc dX4_whoIsBlocked_39 rfl 1 (by decide) rfl rfl ?_
        refine JO.goto 4 dX4_whoIsBlocked_42 rfl ?_
        exact (ih _ _ _).jump (lvLe.so rfl (lvLe.so rfl (lvLe.so rfl (lvLe.no (lvLe.nil)))))
      · refine JO.iloadn dX4_whoIsBlocked_28 rfl ?_
        refine JO.ic 2 dX4_whoIsBlocked_29 (by decide) ?_
        refine JO.icmp_ne 39 dX4_whoIsBlocked_30 rfl ?_ ?_
        · refine JO.iinc dX4_whoIsBlocked_39 rfl 1 (by decide) rfl rfl ?_
          refine JO.goto 4 dX4_whoIsBlocked_42 rfl ?_
          exact (ih _ _ _).jump (lvLe.so rfl (lvLe.so rfl (lvLe.so rfl (lvLe.no (lvLe.nil)))))
        · refine JO.iloadn dX4_whoIsBlocked_33 rfl ?_
          refine JO.ic 1 dX4_whoIsBlocked_34 (by decide) ?_
          refine JO.iloadn dX4_whoIsBlocked_35 rfl ?_
          refine JO.ishl dX4_whoIsBlocked_36 ?_
          refine JO.ior dX4_whoIsBlocked_37 ?_
          refine JO.istoren dX4_whoIsBlocked_38 rfl rfl ?_
          refine JO.iinc dX4_whoIsBlocked_39 rfl 1 (by decide) rfl rfl ?_
          refine JO.goto 4 dX4_whoIsBlocked_42 rfl ?_
          exact (ih _ _ _).jump (lvLe.so rfl (lvLe.so rfl (lvLe.so rfl (lvLe.no (lvLe.nil)))))
theorem J_cR_whoIsBlocked {X : JX} {ad : Nat → Nat} {b : Nat} (hb : isR b) (σ : CS) : JO X M_cR_whoIsBlocked (QF X eI (wC ad (xZ X))) 0 [some (.ref (ad b)), none, none, none] [] (wsC ad (xZ X) σ) (cR_whoIsBlocked b σ) := by
  unfold cR_whoIsBlocked
  refine JO.ic 0 dX4_whoIsBlocked_0 (by decide) ?_
  refine JO.istoren dX4_whoIsBlocked_1 rfl rfl ?_
  refine JO.ic 1 dX4_whoIsBlocked_2 (by decide) ?_
  refine JO.istoren dX4_whoIsBlocked_3 rfl rfl ?_
  exact (J_cR_whoIsBlocked_l4 hb 4096 _ _ _).jump (lvLe.so rfl (lvLe.so rfl (lvLe.so rfl (lvLe.no (lvLe.nil)))))
theorem C_cR_whoIsBlocked {ad : Nat → Nat} {b : Nat} {Z : ZT} (hb : isR b) (σ : CS) : CO yX4_whoIsBlocked M_cR_whoIsBlocked eI Z (wC ad Z) [.ref (ad b)] (wsC ad Z σ) (cR_whoIsBlocked b σ) :=
  CO.of rfl rfl (Nat.le_of_ble_eq_true rfl) 3 (fun X hZ => by subst hZ; exact J_cR_whoIsBlocked hb σ)
theorem K_cR_whoIsBlocked : Kv yX4_whoIsBlocked M_cR_whoIsBlocked RX4 0 := ⟨rfl, k4_174, k4_175, k1_5, k4_176, by decide +kernel⟩
abbrev M_cR_isSameAsBefore : JM := (cX4_isSameAsBefore, 3, RX4, (some .boolean), 3, 65)
def cR_isSameAsBefore_l2 (b : Nat) : Nat → Int32 → Int32 → CS → Option (Bool × CS)
  | 0, _, _, _ => none
  | n + 1, x1, x2, σ =>
    if cI σ 3 0 < x2 then (
      some (true, σ))
    else (
      (cR_stateAt b x1 x2 σ).bind fun a1 =>
      (cR_stateAt b (x1 - 1) x2 a1.2).bind fun a2 =>
      if a1.1 = a2.1 then (
        (cR_lengthAt b x1 x2 a2.2).bind fun a3 =>
        (cR_lengthAt b (x1 - 1) x2 a3.2).bind fun a4 =>
        if a3.1 = a4.1 then (
          cR_isSameAsBefore_l2 b n x1 (x2 + 1) a4.2)
        else (
          some (false, a4.2)))
      else (
        some (false, a2.2)))
def cR_isSameAsBefore (b : Nat) (p1 : Int32) (σ : CS) : Option (Bool × CS) :=
  cR_isSameAsBefore_l2 b 4096 p1 0 σ
theorem J_cR_isSameAsBefore_l2 {X : JX} {ad : Nat → Nat} {b : Nat} (hb : isR b) : ∀ (n : Nat) (x1 : Int32) (x2 : Int32) (σ : CS), JO X M_cR_isSameAsBefore (QF X eZ (wC ad (xZ X))) 2 [some (.ref (ad b)), some (.int x1), some (.int x2)] [] (wsC ad (xZ X) σ) (cR_isSameAsBefore_l2 b n x1 x2 σ) := by
  intro n
  induction n with
  | zero => intro x1 x2 σ; exact JO.nil
  | succ n ih =>
    intro x1 x2 σ
    unfold cR_isSameAsBefore_l2
    refine JO.iloadn dX4_isSameAsBefore_2 rfl ?_
    refine JO.aloadn dX4_isSameAsBefore_3 rfl ?_
    refine gR0 hb k1_177 dX4_isSameAsBefore_4 ?_
    refine gS0 isS3 k1_41 dX4_isSameAsBefore_7 ?_
    refine JO.icmp_gt 55 dX4_isSameAsBefore_10 rfl ?_ ?_
    · refine JO.ic 1 dX4_isSameAsBefore_55 (by decide) ?_
      exact JO.zret (b := true) dX4_isSameAsBefore_56 rfl rfl rfl
    · refine JO.aloadn dX4_isSameAsBefore_13 rfl ?_
      refine JO.iloadn dX4_isSameAsBefore_14 rfl ?_
      refine JO.iloadn dX4_isSameAsBefore_15 rfl ?_
      refine JO.cvi (C_cR_stateAt hb _ _ _) (rcvR hb) K_cR_stateAt k4_138 rfl rfl rfl (Nat.le_of_ble_eq_true rfl) dX4_isSameAsBefore_16 (fun a1 => ?_)
      refine JO.aloadn dX4_isSameAsBefore_19 rfl ?_
      refine JO.iloadn dX4_isSameAsBefore_20 rfl ?_
      refine JO.ic 1 dX4_isSameAsBefore_21 (by decide) ?_
      refine JO.isub dX4_isSameAsBefore_22 ?_
      refine JO.iloadn dX4_isSameAsBefore_23 rfl ?_
      refine JO.cvi (C_cR_stateAt hb _ _ _) (rcvR hb) K_cR_stateAt k4_138 rfl rfl rfl (Nat.le_of_ble_eq_true rfl) dX4_isSameAsBefore_24 (fun a2 => ?_)
      refine JO.icmp_ne 47 dX4_isSameAsBefore_27 rfl ?_ ?_
      · refine JO.ic 0 dX4_isSameAsBefore_47 (by decide) ?_
        exact JO.zret (b := false) dX4_isSameAsBefore_48 rfl rfl rfl
      · refine JO.aloadn dX4_isSameAsBefore_30 rfl ?_
        refine JO.iloadn dX4_isSameAsBefore_31 rfl ?_
        refine JO.iloadn dX4_isSameAsBefore_32 rfl ?_
        refine JO.cvi (C_cR_lengthAt hb _ _ _) (rcvR hb) K_cR_lengthAt k4_133 rfl rfl rfl (Nat.le_of_ble_eq_true rfl) dX4_isSameAsBefore_33 (fun a3 => ?_)
        refine JO.aloadn dX4_isSameAsBefore_36 rfl ?_
        refine JO.iloadn dX4_isSameAsBefore_37 rfl ?_
        refine JO.ic 1 dX4_isSameAsBefore_38 (by decide) ?_
        refine JO.isub dX4_isSameAsBefore_39 ?_
        refine JO.iloadn dX4_isSameAsBefore_40 rfl ?_
        refine JO.cvi (C_cR_lengthAt hb _ _ _) (rcvR hb) K_cR_lengthAt k4_133 rfl rfl rfl (Nat.le_of_ble_eq_true rfl) dX4_isSameAsBefore_41 (fun a4 => ?_)
        refine JO.icmp_eq 49 dX4_isSameAsBefore_44 rfl ?_ ?_
        · refine JO.iinc dX4_isSameAsBefore_49 rfl 1 (by decide) rfl rfl ?_
          refine JO.goto 2 dX4_isSameAsBefore_52 rfl ?_
          exact (ih _ _ _).jump (lvLe.so rfl (lvLe.so rfl (lvLe.so rfl (lvLe.nil))))
        · refine JO.ic 0 dX4_isSameAsBefore_47 (by decide) ?_
          exact JO.zret (b := false) dX4_isSameAsBefore_48 rfl rfl rfl
theorem J_cR_isSameAsBefore {X : JX} {ad : Nat → Nat} {b : Nat} (hb : isR b) (p1 : Int32) (σ : CS) : JO X M_cR_isSameAsBefore (QF X eZ (wC ad (xZ X))) 0 [some (.ref (ad b)), some (.int p1), none] [] (wsC ad (xZ X) σ) (cR_isSameAsBefore b p1 σ) := by
  unfold cR_isSameAsBefore
  refine JO.ic 0 dX4_isSameAsBefore_0 (by decide) ?_
  refine JO.istoren dX4_isSameAsBefore_1 rfl rfl ?_
  exact (J_cR_isSameAsBefore_l2 hb 4096 _ _ _).jump (lvLe.so rfl (lvLe.so rfl (lvLe.so rfl (lvLe.nil))))
theorem C_cR_isSameAsBefore {ad : Nat → Nat} {b : Nat} {Z : ZT} (hb : isR b) (p1 : Int32) (σ : CS) : CO yX4_isSameAsBefore M_cR_isSameAsBefore eZ Z (wC ad Z) [.ref (ad b), .int p1] (wsC ad Z σ) (cR_isSameAsBefore b p1 σ) :=
  CO.of rfl rfl (Nat.le_of_ble_eq_true rfl) 1 (fun X hZ => by subst hZ; exact J_cR_isSameAsBefore hb _ σ)
theorem K_cR_isSameAsBefore : Kv yX4_isSameAsBefore M_cR_isSameAsBefore RX4 1 := ⟨rfl, k4_187, s3_3, k1_5, k4_188, by decide +kernel⟩
abbrev M_cR_quietTick : JM := (cX4_quietTick, 2, RX4, (some .int), 4, 87)
def cR_quietTick_l5 (b : Nat) : Nat → Int32 → CS → Option (Int32 × CS)
  | 0, _, _ => none
  | n + 1, x1, σ =>
    if x1 ≤ 0 then (
      some (x1, σ))
    else (
      (cR_isSameAsBefore b x1 σ).bind fun a1 =>
      if a1.1 = true then (
        cR_quietTick_l5 b n (x1 + (-1)) a1.2)
      else (
        some (x1, a1.2)))
def cR_quietTick (b : Nat) (σ : CS) : Option (Int32 × CS) :=
  cR_quietTick_l5 b 4096 (cI σ b 7) σ
theorem J_cR_quietTick_l5 {X : JX} {ad : Nat → Nat} {b : Nat} (hb : isR b) : ∀ (n : Nat) (x1 : Int32) (σ : CS), JO X M_cR_quietTick (QF X eI (wC ad (xZ X))) 5 [some (.ref (ad b)), some (.int x1)] [] (wsC ad (xZ X) σ) (cR_quietTick_l5 b n x1 σ) := by
  intro n
  induction n with
  | zero => intro x1 σ; exact JO.nil
  | succ n ih =>
    intro x1 σ
    unfold cR_quietTick_l5
    refine JO.iloadn dX4_quietTick_5 rfl ?_
    refine JO.if_le 23 dX4_quietTick_6 rfl ?_ ?_
    · refine JO.iloadn dX4_quietTick_23 rfl ?_
      exact JO.iret dX4_quietTick_24 rfl rfl rfl
    · refine JO.aloadn dX4_quietTick_9 rfl ?_
      refine JO.iloadn dX4_quietTick_10 rfl ?_
      refine JO.cvz (C_cR_isSameAsBefore hb _ _) (rcvR hb) K_cR_isSameAsBefore k4_185 rfl rfl rfl (Nat.le_of_ble_eq_true rfl) dX4_quietTick_11 (fun a1 => ?_)
      refine JO.zeq 23 dX4_quietTick_14 rfl ?_ ?_
      · refine JO.iloadn dX4_quietTick_23 rfl ?_
        exact JO.iret dX4_quietTick_24 rfl rfl rfl
      · refine JO.iinc dX4_quietTick_17 rfl (-1) (by decide) rfl rfl ?_
        refine JO.goto 5 dX4_quietTick_20 rfl ?_
        exact (ih _ _).jump (lvLe.so rfl (lvLe.so rfl (lvLe.nil)))
theorem J_cR_quietTick {X : JX} {ad : Nat → Nat} {b : Nat} (hb : isR b) (σ : CS) : JO X M_cR_quietTick (QF X eI (wC ad (xZ X))) 0 [some (.ref (ad b)), none] [] (wsC ad (xZ X) σ) (cR_quietTick b σ) := by
  unfold cR_quietTick
  refine JO.aloadn dX4_quietTick_0 rfl ?_
  refine gR7 hb k1_192 dX4_quietTick_1 ?_
  refine JO.istoren dX4_quietTick_4 rfl rfl ?_
  exact (J_cR_quietTick_l5 hb 4096 _ _).jump (lvLe.so rfl (lvLe.so rfl (lvLe.nil)))
theorem C_cR_quietTick {ad : Nat → Nat} {b : Nat} {Z : ZT} (hb : isR b) (σ : CS) : CO yX4_quietTick M_cR_quietTick eI Z (wC ad Z) [.ref (ad b)] (wsC ad Z σ) (cR_quietTick b σ) :=
  CO.of rfl rfl (Nat.le_of_ble_eq_true rfl) 1 (fun X hZ => by subst hZ; exact J_cR_quietTick hb σ)
theorem K_cR_quietTick : Kv yX4_quietTick M_cR_quietTick RX4 0 := ⟨rfl, k4_182, k4_183, k1_5, k4_184, by decide +kernel⟩
abbrev M_cS_takeFrom : JM := (cX5_takeFrom, 2, RX5, none, 1, 48)
def cS_takeFrom (q : Nat) (q2 : Nat) (σ : CS) : Option (Unit × CS) :=
  if (0 ≤ 0 ∧ 0 ≤ 0 ∧ 0 ≤ 6) ∧ ix 0 + ix 6 ≤ 6 ∧ ix 0 + ix 6 ≤ 6 then
  if (0 ≤ 0 ∧ 0 ≤ 0 ∧ 0 ≤ 6) ∧ ix 0 + ix 6 ≤ 6 ∧ ix 0 + ix 6 ≤ 6 then
  some ((), tI (tAr (tAr (tG (tI (tZ (tI (tI (tI σ q 0 (cI σ q2 0)) q 1 (cI (tI σ q 0 (cI σ q2 0)) q2 1)) q 2 (cI (tI (tI σ q 0 (cI σ q2 0)) q 1 (cI (tI σ q 0 (cI σ q2 0)) q2 1)) q2 2)) q 3 (cZ σ q2 3)) q 4 (cI (tI (tI (tI σ q 0 (cI σ q2 0)) q 1 (cI (tI σ q 0 (cI σ q2 0)) q2 1)) q 2 (cI (tI (tI σ q 0 (cI σ q2 0)) q 1 (cI (tI σ q 0 (cI σ q2 0)) q2 1)) q2 2)) q2 4)) q 5 (cG σ q2 5)) (q + 1) (va_cpy (cA σ (q2 + 1)) (cA σ (q + 1)) (ix 0) (ix 0) (ix 6))) (q + 2) (va_cpy (cA (tAr σ (q + 1) (va_cpy (cA σ (q2 + 1)) (cA σ (q + 1)) (ix 0) (ix 0) (ix 6))) (q2 + 2)) (cA (tAr σ (q + 1) (va_cpy (cA σ (q2 + 1)) (cA σ (q + 1)) (ix 0) (ix 0) (ix 6))) (q + 2)) (ix 0) (ix 0) (ix 6))) q 8 (cI (tI (tI (tI (tI σ q 0 (cI σ q2 0)) q 1 (cI (tI σ q 0 (cI σ q2 0)) q2 1)) q 2 (cI (tI (tI σ q 0 (cI σ q2 0)) q 1 (cI (tI σ q 0 (cI σ q2 0)) q2 1)) q2 2)) q 4 (cI (tI (tI (tI σ q 0 (cI σ q2 0)) q 1 (cI (tI σ q 0 (cI σ q2 0)) q2 1)) q 2 (cI (tI (tI σ q 0 (cI σ q2 0)) q 1 (cI (tI σ q 0 (cI σ q2 0)) q2 1)) q2 2)) q2 4)) q2 8))
  else none
  else none
theorem J_cS_takeFrom {X : JX} {ad : Nat → Nat} {q : Nat} {q2 : Nat} (hq : isS q) (hq2 : isS q2) (σ : CS) : JO X M_cS_takeFrom (QF X eV (wC ad (xZ X))) 0 [some (.ref (ad q)), some (.ref (ad q2))] [] (wsC ad (xZ X) σ) (cS_takeFrom q q2 σ) := by
  unfold cS_takeFrom
  refine JO.aloadn dX5_takeFrom_0 rfl ?_
  refine JO.aloadn dX5_takeFrom_1 rfl ?_
  refine gS0 hq2 k1_40 dX5_takeFrom_2 ?_
  refine pS0 hq k1_40 dX5_takeFrom_5 ?_
  refine JO.aloadn dX5_takeFrom_8 rfl ?_
  refine JO.aloadn dX5_takeFrom_9 rfl ?_
  refine gS1 hq2 k1_43 dX5_takeFrom_10 ?_
  refine pS1 hq k1_43 dX5_takeFrom_13 ?_
  refine JO.aloadn dX5_takeFrom_16 rfl ?_
  refine JO.aloadn dX5_takeFrom_17 rfl ?_
  refine gS2 hq2 k1_46 dX5_takeFrom_18 ?_
  refine pS2 hq k1_46 dX5_takeFrom_21 ?_
  refine JO.aloadn dX5_takeFrom_24 rfl ?_
  refine JO.aloadn dX5_takeFrom_25 rfl ?_
  refine gS3 hq2 k1_48 dX5_takeFrom_26 ?_
  refine pS3 (v := (cZ σ q2 3)) hq k1_48 dX5_takeFrom_29 ?_
  refine JO.aloadn dX5_takeFrom_32 rfl ?_
  refine JO.aloadn dX5_takeFrom_33 rfl ?_
  refine gS4 hq2 k1_50 dX5_takeFrom_34 ?_
  refine pS4 hq k1_50 dX5_takeFrom_37 ?_
  refine JO.aloadn dX5_takeFrom_40 rfl ?_
  refine JO.aloadn dX5_takeFrom_41 rfl ?_
  refine gS5 hq2 k1_52 dX5_takeFrom_42 ?_
  refine pS5 hq k1_52 dX5_takeFrom_45 ?_
  refine JO.aloadn dX5_takeFrom_48 rfl ?_
  refine gS6 hq2 k1_54 dX5_takeFrom_49 ?_
  refine JO.ic 0 dX5_takeFrom_52 (by decide) ?_
  refine JO.aloadn dX5_takeFrom_53 rfl ?_
  refine gS6 hq k1_54 dX5_takeFrom_54 ?_
  refine JO.ic 0 dX5_takeFrom_57 (by decide) ?_
  refine JO.bip 6 dX5_takeFrom_58 (by decide) ?_
  refine JO.copyI (i_gd hq2) (i_gd hq) k3_127 k2_139 k1_11 rfl dX5_takeFrom_60 ?_
  refine JO.aloadn dX5_takeFrom_63 rfl ?_
  refine gS7 hq2 k1_56 dX5_takeFrom_64 ?_
  refine JO.ic 0 dX5_takeFrom_67 (by decide) ?_
  refine JO.aloadn dX5_takeFrom_68 rfl ?_
  refine gS7 hq k1_56 dX5_takeFrom_69 ?_
  refine JO.ic 0 dX5_takeFrom_72 (by decide) ?_
  refine JO.bip 6 dX5_takeFrom_73 (by decide) ?_
  refine JO.copyI (i_cu hq2) (i_cu hq) k3_127 k2_139 k1_11 rfl dX5_takeFrom_75 ?_
  refine JO.aloadn dX5_takeFrom_78 rfl ?_
  refine JO.aloadn dX5_takeFrom_79 rfl ?_
  refine gS8 hq2 k1_58 dX5_takeFrom_80 ?_
  refine pS8 hq k1_58 dX5_takeFrom_83 ?_
  exact JO.vret dX5_takeFrom_86 rfl rfl rfl
theorem C_cS_takeFrom {ad : Nat → Nat} {q : Nat} {q2 : Nat} {Z : ZT} (hq : isS q) (hq2 : isS q2) (σ : CS) : CO yX5_takeFrom M_cS_takeFrom eV Z (wC ad Z) [.ref (ad q), .ref (ad q2)] (wsC ad Z σ) (cS_takeFrom q q2 σ) :=
  CO.of rfl rfl (Nat.le_of_ble_eq_true rfl) 0 (fun X hZ => by subst hZ; exact J_cS_takeFrom hq hq2 σ)
theorem K_cS_takeFrom : Kv yX5_takeFrom M_cS_takeFrom RX5 1 := ⟨rfl, k3_124, k3_125, k1_2, k3_126, by decide +kernel⟩
abbrev M_cS_mayBe : JM := (cX5_mayBe, 2, RX5, (some .boolean), 0, 0)
def cS_mayBe (p1 : Int32) (p2 : Int32) (σ : CS) : Option (Bool × CS) :=
  sw p1 [(0, 28,
    if p2 < itemLow.getD 0 0 then (
      some (false, σ))
    else (
      if itemHigh.getD 0 0 < p2 then (
        some (false, σ))
      else (
        some (true, σ)))), (1, 54,
    if p2 < itemLow.getD 1 0 then (
      some (false, σ))
    else (
      if itemHigh.getD 1 0 < p2 then (
        some (false, σ))
      else (
        some (true, σ)))), (2, 80,
    if p2 < itemLow.getD 2 0 then (
      some (false, σ))
    else (
      if itemHigh.getD 2 0 < p2 then (
        some (false, σ))
      else (
        some (true, σ))))] (
    if p2 = 0 then (
      some (true, σ))
    else (
      if p2 = 1 then (
        some (true, σ))
      else (
        some (false, σ))))
theorem J_cS_mayBe {X : JX} {ad : Nat → Nat} (p1 : Int32) (p2 : Int32) (σ : CS) : JO X M_cS_mayBe (QF X eZ (wC ad (xZ X))) 0 [some (.int p1), some (.int p2)] [] (wsC ad (xZ X) σ) (cS_mayBe p1 p2 σ) := by
  unfold cS_mayBe
  refine JO.iloadn dX5_mayBe_0 rfl ?_
  refine JO.tsw [(0, 28, _), (1, 54, _), (2, 80, _)] 106 [(0, 28), (1, 54), (2, 80)] dX5_mayBe_1 rfl (by decide) rfl (by decide) (JO.swCons ?_ (JO.swCons ?_ (JO.swCons ?_ (JO.swNil)))) ?_
  · refine JO.iloadn dX5_mayBe_28 rfl ?_
    refine JO.gets (v := .ref (kz (xZ X) 1 0)) (fun h => (h.2.1.1 0 (by decide)).1) k4_32 dX5_mayBe_29 ?_
    refine JO.getO (cw_low (by decide)) k7_52 dX5_mayBe_32 ?_
    refine JO.icmp_lt 52 dX5_mayBe_35 rfl ?_ ?_
    · refine JO.ic 0 dX5_mayBe_52 (by decide) ?_
      exact JO.zret (b := false) dX5_mayBe_53 rfl rfl rfl
    · refine JO.iloadn dX5_mayBe_38 rfl ?_
      refine JO.gets (v := .ref (kz (xZ X) 1 0)) (fun h => (h.2.1.1 0 (by decide)).1) k4_32 dX5_mayBe_39 ?_
      refine JO.getO (cw_high (by decide)) k7_53 dX5_mayBe_42 ?_
      refine JO.icmp_gt 52 dX5_mayBe_45 rfl ?_ ?_
      · refine JO.ic 0 dX5_mayBe_52 (by decide) ?_
        exact JO.zret (b := false) dX5_mayBe_53 rfl rfl rfl
      · refine JO.ic 1 dX5_mayBe_48 (by decide) ?_
        refine JO.goto 53 dX5_mayBe_49 rfl ?_
        exact JO.zret (b := true) dX5_mayBe_53 rfl rfl rfl
  · refine JO.iloadn dX5_mayBe_54 rfl ?_
    refine JO.gets (v := .ref (kz (xZ X) 1 1)) (fun h => (h.2.1.1 1 (by decide)).1) k4_34 dX5_mayBe_55 ?_
    refine JO.getO (cw_low (by decide)) k7_52 dX5_mayBe_58 ?_
    refine JO.icmp_lt 78 dX5_mayBe_61 rfl ?_ ?_
    · refine JO.ic 0 dX5_mayBe_78 (by decide) ?_
      exact JO.zret (b := false) dX5_mayBe_79 rfl rfl rfl
    · refine JO.iloadn dX5_mayBe_64 rfl ?_
      refine JO.gets (v := .ref (kz (xZ X) 1 1)) (fun h => (h.2.1.1 1 (by decide)).1) k4_34 dX5_mayBe_65 ?_
      refine JO.getO (cw_high (by decide)) k7_53 dX5_mayBe_68 ?_
      refine JO.icmp_gt 78 dX5_mayBe_71 rfl ?_ ?_
      · refine JO.ic 0 dX5_mayBe_78 (by decide) ?_
        exact JO.zret (b := false) dX5_mayBe_79 rfl rfl rfl
      · refine JO.ic 1 dX5_mayBe_74 (by decide) ?_
        refine JO.goto 79 dX5_mayBe_75 rfl ?_
        exact JO.zret (b := true) dX5_mayBe_79 rfl rfl rfl
  · refine JO.iloadn dX5_mayBe_80 rfl ?_
    refine JO.gets (v := .ref (kz (xZ X) 1 2)) (fun h => (h.2.1.1 2 (by decide)).1) k4_36 dX5_mayBe_81 ?_
    refine JO.getO (cw_low (by decide)) k7_52 dX5_mayBe_84 ?_
    refine JO.icmp_lt 104 dX5_mayBe_87 rfl ?_ ?_
    · refine JO.ic 0 dX5_mayBe_104 (by decide) ?_
      exact JO.zret (b := false) dX5_mayBe_105 rfl rfl rfl
    · refine JO.iloadn dX5_mayBe_90 rfl ?_
      refine JO.gets (v := .ref (kz (xZ X) 1 2)) (fun h => (h.2.1.1 2 (by decide)).1) k4_36 dX5_mayBe_91 ?_
      refine JO.getO (cw_high (by decide)) k7_53 dX5_mayBe_94 ?_
      refine JO.icmp_gt 104 dX5_mayBe_97 rfl ?_ ?_
      · refine JO.ic 0 dX5_mayBe_104 (by decide) ?_
        exact JO.zret (b := false) dX5_mayBe_105 rfl rfl rfl
      · refine JO.ic 1 dX5_mayBe_100 (by decide) ?_
        refine JO.goto 105 dX5_mayBe_101 rfl ?_
        exact JO.zret (b := true) dX5_mayBe_105 rfl rfl rfl
  · refine JO.iloadn dX5_mayBe_106 rfl ?_
    refine JO.if_eq 115 dX5_mayBe_107 rfl ?_ ?_
    · refine JO.ic 1 dX5_mayBe_115 (by decide) ?_
      refine JO.goto 120 dX5_mayBe_116 rfl ?_
      exact JO.zret (b := true) dX5_mayBe_120 rfl rfl rfl
    · refine JO.iloadn dX5_mayBe_110 rfl ?_
      refine JO.ic 1 dX5_mayBe_111 (by decide) ?_
      refine JO.icmp_ne 119 dX5_mayBe_112 rfl ?_ ?_
      · refine JO.ic 0 dX5_mayBe_119 (by decide) ?_
        exact JO.zret (b := false) dX5_mayBe_120 rfl rfl rfl
      · refine JO.ic 1 dX5_mayBe_115 (by decide) ?_
        refine JO.goto 120 dX5_mayBe_116 rfl ?_
        exact JO.zret (b := true) dX5_mayBe_120 rfl rfl rfl
theorem C_cS_mayBe {ad : Nat → Nat} {Z : ZT} (p1 : Int32) (p2 : Int32) (σ : CS) : CO yX5_mayBe M_cS_mayBe eZ Z (wC ad Z) [.int p1, .int p2] (wsC ad Z σ) (cS_mayBe p1 p2 σ) :=
  CO.of rfl rfl (Nat.le_of_ble_eq_true rfl) 0 (fun X hZ => by subst hZ; exact J_cS_mayBe _ _ σ)
theorem K_cS_mayBe : Ks yX5_mayBe M_cS_mayBe 2 := ⟨k4_30, k1_2, k4_31, by decide +kernel⟩
