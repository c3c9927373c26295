abbrev M_m_timesOut : JM := (cX10_timesOut, 2, RX10, none, 4, 86)
def m_timesOut (p1 : Int32) (σ : MS) : Option (Unit × MS) :=
  if inB p1 6 = true then
  if p1 = 0 then (
    (m_timesOutCoordinator (sA σ 12 (ix p1) 1000)).bind fun a2 =>
    some ((), a2.2))
  else (
    (m_timesOutParticipant p1 (sA σ 12 (ix p1) 1000)).bind fun a1 =>
    some ((), a1.2))
  else none
theorem J_m_timesOut {X : JX} {ad : Nat → Nat} (p1 : Int32) (σ : MS) : JO X M_m_timesOut (QF X eV (wM ad (xZ X))) 0 [some (.ref (ad 0)), some (.int p1)] [] (wsM ad (xZ X) σ) (m_timesOut p1 σ) := by
  unfold m_timesOut
  refine JO.aloadn dX10_timesOut_0 rfl ?_
  refine gM12 dX10_timesOut_1 rfl ?_
  refine JO.iloadn dX10_timesOut_4 rfl ?_
  refine JO.sip 1000 dX10_timesOut_5 (by decide) ?_
  refine uM12 dX10_timesOut_8 ?_
  refine JO.iloadn dX10_timesOut_9 rfl ?_
  refine JO.if_ne 20 dX10_timesOut_10 rfl ?_ ?_
  · refine JO.aloadn dX10_timesOut_20 rfl ?_
    refine JO.iloadn dX10_timesOut_21 rfl ?_
    refine JO.mvv (C_m_timesOutParticipant _ _) K_m_timesOutParticipant k6_40 rfl rfl rfl (Nat.le_of_ble_eq_true rfl) dX10_timesOut_22 (fun a1 => ?_)
    exact JO.vret dX10_timesOut_25 rfl rfl rfl
  · refine JO.aloadn dX10_timesOut_13 rfl ?_
    refine JO.mvv (C_m_timesOutCoordinator _) K_m_timesOutCoordinator k6_36 rfl rfl rfl (Nat.le_of_ble_eq_true rfl) dX10_timesOut_14 (fun a2 => ?_)
    refine JO.goto 25 dX10_timesOut_17 rfl ?_
    exact JO.vret dX10_timesOut_25 rfl rfl rfl
theorem C_m_timesOut {ad : Nat → Nat} {Z : ZT} (p1 : Int32) (σ : MS) : CO yX10_timesOut M_m_timesOut eV Z (wM ad Z) [.ref (ad 0), .int p1] (wsM ad Z σ) (m_timesOut p1 σ) :=
  CO.of rfl rfl (Nat.le_of_ble_eq_true rfl) 0 (fun X hZ => by subst hZ; exact J_m_timesOut _ σ)
theorem K_m_timesOut : Kv yX10_timesOut M_m_timesOut RX10 1 := ⟨rfl, k6_34, s5_3, k1_10, k6_35, by decide +kernel⟩
abbrev M_m_goesSites : JM := (cX10_goesSites, 2, RX10, none, 5, 107)
def m_goesSites_l46 : Nat → Int32 → MS → Option (Unit × MS)
  | 0, _, _ => none
  | n + 1, x1, σ =>
    if mI σ 5 < x1 then (
      some ((), σ))
    else (
      if inB x1 6 = true then
      if mA σ 3 (ix x1) = mI σ 22 then (
        if inB x1 6 = true then
        m_goesSites_l46 n (x1 + 1) (sA σ 11 (ix x1) 0)
        else none)
      else (
        m_goesSites_l46 n (x1 + 1) σ)
      else none)
def m_goesSites_l2 : Nat → Int32 → MS → Option (Unit × MS)
  | 0, _, _ => none
  | n + 1, x1, σ =>
    if mI σ 5 < x1 then (
      m_goesSites_l46 4096 0 σ)
    else (
      if inB x1 6 = true then
      if mA σ 3 (ix x1) = (-1) then (
        m_goesSites_l2 n (x1 + 1) σ)
      else (
        if inB x1 6 = true then
        if mA σ 4 (ix x1) = mI σ 22 then (
          (m_recovers x1 σ).bind fun a1 =>
          m_goesSites_l2 n (x1 + 1) a1.2)
        else (
          m_goesSites_l2 n (x1 + 1) σ)
        else none)
      else none)
def m_goesSites (σ : MS) : Option (Unit × MS) :=
  m_goesSites_l2 4096 0 σ
theorem J_m_goesSites_l46 {X : JX} {ad : Nat → Nat} : ∀ (n : Nat) (x1 : Int32) (σ : MS), JO X M_m_goesSites (QF X eV (wM ad (xZ X))) 46 [some (.ref (ad 0)), some (.int x1)] [] (wsM ad (xZ X) σ) (m_goesSites_l46 n x1 σ) := by
  intro n
  induction n with
  | zero => intro x1 σ; exact JO.nil
  | succ n ih =>
    intro x1 σ
    unfold m_goesSites_l46
    refine JO.iloadn dX10_goesSites_46 rfl ?_
    refine JO.aloadn dX10_goesSites_47 rfl ?_
    refine gM5 dX10_goesSites_48 rfl ?_
    refine JO.icmp_gt 80 dX10_goesSites_51 rfl ?_ ?_
    · exact JO.vret dX10_goesSites_80 rfl rfl rfl
    · refine JO.aloadn dX10_goesSites_54 rfl ?_
      refine gM3 dX10_goesSites_55 rfl ?_
      refine JO.iloadn dX10_goesSites_58 rfl ?_
      refine aM3 dX10_goesSites_59 ?_
      refine JO.aloadn dX10_goesSites_60 rfl ?_
      refine gM22 dX10_goesSites_61 rfl ?_
      refine JO.icmp_ne 74 dX10_goesSites_64 rfl ?_ ?_
      · refine JO.iinc dX10_goesSites_74 rfl 1 (by decide) rfl rfl ?_
        refine JO.goto 46 dX10_goesSites_77 rfl ?_
        exact (ih _ _).jump (lvLe.so rfl (lvLe.so rfl (lvLe.nil)))
      · refine JO.aloadn dX10_goesSites_67 rfl ?_
        refine gM11 dX10_goesSites_68 rfl ?_
        refine JO.iloadn dX10_goesSites_71 rfl ?_
        refine JO.ic 0 dX10_goesSites_72 (by decide) ?_
        refine uM11 dX10_goesSites_73 ?_
        refine JO.iinc dX10_goesSites_74 rfl 1 (by decide) rfl rfl ?_
        refine JO.goto 46 dX10_goesSites_77 rfl ?_
        exact (ih _ _).jump (lvLe.so rfl (lvLe.so rfl (lvLe.nil)))
theorem J_m_goesSites_l2 {X : JX} {ad : Nat → Nat} : ∀ (n : Nat) (x1 : Int32) (σ : MS), JO X M_m_goesSites (QF X eV (wM ad (xZ X))) 2 [some (.ref (ad 0)), some (.int x1)] [] (wsM ad (xZ X) σ) (m_goesSites_l2 n x1 σ) := by
  intro n
  induction n with
  | zero => intro x1 σ; exact JO.nil
  | succ n ih =>
    intro x1 σ
    unfold m_goesSites_l2
    refine JO.iloadn dX10_goesSites_2 rfl ?_
    refine JO.aloadn dX10_goesSites_3 rfl ?_
    refine gM5 dX10_goesSites_4 rfl ?_
    refine JO.icmp_gt 44 dX10_goesSites_7 rfl ?_ ?_
    · refine JO.ic 0 dX10_goesSites_44 (by decide) ?_
      refine JO.istoren dX10_goesSites_45 rfl rfl ?_
      exact (J_m_goesSites_l46 4096 _ _).jump (lvLe.so rfl (lvLe.so rfl (lvLe.nil)))
    · refine JO.aloadn dX10_goesSites_10 rfl ?_
      refine gM3 dX10_goesSites_11 rfl ?_
      refine JO.iloadn dX10_goesSites_14 rfl ?_
      refine aM3 dX10_goesSites_15 ?_
      refine JO.ic (-1) dX10_goesSites_16 (by decide) ?_
      refine JO.icmp_eq 38 dX10_goesSites_17 rfl ?_ ?_
      · refine JO.iinc dX10_goesSites_38 rfl 1 (by decide) rfl rfl ?_
        refine JO.goto 2 dX10_goesSites_41 rfl ?_
        exact (ih _ _).jump (lvLe.so rfl (lvLe.so rfl (lvLe.nil)))
      · refine JO.aloadn dX10_goesSites_20 rfl ?_
        refine gM4 dX10_goesSites_21 rfl ?_
        refine JO.iloadn dX10_goesSites_24 rfl ?_
        refine aM4 dX10_goesSites_25 ?_
        refine JO.aloadn dX10_goesSites_26 rfl ?_
        refine gM22 dX10_goesSites_27 rfl ?_
        refine JO.icmp_ne 38 dX10_goesSites_30 rfl ?_ ?_
        · refine JO.iinc dX10_goesSites_38 rfl 1 (by decide) rfl rfl ?_
          refine JO.goto 2 dX10_goesSites_41 rfl ?_
          exact (ih _ _).jump (lvLe.so rfl (lvLe.so rfl (lvLe.nil)))
        · refine JO.aloadn dX10_goesSites_33 rfl ?_
          refine JO.iloadn dX10_goesSites_34 rfl ?_
          refine JO.mvv (C_m_recovers _ _) K_m_recovers k5_184 rfl rfl rfl (Nat.le_of_ble_eq_true rfl) dX10_goesSites_35 (fun a1 => ?_)
          refine JO.iinc dX10_goesSites_38 rfl 1 (by decide) rfl rfl ?_
          refine JO.goto 2 dX10_goesSites_41 rfl ?_
          exact (ih _ _).jump (lvLe.so rfl (lvLe.so rfl (lvLe.nil)))
theorem J_m_goesSites {X : JX} {ad : Nat → Nat} (σ : MS) : JO X M_m_goesSites (QF X eV (wM ad (xZ X))) 0 [some (.ref (ad 0)), none] [] (wsM ad (xZ X) σ) (m_goesSites σ) := by
  unfold m_goesSites
  refine JO.ic 0 dX10_goesSites_0 (by decide) ?_
  refine JO.istoren dX10_goesSites_1 rfl rfl ?_
  exact (J_m_goesSites_l2 4096 _ _).jump (lvLe.so rfl (lvLe.so rfl (lvLe.nil)))
theorem C_m_goesSites {ad : Nat → Nat} {Z : ZT} (σ : MS) : CO yX10_goesSites M_m_goesSites eV Z (wM ad Z) [.ref (ad 0)] (wsM ad Z σ) (m_goesSites σ) :=
  CO.of rfl rfl (Nat.le_of_ble_eq_true rfl) 1 (fun X hZ => by subst hZ; exact J_m_goesSites σ)
theorem K_m_goesSites : Kv yX10_goesSites M_m_goesSites RX10 0 := ⟨rfl, k5_182, s3_12, k1_10, k5_183, by decide +kernel⟩
abbrev M_m_goesTick : JM := (cX10_goesTick, 3, RX10, none, 6, 128)
def m_goesTick_l58 : Nat → Int32 → MS → Option (Unit × MS)
  | 0, _, _ => none
  | n + 1, x2, σ =>
    if mI σ 5 < x2 then (
      some ((), σ))
    else (
      if inB x2 6 = true then
      if mA σ 11 (ix x2) = 1 then (
        if inB x2 6 = true then
        if mI σ 22 < mA σ 12 (ix x2) then (
          m_goesTick_l58 n (x2 + 1) σ)
        else (
          (m_timesOut x2 σ).bind fun a1 =>
          m_goesTick_l58 n (x2 + 1) a1.2)
        else none)
      else (
        m_goesTick_l58 n (x2 + 1) σ)
      else none)
def m_goesTick_b30 (x1 : Int32) (σ : MS) : Option (Unit × MS) :=
  if mI σ 22 = 0 then (
    if inB 0 6 = true then
    if mA σ 11 (ix 0) = 1 then (
      (m_beginsCoordinator (sI σ 23 x1)).bind fun a1 =>
      m_goesTick_l58 4096 0 a1.2)
    else (
      m_goesTick_l58 4096 0 (sI σ 23 x1))
    else none)
  else (
    m_goesTick_l58 4096 0 (sI σ 23 x1))
def m_goesTick_l14 : Nat → Int32 → Int32 → MS → Option (Unit × MS)
  | 0, _, _, _ => none
  | n + 1, x1, x2, σ =>
    if x1 ≤ x2 then (
      m_goesTick_b30 x1 σ)
    else (
      (m_arrives x2 σ).bind fun a1 =>
      m_goesTick_l14 n x1 (x2 + 1) a1.2)
def m_goesTick (σ : MS) : Option (Unit × MS) :=
  (m_goesSites σ).bind fun a1 =>
  m_goesTick_l14 4096 (mI σ 21) (mI a1.2 23) a1.2
theorem J_m_goesTick_l58 {X : JX} {ad : Nat → Nat} : ∀ (n : Nat) (x2 : Int32) (σ : MS), JO X M_m_goesTick (QF X eV (wM ad (xZ X))) 58 [some (.ref (ad 0)), none, some (.int x2)] [] (wsM ad (xZ X) σ) (m_goesTick_l58 n x2 σ) := by
  intro n
  induction n with
  | zero => intro x2 σ; exact JO.nil
  | succ n ih =>
    intro x2 σ
    unfold m_goesTick_l58
    refine JO.iloadn dX10_goesTick_58 rfl ?_
    refine JO.aloadn dX10_goesTick_59 rfl ?_
    refine gM5 dX10_goesTick_60 rfl ?_
    refine JO.icmp_gt 100 dX10_goesTick_63 rfl ?_ ?_
    · exact JO.vret dX10_goesTick_100 rfl rfl rfl
    · refine JO.aloadn dX10_goesTick_66 rfl ?_
      refine gM11 dX10_goesTick_67 rfl ?_
      refine JO.iloadn dX10_goesTick_70 rfl ?_
      refine aM11 dX10_goesTick_71 ?_
      refine JO.ic 1 dX10_goesTick_72 (by decide) ?_
      refine JO.icmp_ne 94 dX10_goesTick_73 rfl ?_ ?_
      · refine JO.iinc dX10_goesTick_94 rfl 1 (by decide) rfl rfl ?_
        refine JO.goto 58 dX10_goesTick_97 rfl ?_
        exact (ih _ _).jump (lvLe.so rfl (lvLe.no (lvLe.so rfl (lvLe.nil))))
      · refine JO.aloadn dX10_goesTick_76 rfl ?_
        refine gM12 dX10_goesTick_77 rfl ?_
        refine JO.iloadn dX10_goesTick_80 rfl ?_
        refine aM12 dX10_goesTick_81 ?_
        refine JO.aloadn dX10_goesTick_82 rfl ?_
        refine gM22 dX10_goesTick_83 rfl ?_
        refine JO.icmp_gt 94 dX10_goesTick_86 rfl ?_ ?_
        · refine JO.iinc dX10_goesTick_94 rfl 1 (by decide) rfl rfl ?_
          refine JO.goto 58 dX10_goesTick_97 rfl ?_
          exact (ih _ _).jump (lvLe.so rfl (lvLe.no (lvLe.so rfl (lvLe.nil))))
        · refine JO.aloadn dX10_goesTick_89 rfl ?_
          refine JO.iloadn dX10_goesTick_90 rfl ?_
          refine JO.mvv (C_m_timesOut _ _) K_m_timesOut k6_32 rfl rfl rfl (Nat.le_of_ble_eq_true rfl) dX10_goesTick_91 (fun a1 => ?_)
          refine JO.iinc dX10_goesTick_94 rfl 1 (by decide) rfl rfl ?_
          refine JO.goto 58 dX10_goesTick_97 rfl ?_
          exact (ih _ _).jump (lvLe.so rfl (lvLe.no (lvLe.so rfl (lvLe.nil))))
theorem J_m_goesTick_b30 {X : JX} {ad : Nat → Nat} (x1 : Int32) (σ : MS) : JO X M_m_goesTick (QF X eV (wM ad (xZ X))) 30 [some (.ref (ad 0)), some (.int x1), none] [] (wsM ad (xZ X) σ) (m_goesTick_b30 x1 σ) := by
  unfold m_goesTick_b30
  refine JO.aloadn dX10_goesTick_30 rfl ?_
  refine JO.iloadn dX10_goesTick_31 rfl ?_
  refine pM23 dX10_goesTick_32 rfl ?_
  refine JO.aloadn dX10_goesTick_35 rfl ?_
  refine gM22 dX10_goesTick_36 rfl ?_
  refine JO.if_ne 56 dX10_goesTick_39 rfl ?_ ?_
  · refine JO.ic 0 dX10_goesTick_56 (by decide) ?_
    refine JO.istoren dX10_goesTick_57 rfl rfl ?_
    exact (J_m_goesTick_l58 4096 _ _).jump (lvLe.so rfl (lvLe.no (lvLe.so rfl (lvLe.nil))))
  · refine JO.aloadn dX10_goesTick_42 rfl ?_
    refine gM11 dX10_goesTick_43 rfl ?_
    refine JO.ic 0 dX10_goesTick_46 (by decide) ?_
    refine aM11 dX10_goesTick_47 ?_
    refine JO.ic 1 dX10_goesTick_48 (by decide) ?_
    refine JO.icmp_ne 56 dX10_goesTick_49 rfl ?_ ?_
    · refine JO.ic 0 dX10_goesTick_56 (by decide) ?_
      refine JO.istoren dX10_goesTick_57 rfl rfl ?_
      exact (J_m_goesTick_l58 4096 _ _).jump (lvLe.so rfl (lvLe.no (lvLe.so rfl (lvLe.nil))))
    · refine JO.aloadn dX10_goesTick_52 rfl ?_
      refine JO.mvv (C_m_beginsCoordinator _) K_m_beginsCoordinator k6_28 rfl rfl rfl (Nat.le_of_ble_eq_true rfl) dX10_goesTick_53 (fun a1 => ?_)
      refine JO.ic 0 dX10_goesTick_56 (by decide) ?_
      refine JO.istoren dX10_goesTick_57 rfl rfl ?_
      exact (J_m_goesTick_l58 4096 _ _).jump (lvLe.so rfl (lvLe.no (lvLe.so rfl (lvLe.nil))))
theorem J_m_goesTick_l14 {X : JX} {ad : Nat → Nat} : ∀ (n : Nat) (x1 : Int32) (x2 : Int32) (σ : MS), JO X M_m_goesTick (QF X eV (wM ad (xZ X))) 14 [some (.ref (ad 0)), some (.int x1), some (.int x2)] [] (wsM ad (xZ X) σ) (m_goesTick_l14 n x1 x2 σ) := by
  intro n
  induction n with
  | zero => intro x1 x2 σ; exact JO.nil
  | succ n ih =>
    intro x1 x2 σ
    unfold m_goesTick_l14
    refine JO.iloadn dX10_goesTick_14 rfl ?_
    refine JO.iloadn dX10_goesTick_15 rfl ?_
    refine JO.icmp_ge 30 dX10_goesTick_16 rfl ?_ ?_
    · exact (J_m_goesTick_b30 _ _).jump (lvLe.so rfl (lvLe.so rfl (lvLe.no (lvLe.nil))))
    · refine JO.aloadn dX10_goesTick_19 rfl ?_
      refine JO.iloadn dX10_goesTick_20 rfl ?_
      refine JO.mvv (C_m_arrives _ _) K_m_arrives k5_220 rfl rfl rfl (Nat.le_of_ble_eq_true rfl) dX10_goesTick_21 (fun a1 => ?_)
      refine JO.iinc dX10_goesTick_24 rfl 1 (by decide) rfl rfl ?_
      refine JO.goto 14 dX10_goesTick_27 rfl ?_
      exact (ih _ _ _).jump (lvLe.so rfl (lvLe.so rfl (lvLe.so rfl (lvLe.nil))))
theorem J_m_goesTick {X : JX} {ad : Nat → Nat} (σ : MS) : JO X M_m_goesTick (QF X eV (wM ad (xZ X))) 0 [some (.ref (ad 0)), none, none] [] (wsM ad (xZ X) σ) (m_goesTick σ) := by
  unfold m_goesTick
  refine JO.aloadn dX10_goesTick_0 rfl ?_
  refine gM21 dX10_goesTick_1 rfl ?_
  refine JO.istoren dX10_goesTick_4 rfl rfl ?_
  refine JO.aloadn dX10_goesTick_5 rfl ?_
  refine JO.mvv (C_m_goesSites _) K_m_goesSites k5_180 rfl rfl rfl (Nat.le_of_ble_eq_true rfl) dX10_goesTick_6 (fun a1 => ?_)
  refine JO.aloadn dX10_goesTick_9 rfl ?_
  refine gM23 dX10_goesTick_10 rfl ?_
  refine JO.istoren dX10_goesTick_13 rfl rfl ?_
  exact (J_m_goesTick_l14 4096 _ _ _).jump (lvLe.so rfl (lvLe.so rfl (lvLe.so rfl (lvLe.nil))))
theorem C_m_goesTick {ad : Nat → Nat} {Z : ZT} (σ : MS) : CO yX10_goesTick M_m_goesTick eV Z (wM ad Z) [.ref (ad 0)] (wsM ad Z σ) (m_goesTick σ) :=
  CO.of rfl rfl (Nat.le_of_ble_eq_true rfl) 2 (fun X hZ => by subst hZ; exact J_m_goesTick σ)
theorem K_m_goesTick : Kv yX10_goesTick M_m_goesTick RX10 0 := ⟨rfl, k5_178, s3_11, k1_10, k5_179, by decide +kernel⟩
abbrev M_m_runs : JM := (cX10_runs, 2, RX10, none, 7, 150)
def m_runs_b141 (k84 : MS → Option (Unit × MS)) (k99 : Int32 → MS → Option (Unit × MS)) (x1 : Int32) (t0 : Int32) (t1 : Int32) (σ : MS) : Option (Unit × MS) :=
  if inB t1 366 = true then
  if inB x1 6 = true then
  if inB ((6 * mI σ 22) + x1) 366 = true then
  k99 (x1 + 1) (sA (sA σ 25 (ix t1) t0) 26 (ix ((6 * mI σ 22) + x1)) (mA σ 14 (ix x1)))
  else none
  else none
  else none
def m_runs_b168 (k84 : MS → Option (Unit × MS)) (σ : MS) : Option (Unit × MS) :=
  if inB (mI σ 22) 61 = true then
  k84 (sI (sA σ 27 (ix (mI σ 22)) (mI σ 21)) 22 (mI σ 22 + 1))
  else none
def m_runs_l99 (k84 : MS → Option (Unit × MS)) : Nat → Int32 → MS → Option (Unit × MS)
  | 0, _, _ => none
  | n + 1, x1, σ =>
    if mI σ 5 < x1 then (
      m_runs_b168 k84 σ)
    else (
      if inB x1 6 = true then
      if mA σ 11 (ix x1) = 1 then (
        if inB x1 6 = true then
        m_runs_b141 k84 (fun x1 σ => m_runs_l99 k84 n x1 σ) x1 (mA σ 10 (ix x1)) ((6 * mI σ 22) + x1) σ
        else none)
      else (
        m_runs_b141 k84 (fun x1 σ => m_runs_l99 k84 n x1 σ) x1 9 ((6 * mI σ 22) + x1) σ)
      else none)
def m_runs_l84 : Nat → MS → Option (Unit × MS)
  | 0, _ => none
  | n + 1, σ =>
    if 61 ≤ mI σ 22 then (
      some ((), σ))
    else (
      (m_goesTick σ).bind fun a1 =>
      m_runs_l99 (fun σ => m_runs_l84 n σ) 4096 0 a1.2)
def m_runs_l37 : Nat → Int32 → MS → Option (Unit × MS)
  | 0, _, _ => none
  | n + 1, x1, σ =>
    if 6 ≤ x1 then (
      m_runs_l84 4096 (sI σ 22 0))
    else (
      if inB x1 6 = true then
      if inB x1 6 = true then
      if inB x1 6 = true then
      if inB x1 6 = true then
      m_runs_l37 n (x1 + 1) (sA (sA (sA (sA σ 10 (ix x1) 0) 11 (ix x1) 1) 12 (ix x1) 1000) 14 (ix x1) 0)
      else none
      else none
      else none
      else none)
def m_runs_l17 : Nat → Int32 → MS → Option (Unit × MS)
  | 0, _, _ => none
  | n + 1, x1, σ =>
    if 3 ≤ x1 then (
      m_runs_l37 4096 0 σ)
    else (
      if inB x1 3 = true then
      m_runs_l17 n (x1 + 1) (sA σ 15 (ix x1) 0)
      else none)
def m_runs (σ : MS) : Option (Unit × MS) :=
  m_runs_l17 4096 0 (sI (sI (sI σ 21 0) 23 0) 24 0)
theorem J_m_runs_b141 {X : JX} {ad : Nat → Nat} {k84 : MS → Option (Unit × MS)} (hk84 : ∀ (σ : MS), JO X M_m_runs (QF X eV (wM ad (xZ X))) 84 [some (.ref (ad 0)), none] [] (wsM ad (xZ X) σ) (k84 σ)) {k99 : Int32 → MS → Option (Unit × MS)} (hk99 : ∀ (x1 : Int32) (σ : MS), JO X M_m_runs (QF X eV (wM ad (xZ X))) 99 [some (.ref (ad 0)), some (.int x1)] [] (wsM ad (xZ X) σ) (k99 x1 σ)) (x1 : Int32) (t0 : Int32) (t1 : Int32) (σ : MS) : JO X M_m_runs (QF X eV (wM ad (xZ X))) 141 [some (.ref (ad 0)), some (.int x1)] [.int t0, .int t1, .ref (ad 26)] (wsM ad (xZ X) σ) (m_runs_b141 k84 k99 x1 t0 t1 σ) := by
  unfold m_runs_b141
  refine uM25 dX10_runs_141 ?_
  refine JO.aloadn dX10_runs_142 rfl ?_
  refine gM26 dX10_runs_143 rfl ?_
  refine JO.bip 6 dX10_runs_146 (by decide) ?_
  refine JO.aloadn dX10_runs_148 rfl ?_
  refine gM22 dX10_runs_149 rfl ?_
  refine JO.imul dX10_runs_152 ?_
  refine JO.iloadn dX10_runs_153 rfl ?_
  refine JO.iadd dX10_runs_154 ?_
  refine JO.aloadn dX10_runs_155 rfl ?_
  refine gM14 dX10_runs_156 rfl ?_
  refine JO.iloadn dX10_runs_159 rfl ?_
  refine aM14 dX10_runs_160 ?_
  refine uM26 dX10_runs_161 ?_
  refine JO.iinc dX10_runs_162 rfl 1 (by decide) rfl rfl ?_
  refine JO.goto 99 dX10_runs_165 rfl ?_
  exact (hk99 _ _).jump (lvLe.so rfl (lvLe.so rfl (lvLe.nil)))
theorem J_m_runs_b168 {X : JX} {ad : Nat → Nat} {k84 : MS → Option (Unit × MS)} (hk84 : ∀ (σ : MS), JO X M_m_runs (QF X eV (wM ad (xZ X))) 84 [some (.ref (ad 0)), none] [] (wsM ad (xZ X) σ) (k84 σ)) (σ : MS) : JO X M_m_runs (QF X eV (wM ad (xZ X))) 168 [some (.ref (ad 0)), none] [] (wsM ad (xZ X) σ) (m_runs_b168 k84 σ) := by
  unfold m_runs_b168
  refine JO.aloadn dX10_runs_168 rfl ?_
  refine gM27 dX10_runs_169 rfl ?_
  refine JO.aloadn dX10_runs_172 rfl ?_
  refine gM22 dX10_runs_173 rfl ?_
  refine JO.aloadn dX10_runs_176 rfl ?_
  refine gM21 dX10_runs_177 rfl ?_
  refine uM27 dX10_runs_180 ?_
  refine JO.aloadn dX10_runs_181 rfl ?_
  refine JO.dup dX10_runs_182 rfl ?_
  refine gM22 dX10_runs_183 rfl ?_
  refine JO.ic 1 dX10_runs_186 (by decide) ?_
  refine JO.iadd dX10_runs_187 ?_
  refine pM22 dX10_runs_188 rfl ?_
  refine JO.goto 84 dX10_runs_191 rfl ?_
  exact (hk84 _).jump (lvLe.so rfl (lvLe.no (lvLe.nil)))
theorem J_m_runs_l99 {X : JX} {ad : Nat → Nat} {k84 : MS → Option (Unit × MS)} (hk84 : ∀ (σ : MS), JO X M_m_runs (QF X eV (wM ad (xZ X))) 84 [some (.ref (ad 0)), none] [] (wsM ad (xZ X) σ) (k84 σ)) : ∀ (n : Nat) (x1 : Int32) (σ : MS), JO X M_m_runs (QF X eV (wM ad (xZ X))) 99 [some (.ref (ad 0)), some (.int x1)] [] (wsM ad (xZ X) σ) (m_runs_l99 k84 n x1 σ) := by
  intro n
  induction n with
  | zero => intro x1 σ; exact JO.nil
  | succ n ih =>
    intro x1 σ
    unfold m_runs_l99
    refine JO.iloadn dX10_runs_99 rfl ?_
    refine JO.aloadn dX10_runs_100 rfl ?_
    refine gM5 dX10_runs_101 rfl ?_
    refine JO.icmp_gt 168 dX10_runs_104 rfl ?_ ?_
    · exact (J_m_runs_b168 hk84 _).jump (lvLe.so rfl (lvLe.no (lvLe.nil)))
    · refine JO.aloadn dX10_runs_107 rfl ?_
      refine gM25 dX10_runs_108 rfl ?_
      refine JO.bip 6 dX10_runs_111 (by decide) ?_
      refine JO.aloadn dX10_runs_113 rfl ?_
      refine gM22 dX10_runs_114 rfl ?_
      refine JO.imul dX10_runs_117 ?_
      refine JO.iloadn dX10_runs_118 rfl ?_
      refine JO.iadd dX10_runs_119 ?_
      refine JO.aloadn dX10_runs_120 rfl ?_
      refine gM11 dX10_runs_121 rfl ?_
      refine JO.iloadn dX10_runs_124 rfl ?_
      refine aM11 dX10_runs_125 ?_
      refine JO.ic 1 dX10_runs_126 (by decide) ?_
      refine JO.icmp_ne 139 dX10_runs_127 rfl ?_ ?_
      · refine JO.bip 9 dX10_runs_139 (by decide) ?_
        exact (J_m_runs_b141 hk84 ih _ _ _ _).jump (lvLe.so rfl (lvLe.so rfl (lvLe.nil)))
      · refine JO.aloadn dX10_runs_130 rfl ?_
        refine gM10 dX10_runs_131 rfl ?_
        refine JO.iloadn dX10_runs_134 rfl ?_
        refine aM10 dX10_runs_135 ?_
        refine JO.goto 141 dX10_runs_136 rfl ?_
        exact (J_m_runs_b141 hk84 ih _ _ _ _).jump (lvLe.so rfl (lvLe.so rfl (lvLe.nil)))
theorem J_m_runs_l84 {X : JX} {ad : Nat → Nat} : ∀ (n : Nat) (σ : MS), JO X M_m_runs (QF X eV (wM ad (xZ X))) 84 [some (.ref (ad 0)), none] [] (wsM ad (xZ X) σ) (m_runs_l84 n σ) := by
  intro n
  induction n with
  | zero => intro σ; exact JO.nil
  | succ n ih =>
    intro σ
    unfold m_runs_l84
    refine JO.aloadn dX10_runs_84 rfl ?_
    refine gM22 dX10_runs_85 rfl ?_
    refine JO.bip 61 dX10_runs_88 (by decide) ?_
    refine JO.icmp_ge 194 dX10_runs_90 rfl ?_ ?_
    · exact JO.vret dX10_runs_194 rfl rfl rfl
    · refine JO.aloadn dX10_runs_93 rfl ?_
      refine JO.mvv (C_m_goesTick _) K_m_goesTick k5_176 rfl rfl rfl (Nat.le_of_ble_eq_true rfl) dX10_runs_94 (fun a1 => ?_)
      refine JO.ic 0 dX10_runs_97 (by decide) ?_
      refine JO.istoren dX10_runs_98 rfl rfl ?_
      exact (J_m_runs_l99 ih 4096 _ _).jump (lvLe.so rfl (lvLe.so rfl (lvLe.nil)))
theorem J_m_runs_l37 {X : JX} {ad : Nat → Nat} : ∀ (n : Nat) (x1 : Int32) (σ : MS), JO X M_m_runs (QF X eV (wM ad (xZ X))) 37 [some (.ref (ad 0)), some (.int x1)] [] (wsM ad (xZ X) σ) (m_runs_l37 n x1 σ) := by
  intro n
  induction n with
  | zero => intro x1 σ; exact JO.nil
  | succ n ih =>
    intro x1 σ
    unfold m_runs_l37
    refine JO.iloadn dX10_runs_37 rfl ?_
    refine JO.bip 6 dX10_runs_38 (by decide) ?_
    refine JO.icmp_ge 79 dX10_runs_40 rfl ?_ ?_
    · refine JO.aloadn dX10_runs_79 rfl ?_
      refine JO.ic 0 dX10_runs_80 (by decide) ?_
      refine pM22 dX10_runs_81 rfl ?_
      exact (J_m_runs_l84 4096 _).jump (lvLe.so rfl (lvLe.no (lvLe.nil)))
    · refine JO.aloadn dX10_runs_43 rfl ?_
      refine gM10 dX10_runs_44 rfl ?_
      refine JO.iloadn dX10_runs_47 rfl ?_
      refine JO.ic 0 dX10_runs_48 (by decide) ?_
      refine uM10 dX10_runs_49 ?_
      refine JO.aloadn dX10_runs_50 rfl ?_
      refine gM11 dX10_runs_51 rfl ?_
      refine JO.iloadn dX10_runs_54 rfl ?_
      refine JO.ic 1 dX10_runs_55 (by decide) ?_
      refine uM11 dX10_runs_56 ?_
      refine JO.aloadn dX10_runs_57 rfl ?_
      refine gM12 dX10_runs_58 rfl ?_
      refine JO.iloadn dX10_runs_61 rfl ?_
      refine JO.sip 1000 dX10_runs_62 (by decide) ?_
      refine uM12 dX10_runs_65 ?_
      refine JO.aloadn dX10_runs_66 rfl ?_
      refine gM14 dX10_runs_67 rfl ?_
      refine JO.iloadn dX10_runs_70 rfl ?_
      refine JO.ic 0 dX10_runs_71 (by decide) ?_
      refine uM14 dX10_runs_72 ?_
      refine JO.iinc dX10_runs_73 rfl 1 (by decide) rfl rfl ?_
      refine JO.goto 37 dX10_runs_76 rfl ?_
      exact (ih _ _).jump (lvLe.so rfl (lvLe.so rfl (lvLe.nil)))
theorem J_m_runs_l17 {X : JX} {ad : Nat → Nat} : ∀ (n : Nat) (x1 : Int32) (σ : MS), JO X M_m_runs (QF X eV (wM ad (xZ X))) 17 [some (.ref (ad 0)), some (.int x1)] [] (wsM ad (xZ X) σ) (m_runs_l17 n x1 σ) := by
  intro n
  induction n with
  | zero => intro x1 σ; exact JO.nil
  | succ n ih =>
    intro x1 σ
    unfold m_runs_l17
    refine JO.iloadn dX10_runs_17 rfl ?_
    refine JO.ic 3 dX10_runs_18 (by decide) ?_
    refine JO.icmp_ge 35 dX10_runs_19 rfl ?_ ?_
    · refine JO.ic 0 dX10_runs_35 (by decide) ?_
      refine JO.istoren dX10_runs_36 rfl rfl ?_
      exact (J_m_runs_l37 4096 _ _).jump (lvLe.so rfl (lvLe.so rfl (lvLe.nil)))
    · refine JO.aloadn dX10_runs_22 rfl ?_
      refine gM15 dX10_runs_23 rfl ?_
      refine JO.iloadn dX10_runs_26 rfl ?_
      refine JO.ic 0 dX10_runs_27 (by decide) ?_
      refine uM15 dX10_runs_28 ?_
      refine JO.iinc dX10_runs_29 rfl 1 (by decide) rfl rfl ?_
      refine JO.goto 17 dX10_runs_32 rfl ?_
      exact (ih _ _).jump (lvLe.so rfl (lvLe.so rfl (lvLe.nil)))
theorem J_m_runs {X : JX} {ad : Nat → Nat} (σ : MS) : JO X M_m_runs (QF X eV (wM ad (xZ X))) 0 [some (.ref (ad 0)), none] [] (wsM ad (xZ X) σ) (m_runs σ) := by
  unfold m_runs
  refine JO.aloadn dX10_runs_0 rfl ?_
  refine JO.ic 0 dX10_runs_1 (by decide) ?_
  refine pM21 dX10_runs_2 rfl ?_
  refine JO.aloadn dX10_runs_5 rfl ?_
  refine JO.ic 0 dX10_runs_6 (by decide) ?_
  refine pM23 dX10_runs_7 rfl ?_
  refine JO.aloadn dX10_runs_10 rfl ?_
  refine JO.ic 0 dX10_runs_11 (by decide) ?_
  refine pM24 dX10_runs_12 rfl ?_
  refine JO.ic 0 dX10_runs_15 (by decide) ?_
  refine JO.istoren dX10_runs_16 rfl rfl ?_
  exact (J_m_runs_l17 4096 _ _).jump (lvLe.so rfl (lvLe.so rfl (lvLe.nil)))
theorem C_m_runs {ad : Nat → Nat} {Z : ZT} (σ : MS) : CO yX10_runs M_m_runs eV Z (wM ad Z) [.ref (ad 0)] (wsM ad Z σ) (m_runs σ) :=
  CO.of rfl rfl (Nat.le_of_ble_eq_true rfl) 1 (fun X hZ => by subst hZ; exact J_m_runs σ)
theorem K_m_runs : Kv yX10_runs M_m_runs RX10 0 := ⟨rfl, k5_174, s3_10, k1_10, k5_175, by decide +kernel⟩
abbrev M_m_isShelf : JM := (cX10_isShelf, 1, RX10, (some .boolean), 1, 22)
def m_isShelf (p1 : Int32) (σ : MS) : Option (Bool × MS) :=
  (m_isIn p1 0 7 σ).bind fun a1 =>
  some (a1.1, a1.2)
theorem J_m_isShelf {X : JX} {ad : Nat → Nat} (p1 : Int32) (σ : MS) : JO X M_m_isShelf (QF X eZ (wM ad (xZ X))) 0 [some (.int p1)] [] (wsM ad (xZ X) σ) (m_isShelf p1 σ) := by
  unfold m_isShelf
  refine JO.iloadn dX10_isShelf_0 rfl ?_
  refine JO.ic 0 dX10_isShelf_1 (by decide) ?_
  refine JO.bip 7 dX10_isShelf_2 (by decide) ?_
  refine JO.msz (C_m_isIn _ _ _ _) K_m_isIn k5_134 rfl rfl rfl (Nat.le_of_ble_eq_true rfl) dX10_isShelf_4 (fun a1 => ?_)
  exact JO.zret (b := a1.1) dX10_isShelf_7 rfl rfl rfl
theorem C_m_isShelf {ad : Nat → Nat} {Z : ZT} (p1 : Int32) (σ : MS) : CO yX10_isShelf M_m_isShelf eZ Z (wM ad Z) [.int p1] (wsM ad Z σ) (m_isShelf p1 σ) :=
  CO.of rfl rfl (Nat.le_of_ble_eq_true rfl) 0 (fun X hZ => by subst hZ; exact J_m_isShelf _ σ)
theorem K_m_isShelf : Ks yX10_isShelf M_m_isShelf 1 := ⟨k5_132, k1_10, k5_133, by decide +kernel⟩
abbrev M_m_isRow : JM := (cX10_isRow, 2, RX10, (some .boolean), 0, 0)
def m_isRow (p1 : Int32) (σ : MS) : Option (Bool × MS) :=
  if inB p1 8 = true then
  if mA σ 28 (ix p1) < 100 then (
    some (false, σ))
  else (
    if inB p1 8 = true then
    if 200 ≤ mA σ 28 (ix p1) then (
      some (false, σ))
    else (
      some (true, σ))
    else none)
  else none
theorem J_m_isRow {X : JX} {ad : Nat → Nat} (p1 : Int32) (σ : MS) : JO X M_m_isRow (QF X eZ (wM ad (xZ X))) 0 [some (.ref (ad 0)), some (.int p1)] [] (wsM ad (xZ X) σ) (m_isRow p1 σ) := by
  unfold m_isRow
  refine JO.aloadn dX10_isRow_0 rfl ?_
  refine gM28 dX10_isRow_1 rfl ?_
  refine JO.iloadn dX10_isRow_4 rfl ?_
  refine aM28 dX10_isRow_5 ?_
  refine JO.bip 100 dX10_isRow_6 (by decide) ?_
  refine JO.icmp_lt 27 dX10_isRow_8 rfl ?_ ?_
  · refine JO.ic 0 dX10_isRow_27 (by decide) ?_
    exact JO.zret (b := false) dX10_isRow_28 rfl rfl rfl
  · refine JO.aloadn dX10_isRow_11 rfl ?_
    refine gM28 dX10_isRow_12 rfl ?_
    refine JO.iloadn dX10_isRow_15 rfl ?_
    refine aM28 dX10_isRow_16 ?_
    refine JO.sip 200 dX10_isRow_17 (by decide) ?_
    refine JO.icmp_ge 27 dX10_isRow_20 rfl ?_ ?_
    · refine JO.ic 0 dX10_isRow_27 (by decide) ?_
      exact JO.zret (b := false) dX10_isRow_28 rfl rfl rfl
    · refine JO.ic 1 dX10_isRow_23 (by decide) ?_
      refine JO.goto 28 dX10_isRow_24 rfl ?_
      exact JO.zret (b := true) dX10_isRow_28 rfl rfl rfl
theorem C_m_isRow {ad : Nat → Nat} {Z : ZT} (p1 : Int32) (σ : MS) : CO yX10_isRow M_m_isRow eZ Z (wM ad Z) [.ref (ad 0), .int p1] (wsM ad Z σ) (m_isRow p1 σ) :=
  CO.of rfl rfl (Nat.le_of_ble_eq_true rfl) 0 (fun X hZ => by subst hZ; exact J_m_isRow _ σ)
theorem K_m_isRow : Kv yX10_isRow M_m_isRow RX10 1 := ⟨rfl, k5_166, s3_9, k1_10, k5_167, by decide +kernel⟩
abbrev M_m_lowest : JM := (cX10_lowest, 3, RX10, (some .long), 0, 0)
def m_lowest (p1 : Int32) (p2 : Int64) (σ : MS) : Option (Int64 × MS) :=
  if p1 = 0 then (
    some ((Int32.toInt64 ((Int32.toInt8 (Int64.toInt32 p2)).toInt32)), σ))
  else (
    if p1 = 1 then (
      some ((Int32.toInt64 ((Int32.toInt16 (Int64.toInt32 p2)).toInt32)), σ))
    else (
      if p1 = 2 then (
        some ((Int32.toInt64 (Int64.toInt32 p2)), σ))
      else (
        some (p2, σ))))
theorem J_m_lowest {X : JX} {ad : Nat → Nat} (p1 : Int32) (p2 : Int64) (σ : MS) : JO X M_m_lowest (QF X eL (wM ad (xZ X))) 0 [some (.int p1), some (.long p2), none] [] (wsM ad (xZ X) σ) (m_lowest p1 p2 σ) := by
  unfold m_lowest
  refine JO.iloadn dX10_lowest_0 rfl ?_
  refine JO.if_ne 11 dX10_lowest_1 rfl ?_ ?_
  · refine JO.iloadn dX10_lowest_11 rfl ?_
    refine JO.ic 1 dX10_lowest_12 (by decide) ?_
    refine JO.icmp_ne 23 dX10_lowest_13 rfl ?_ ?_
    · refine JO.iloadn dX10_lowest_23 rfl ?_
      refine JO.ic 2 dX10_lowest_24 (by decide) ?_
      refine JO.icmp_ne 34 dX10_lowest_25 rfl ?_ ?_
      · refine JO.lloadn dX10_lowest_34 rfl ?_
        exact JO.lret dX10_lowest_35 rfl rfl rfl
      · refine JO.lloadn dX10_lowest_28 rfl ?_
        refine JO.l2i dX10_lowest_29 ?_
        refine JO.i2l dX10_lowest_30 ?_
        refine JO.goto 35 dX10_lowest_31 rfl ?_
        exact JO.lret dX10_lowest_35 rfl rfl rfl
    · refine JO.lloadn dX10_lowest_16 rfl ?_
      refine JO.l2i dX10_lowest_17 ?_
      refine JO.i2s dX10_lowest_18 ?_
      refine JO.i2l dX10_lowest_19 ?_
      refine JO.goto 35 dX10_lowest_20 rfl ?_
      exact JO.lret dX10_lowest_35 rfl rfl rfl
  · refine JO.lloadn dX10_lowest_4 rfl ?_
    refine JO.l2i dX10_lowest_5 ?_
    refine JO.i2b dX10_lowest_6 ?_
    refine JO.i2l dX10_lowest_7 ?_
    refine JO.goto 35 dX10_lowest_8 rfl ?_
    exact JO.lret dX10_lowest_35 rfl rfl rfl
theorem C_m_lowest {ad : Nat → Nat} {Z : ZT} (p1 : Int32) (p2 : Int64) (σ : MS) : CO yX10_lowest M_m_lowest eL Z (wM ad Z) [.int p1, .long p2] (wsM ad Z σ) (m_lowest p1 p2 σ) :=
  CO.of rfl rfl (Nat.le_of_ble_eq_true rfl) 0 (fun X hZ => by subst hZ; exact J_m_lowest _ _ σ)
theorem K_m_lowest : Ks yX10_lowest M_m_lowest 2 := ⟨k5_150, k1_10, k5_151, by decide +kernel⟩
abbrev M_m_notRow : JM := (cX10_notRow, 2, RX10, (some .int), 2, 42)
def m_notRow (p1 : Int32) (σ : MS) : Option (Int32 × MS) :=
  (m_isShelf p1 σ).bind fun a1 =>
  if a1.1 = true then (
    if inB p1 8 = true then
    if mA a1.2 28 (ix p1) < 200 then (
      if inB p1 8 = true then
      if mA a1.2 28 (ix p1) = 0 then (
        some ((-3), a1.2))
      else (
        some (0, a1.2))
      else none)
    else (
      some ((-2), a1.2))
    else none)
  else (
    some ((-1), a1.2))
theorem J_m_notRow {X : JX} {ad : Nat → Nat} (p1 : Int32) (σ : MS) : JO X M_m_notRow (QF X eI (wM ad (xZ X))) 0 [some (.ref (ad 0)), some (.int p1)] [] (wsM ad (xZ X) σ) (m_notRow p1 σ) := by
  unfold m_notRow
  refine JO.iloadn dX10_notRow_0 rfl ?_
  refine JO.msz (C_m_isShelf _ _) K_m_isShelf k5_131 rfl rfl rfl (Nat.le_of_ble_eq_true rfl) dX10_notRow_1 (fun a1 => ?_)
  refine JO.zne 11 dX10_notRow_4 rfl ?_ ?_
  · refine JO.aloadn dX10_notRow_11 rfl ?_
    refine gM28 dX10_notRow_12 rfl ?_
    refine JO.iloadn dX10_notRow_15 rfl ?_
    refine aM28 dX10_notRow_16 ?_
    refine JO.sip 200 dX10_notRow_17 (by decide) ?_
    refine JO.icmp_lt 28 dX10_notRow_20 rfl ?_ ?_
    · refine JO.aloadn dX10_notRow_28 rfl ?_
      refine gM28 dX10_notRow_29 rfl ?_
      refine JO.iloadn dX10_notRow_32 rfl ?_
      refine aM28 dX10_notRow_33 ?_
      refine JO.if_ne 42 dX10_notRow_34 rfl ?_ ?_
      · refine JO.ic 0 dX10_notRow_42 (by decide) ?_
        exact JO.iret dX10_notRow_43 rfl rfl rfl
      · refine JO.bip (-3) dX10_notRow_37 (by decide) ?_
        refine JO.goto 43 dX10_notRow_39 rfl ?_
        exact JO.iret dX10_notRow_43 rfl rfl rfl
    · refine JO.bip (-2) dX10_notRow_23 (by decide) ?_
      refine JO.goto 43 dX10_notRow_25 rfl ?_
      exact JO.iret dX10_notRow_43 rfl rfl rfl
  · refine JO.ic (-1) dX10_notRow_7 (by decide) ?_
    refine JO.goto 43 dX10_notRow_8 rfl ?_
    exact JO.iret dX10_notRow_43 rfl rfl rfl
theorem C_m_notRow {ad : Nat → Nat} {Z : ZT} (p1 : Int32) (σ : MS) : CO yX10_notRow M_m_notRow eI Z (wM ad Z) [.ref (ad 0), .int p1] (wsM ad Z σ) (m_notRow p1 σ) :=
  CO.of rfl rfl (Nat.le_of_ble_eq_true rfl) 0 (fun X hZ => by subst hZ; exact J_m_notRow _ σ)
theorem K_m_notRow : Kv yX10_notRow M_m_notRow RX10 1 := ⟨rfl, k5_147, s3_7, k1_10, k5_148, by decide +kernel⟩
abbrev M_m_row : JM := (cX10_row, 6, RX10, (some .int), 2, 42)
def m_row_l81 : Nat → Int32 → Int32 → Int32 → MS → Option (Int32 × MS)
  | 0, _, _, _, _ => none
  | n + 1, x1, x3, x5, σ =>
    if x3 ≤ x5 then (
      some (1, σ))
    else (
      if inB ((160 * x1) + x5) 1280 = true then
      m_row_l81 n x1 x3 (x5 + 1) (sE σ (ix ((160 * x1) + x5)) 0)
      else none)
def m_row_b47 (x1 : Int32) (x2 : Int32) (x3 : Int32) (t0 : Int32) (σ : MS) : Option (Int32 × MS) :=
  if t0 = 0 then (
    if inB x1 8 = true then
    if inB x1 8 = true then
    m_row_l81 4096 x1 x3 0 (sA (sA σ 28 (ix x1) (100 + x2)) 29 (ix x1) x3)
    else none
    else none)
  else (
    (m_no t0 σ).bind fun a1 =>
    some (a1.1, a1.2))
def m_row (p1 : Int32) (p2 : Int32) (p3 : Int32) (σ : MS) : Option (Int32 × MS) :=
  (m_isShelf p1 σ).bind fun a1 =>
  if a1.1 = true then (
    if 0 ≤ p3 then (
      (m_isIn p2 0 3 a1.2).bind fun a2 =>
      if a2.1 = true then (
        if p3 ≤ 160 then (
          m_row_b47 p1 p2 p3 0 a2.2)
        else (
          m_row_b47 p1 p2 p3 (-7) a2.2))
      else (
        m_row_b47 p1 p2 p3 (-6) a2.2))
    else (
      m_row_b47 p1 p2 p3 (-4) a1.2))
  else (
    m_row_b47 p1 p2 p3 (-1) a1.2)
theorem J_m_row_l81 {X : JX} {ad : Nat → Nat} : ∀ (n : Nat) (x1 : Int32) (x3 : Int32) (x5 : Int32) (σ : MS), JO X M_m_row (QF X eI (wM ad (xZ X))) 81 [some (.ref (ad 0)), some (.int x1), none, some (.int x3), none, some (.int x5)] [] (wsM ad (xZ X) σ) (m_row_l81 n x1 x3 x5 σ) := by
  intro n
  induction n with
  | zero => intro x1 x3 x5 σ; exact JO.nil
  | succ n ih =>
    intro x1 x3 x5 σ
    unfold m_row_l81
    refine JO.iload dX10_row_81 rfl ?_
    refine JO.iloadn dX10_row_83 rfl ?_
    refine JO.icmp_ge 107 dX10_row_84 rfl ?_ ?_
    · refine JO.ic 1 dX10_row_107 (by decide) ?_
      exact JO.iret dX10_row_108 rfl rfl rfl
    · refine JO.aloadn dX10_row_87 rfl ?_
      refine gM30 dX10_row_88 rfl ?_
      refine JO.sip 160 dX10_row_91 (by decide) ?_
      refine JO.iloadn dX10_row_94 rfl ?_
      refine JO.imul dX10_row_95 ?_
      refine JO.iload dX10_row_96 rfl ?_
      refine JO.iadd dX10_row_98 ?_
      refine JO.lc 0 dX10_row_99 (by decide) ?_
      refine uM30 dX10_row_100 ?_
      refine JO.iinc dX10_row_101 rfl 1 (by decide) rfl rfl ?_
      refine JO.goto 81 dX10_row_104 rfl ?_
      exact (ih _ _ _ _).jump (lvLe.so rfl (lvLe.so rfl (lvLe.no (lvLe.so rfl (lvLe.no (lvLe.so rfl (lvLe.nil)))))))
theorem J_m_row_b47 {X : JX} {ad : Nat → Nat} (x1 : Int32) (x2 : Int32) (x3 : Int32) (t0 : Int32) (σ : MS) : JO X M_m_row (QF X eI (wM ad (xZ X))) 47 [some (.ref (ad 0)), some (.int x1), some (.int x2), some (.int x3), none, none] [.int t0] (wsM ad (xZ X) σ) (m_row_b47 x1 x2 x3 t0 σ) := by
  unfold m_row_b47
  refine JO.istore dX10_row_47 rfl rfl ?_
  refine JO.iload dX10_row_49 rfl ?_
  refine JO.if_eq 61 dX10_row_51 rfl ?_ ?_
  · refine JO.aloadn dX10_row_61 rfl ?_
    refine gM28 dX10_row_62 rfl ?_
    refine JO.iloadn dX10_row_65 rfl ?_
    refine JO.bip 100 dX10_row_66 (by decide) ?_
    refine JO.iloadn dX10_row_68 rfl ?_
    refine JO.iadd dX10_row_69 ?_
    refine uM28 dX10_row_70 ?_
    refine JO.aloadn dX10_row_71 rfl ?_
    refine gM29 dX10_row_72 rfl ?_
    refine JO.iloadn dX10_row_75 rfl ?_
    refine JO.iloadn dX10_row_76 rfl ?_
    refine uM29 dX10_row_77 ?_
    refine JO.ic 0 dX10_row_78 (by decide) ?_
    refine JO.istore dX10_row_79 rfl rfl ?_
    exact (J_m_row_l81 4096 _ _ _ _).jump (lvLe.so rfl (lvLe.so rfl (lvLe.no (lvLe.so rfl (lvLe.no (lvLe.so rfl (lvLe.nil)))))))
  · refine JO.aloadn dX10_row_54 rfl ?_
    refine JO.iload dX10_row_55 rfl ?_
    refine JO.mvi (C_m_no _ _) K_m_no k5_137 rfl rfl rfl (Nat.le_of_ble_eq_true rfl) dX10_row_57 (fun a1 => ?_)
    exact JO.iret dX10_row_60 rfl rfl rfl
theorem J_m_row {X : JX} {ad : Nat → Nat} (p1 : Int32) (p2 : Int32) (p3 : Int32) (σ : MS) : JO X M_m_row (QF X eI (wM ad (xZ X))) 0 [some (.ref (ad 0)), some (.int p1), some (.int p2), some (.int p3), none, none] [] (wsM ad (xZ X) σ) (m_row p1 p2 p3 σ) := by
  unfold m_row
  refine JO.iloadn dX10_row_0 rfl ?_
  refine JO.msz (C_m_isShelf _ _) K_m_isShelf k5_131 rfl rfl rfl (Nat.le_of_ble_eq_true rfl) dX10_row_1 (fun a1 => ?_)
  refine JO.zne 11 dX10_row_4 rfl ?_ ?_
  · refine JO.iloadn dX10_row_11 rfl ?_
    refine JO.if_ge 20 dX10_row_12 rfl ?_ ?_
    · refine JO.iloadn dX10_row_20 rfl ?_
      refine JO.ic 0 dX10_row_21 (by decide) ?_
      refine JO.ic 3 dX10_row_22 (by decide) ?_
      refine JO.msz (C_m_isIn _ _ _ _) K_m_isIn k5_134 rfl rfl rfl (Nat.le_of_ble_eq_true rfl) dX10_row_23 (fun a2 => ?_)
      refine JO.zne 34 dX10_row_26 rfl ?_ ?_
      · refine JO.iloadn dX10_row_34 rfl ?_
        refine JO.sip 160 dX10_row_35 (by decide) ?_
        refine JO.icmp_le 46 dX10_row_38 rfl ?_ ?_
        · refine JO.ic 0 dX10_row_46 (by decide) ?_
          exact (J_m_row_b47 _ _ _ _ _).jump (lvLe.so rfl (lvLe.so rfl (lvLe.so rfl (lvLe.so rfl (lvLe.no (lvLe.no (lvLe.nil)))))))
        · refine JO.bip (-7) dX10_row_41 (by decide) ?_
          refine JO.goto 47 dX10_row_43 rfl ?_
          exact (J_m_row_b47 _ _ _ _ _).jump (lvLe.so rfl (lvLe.so rfl (lvLe.so rfl (lvLe.so rfl (lvLe.no (lvLe.no (lvLe.nil)))))))
      · refine JO.bip (-6) dX10_row_29 (by decide) ?_
        refine JO.goto 47 dX10_row_31 rfl ?_
        exact (J_m_row_b47 _ _ _ _ _).jump (lvLe.so rfl (lvLe.so rfl (lvLe.so rfl (lvLe.so rfl (lvLe.no (lvLe.no (lvLe.nil)))))))
    · refine JO.bip (-4) dX10_row_15 (by decide) ?_
      refine JO.goto 47 dX10_row_17 rfl ?_
      exact (J_m_row_b47 _ _ _ _ _).jump (lvLe.so rfl (lvLe.so rfl (lvLe.so rfl (lvLe.so rfl (lvLe.no (lvLe.no (lvLe.nil)))))))
  · refine JO.ic (-1) dX10_row_7 (by decide) ?_
    refine JO.goto 47 dX10_row_8 rfl ?_
    exact (J_m_row_b47 _ _ _ _ _).jump (lvLe.so rfl (lvLe.so rfl (lvLe.so rfl (lvLe.so rfl (lvLe.no (lvLe.no (lvLe.nil)))))))
theorem C_m_row {ad : Nat → Nat} {Z : ZT} (p1 : Int32) (p2 : Int32) (p3 : Int32) (σ : MS) : CO yX10_row M_m_row eI Z (wM ad Z) [.ref (ad 0), .int p1, .int p2, .int p3] (wsM ad Z σ) (m_row p1 p2 p3 σ) :=
  CO.of rfl rfl (Nat.le_of_ble_eq_true rfl) 2 (fun X hZ => by subst hZ; exact J_m_row _ _ _ σ)
theorem K_m_row : Kv yX10_row M_m_row RX10 3 := ⟨rfl, k5_128, k5_129, k1_10, k5_130, by decide +kernel⟩
abbrev M_m_set : JM := (cX10_set, 6, RX10, (some .int), 3, 63)
def m_set_b32 (x1 : Int32) (x2 : Int32) (x3 : Int64) (x5 : Int32) (σ : MS) : Option (Int32 × MS) :=
  if x5 = 0 then (
    if inB x1 8 = true then
    (m_lowest (mA σ 28 (ix x1) - 100) x3 σ).bind fun a1 =>
    if inB ((160 * x1) + x2) 1280 = true then
    some (1, sE a1.2 (ix ((160 * x1) + x2)) a1.1)
    else none
    else none)
  else (
    (m_no x5 σ).bind fun a2 =>
    some (a2.1, a2.2))
def m_set (p1 : Int32) (p2 : Int32) (p3 : Int64) (σ : MS) : Option (Int32 × MS) :=
  (m_notRow p1 σ).bind fun a1 =>
  if a1.1 = 0 then (
    if inB p1 8 = true then
    (m_isIn p2 0 (mA a1.2 29 (ix p1) - 1) a1.2).bind fun a2 =>
    if a2.1 = true then (
      m_set_b32 p1 p2 p3 a1.1 a2.2)
    else (
      m_set_b32 p1 p2 p3 (-5) a2.2)
    else none)
  else (
    m_set_b32 p1 p2 p3 a1.1 a1.2)
theorem J_m_set_b32 {X : JX} {ad : Nat → Nat} (x1 : Int32) (x2 : Int32) (x3 : Int64) (x5 : Int32) (σ : MS) : JO X M_m_set (QF X eI (wM ad (xZ X))) 32 [some (.ref (ad 0)), some (.int x1), some (.int x2), some (.long x3), none, some (.int x5)] [] (wsM ad (xZ X) σ) (m_set_b32 x1 x2 x3 x5 σ) := by
  unfold m_set_b32
  refine JO.iload dX10_set_32 rfl ?_
  refine JO.if_eq 44 dX10_set_34 rfl ?_ ?_
  · refine JO.aloadn dX10_set_44 rfl ?_
    refine gM30 dX10_set_45 rfl ?_
    refine JO.sip 160 dX10_set_48 (by decide) ?_
    refine JO.iloadn dX10_set_51 rfl ?_
    refine JO.imul dX10_set_52 ?_
    refine JO.iloadn dX10_set_53 rfl ?_
    refine JO.iadd dX10_set_54 ?_
    refine JO.aloadn dX10_set_55 rfl ?_
    refine gM28 dX10_set_56 rfl ?_
    refine JO.iloadn dX10_set_59 rfl ?_
    refine aM28 dX10_set_60 ?_
    refine JO.bip 100 dX10_set_61 (by decide) ?_
    refine JO.isub dX10_set_63 ?_
    refine JO.lloadn dX10_set_64 rfl ?_
    refine JO.msl (C_m_lowest _ _ _) K_m_lowest k5_149 rfl rfl rfl (Nat.le_of_ble_eq_true rfl) dX10_set_65 (fun a1 => ?_)
    refine uM30 dX10_set_68 ?_
    refine JO.ic 1 dX10_set_69 (by decide) ?_
    exact JO.iret dX10_set_70 rfl rfl rfl
  · refine JO.aloadn dX10_set_37 rfl ?_
    refine JO.iload dX10_set_38 rfl ?_
    refine JO.mvi (C_m_no _ _) K_m_no k5_137 rfl rfl rfl (Nat.le_of_ble_eq_true rfl) dX10_set_40 (fun a2 => ?_)
    exact JO.iret dX10_set_43 rfl rfl rfl
theorem J_m_set {X : JX} {ad : Nat → Nat} (p1 : Int32) (p2 : Int32) (p3 : Int64) (σ : MS) : JO X M_m_set (QF X eI (wM ad (xZ X))) 0 [some (.ref (ad 0)), some (.int p1), some (.int p2), some (.long p3), none, none] [] (wsM ad (xZ X) σ) (m_set p1 p2 p3 σ) := by
  unfold m_set
  refine JO.aloadn dX10_set_0 rfl ?_
  refine JO.iloadn dX10_set_1 rfl ?_
  refine JO.mvi (C_m_notRow _ _) K_m_notRow k5_145 rfl rfl rfl (Nat.le_of_ble_eq_true rfl) dX10_set_2 (fun a1 => ?_)
  refine JO.istore dX10_set_5 rfl rfl ?_
  refine JO.iload dX10_set_7 rfl ?_
  refine JO.if_ne 32 dX10_set_9 rfl ?_ ?_
  · exact (J_m_set_b32 _ _ _ _ _).jump (lvLe.so rfl (lvLe.so rfl (lvLe.so rfl (lvLe.so rfl (lvLe.no (lvLe.so rfl (lvLe.nil)))))))
  · refine JO.iloadn dX10_set_12 rfl ?_
    refine JO.ic 0 dX10_set_13 (by decide) ?_
    refine JO.aloadn dX10_set_14 rfl ?_
    refine gM29 dX10_set_15 rfl ?_
    refine JO.iloadn dX10_set_18 rfl ?_
    refine aM29 dX10_set_19 ?_
    refine JO.ic 1 dX10_set_20 (by decide) ?_
    refine JO.isub dX10_set_21 ?_
    refine JO.msz (C_m_isIn _ _ _ _) K_m_isIn k5_134 rfl rfl rfl (Nat.le_of_ble_eq_true rfl) dX10_set_22 (fun a2 => ?_)
    refine JO.zne 32 dX10_set_25 rfl ?_ ?_
    · exact (J_m_set_b32 _ _ _ _ _).jump (lvLe.so rfl (lvLe.so rfl (lvLe.so rfl (lvLe.so rfl (lvLe.no (lvLe.so rfl (lvLe.nil)))))))
    · refine JO.bip (-5) dX10_set_28 (by decide) ?_
      refine JO.istore dX10_set_30 rfl rfl ?_
      exact (J_m_set_b32 _ _ _ _ _).jump (lvLe.so rfl (lvLe.so rfl (lvLe.so rfl (lvLe.so rfl (lvLe.no (lvLe.so rfl (lvLe.nil)))))))
theorem C_m_set {ad : Nat → Nat} {Z : ZT} (p1 : Int32) (p2 : Int32) (p3 : Int64) (σ : MS) : CO yX10_set M_m_set eI Z (wM ad Z) [.ref (ad 0), .int p1, .int p2, .long p3] (wsM ad Z σ) (m_set p1 p2 p3 σ) :=
  CO.of rfl rfl (Nat.le_of_ble_eq_true rfl) 1 (fun X hZ => by subst hZ; exact J_m_set _ _ _ σ)
theorem K_m_set : Kv yX10_set M_m_set RX10 3 := ⟨rfl, k5_142, k5_143, k1_10, k5_144, by decide +kernel⟩
abbrev M_m_notCopied : JM := (cX10_notCopied, 7, RX10, (some .int), 2, 42)
def m_notCopied_b54 (x1 : Int32) (x2 : Int32) (x3 : Int32) (x4 : Int32) (x5 : Int32) (t0 : Bool) (σ : MS) : Option (Int32 × MS) :=
  if inB x1 8 = true then
  if 200 ≤ mA σ 28 (ix x1) then (
    some ((-2), σ))
  else (
    if inB x2 8 = true then
    if 200 ≤ mA σ 28 (ix x2) then (
      some ((-2), σ))
    else (
      if t0 = true then (
        some ((-2), σ))
      else (
        if inB x1 8 = true then
        if mA σ 28 (ix x1) = 0 then (
          some ((-3), σ))
        else (
          if inB x2 8 = true then
          if mA σ 28 (ix x2) = 0 then (
            some ((-3), σ))
          else (
            if 0 ≤ x5 then (
              if x3 < 0 then (
                some ((-5), σ))
              else (
                if x4 < 0 then (
                  some ((-5), σ))
                else (
                  if inB x1 8 = true then
                  if (mA σ 29 (ix x1) - x5) < x3 then (
                    some ((-5), σ))
                  else (
                    if inB x2 8 = true then
                    if x4 ≤ (mA σ 29 (ix x2) - x5) then (
                      some (0, σ))
                    else (
                      some ((-5), σ))
                    else none)
                  else none)))
            else (
              some ((-4), σ)))
          else none)
        else none))
    else none)
  else none
def m_notCopied (p1 : Int32) (p2 : Int32) (p3 : Int32) (p4 : Int32) (p5 : Int32) (σ : MS) : Option (Int32 × MS) :=
  (m_isShelf p1 σ).bind fun a1 =>
  if a1.1 = true then (
    (m_isShelf p2 a1.2).bind fun a2 =>
    if a2.1 = true then (
      if inB p1 8 = true then
      if mA a2.2 28 (ix p1) = 0 then (
        m_notCopied_b54 p1 p2 p3 p4 p5 false a2.2)
      else (
        if inB p2 8 = true then
        if mA a2.2 28 (ix p2) = 0 then (
          m_notCopied_b54 p1 p2 p3 p4 p5 false a2.2)
        else (
          if inB p1 8 = true then
          if inB p2 8 = true then
          if mA a2.2 28 (ix p1) = mA a2.2 28 (ix p2) then (
            m_notCopied_b54 p1 p2 p3 p4 p5 false a2.2)
          else (
            m_notCopied_b54 p1 p2 p3 p4 p5 true a2.2)
          else none
          else none)
        else none)
      else none)
    else (
      some ((-1), a2.2)))
  else (
    some ((-1), a1.2))
theorem J_m_notCopied_b54 {X : JX} {ad : Nat → Nat} (x1 : Int32) (x2 : Int32) (x3 : Int32) (x4 : Int32) (x5 : Int32) (t0 : Bool) (σ : MS) : JO X M_m_notCopied (QF X eI (wM ad (xZ X))) 54 [some (.ref (ad 0)), some (.int x1), some (.int x2), some (.int x3), some (.int x4), some (.int x5), none] [.int (bI t0)] (wsM ad (xZ X) σ) (m_notCopied_b54 x1 x2 x3 x4 x5 t0 σ) := by
  unfold m_notCopied_b54
  refine JO.istore dX10_notCopied_54 rfl rfl ?_
  refine JO.aloadn dX10_notCopied_56 rfl ?_
  refine gM28 dX10_notCopied_57 rfl ?_
  refine JO.iloadn dX10_notCopied_60 rfl ?_
  refine aM28 dX10_notCopied_61 ?_
  refine JO.sip 200 dX10_notCopied_62 (by decide) ?_
  refine JO.icmp_ge 85 dX10_notCopied_65 rfl ?_ ?_
  · refine JO.bip (-2) dX10_notCopied_85 (by decide) ?_
    exact JO.iret dX10_notCopied_87 rfl rfl rfl
  · refine JO.aloadn dX10_notCopied_68 rfl ?_
    refine gM28 dX10_notCopied_69 rfl ?_
    refine JO.iloadn dX10_notCopied_72 rfl ?_
    refine aM28 dX10_notCopied_73 ?_
    refine JO.sip 200 dX10_notCopied_74 (by decide) ?_
    refine JO.icmp_ge 85 dX10_notCopied_77 rfl ?_ ?_
    · refine JO.bip (-2) dX10_notCopied_85 (by decide) ?_
      exact JO.iret dX10_notCopied_87 rfl rfl rfl
    · refine JO.iload dX10_notCopied_80 rfl ?_
      refine JO.zeq 88 dX10_notCopied_82 rfl ?_ ?_
      · refine JO.aloadn dX10_notCopied_88 rfl ?_
        refine gM28 dX10_notCopied_89 rfl ?_
        refine JO.iloadn dX10_notCopied_92 rfl ?_
        refine aM28 dX10_notCopied_93 ?_
        refine JO.if_eq 106 dX10_notCopied_94 rfl ?_ ?_
        · refine JO.bip (-3) dX10_notCopied_106 (by decide) ?_
          exact JO.iret dX10_notCopied_108 rfl rfl rfl
        · refine JO.aloadn dX10_notCopied_97 rfl ?_
          refine gM28 dX10_notCopied_98 rfl ?_
          refine JO.iloadn dX10_notCopied_101 rfl ?_
          refine aM28 dX10_notCopied_102 ?_
          refine JO.if_ne 109 dX10_notCopied_103 rfl ?_ ?_
          · refine JO.iload dX10_notCopied_109 rfl ?_
            refine JO.if_ge 117 dX10_notCopied_111 rfl ?_ ?_
            · refine JO.iloadn dX10_notCopied_117 rfl ?_
              refine JO.if_lt 153 dX10_notCopied_118 rfl ?_ ?_
              · refine JO.bip (-5) dX10_notCopied_153 (by decide) ?_
                refine JO.goto 159 dX10_notCopied_155 rfl ?_
                exact JO.iret dX10_notCopied_159 rfl rfl rfl
              · refine JO.iload dX10_notCopied_121 rfl ?_
                refine JO.if_lt 153 dX10_notCopied_123 rfl ?_ ?_
                · refine JO.bip (-5) dX10_notCopied_153 (by decide) ?_
                  refine JO.goto 159 dX10_notCopied_155 rfl ?_
                  exact JO.iret dX10_notCopied_159 rfl rfl rfl
                · refine JO.iloadn dX10_notCopied_126 rfl ?_
                  refine JO.aloadn dX10_notCopied_127 rfl ?_
                  refine gM29 dX10_notCopied_128 rfl ?_
                  refine JO.iloadn dX10_notCopied_131 rfl ?_
                  refine aM29 dX10_notCopied_132 ?_
                  refine JO.iload dX10_notCopied_133 rfl ?_
                  refine JO.isub dX10_notCopied_135 ?_
                  refine JO.icmp_gt 153 dX10_notCopied_136 rfl ?_ ?_
                  · refine JO.bip (-5) dX10_notCopied_153 (by decide) ?_
                    refine JO.goto 159 dX10_notCopied_155 rfl ?_
                    exact JO.iret dX10_notCopied_159 rfl rfl rfl
                  · refine JO.iload dX10_notCopied_139 rfl ?_
                    refine JO.aloadn dX10_notCopied_141 rfl ?_
                    refine gM29 dX10_notCopied_142 rfl ?_
                    refine JO.iloadn dX10_notCopied_145 rfl ?_
                    refine aM29 dX10_notCopied_146 ?_
                    refine JO.iload dX10_notCopied_147 rfl ?_
                    refine JO.isub dX10_notCopied_149 ?_
                    refine JO.icmp_le 158 dX10_notCopied_150 rfl ?_ ?_
                    · refine JO.ic 0 dX10_notCopied_158 (by decide) ?_
                      exact JO.iret dX10_notCopied_159 rfl rfl rfl
                    · refine JO.bip (-5) dX10_notCopied_153 (by decide) ?_
                      refine JO.goto 159 dX10_notCopied_155 rfl ?_
                      exact JO.iret dX10_notCopied_159 rfl rfl rfl
            · refine JO.bip (-4) dX10_notCopied_114 (by decide) ?_
              exact JO.iret dX10_notCopied_116 rfl rfl rfl
          · refine JO.bip (-3) dX10_notCopied_106 (by decide) ?_
            exact JO.iret dX10_notCopied_108 rfl rfl rfl
      · refine JO.bip (-2) dX10_notCopied_85 (by decide) ?_
        exact JO.iret dX10_notCopied_87 rfl rfl rfl
theorem J_m_notCopied {X : JX} {ad : Nat → Nat} (p1 : Int32) (p2 : Int32) (p3 : Int32) (p4 : Int32) (p5 : Int32) (σ : MS) : JO X M_m_notCopied (QF X eI (wM ad (xZ X))) 0 [some (.ref (ad 0)), some (.int p1), some (.int p2), some (.int p3), some (.int p4), some (.int p5), none] [] (wsM ad (xZ X) σ) (m_notCopied p1 p2 p3 p4 p5 σ) := by
  unfold m_notCopied
  refine JO.iloadn dX10_notCopied_0 rfl ?_
  refine JO.msz (C_m_isShelf _ _) K_m_isShelf k5_131 rfl rfl rfl (Nat.le_of_ble_eq_true rfl) dX10_notCopied_1 (fun a1 => ?_)
  refine JO.zeq 14 dX10_notCopied_4 rfl ?_ ?_
  · refine JO.ic (-1) dX10_notCopied_14 (by decide) ?_
    exact JO.iret dX10_notCopied_15 rfl rfl rfl
  · refine JO.iloadn dX10_notCopied_7 rfl ?_
    refine JO.msz (C_m_isShelf _ _) K_m_isShelf k5_131 rfl rfl rfl (Nat.le_of_ble_eq_true rfl) dX10_notCopied_8 (fun a2 => ?_)
    refine JO.zne 16 dX10_notCopied_11 rfl ?_ ?_
    · refine JO.aloadn dX10_notCopied_16 rfl ?_
      refine gM28 dX10_notCopied_17 rfl ?_
      refine JO.iloadn dX10_notCopied_20 rfl ?_
      refine aM28 dX10_notCopied_21 ?_
      refine JO.if_eq 53 dX10_notCopied_22 rfl ?_ ?_
      · refine JO.ic 0 dX10_notCopied_53 (by decide) ?_
        exact (J_m_notCopied_b54 _ _ _ _ _ false _).jump (lvLe.so rfl (lvLe.so rfl (lvLe.so rfl (lvLe.so rfl (lvLe.so rfl (lvLe.so rfl (lvLe.no (lvLe.nil))))))))
      · refine JO.aloadn dX10_notCopied_25 rfl ?_
        refine gM28 dX10_notCopied_26 rfl ?_
        refine JO.iloadn dX10_notCopied_29 rfl ?_
        refine aM28 dX10_notCopied_30 ?_
        refine JO.if_eq 53 dX10_notCopied_31 rfl ?_ ?_
        · refine JO.ic 0 dX10_notCopied_53 (by decide) ?_
          exact (J_m_notCopied_b54 _ _ _ _ _ false _).jump (lvLe.so rfl (lvLe.so rfl (lvLe.so rfl (lvLe.so rfl (lvLe.so rfl (lvLe.so rfl (lvLe.no (lvLe.nil))))))))
        · refine JO.aloadn dX10_notCopied_34 rfl ?_
          refine gM28 dX10_notCopied_35 rfl ?_
          refine JO.iloadn dX10_notCopied_38 rfl ?_
          refine aM28 dX10_notCopied_39 ?_
          refine JO.aloadn dX10_notCopied_40 rfl ?_
          refine gM28 dX10_notCopied_41 rfl ?_
          refine JO.iloadn dX10_notCopied_44 rfl ?_
          refine aM28 dX10_notCopied_45 ?_
          refine JO.icmp_eq 53 dX10_notCopied_46 rfl ?_ ?_
          · refine JO.ic 0 dX10_notCopied_53 (by decide) ?_
            exact (J_m_notCopied_b54 _ _ _ _ _ false _).jump (lvLe.so rfl (lvLe.so rfl (lvLe.so rfl (lvLe.so rfl (lvLe.so rfl (lvLe.so rfl (lvLe.no (lvLe.nil))))))))
          · refine JO.ic 1 dX10_notCopied_49 (by decide) ?_
            refine JO.goto 54 dX10_notCopied_50 rfl ?_
            exact (J_m_notCopied_b54 _ _ _ _ _ true _).jump (lvLe.so rfl (lvLe.so rfl (lvLe.so rfl (lvLe.so rfl (lvLe.so rfl (lvLe.so rfl (lvLe.no (lvLe.nil))))))))
    · refine JO.ic (-1) dX10_notCopied_14 (by decide) ?_
      exact JO.iret dX10_notCopied_15 rfl rfl rfl
theorem C_m_notCopied {ad : Nat → Nat} {Z : ZT} (p1 : Int32) (p2 : Int32) (p3 : Int32) (p4 : Int32) (p5 : Int32) (σ : MS) : CO yX10_notCopied M_m_notCopied eI Z (wM ad Z) [.ref (ad 0), .int p1, .int p2, .int p3, .int p4, .int p5] (wsM ad Z σ) (m_notCopied p1 p2 p3 p4 p5 σ) :=
  CO.of rfl rfl (Nat.le_of_ble_eq_true rfl) 1 (fun X hZ => by subst hZ; exact J_m_notCopied _ _ _ _ _ σ)
theorem K_m_notCopied : Kv yX10_notCopied M_m_notCopied RX10 5 := ⟨rfl, k5_158, s3_8, k1_10, k5_159, by decide +kernel⟩
