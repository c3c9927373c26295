abbrev M_m_image : JM := (cX10_image, 1, RX10, (some .int), 2, 43)
def m_image (σ : MS) : Option (Int32 × MS) :=
  (m_passesAll true (sZ σ 40 true)).bind fun a1 =>
  some (1, a1.2)
theorem J_m_image {X : JX} {ad : Nat → Nat} (σ : MS) : JO X M_m_image (QF X eI (wM ad (xZ X))) 0 [some (.ref (ad 0))] [] (wsM ad (xZ X) σ) (m_image σ) := by
  unfold m_image
  refine JO.aloadn dX10_image_0 rfl ?_
  refine JO.ic 1 dX10_image_1 (by decide) ?_
  refine pM40 (v := true) dX10_image_2 rfl ?_
  refine JO.aloadn dX10_image_5 rfl ?_
  refine JO.ic 1 dX10_image_6 (by decide) ?_
  refine JO.mvv (C_m_passesAll true _) K_m_passesAll k7_19 rfl rfl rfl (Nat.le_of_ble_eq_true rfl) dX10_image_7 (fun a1 => ?_)
  refine JO.ic 1 dX10_image_10 (by decide) ?_
  exact JO.iret dX10_image_11 rfl rfl rfl
theorem C_m_image {ad : Nat → Nat} {Z : ZT} (σ : MS) : CO yX10_image M_m_image eI Z (wM ad Z) [.ref (ad 0)] (wsM ad Z σ) (m_image σ) :=
  CO.of rfl rfl (Nat.le_of_ble_eq_true rfl) 0 (fun X hZ => by subst hZ; exact J_m_image σ)
theorem K_m_image : Kv yX10_image M_m_image RX10 0 := ⟨rfl, k7_16, k7_17, k1_10, k7_18, by decide +kernel⟩
abbrev M_m_restore : JM := (cX10_restore, 1, RX10, (some .int), 2, 43)
def m_restore (σ : MS) : Option (Int32 × MS) :=
  if mZ σ 40 = true then (
    (m_passesAll false σ).bind fun a1 =>
    some (1, a1.2))
  else (
    (m_no (-6) σ).bind fun a2 =>
    some (a2.1, a2.2))
theorem J_m_restore {X : JX} {ad : Nat → Nat} (σ : MS) : JO X M_m_restore (QF X eI (wM ad (xZ X))) 0 [some (.ref (ad 0))] [] (wsM ad (xZ X) σ) (m_restore σ) := by
  unfold m_restore
  refine JO.aloadn dX10_restore_0 rfl ?_
  refine gM40 dX10_restore_1 rfl ?_
  refine JO.zne 14 dX10_restore_4 rfl ?_ ?_
  · refine JO.aloadn dX10_restore_14 rfl ?_
    refine JO.ic 0 dX10_restore_15 (by decide) ?_
    refine JO.mvv (C_m_passesAll false _) K_m_passesAll k7_19 rfl rfl rfl (Nat.le_of_ble_eq_true rfl) dX10_restore_16 (fun a1 => ?_)
    refine JO.ic 1 dX10_restore_19 (by decide) ?_
    exact JO.iret dX10_restore_20 rfl rfl rfl
  · refine JO.aloadn dX10_restore_7 rfl ?_
    refine JO.bip (-6) dX10_restore_8 (by decide) ?_
    refine JO.mvi (C_m_no _ _) K_m_no k5_137 rfl rfl rfl (Nat.le_of_ble_eq_true rfl) dX10_restore_10 (fun a2 => ?_)
    exact JO.iret dX10_restore_13 rfl rfl rfl
theorem C_m_restore {ad : Nat → Nat} {Z : ZT} (σ : MS) : CO yX10_restore M_m_restore eI Z (wM ad Z) [.ref (ad 0)] (wsM ad Z σ) (m_restore σ) :=
  CO.of rfl rfl (Nat.le_of_ble_eq_true rfl) 0 (fun X hZ => by subst hZ; exact J_m_restore σ)
theorem K_m_restore : Kv yX10_restore M_m_restore RX10 0 := ⟨rfl, k7_32, k7_33, k1_10, k7_34, by decide +kernel⟩
abbrev M_m_status : JM := (cX10_status, 4, RX10, (some .int), 1, 22)
def m_status_l31 : Nat → Int32 → Int32 → MS → Option (Int32 × MS)
  | 0, _, _, _ => none
  | n + 1, x2, x3, σ =>
    if 8 ≤ x3 then (
      some (x2, σ))
    else (
      if inB x3 8 = true then
      if mA σ 28 (ix x3) = 0 then (
        m_status_l31 n (x2 + 0) (x3 + 1) σ)
      else (
        m_status_l31 n (x2 + 1) (x3 + 1) σ)
      else none)
def m_status (p1 : Int32) (σ : MS) : Option (Int32 × MS) :=
  (m_isIn p1 11 17 σ).bind fun a1 =>
  if a1.1 = true then (
    if inB (p1 - 10) 8 = true then
    some (mA a1.2 0 (ix (p1 - 10)), a1.2)
    else none)
  else (
    if p1 = 0 then (
      m_status_l31 4096 0 0 a1.2)
    else (
      some ((-1), a1.2)))
theorem J_m_status_l31 {X : JX} {ad : Nat → Nat} : ∀ (n : Nat) (x2 : Int32) (x3 : Int32) (σ : MS), JO X M_m_status (QF X eI (wM ad (xZ X))) 31 [some (.ref (ad 0)), none, some (.int x2), some (.int x3)] [] (wsM ad (xZ X) σ) (m_status_l31 n x2 x3 σ) := by
  intro n
  induction n with
  | zero => intro x2 x3 σ; exact JO.nil
  | succ n ih =>
    intro x2 x3 σ
    unfold m_status_l31
    refine JO.iloadn dX10_status_31 rfl ?_
    refine JO.bip 8 dX10_status_32 (by decide) ?_
    refine JO.icmp_ge 60 dX10_status_34 rfl ?_ ?_
    · refine JO.iloadn dX10_status_60 rfl ?_
      exact JO.iret dX10_status_61 rfl rfl rfl
    · refine JO.iloadn dX10_status_37 rfl ?_
      refine JO.aloadn dX10_status_38 rfl ?_
      refine gM28 dX10_status_39 rfl ?_
      refine JO.iloadn dX10_status_42 rfl ?_
      refine aM28 dX10_status_43 ?_
      refine JO.if_eq 51 dX10_status_44 rfl ?_ ?_
      · refine JO.ic 0 dX10_status_51 (by decide) ?_
        refine JO.iadd dX10_status_52 ?_
        refine JO.istoren dX10_status_53 rfl rfl ?_
        refine JO.iinc dX10_status_54 rfl 1 (by decide) rfl rfl ?_
        refine JO.goto 31 dX10_status_57 rfl ?_
        exact (ih _ _ _).jump (lvLe.so rfl (lvLe.no (lvLe.so rfl (lvLe.so rfl (lvLe.nil)))))
      · refine JO.ic 1 dX10_status_47 (by decide) ?_
        refine JO.goto 52 dX10_status_48 rfl ?_
        refine JO.iadd dX10_status_52 ?_
        refine JO.istoren dX10_status_53 rfl rfl ?_
        refine JO.iinc dX10_status_54 rfl 1 (by decide) rfl rfl ?_
        refine JO.goto 31 dX10_status_57 rfl ?_
        exact (ih _ _ _).jump (lvLe.so rfl (lvLe.no (lvLe.so rfl (lvLe.so rfl (lvLe.nil)))))
theorem J_m_status {X : JX} {ad : Nat → Nat} (p1 : Int32) (σ : MS) : JO X M_m_status (QF X eI (wM ad (xZ X))) 0 [some (.ref (ad 0)), some (.int p1), none, none] [] (wsM ad (xZ X) σ) (m_status p1 σ) := by
  unfold m_status
  refine JO.iloadn dX10_status_0 rfl ?_
  refine JO.bip 11 dX10_status_1 (by decide) ?_
  refine JO.bip 17 dX10_status_3 (by decide) ?_
  refine JO.msz (C_m_isIn _ _ _ _) K_m_isIn k5_134 rfl rfl rfl (Nat.le_of_ble_eq_true rfl) dX10_status_5 (fun a1 => ?_)
  refine JO.zeq 21 dX10_status_8 rfl ?_ ?_
  · refine JO.iloadn dX10_status_21 rfl ?_
    refine JO.if_eq 27 dX10_status_22 rfl ?_ ?_
    · refine JO.ic 0 dX10_status_27 (by decide) ?_
      refine JO.istoren dX10_status_28 rfl rfl ?_
      refine JO.ic 0 dX10_status_29 (by decide) ?_
      refine JO.istoren dX10_status_30 rfl rfl ?_
      exact (J_m_status_l31 4096 _ _ _).jump (lvLe.so rfl (lvLe.no (lvLe.so rfl (lvLe.so rfl (lvLe.nil)))))
    · refine JO.ic (-1) dX10_status_25 (by decide) ?_
      exact JO.iret dX10_status_26 rfl rfl rfl
  · refine JO.aloadn dX10_status_11 rfl ?_
    refine gM0 dX10_status_12 rfl ?_
    refine JO.iloadn dX10_status_15 rfl ?_
    refine JO.bip 10 dX10_status_16 (by decide) ?_
    refine JO.isub dX10_status_18 ?_
    refine aM0 dX10_status_19 ?_
    exact JO.iret dX10_status_20 rfl rfl rfl
theorem C_m_status {ad : Nat → Nat} {Z : ZT} (p1 : Int32) (σ : MS) : CO yX10_status M_m_status eI Z (wM ad Z) [.ref (ad 0), .int p1] (wsM ad Z σ) (m_status p1 σ) :=
  CO.of rfl rfl (Nat.le_of_ble_eq_true rfl) 2 (fun X hZ => by subst hZ; exact J_m_status _ σ)
theorem K_m_status : Kv yX10_status M_m_status RX10 1 := ⟨rfl, k7_36, k7_37, k1_10, k7_38, by decide +kernel⟩
