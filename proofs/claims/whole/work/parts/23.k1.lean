abbrev M_cC_stateBehind : JM := (cX1_stateBehind, 2, RX1, (some .int), 0, 0)
def cC_stateBehind (p1 : Int32) (p2 : Bool) (σ : CS) : Option (Int32 × CS) :=
  sw p1 [(3, 32,
    some (2, σ)), (4, 34,
    some (3, σ)), (5, 36,
    some (4, σ)), (6, 38,
    some (5, σ))] (
    if p2 = true then (
      some (5, σ))
    else (
      some (4, σ)))
theorem J_cC_stateBehind {X : JX} {ad : Nat → Nat} (p1 : Int32) (p2 : Bool) (σ : CS) : JO X M_cC_stateBehind (QF X eI (wC ad (xZ X))) 0 [some (.int p1), some (.int (bI p2))] [] (wsC ad (xZ X) σ) (cC_stateBehind p1 p2 σ) := by
  unfold cC_stateBehind
  refine JO.iloadn dX1_stateBehind_0 rfl ?_
  refine JO.tsw [(3, 32, _), (4, 34, _), (5, 36, _), (6, 38, _)] 40 [(3, 32), (4, 34), (5, 36), (6, 38)] dX1_stateBehind_1 rfl (by decide) rfl (by decide) (JO.swCons ?_ (JO.swCons ?_ (JO.swCons ?_ (JO.swCons ?_ (JO.swNil))))) ?_
  · refine JO.ic 2 dX1_stateBehind_32 (by decide) ?_
    exact JO.iret dX1_stateBehind_33 rfl rfl rfl
  · refine JO.ic 3 dX1_stateBehind_34 (by decide) ?_
    exact JO.iret dX1_stateBehind_35 rfl rfl rfl
  · refine JO.ic 4 dX1_stateBehind_36 (by decide) ?_
    exact JO.iret dX1_stateBehind_37 rfl rfl rfl
  · refine JO.ic 5 dX1_stateBehind_38 (by decide) ?_
    exact JO.iret dX1_stateBehind_39 rfl rfl rfl
  · refine JO.iloadn dX1_stateBehind_40 rfl ?_
    refine JO.zeq 48 dX1_stateBehind_41 rfl ?_ ?_
    · refine JO.ic 4 dX1_stateBehind_48 (by decide) ?_
      exact JO.iret dX1_stateBehind_49 rfl rfl rfl
    · refine JO.ic 5 dX1_stateBehind_44 (by decide) ?_
      refine JO.goto 49 dX1_stateBehind_45 rfl ?_
      exact JO.iret dX1_stateBehind_49 rfl rfl rfl
theorem C_cC_stateBehind {ad : Nat → Nat} {Z : ZT} (p1 : Int32) (p2 : Bool) (σ : CS) : CO yX1_stateBehind M_cC_stateBehind eI Z (wC ad Z) [.int p1, .int (bI p2)] (wsC ad Z σ) (cC_stateBehind p1 p2 σ) :=
  CO.of rfl rfl (Nat.le_of_ble_eq_true rfl) 0 (fun X hZ => by subst hZ; exact J_cC_stateBehind _ _ σ)
theorem K_cC_stateBehind : Ks yX1_stateBehind M_cC_stateBehind 2 := ⟨k4_211, k1_7, k4_212, by decide +kernel⟩
abbrev M_cT_note : JM := (cX7_note, 2, RX7, none, 0, 0)
def cT_note (b : Nat) (j : Nat) (p1 : Int32) (σ : CS) : Option (Unit × CS) :=
  if 8 ≤ cI σ (b + 2 + j) 2 then (
    some ((), σ))
  else (
    if inB (cI σ (b + 2 + j) 2) 8 = true then
    some ((), tI (tA σ (b + 8 + j) (ix (cI σ (b + 2 + j) 2)) p1) (b + 2 + j) 2 (cI σ (b + 2 + j) 2 + 1))
    else none)
theorem J_cT_note {X : JX} {ad : Nat → Nat} {b : Nat} {j : Nat} (hb : isR b) (hj : j < 6) (p1 : Int32) (σ : CS) : JO X M_cT_note (QF X eV (wC ad (xZ X))) 0 [some (.ref (ad (b + 2 + j))), some (.int p1)] [] (wsC ad (xZ X) σ) (cT_note b j p1 σ) := by
  unfold cT_note
  refine JO.aloadn dX7_note_0 rfl ?_
  refine gT2 (j := j) hb hj (Or.inl rfl) k1_126 dX7_note_1 ?_
  refine JO.bip 8 dX7_note_4 (by decide) ?_
  refine JO.icmp_ge 29 dX7_note_6 rfl ?_ ?_
  · exact JO.vret dX7_note_29 rfl rfl rfl
  · refine JO.aloadn dX7_note_9 rfl ?_
    refine gT1 (j := j) hb hj (Or.inl rfl) k1_124 dX7_note_10 ?_
    refine JO.aloadn dX7_note_13 rfl ?_
    refine gT2 (j := j) hb hj (Or.inl rfl) k1_126 dX7_note_14 ?_
    refine JO.iloadn dX7_note_17 rfl ?_
    refine JO.uC (i_log hb (j := j) hj) dX7_note_18 ?_
    refine JO.aloadn dX7_note_19 rfl ?_
    refine JO.dup dX7_note_20 rfl ?_
    refine gT2 (j := j) hb hj (Or.inl rfl) k1_126 dX7_note_21 ?_
    refine JO.ic 1 dX7_note_24 (by decide) ?_
    refine JO.iadd dX7_note_25 ?_
    refine pT2 (j := j) hb hj (Or.inl rfl) k1_126 dX7_note_26 ?_
    exact JO.vret dX7_note_29 rfl rfl rfl
theorem C_cT_note {ad : Nat → Nat} {b : Nat} {j : Nat} {Z : ZT} (hb : isR b) (hj : j < 6) (p1 : Int32) (σ : CS) : CO yX7_note M_cT_note eV Z (wC ad Z) [.ref (ad (b + 2 + j)), .int p1] (wsC ad Z σ) (cT_note b j p1 σ) :=
  CO.of rfl rfl (Nat.le_of_ble_eq_true rfl) 0 (fun X hZ => by subst hZ; exact J_cT_note hb hj _ σ)
theorem U_cT_note_C_C : Ku "CommitPrefixes$Coordinator" "CommitPrefixes$Site" ⟨"CommitPrefixes$Coordinator", "note", "(I)V"⟩ yX7_note M_cT_note 1 := ⟨k2_210, k2_212, k2_213, k1_6, k2_214, by decide +kernel⟩
theorem U_cT_note_A_A : Ku "CommitPrefixes$Participant" "CommitPrefixes$Site" ⟨"CommitPrefixes$Participant", "note", "(I)V"⟩ yX7_note M_cT_note 1 := ⟨k2_222, k2_223, k2_213, k1_6, k2_214, by decide +kernel⟩
abbrev M_cR_waitEnd : JM := (cX4_waitEnd, 1, RX4, (some .int), 0, 0)
def cR_waitEnd (b : Nat) (σ : CS) : Option (Int32 × CS) :=
  some ((cI σ b 6 + cI σ 3 2), σ)
theorem J_cR_waitEnd {X : JX} {ad : Nat → Nat} {b : Nat} (hb : isR b) (σ : CS) : JO X M_cR_waitEnd (QF X eI (wC ad (xZ X))) 0 [some (.ref (ad b))] [] (wsC ad (xZ X) σ) (cR_waitEnd b σ) := by
  unfold cR_waitEnd
  refine JO.aloadn dX4_waitEnd_0 rfl ?_
  refine gR6 hb k1_190 dX4_waitEnd_1 ?_
  refine JO.aloadn dX4_waitEnd_4 rfl ?_
  refine gR0 hb k1_177 dX4_waitEnd_5 ?_
  refine gS2 isS3 k1_47 dX4_waitEnd_8 ?_
  refine JO.iadd dX4_waitEnd_11 ?_
  exact JO.iret dX4_waitEnd_12 rfl rfl rfl
theorem C_cR_waitEnd {ad : Nat → Nat} {b : Nat} {Z : ZT} (hb : isR b) (σ : CS) : CO yX4_waitEnd M_cR_waitEnd eI Z (wC ad Z) [.ref (ad b)] (wsC ad Z σ) (cR_waitEnd b σ) :=
  CO.of rfl rfl (Nat.le_of_ble_eq_true rfl) 0 (fun X hZ => by subst hZ; exact J_cR_waitEnd hb σ)
theorem K_cR_waitEnd : Kv yX4_waitEnd M_cR_waitEnd RX4 0 := ⟨rfl, k2_194, k2_195, k1_5, k2_196, by decide +kernel⟩
abbrev M_cC_turnTo : JM := (cX1_turnTo, 3, RX1, none, 0, 0)
def cC_turnTo (b : Nat) (p1 : Int32) (p2 : Int32) (σ : CS) : Option (Unit × CS) :=
  some ((), tI (tI (tI σ (b + 2) 4 p1) (b + 2) 5 p2) (b + 2) 6 0)
theorem J_cC_turnTo {X : JX} {ad : Nat → Nat} {b : Nat} (hb : isR b) (p1 : Int32) (p2 : Int32) (σ : CS) : JO X M_cC_turnTo (QF X eV (wC ad (xZ X))) 0 [some (.ref (ad (b + 2))), some (.int p1), some (.int p2)] [] (wsC ad (xZ X) σ) (cC_turnTo b p1 p2 σ) := by
  unfold cC_turnTo
  refine JO.aloadn dX1_turnTo_0 rfl ?_
  refine JO.iloadn dX1_turnTo_1 rfl ?_
  refine pT4 (j := 0) hb (by decide) (Or.inr k1_139) k1_138 dX1_turnTo_2 ?_
  refine JO.aloadn dX1_turnTo_5 rfl ?_
  refine JO.iloadn dX1_turnTo_6 rfl ?_
  refine pT5 (j := 0) hb (by decide) (Or.inr k1_146) k1_145 dX1_turnTo_7 ?_
  refine JO.aloadn dX1_turnTo_10 rfl ?_
  refine JO.ic 0 dX1_turnTo_11 (by decide) ?_
  refine pT6 hb k1_118 dX1_turnTo_12 ?_
  exact JO.vret dX1_turnTo_15 rfl rfl rfl
theorem C_cC_turnTo {ad : Nat → Nat} {b : Nat} {Z : ZT} (hb : isR b) (p1 : Int32) (p2 : Int32) (σ : CS) : CO yX1_turnTo M_cC_turnTo eV Z (wC ad Z) [.ref (ad (b + 2)), .int p1, .int p2] (wsC ad Z σ) (cC_turnTo b p1 p2 σ) :=
  CO.of rfl rfl (Nat.le_of_ble_eq_true rfl) 0 (fun X hZ => by subst hZ; exact J_cC_turnTo hb _ _ σ)
theorem K_cC_turnTo : Kv yX1_turnTo M_cC_turnTo RX1 2 := ⟨rfl, k2_199, s1_6, k1_7, k2_200, by decide +kernel⟩
abbrev M_cR_send : JM := (cX4_send, 5, RX4, none, 0, 0)
def cR_send_l3 (b : Nat) : Nat → Int32 → Int32 → Int32 → Int32 → CS → Option (Unit × CS)
  | 0, _, _, _, _, _ => none
  | n + 1, x1, x2, x3, x4, σ =>
    if cI σ 3 0 < x4 then (
      some ((), σ))
    else (
      if ((x3 >>> (x4 &&& 31)) &&& 1) = 0 then (
        cR_send_l3 b n x1 x2 x3 (x4 + 1) σ)
      else (
        if 200 ≤ cI σ b 8 then (
          cR_send_l3 b n x1 x2 x3 (x4 + 1) σ)
        else (
          if inB (cI σ b 8) 200 = true then
          if inB (cI σ b 8) 200 = true then
          if inB (cI σ b 8) 200 = true then
          if inB (cI σ b 8) 200 = true then
          if inB (cI σ b 8) 200 = true then
          cR_send_l3 b n x1 x2 x3 (x4 + 1) (tI (tA (tA (tA (tA (tA σ (b + 14) (ix (cI σ b 8)) x1) (b + 15) (ix (cI σ b 8)) x2) (b + 16) (ix (cI σ b 8)) x4) (b + 17) (ix (cI σ b 8)) (cI σ b 6)) (b + 18) (ix (cI σ b 8)) 3) b 8 (cI σ b 8 + 1))
          else none
          else none
          else none
          else none
          else none)))
def cR_send (b : Nat) (p1 : Int32) (p2 : Int32) (p3 : Int32) (σ : CS) : Option (Unit × CS) :=
  cR_send_l3 b 4096 p1 p2 p3 0 σ
theorem J_cR_send_l3 {X : JX} {ad : Nat → Nat} {b : Nat} (hb : isR b) : ∀ (n : Nat) (x1 : Int32) (x2 : Int32) (x3 : Int32) (x4 : Int32) (σ : CS), JO X M_cR_send (QF X eV (wC ad (xZ X))) 3 [some (.ref (ad b)), some (.int x1), some (.int x2), some (.int x3), some (.int x4)] [] (wsC ad (xZ X) σ) (cR_send_l3 b n x1 x2 x3 x4 σ) := by
  intro n
  induction n with
  | zero => intro x1 x2 x3 x4 σ; exact JO.nil
  | succ n ih =>
    intro x1 x2 x3 x4 σ
    unfold cR_send_l3
    refine JO.iload dX4_send_3 rfl ?_
    refine JO.aloadn dX4_send_5 rfl ?_
    refine gR0 hb k1_177 dX4_send_6 ?_
    refine gS0 isS3 k1_41 dX4_send_9 ?_
    refine JO.icmp_gt 104 dX4_send_12 rfl ?_ ?_
    · exact JO.vret dX4_send_104 rfl rfl rfl
    · refine JO.iloadn dX4_send_15 rfl ?_
      refine JO.iload dX4_send_16 rfl ?_
      refine JO.ishr dX4_send_18 ?_
      refine JO.ic 1 dX4_send_19 (by decide) ?_
      refine JO.iand dX4_send_20 ?_
      refine JO.if_eq 98 dX4_send_21 rfl ?_ ?_
      · refine JO.iinc dX4_send_98 rfl 1 (by decide) rfl rfl ?_
        refine JO.goto 3 dX4_send_101 rfl ?_
        exact (ih _ _ _ _ _).jump (lvLe.so rfl (lvLe.so rfl (lvLe.so rfl (lvLe.so rfl (lvLe.so rfl (lvLe.nil))))))
      · refine JO.aloadn dX4_send_24 rfl ?_
        refine gR8 hb k1_193 dX4_send_25 ?_
        refine JO.sip 200 dX4_send_28 (by decide) ?_
        refine JO.icmp_ge 98 dX4_send_31 rfl ?_ ?_
        · refine JO.iinc dX4_send_98 rfl 1 (by decide) rfl rfl ?_
          refine JO.goto 3 dX4_send_101 rfl ?_
          exact (ih _ _ _ _ _).jump (lvLe.so rfl (lvLe.so rfl (lvLe.so rfl (lvLe.so rfl (lvLe.so rfl (lvLe.nil))))))
        · refine JO.aloadn dX4_send_34 rfl ?_
          refine gR9 hb k1_195 dX4_send_35 ?_
          refine JO.aloadn dX4_send_38 rfl ?_
          refine gR8 hb k1_193 dX4_send_39 ?_
          refine JO.iloadn dX4_send_42 rfl ?_
          refine JO.uC (i_r14 hb) dX4_send_43 ?_
          refine JO.aloadn dX4_send_44 rfl ?_
          refine gR10 hb k1_197 dX4_send_45 ?_
          refine JO.aloadn dX4_send_48 rfl ?_
          refine gR8 hb k1_193 dX4_send_49 ?_
          refine JO.iloadn dX4_send_52 rfl ?_
          refine JO.uC (i_r15 hb) dX4_send_53 ?_
          refine JO.aloadn dX4_send_54 rfl ?_
          refine gR11 hb k1_199 dX4_send_55 ?_
          refine JO.aloadn dX4_send_58 rfl ?_
          refine gR8 hb k1_193 dX4_send_59 ?_
          refine JO.iload dX4_send_62 rfl ?_
          refine JO.uC (i_r16 hb) dX4_send_64 ?_
          refine JO.aloadn dX4_send_65 rfl ?_
          refine gR12 hb k1_201 dX4_send_66 ?_
          refine JO.aloadn dX4_send_69 rfl ?_
          refine gR8 hb k1_193 dX4_send_70 ?_
          refine JO.aloadn dX4_send_73 rfl ?_
          refine gR6 hb k1_190 dX4_send_74 ?_
          refine JO.uC (i_r17 hb) dX4_send_77 ?_
          refine JO.aloadn dX4_send_78 rfl ?_
          refine gR13 hb k1_203 dX4_send_79 ?_
          refine JO.aloadn dX4_send_82 rfl ?_
          refine gR8 hb k1_193 dX4_send_83 ?_
          refine JO.ic 3 dX4_send_86 (by decide) ?_
          refine JO.uC (i_r18 hb) dX4_send_87 ?_
          refine JO.aloadn dX4_send_88 rfl ?_
          refine JO.dup dX4_send_89 rfl ?_
          refine gR8 hb k1_193 dX4_send_90 ?_
          refine JO.ic 1 dX4_send_93 (by decide) ?_
          refine JO.iadd dX4_send_94 ?_
          refine pR8 hb k1_193 dX4_send_95 ?_
          refine JO.iinc dX4_send_98 rfl 1 (by decide) rfl rfl ?_
          refine JO.goto 3 dX4_send_101 rfl ?_
          exact (ih _ _ _ _ _).jump (lvLe.so rfl (lvLe.so rfl (lvLe.so rfl (lvLe.so rfl (lvLe.so rfl (lvLe.nil))))))
theorem J_cR_send {X : JX} {ad : Nat → Nat} {b : Nat} (hb : isR b) (p1 : Int32) (p2 : Int32) (p3 : Int32) (σ : CS) : JO X M_cR_send (QF X eV (wC ad (xZ X))) 0 [some (.ref (ad b)), some (.int p1), some (.int p2), some (.int p3), none] [] (wsC ad (xZ X) σ) (cR_send b p1 p2 p3 σ) := by
  unfold cR_send
  refine JO.ic 0 dX4_send_0 (by decide) ?_
  refine JO.istore dX4_send_1 rfl rfl ?_
  exact (J_cR_send_l3 hb 4096 _ _ _ _ _).jump (lvLe.so rfl (lvLe.so rfl (lvLe.so rfl (lvLe.so rfl (lvLe.so rfl (lvLe.nil))))))
theorem C_cR_send {ad : Nat → Nat} {b : Nat} {Z : ZT} (hb : isR b) (p1 : Int32) (p2 : Int32) (p3 : Int32) (σ : CS) : CO yX4_send M_cR_send eV Z (wC ad Z) [.ref (ad b), .int p1, .int p2, .int p3] (wsC ad Z σ) (cR_send b p1 p2 p3 σ) :=
  CO.of rfl rfl (Nat.le_of_ble_eq_true rfl) 1 (fun X hZ => by subst hZ; exact J_cR_send hb _ _ _ σ)
theorem K_cR_send : Kv yX4_send M_cR_send RX4 3 := ⟨rfl, k2_202, k2_203, k1_5, k2_204, by decide +kernel⟩
abbrev M_cC_begin : JM := (cX1_begin, 2, RX1, none, 1, 24)
def cC_begin (b : Nat) (σ : CS) : Option (Unit × CS) :=
  (cT_note b 0 1 σ).bind fun a1 =>
  (cR_waitEnd b a1.2).bind fun a2 =>
  (cC_turnTo b 1 a2.1 a2.2).bind fun a3 =>
  (cR_send b 1 0 (cI a3.2 b 5) a3.2).bind fun a4 =>
  some ((), a4.2)
theorem J_cC_begin {X : JX} {ad : Nat → Nat} {b : Nat} (hb : isR b) (σ : CS) : JO X M_cC_begin (QF X eV (wC ad (xZ X))) 0 [some (.ref (ad (b + 2))), some (.ref (ad b))] [] (wsC ad (xZ X) σ) (cC_begin b σ) := by
  unfold cC_begin
  refine JO.aloadn dX1_begin_0 rfl ?_
  refine JO.ic 1 dX1_begin_1 (by decide) ?_
  refine JO.cuv (C_cT_note hb (by decide) _ _) (rcvT0 hb) U_cT_note_C_C (decl_of k2_213 k2_214) k2_209 rfl rfl rfl (Nat.le_of_ble_eq_true rfl) dX1_begin_2 (fun a1 => ?_)
  refine JO.aloadn dX1_begin_5 rfl ?_
  refine JO.ic 1 dX1_begin_6 (by decide) ?_
  refine JO.aloadn dX1_begin_7 rfl ?_
  refine JO.cvi (C_cR_waitEnd hb _) (rcvR hb) K_cR_waitEnd k2_193 rfl rfl rfl (Nat.le_of_ble_eq_true rfl) dX1_begin_8 (fun a2 => ?_)
  refine JO.cvv (C_cC_turnTo hb _ _ _) (rcvT0 hb) K_cC_turnTo k2_197 rfl rfl rfl (Nat.le_of_ble_eq_true rfl) dX1_begin_11 (fun a3 => ?_)
  refine JO.aloadn dX1_begin_14 rfl ?_
  refine JO.ic 1 dX1_begin_15 (by decide) ?_
  refine JO.aloadn dX1_begin_16 rfl ?_
  refine gT0 (j := 0) hb (by decide) (Or.inr k1_121) k1_120 dX1_begin_17 ?_
  refine JO.aloadn dX1_begin_20 rfl ?_
  refine gR5 hb k1_188 dX1_begin_21 ?_
  refine JO.cvv (C_cR_send hb _ _ _ _) (rcvR hb) K_cR_send k2_201 rfl rfl rfl (Nat.le_of_ble_eq_true rfl) dX1_begin_24 (fun a4 => ?_)
  exact JO.vret dX1_begin_27 rfl rfl rfl
theorem C_cC_begin {ad : Nat → Nat} {b : Nat} {Z : ZT} (hb : isR b) (σ : CS) : CO yX1_begin M_cC_begin eV Z (wC ad Z) [.ref (ad (b + 2)), .ref (ad b)] (wsC ad Z σ) (cC_begin b σ) :=
  CO.of rfl rfl (Nat.le_of_ble_eq_true rfl) 0 (fun X hZ => by subst hZ; exact J_cC_begin hb σ)
theorem K_cC_begin : Kv yX1_begin M_cC_begin RX1 1 := ⟨rfl, k3_70, k3_71, k1_7, k3_72, by decide +kernel⟩
abbrev M_cT_lastRecord : JM := (cX7_lastRecord, 1, RX7, (some .int), 0, 0)
def cT_lastRecord (b : Nat) (j : Nat) (σ : CS) : Option (Int32 × CS) :=
  if cI σ (b + 2 + j) 2 ≤ 0 then (
    some (0, σ))
  else (
    if inB (cI σ (b + 2 + j) 2 - 1) 8 = true then
    some (cA σ (b + 8 + j) (ix (cI σ (b + 2 + j) 2 - 1)), σ)
    else none)
theorem J_cT_lastRecord {X : JX} {ad : Nat → Nat} {b : Nat} {j : Nat} (hb : isR b) (hj : j < 6) (σ : CS) : JO X M_cT_lastRecord (QF X eI (wC ad (xZ X))) 0 [some (.ref (ad (b + 2 + j)))] [] (wsC ad (xZ X) σ) (cT_lastRecord b j σ) := by
  unfold cT_lastRecord
  refine JO.aloadn dX7_lastRecord_0 rfl ?_
  refine gT2 (j := j) hb hj (Or.inl rfl) k1_126 dX7_lastRecord_1 ?_
  refine JO.if_le 21 dX7_lastRecord_4 rfl ?_ ?_
  · refine JO.ic 0 dX7_lastRecord_21 (by decide) ?_
    exact JO.iret dX7_lastRecord_22 rfl rfl rfl
  · refine JO.aloadn dX7_lastRecord_7 rfl ?_
    refine gT1 (j := j) hb hj (Or.inl rfl) k1_124 dX7_lastRecord_8 ?_
    refine JO.aloadn dX7_lastRecord_11 rfl ?_
    refine gT2 (j := j) hb hj (Or.inl rfl) k1_126 dX7_lastRecord_12 ?_
    refine JO.ic 1 dX7_lastRecord_15 (by decide) ?_
    refine JO.isub dX7_lastRecord_16 ?_
    refine JO.aC (i_log hb (j := j) hj) dX7_lastRecord_17 ?_
    refine JO.goto 22 dX7_lastRecord_18 rfl ?_
    exact JO.iret dX7_lastRecord_22 rfl rfl rfl
theorem C_cT_lastRecord {ad : Nat → Nat} {b : Nat} {j : Nat} {Z : ZT} (hb : isR b) (hj : j < 6) (σ : CS) : CO yX7_lastRecord M_cT_lastRecord eI Z (wC ad Z) [.ref (ad (b + 2 + j))] (wsC ad Z σ) (cT_lastRecord b j σ) :=
  CO.of rfl rfl (Nat.le_of_ble_eq_true rfl) 0 (fun X hZ => by subst hZ; exact J_cT_lastRecord hb hj σ)
theorem U_cT_lastRecord_C_C : Ku "CommitPrefixes$Coordinator" "CommitPrefixes$Site" ⟨"CommitPrefixes$Coordinator", "lastRecord", "()I"⟩ yX7_lastRecord M_cT_lastRecord 0 := ⟨k2_188, k2_190, k2_191, k1_6, k2_192, by decide +kernel⟩
theorem U_cT_lastRecord_A_A : Ku "CommitPrefixes$Participant" "CommitPrefixes$Site" ⟨"CommitPrefixes$Participant", "lastRecord", "()I"⟩ yX7_lastRecord M_cT_lastRecord 0 := ⟨k2_219, k2_220, k2_191, k1_6, k2_192, by decide +kernel⟩
abbrev M_cC_decideAbort : JM := (cX1_decideAbort, 2, RX1, none, 1, 24)
def cC_decideAbort_b32 (b : Nat) (σ : CS) : Option (Unit × CS) :=
  (cR_send b 7 0 (cI σ b 5) σ).bind fun a1 =>
  some ((), a1.2)
def cC_decideAbort (b : Nat) (σ : CS) : Option (Unit × CS) :=
  if cZ σ b 3 = true then (
    (cC_turnTo b 5 160 σ).bind fun a4 =>
    cC_decideAbort_b32 b a4.2)
  else (
    (cT_note b 0 5 σ).bind fun a1 =>
    (cR_waitEnd b a1.2).bind fun a2 =>
    (cC_turnTo b 4 a2.1 a2.2).bind fun a3 =>
    cC_decideAbort_b32 b a3.2)
theorem J_cC_decideAbort_b32 {X : JX} {ad : Nat → Nat} {b : Nat} (hb : isR b) (σ : CS) : JO X M_cC_decideAbort (QF X eV (wC ad (xZ X))) 32 [some (.ref (ad (b + 2))), some (.ref (ad b))] [] (wsC ad (xZ X) σ) (cC_decideAbort_b32 b σ) := by
  unfold cC_decideAbort_b32
  refine JO.aloadn dX1_decideAbort_32 rfl ?_
  refine JO.bip 7 dX1_decideAbort_33 (by decide) ?_
  refine JO.aloadn dX1_decideAbort_35 rfl ?_
  refine gT0 (j := 0) hb (by decide) (Or.inr k1_121) k1_120 dX1_decideAbort_36 ?_
  refine JO.aloadn dX1_decideAbort_39 rfl ?_
  refine gR5 hb k1_188 dX1_decideAbort_40 ?_
  refine JO.cvv (C_cR_send hb _ _ _ _) (rcvR hb) K_cR_send k2_201 rfl rfl rfl (Nat.le_of_ble_eq_true rfl) dX1_decideAbort_43 (fun a1 => ?_)
  exact JO.vret dX1_decideAbort_46 rfl rfl rfl
theorem J_cC_decideAbort {X : JX} {ad : Nat → Nat} {b : Nat} (hb : isR b) (σ : CS) : JO X M_cC_decideAbort (QF X eV (wC ad (xZ X))) 0 [some (.ref (ad (b + 2))), some (.ref (ad b))] [] (wsC ad (xZ X) σ) (cC_decideAbort b σ) := by
  unfold cC_decideAbort
  refine JO.aloadn dX1_decideAbort_0 rfl ?_
  refine gR3 hb k1_185 dX1_decideAbort_1 ?_
  refine JO.zeq 18 dX1_decideAbort_4 rfl ?_ ?_
  · refine JO.aloadn dX1_decideAbort_18 rfl ?_
    refine JO.ic 5 dX1_decideAbort_19 (by decide) ?_
    refine JO.cuv (C_cT_note hb (by decide) _ _) (rcvT0 hb) U_cT_note_C_C (decl_of k2_213 k2_214) k2_209 rfl rfl rfl (Nat.le_of_ble_eq_true rfl) dX1_decideAbort_20 (fun a1 => ?_)
    refine JO.aloadn dX1_decideAbort_23 rfl ?_
    refine JO.ic 4 dX1_decideAbort_24 (by decide) ?_
    refine JO.aloadn dX1_decideAbort_25 rfl ?_
    refine JO.cvi (C_cR_waitEnd hb _) (rcvR hb) K_cR_waitEnd k2_193 rfl rfl rfl (Nat.le_of_ble_eq_true rfl) dX1_decideAbort_26 (fun a2 => ?_)
    refine JO.cvv (C_cC_turnTo hb _ _ _) (rcvT0 hb) K_cC_turnTo k2_197 rfl rfl rfl (Nat.le_of_ble_eq_true rfl) dX1_decideAbort_29 (fun a3 => ?_)
    exact (J_cC_decideAbort_b32 hb _).jump (lvLe.so rfl (lvLe.so rfl (lvLe.nil)))
  · refine JO.aloadn dX1_decideAbort_7 rfl ?_
    refine JO.ic 5 dX1_decideAbort_8 (by decide) ?_
    refine JO.sip 160 dX1_decideAbort_9 (by decide) ?_
    refine JO.cvv (C_cC_turnTo hb _ _ _) (rcvT0 hb) K_cC_turnTo k2_197 rfl rfl rfl (Nat.le_of_ble_eq_true rfl) dX1_decideAbort_12 (fun a4 => ?_)
    refine JO.goto 32 dX1_decideAbort_15 rfl ?_
    exact (J_cC_decideAbort_b32 hb _).jump (lvLe.so rfl (lvLe.so rfl (lvLe.nil)))
theorem C_cC_decideAbort {ad : Nat → Nat} {b : Nat} {Z : ZT} (hb : isR b) (σ : CS) : CO yX1_decideAbort M_cC_decideAbort eV Z (wC ad Z) [.ref (ad (b + 2)), .ref (ad b)] (wsC ad Z σ) (cC_decideAbort b σ) :=
  CO.of rfl rfl (Nat.le_of_ble_eq_true rfl) 0 (fun X hZ => by subst hZ; exact J_cC_decideAbort hb σ)
theorem K_cC_decideAbort : Kv yX1_decideAbort M_cC_decideAbort RX1 1 := ⟨rfl, k2_207, s1_7, k1_7, k2_208, by decide +kernel⟩
abbrev M_cC_recover : JM := (cX1_recover, 2, RX1, none, 2, 45)
def cC_recover (b : Nat) (σ : CS) : Option (Unit × CS) :=
  (cT_lastRecord b 0 σ).bind fun a1 =>
  sw a1.1 [(3, 36,
    (cR_waitEnd b a1.2).bind fun a2 =>
    (cC_turnTo b 2 a2.1 a2.2).bind fun a3 =>
    (cR_send b 4 0 (cI a3.2 b 5) a3.2).bind fun a4 =>
    some ((), a4.2)), (4, 61,
    (cR_waitEnd b a1.2).bind fun a5 =>
    (cC_turnTo b 3 a5.1 a5.2).bind fun a6 =>
    (cR_send b 6 0 (cI a6.2 b 5) a6.2).bind fun a7 =>
    some ((), a7.2)), (5, 87,
    (cR_waitEnd b a1.2).bind fun a8 =>
    (cC_turnTo b 4 a8.1 a8.2).bind fun a9 =>
    (cR_send b 7 0 (cI a9.2 b 5) a9.2).bind fun a10 =>
    some ((), a10.2)), (6, 113,
    (cC_turnTo b 5 160 a1.2).bind fun a11 =>
    some ((), a11.2))] (
    (cC_decideAbort b a1.2).bind fun a12 =>
    some ((), a12.2))
theorem J_cC_recover {X : JX} {ad : Nat → Nat} {b : Nat} (hb : isR b) (σ : CS) : JO X M_cC_recover (QF X eV (wC ad (xZ X))) 0 [some (.ref (ad (b + 2))), some (.ref (ad b))] [] (wsC ad (xZ X) σ) (cC_recover b σ) := by
  unfold cC_recover
  refine JO.aloadn dX1_recover_0 rfl ?_
  refine JO.cui (C_cT_lastRecord hb (by decide) _) (rcvT0 hb) U_cT_lastRecord_C_C (decl_of k2_191 k2_192) k2_187 rfl rfl rfl (Nat.le_of_ble_eq_true rfl) dX1_recover_1 (fun a1 => ?_)
  refine JO.tsw [(3, 36, _), (4, 61, _), (5, 87, _), (6, 113, _)] 124 [(3, 36), (4, 61), (5, 87), (6, 113)] dX1_recover_4 rfl (by decide) rfl (by decide) (JO.swCons ?_ (JO.swCons ?_ (JO.swCons ?_ (JO.swCons ?_ (JO.swNil))))) ?_
  · refine JO.aloadn dX1_recover_36 rfl ?_
    refine JO.ic 2 dX1_recover_37 (by decide) ?_
    refine JO.aloadn dX1_recover_38 rfl ?_
    refine JO.cvi (C_cR_waitEnd hb _) (rcvR hb) K_cR_waitEnd k2_193 rfl rfl rfl (Nat.le_of_ble_eq_true rfl) dX1_recover_39 (fun a2 => ?_)
    refine JO.cvv (C_cC_turnTo hb _ _ _) (rcvT0 hb) K_cC_turnTo k2_197 rfl rfl rfl (Nat.le_of_ble_eq_true rfl) dX1_recover_42 (fun a3 => ?_)
    refine JO.aloadn dX1_recover_45 rfl ?_
    refine JO.ic 4 dX1_recover_46 (by decide) ?_
    refine JO.aloadn dX1_recover_47 rfl ?_
    refine gT0 (j := 0) hb (by decide) (Or.inr k1_121) k1_120 dX1_recover_48 ?_
    refine JO.aloadn dX1_recover_51 rfl ?_
    refine gR5 hb k1_188 dX1_recover_52 ?_
    refine JO.cvv (C_cR_send hb _ _ _ _) (rcvR hb) K_cR_send k2_201 rfl rfl rfl (Nat.le_of_ble_eq_true rfl) dX1_recover_55 (fun a4 => ?_)
    refine JO.goto 129 dX1_recover_58 rfl ?_
    exact JO.vret dX1_recover_129 rfl rfl rfl
  · refine JO.aloadn dX1_recover_61 rfl ?_
    refine JO.ic 3 dX1_recover_62 (by decide) ?_
    refine JO.aloadn dX1_recover_63 rfl ?_
    refine JO.cvi (C_cR_waitEnd hb _) (rcvR hb) K_cR_waitEnd k2_193 rfl rfl rfl (Nat.le_of_ble_eq_true rfl) dX1_recover_64 (fun a5 => ?_)
    refine JO.cvv (C_cC_turnTo hb _ _ _) (rcvT0 hb) K_cC_turnTo k2_197 rfl rfl rfl (Nat.le_of_ble_eq_true rfl) dX1_recover_67 (fun a6 => ?_)
    refine JO.aloadn dX1_recover_70 rfl ?_
    refine JO.bip 6 dX1_recover_71 (by decide) ?_
    refine JO.aloadn dX1_recover_73 rfl ?_
    refine gT0 (j := 0) hb (by decide) (Or.inr k1_121) k1_120 dX1_recover_74 ?_
    refine JO.aloadn dX1_recover_77 rfl ?_
    refine gR5 hb k1_188 dX1_recover_78 ?_
    refine JO.cvv (C_cR_send hb _ _ _ _) (rcvR hb) K_cR_send k2_201 rfl rfl rfl (Nat.le_of_ble_eq_true rfl) dX1_recover_81 (fun a7 => ?_)
    refine JO.goto 129 dX1_recover_84 rfl ?_
    exact JO.vret dX1_recover_129 rfl rfl rfl
  · refine JO.aloadn dX1_recover_87 rfl ?_
    refine JO.ic 4 dX1_recover_88 (by decide) ?_
    refine JO.aloadn dX1_recover_89 rfl ?_
    refine JO.cvi (C_cR_waitEnd hb _) (rcvR hb) K_cR_waitEnd k2_193 rfl rfl rfl (Nat.le_of_ble_eq_true rfl) dX1_recover_90 (fun a8 => ?_)
    refine JO.cvv (C_cC_turnTo hb _ _ _) (rcvT0 hb) K_cC_turnTo k2_197 rfl rfl rfl (Nat.le_of_ble_eq_true rfl) dX1_recover_93 (fun a9 => ?_)
    refine JO.aloadn dX1_recover_96 rfl ?_
    refine JO.bip 7 dX1_recover_97 (by decide) ?_
    refine JO.aloadn dX1_recover_99 rfl ?_
    refine gT0 (j := 0) hb (by decide) (Or.inr k1_121) k1_120 dX1_recover_100 ?_
    refine JO.aloadn dX1_recover_103 rfl ?_
    refine gR5 hb k1_188 dX1_recover_104 ?_
    refine JO.cvv (C_cR_send hb _ _ _ _) (rcvR hb) K_cR_send k2_201 rfl rfl rfl (Nat.le_of_ble_eq_true rfl) dX1_recover_107 (fun a10 => ?_)
    refine JO.goto 129 dX1_recover_110 rfl ?_
    exact JO.vret dX1_recover_129 rfl rfl rfl
  · refine JO.aloadn dX1_recover_113 rfl ?_
    refine JO.ic 5 dX1_recover_114 (by decide) ?_
    refine JO.sip 160 dX1_recover_115 (by decide) ?_
    refine JO.cvv (C_cC_turnTo hb _ _ _) (rcvT0 hb) K_cC_turnTo k2_197 rfl rfl rfl (Nat.le_of_ble_eq_true rfl) dX1_recover_118 (fun a11 => ?_)
    refine JO.goto 129 dX1_recover_121 rfl ?_
    exact JO.vret dX1_recover_129 rfl rfl rfl
  · refine JO.aloadn dX1_recover_124 rfl ?_
    refine JO.aloadn dX1_recover_125 rfl ?_
    refine JO.cvv (C_cC_decideAbort hb _) (rcvT0 hb) K_cC_decideAbort k2_205 rfl rfl rfl (Nat.le_of_ble_eq_true rfl) dX1_recover_126 (fun a12 => ?_)
    exact JO.vret dX1_recover_129 rfl rfl rfl
theorem C_cC_recover {ad : Nat → Nat} {b : Nat} {Z : ZT} (hb : isR b) (σ : CS) : CO yX1_recover M_cC_recover eV Z (wC ad Z) [.ref (ad (b + 2)), .ref (ad b)] (wsC ad Z σ) (cC_recover b σ) :=
  CO.of rfl rfl (Nat.le_of_ble_eq_true rfl) 0 (fun X hZ => by subst hZ; exact J_cC_recover hb σ)
theorem U_cC_recover_C_T : Ku "CommitPrefixes$Coordinator" "CommitPrefixes$Site" ⟨"CommitPrefixes$Site", "recover", "(LCommitPrefixes$Run;)V"⟩ yX1_recover M_cC_recover 1 := ⟨k2_183, k2_184, k2_185, k1_7, k2_186, by decide +kernel⟩
abbrev M_cC_allCounted : JM := (cX1_allCounted, 3, RX1, (some .boolean), 0, 0)
def cC_allCounted (b : Nat) (p2 : Int32) (σ : CS) : Option (Bool × CS) :=
  if cI (tI σ (b + 2) 6 (cI σ (b + 2) 6 ||| ((1 : Int32) <<< (p2 &&& 31)))) (b + 2) 6 = cI (tI σ (b + 2) 6 (cI σ (b + 2) 6 ||| ((1 : Int32) <<< (p2 &&& 31)))) b 5 then (
    some (true, tI σ (b + 2) 6 (cI σ (b + 2) 6 ||| ((1 : Int32) <<< (p2 &&& 31)))))
  else (
    some (false, tI σ (b + 2) 6 (cI σ (b + 2) 6 ||| ((1 : Int32) <<< (p2 &&& 31)))))
theorem J_cC_allCounted {X : JX} {ad : Nat → Nat} {b : Nat} (hb : isR b) (p2 : Int32) (σ : CS) : JO X M_cC_allCounted (QF X eZ (wC ad (xZ X))) 0 [some (.ref (ad (b + 2))), some (.ref (ad b)), some (.int p2)] [] (wsC ad (xZ X) σ) (cC_allCounted b p2 σ) := by
  unfold cC_allCounted
  refine JO.aloadn dX1_allCounted_0 rfl ?_
  refine JO.dup dX1_allCounted_1 rfl ?_
  refine gT6 hb k1_118 dX1_allCounted_2 ?_
  refine JO.ic 1 dX1_allCounted_5 (by decide) ?_
  refine JO.iloadn dX1_allCounted_6 rfl ?_
  refine JO.ishl dX1_allCounted_7 ?_
  refine JO.ior dX1_allCounted_8 ?_
  refine pT6 hb k1_118 dX1_allCounted_9 ?_
  refine JO.aloadn dX1_allCounted_12 rfl ?_
  refine gT6 hb k1_118 dX1_allCounted_13 ?_
  refine JO.aloadn dX1_allCounted_16 rfl ?_
  refine gR5 hb k1_188 dX1_allCounted_17 ?_
  refine JO.icmp_ne 27 dX1_allCounted_20 rfl ?_ ?_
  · refine JO.ic 0 dX1_allCounted_27 (by decide) ?_
    exact JO.zret (b := false) dX1_allCounted_28 rfl rfl rfl
  · refine JO.ic 1 dX1_allCounted_23 (by decide) ?_
    refine JO.goto 28 dX1_allCounted_24 rfl ?_
    exact JO.zret (b := true) dX1_allCounted_28 rfl rfl rfl
theorem C_cC_allCounted {ad : Nat → Nat} {b : Nat} {Z : ZT} (hb : isR b) (p2 : Int32) (σ : CS) : CO yX1_allCounted M_cC_allCounted eZ Z (wC ad Z) [.ref (ad (b + 2)), .ref (ad b), .int p2] (wsC ad Z σ) (cC_allCounted b p2 σ) :=
  CO.of rfl rfl (Nat.le_of_ble_eq_true rfl) 0 (fun X hZ => by subst hZ; exact J_cC_allCounted hb _ σ)
theorem K_cC_allCounted : Kv yX1_allCounted M_cC_allCounted RX1 2 := ⟨rfl, k3_17, s1_10, k1_7, k3_18, by decide +kernel⟩
abbrev M_cC_decideCommit : JM := (cX1_decideCommit, 2, RX1, none, 1, 24)
def cC_decideCommit (b : Nat) (σ : CS) : Option (Unit × CS) :=
  (cT_note b 0 4 σ).bind fun a1 =>
  (cR_waitEnd b a1.2).bind fun a2 =>
  (cC_turnTo b 3 a2.1 a2.2).bind fun a3 =>
  (cR_send b 6 0 (cI a3.2 b 5) a3.2).bind fun a4 =>
  some ((), a4.2)
theorem J_cC_decideCommit {X : JX} {ad : Nat → Nat} {b : Nat} (hb : isR b) (σ : CS) : JO X M_cC_decideCommit (QF X eV (wC ad (xZ X))) 0 [some (.ref (ad (b + 2))), some (.ref (ad b))] [] (wsC ad (xZ X) σ) (cC_decideCommit b σ) := by
  unfold cC_decideCommit
  refine JO.aloadn dX1_decideCommit_0 rfl ?_
  refine JO.ic 4 dX1_decideCommit_1 (by decide) ?_
  refine JO.cuv (C_cT_note hb (by decide) _ _) (rcvT0 hb) U_cT_note_C_C (decl_of k2_213 k2_214) k2_209 rfl rfl rfl (Nat.le_of_ble_eq_true rfl) dX1_decideCommit_2 (fun a1 => ?_)
  refine JO.aloadn dX1_decideCommit_5 rfl ?_
  refine JO.ic 3 dX1_decideCommit_6 (by decide) ?_
  refine JO.aloadn dX1_decideCommit_7 rfl ?_
  refine JO.cvi (C_cR_waitEnd hb _) (rcvR hb) K_cR_waitEnd k2_193 rfl rfl rfl (Nat.le_of_ble_eq_true rfl) dX1_decideCommit_8 (fun a2 => ?_)
  refine JO.cvv (C_cC_turnTo hb _ _ _) (rcvT0 hb) K_cC_turnTo k2_197 rfl rfl rfl (Nat.le_of_ble_eq_true rfl) dX1_decideCommit_11 (fun a3 => ?_)
  refine JO.aloadn dX1_decideCommit_14 rfl ?_
  refine JO.bip 6 dX1_decideCommit_15 (by decide) ?_
  refine JO.aloadn dX1_decideCommit_17 rfl ?_
  refine gT0 (j := 0) hb (by decide) (Or.inr k1_121) k1_120 dX1_decideCommit_18 ?_
  refine JO.aloadn dX1_decideCommit_21 rfl ?_
  refine gR5 hb k1_188 dX1_decideCommit_22 ?_
  refine JO.cvv (C_cR_send hb _ _ _ _) (rcvR hb) K_cR_send k2_201 rfl rfl rfl (Nat.le_of_ble_eq_true rfl) dX1_decideCommit_25 (fun a4 => ?_)
  exact JO.vret dX1_decideCommit_28 rfl rfl rfl
theorem C_cC_decideCommit {ad : Nat → Nat} {b : Nat} {Z : ZT} (hb : isR b) (σ : CS) : CO yX1_decideCommit M_cC_decideCommit eV Z (wC ad Z) [.ref (ad (b + 2)), .ref (ad b)] (wsC ad Z σ) (cC_decideCommit b σ) :=
  CO.of rfl rfl (Nat.le_of_ble_eq_true rfl) 0 (fun X hZ => by subst hZ; exact J_cC_decideCommit hb σ)
theorem K_cC_decideCommit : Kv yX1_decideCommit M_cC_decideCommit RX1 1 := ⟨rfl, k3_21, s1_11, k1_7, k3_22, by decide +kernel⟩
abbrev M_cC_preCommit : JM := (cX1_preCommit, 2, RX1, none, 1, 24)
def cC_preCommit (b : Nat) (σ : CS) : Option (Unit × CS) :=
  (cT_note b 0 3 σ).bind fun a1 =>
  (cR_waitEnd b a1.2).bind fun a2 =>
  (cC_turnTo b 2 a2.1 a2.2).bind fun a3 =>
  (cR_send b 4 0 (cI a3.2 b 5) a3.2).bind fun a4 =>
  some ((), a4.2)
theorem J_cC_preCommit {X : JX} {ad : Nat → Nat} {b : Nat} (hb : isR b) (σ : CS) : JO X M_cC_preCommit (QF X eV (wC ad (xZ X))) 0 [some (.ref (ad (b + 2))), some (.ref (ad b))] [] (wsC ad (xZ X) σ) (cC_preCommit b σ) := by
  unfold cC_preCommit
  refine JO.aloadn dX1_preCommit_0 rfl ?_
  refine JO.ic 3 dX1_preCommit_1 (by decide) ?_
  refine JO.cuv (C_cT_note hb (by decide) _ _) (rcvT0 hb) U_cT_note_C_C (decl_of k2_213 k2_214) k2_209 rfl rfl rfl (Nat.le_of_ble_eq_true rfl) dX1_preCommit_2 (fun a1 => ?_)
  refine JO.aloadn dX1_preCommit_5 rfl ?_
  refine JO.ic 2 dX1_preCommit_6 (by decide) ?_
  refine JO.aloadn dX1_preCommit_7 rfl ?_
  refine JO.cvi (C_cR_waitEnd hb _) (rcvR hb) K_cR_waitEnd k2_193 rfl rfl rfl (Nat.le_of_ble_eq_true rfl) dX1_preCommit_8 (fun a2 => ?_)
  refine JO.cvv (C_cC_turnTo hb _ _ _) (rcvT0 hb) K_cC_turnTo k2_197 rfl rfl rfl (Nat.le_of_ble_eq_true rfl) dX1_preCommit_11 (fun a3 => ?_)
  refine JO.aloadn dX1_preCommit_14 rfl ?_
  refine JO.ic 4 dX1_preCommit_15 (by decide) ?_
  refine JO.aloadn dX1_preCommit_16 rfl ?_
  refine gT0 (j := 0) hb (by decide) (Or.inr k1_121) k1_120 dX1_preCommit_17 ?_
  refine JO.aloadn dX1_preCommit_20 rfl ?_
  refine gR5 hb k1_188 dX1_preCommit_21 ?_
  refine JO.cvv (C_cR_send hb _ _ _ _) (rcvR hb) K_cR_send k2_201 rfl rfl rfl (Nat.le_of_ble_eq_true rfl) dX1_preCommit_24 (fun a4 => ?_)
  exact JO.vret dX1_preCommit_27 rfl rfl rfl
theorem C_cC_preCommit {ad : Nat → Nat} {b : Nat} {Z : ZT} (hb : isR b) (σ : CS) : CO yX1_preCommit M_cC_preCommit eV Z (wC ad Z) [.ref (ad (b + 2)), .ref (ad b)] (wsC ad Z σ) (cC_preCommit b σ) :=
  CO.of rfl rfl (Nat.le_of_ble_eq_true rfl) 0 (fun X hZ => by subst hZ; exact J_cC_preCommit hb σ)
theorem K_cC_preCommit : Kv yX1_preCommit M_cC_preCommit RX1 1 := ⟨rfl, k3_25, s1_12, k1_7, k3_26, by decide +kernel⟩
abbrev M_cC_tellsDecision : JM := (cX1_tellsDecision, 1, RX1, (some .boolean), 0, 0)
def cC_tellsDecision (b : Nat) (σ : CS) : Option (Bool × CS) :=
  if cI σ (b + 2) 4 = 3 then (
    some (true, σ))
  else (
    if cI σ (b + 2) 4 = 4 then (
      some (true, σ))
    else (
      some (false, σ)))
theorem J_cC_tellsDecision {X : JX} {ad : Nat → Nat} {b : Nat} (hb : isR b) (σ : CS) : JO X M_cC_tellsDecision (QF X eZ (wC ad (xZ X))) 0 [some (.ref (ad (b + 2)))] [] (wsC ad (xZ X) σ) (cC_tellsDecision b σ) := by
  unfold cC_tellsDecision
  refine JO.aloadn dX1_tellsDecision_0 rfl ?_
  refine gT4 (j := 0) hb (by decide) (Or.inr k1_139) k1_138 dX1_tellsDecision_1 ?_
  refine JO.ic 3 dX1_tellsDecision_4 (by decide) ?_
  refine JO.icmp_eq 16 dX1_tellsDecision_5 rfl ?_ ?_
  · refine JO.ic 1 dX1_tellsDecision_16 (by decide) ?_
    refine JO.goto 21 dX1_tellsDecision_17 rfl ?_
    exact JO.zret (b := true) dX1_tellsDecision_21 rfl rfl rfl
  · refine JO.aloadn dX1_tellsDecision_8 rfl ?_
    refine gT4 (j := 0) hb (by decide) (Or.inr k1_139) k1_138 dX1_tellsDecision_9 ?_
    refine JO.ic 4 dX1_tellsDecision_12 (by decide) ?_
    refine JO.icmp_ne 20 dX1_tellsDecision_13 rfl ?_ ?_
    · refine JO.ic 0 dX1_tellsDecision_20 (by decide) ?_
      exact JO.zret (b := false) dX1_tellsDecision_21 rfl rfl rfl
    · refine JO.ic 1 dX1_tellsDecision_16 (by decide) ?_
      refine JO.goto 21 dX1_tellsDecision_17 rfl ?_
      exact JO.zret (b := true) dX1_tellsDecision_21 rfl rfl rfl
theorem C_cC_tellsDecision {ad : Nat → Nat} {b : Nat} {Z : ZT} (hb : isR b) (σ : CS) : CO yX1_tellsDecision M_cC_tellsDecision eZ Z (wC ad Z) [.ref (ad (b + 2))] (wsC ad Z σ) (cC_tellsDecision b σ) :=
  CO.of rfl rfl (Nat.le_of_ble_eq_true rfl) 0 (fun X hZ => by subst hZ; exact J_cC_tellsDecision hb σ)
theorem K_cC_tellsDecision : Kv yX1_tellsDecision M_cC_tellsDecision RX1 0 := ⟨rfl, k3_29, s1_13, k1_7, k3_30, by decide +kernel⟩
abbrev M_cT_hasNoted : JM := (cX7_hasNoted, 4, RX7, (some .boolean), 0, 0)
def cT_hasNoted_l2 (b : Nat) (j : Nat) : Nat → Int32 → Int32 → Int32 → CS → Option (Bool × CS)
  | 0, _, _, _, _ => none
  | n + 1, x1, x2, x3, σ =>
    if x2 ≤ x3 then (
      some (false, σ))
    else (
      if 8 ≤ x3 then (
        some (false, σ))
      else (
        if inB x3 8 = true then
        if cA σ (b + 8 + j) (ix x3) = x1 then (
          some (true, σ))
        else (
          cT_hasNoted_l2 b j n x1 x2 (x3 + 1) σ)
        else none))
def cT_hasNoted (b : Nat) (j : Nat) (p1 : Int32) (p2 : Int32) (σ : CS) : Option (Bool × CS) :=
  cT_hasNoted_l2 b j 4096 p1 p2 0 σ
theorem J_cT_hasNoted_l2 {X : JX} {ad : Nat → Nat} {b : Nat} {j : Nat} (hb : isR b) (hj : j < 6) : ∀ (n : Nat) (x1 : Int32) (x2 : Int32) (x3 : Int32) (σ : CS), JO X M_cT_hasNoted (QF X eZ (wC ad (xZ X))) 2 [some (.ref (ad (b + 2 + j))), some (.int x1), some (.int x2), some (.int x3)] [] (wsC ad (xZ X) σ) (cT_hasNoted_l2 b j n x1 x2 x3 σ) := by
  intro n
  induction n with
  | zero => intro x1 x2 x3 σ; exact JO.nil
  | succ n ih =>
    intro x1 x2 x3 σ
    unfold cT_hasNoted_l2
    refine JO.iloadn dX7_hasNoted_2 rfl ?_
    refine JO.iloadn dX7_hasNoted_3 rfl ?_
    refine JO.icmp_ge 31 dX7_hasNoted_4 rfl ?_ ?_
    · refine JO.ic 0 dX7_hasNoted_31 (by decide) ?_
      exact JO.zret (b := false) dX7_hasNoted_32 rfl rfl rfl
    · refine JO.iloadn dX7_hasNoted_7 rfl ?_
      refine JO.bip 8 dX7_hasNoted_8 (by decide) ?_
      refine JO.icmp_ge 31 dX7_hasNoted_10 rfl ?_ ?_
      · refine JO.ic 0 dX7_hasNoted_31 (by decide) ?_
        exact JO.zret (b := false) dX7_hasNoted_32 rfl rfl rfl
      · refine JO.aloadn dX7_hasNoted_13 rfl ?_
        refine gT1 (j := j) hb hj (Or.inl rfl) k1_124 dX7_hasNoted_14 ?_
        refine JO.iloadn dX7_hasNoted_17 rfl ?_
        refine JO.aC (i_log hb (j := j) hj) dX7_hasNoted_18 ?_
        refine JO.iloadn dX7_hasNoted_19 rfl ?_
        refine JO.icmp_ne 25 dX7_hasNoted_20 rfl ?_ ?_
        · refine JO.iinc dX7_hasNoted_25 rfl 1 (by decide) rfl rfl ?_
          refine JO.goto 2 dX7_hasNoted_28 rfl ?_
          exact (ih _ _ _ _).jump (lvLe.so rfl (lvLe.so rfl (lvLe.so rfl (lvLe.so rfl (lvLe.nil)))))
        · refine JO.ic 1 dX7_hasNoted_23 (by decide) ?_
          exact JO.zret (b := true) dX7_hasNoted_24 rfl rfl rfl
theorem J_cT_hasNoted {X : JX} {ad : Nat → Nat} {b : Nat} {j : Nat} (hb : isR b) (hj : j < 6) (p1 : Int32) (p2 : Int32) (σ : CS) : JO X M_cT_hasNoted (QF X eZ (wC ad (xZ X))) 0 [some (.ref (ad (b + 2 + j))), some (.int p1), some (.int p2), none] [] (wsC ad (xZ X) σ) (cT_hasNoted b j p1 p2 σ) := by
  unfold cT_hasNoted
  refine JO.ic 0 dX7_hasNoted_0 (by decide) ?_
  refine JO.istoren dX7_hasNoted_1 rfl rfl ?_
  exact (J_cT_hasNoted_l2 hb hj 4096 _ _ _ _).jump (lvLe.so rfl (lvLe.so rfl (lvLe.so rfl (lvLe.so rfl (lvLe.nil)))))
theorem C_cT_hasNoted {ad : Nat → Nat} {b : Nat} {j : Nat} {Z : ZT} (hb : isR b) (hj : j < 6) (p1 : Int32) (p2 : Int32) (σ : CS) : CO yX7_hasNoted M_cT_hasNoted eZ Z (wC ad Z) [.ref (ad (b + 2 + j)), .int p1, .int p2] (wsC ad Z σ) (cT_hasNoted b j p1 p2 σ) :=
  CO.of rfl rfl (Nat.le_of_ble_eq_true rfl) 1 (fun X hZ => by subst hZ; exact J_cT_hasNoted hb hj _ _ σ)
theorem U_cT_hasNoted_C_C : Ku "CommitPrefixes$Coordinator" "CommitPrefixes$Site" ⟨"CommitPrefixes$Coordinator", "hasNoted", "(II)Z"⟩ yX7_hasNoted M_cT_hasNoted 2 := ⟨k3_36, k3_38, k3_39, k1_6, k3_40, by decide +kernel⟩
theorem U_cT_hasNoted_C_T : Ku "CommitPrefixes$Coordinator" "CommitPrefixes$Site" ⟨"CommitPrefixes$Site", "hasNoted", "(II)Z"⟩ yX7_hasNoted M_cT_hasNoted 2 := ⟨k7_40, k7_41, k3_39, k1_6, k3_40, by decide +kernel⟩
theorem U_cT_hasNoted_A_T : Ku "CommitPrefixes$Participant" "CommitPrefixes$Site" ⟨"CommitPrefixes$Site", "hasNoted", "(II)Z"⟩ yX7_hasNoted M_cT_hasNoted 2 := ⟨k7_40, k7_42, k3_39, k1_6, k3_40, by decide +kernel⟩
abbrev M_cC_decision : JM := (cX1_decision, 1, RX1, (some .int), 1, 23)
def cC_decision (b : Nat) (σ : CS) : Option (Int32 × CS) :=
  (cT_hasNoted b 0 4 (cI σ (b + 2) 2) σ).bind fun a1 =>
  if a1.1 = true then (
    some (6, a1.2))
  else (
    some (7, a1.2))
theorem J_cC_decision {X : JX} {ad : Nat → Nat} {b : Nat} (hb : isR b) (σ : CS) : JO X M_cC_decision (QF X eI (wC ad (xZ X))) 0 [some (.ref (ad (b + 2)))] [] (wsC ad (xZ X) σ) (cC_decision b σ) := by
  unfold cC_decision
  refine JO.aloadn dX1_decision_0 rfl ?_
  refine JO.ic 4 dX1_decision_1 (by decide) ?_
  refine JO.aloadn dX1_decision_2 rfl ?_
  refine gT2 (j := 0) hb (by decide) (Or.inr k1_129) k1_128 dX1_decision_3 ?_
  refine JO.cuz (C_cT_hasNoted hb (by decide) _ _ _) (rcvT0 hb) U_cT_hasNoted_C_C (decl_of k3_39 k3_40) k3_35 rfl rfl rfl (Nat.le_of_ble_eq_true rfl) dX1_decision_6 (fun a1 => ?_)
  refine JO.zeq 17 dX1_decision_9 rfl ?_ ?_
  · refine JO.bip 7 dX1_decision_17 (by decide) ?_
    exact JO.iret dX1_decision_19 rfl rfl rfl
  · refine JO.bip 6 dX1_decision_12 (by decide) ?_
    refine JO.goto 19 dX1_decision_14 rfl ?_
    exact JO.iret dX1_decision_19 rfl rfl rfl
theorem C_cC_decision {ad : Nat → Nat} {b : Nat} {Z : ZT} (hb : isR b) (σ : CS) : CO yX1_decision M_cC_decision eI Z (wC ad Z) [.ref (ad (b + 2))] (wsC ad Z σ) (cC_decision b σ) :=
  CO.of rfl rfl (Nat.le_of_ble_eq_true rfl) 0 (fun X hZ => by subst hZ; exact J_cC_decision hb σ)
theorem K_cC_decision : Kv yX1_decision M_cC_decision RX1 0 := ⟨rfl, k3_33, s1_14, k1_7, k3_34, by decide +kernel⟩
abbrev M_cC_receive : JM := (cX1_receive, 4, RX1, none, 2, 45)
def cC_receive_b181 (b : Nat) (x3 : Int32) (σ : CS) : Option (Unit × CS) :=
  (cC_decision b σ).bind fun a1 =>
  (cR_send b a1.1 0 ((1 : Int32) <<< (x3 &&& 31)) a1.2).bind fun a2 =>
  some ((), a2.2)
def cC_receive (b : Nat) (p2 : Int32) (p3 : Int32) (σ : CS) : Option (Unit × CS) :=
  sw p2 [(2, 48,
    if cI σ (b + 2) 4 = 1 then (
      (cC_allCounted b p3 σ).bind fun a1 =>
      if a1.1 = true then (
        if cI a1.2 3 1 = 2 then (
          (cC_decideCommit b a1.2).bind fun a3 =>
          some ((), a3.2))
        else (
          (cC_preCommit b a1.2).bind fun a2 =>
          some ((), a2.2)))
      else (
        some ((), a1.2)))
    else (
      some ((), σ))), (3, 92,
    if cI σ (b + 2) 4 = 1 then (
      (cC_decideAbort b σ).bind fun a4 =>
      some ((), a4.2))
    else (
      some ((), σ))), (5, 108,
    if cI σ (b + 2) 4 = 2 then (
      (cC_allCounted b p3 σ).bind fun a5 =>
      if a5.1 = true then (
        (cC_decideCommit b a5.2).bind fun a6 =>
        some ((), a6.2))
      else (
        some ((), a5.2)))
    else (
      some ((), σ))), (8, 133,
    (cC_tellsDecision b σ).bind fun a7 =>
    if a7.1 = true then (
      (cC_allCounted b p3 a7.2).bind fun a8 =>
      if a8.1 = true then (
        (cT_note b 0 6 a8.2).bind fun a9 =>
        (cC_turnTo b 5 160 a9.2).bind fun a10 =>
        some ((), a10.2))
      else (
        some ((), a8.2)))
    else (
      some ((), a7.2))), (9, 166,
    (cC_tellsDecision b σ).bind fun a11 =>
    if a11.1 = true then (
      cC_receive_b181 b p3 a11.2)
    else (
      if cI a11.2 (b + 2) 4 = 5 then (
        cC_receive_b181 b p3 a11.2)
      else (
        some ((), a11.2))))] (
    some ((), σ))
theorem J_cC_receive_b181 {X : JX} {ad : Nat → Nat} {b : Nat} (hb : isR b) (x3 : Int32) (σ : CS) : JO X M_cC_receive (QF X eV (wC ad (xZ X))) 181 [some (.ref (ad (b + 2))), some (.ref (ad b)), none, some (.int x3)] [] (wsC ad (xZ X) σ) (cC_receive_b181 b x3 σ) := by
  unfold cC_receive_b181
  refine JO.aloadn dX1_receive_181 rfl ?_
  refine JO.aloadn dX1_receive_182 rfl ?_
  refine JO.cvi (C_cC_decision hb _) (rcvT0 hb) K_cC_decision k3_31 rfl rfl rfl (Nat.le_of_ble_eq_true rfl) dX1_receive_183 (fun a1 => ?_)
  refine JO.aloadn dX1_receive_186 rfl ?_
  refine gT0 (j := 0) hb (by decide) (Or.inr k1_121) k1_120 dX1_receive_187 ?_
  refine JO.ic 1 dX1_receive_190 (by decide) ?_
  refine JO.iloadn dX1_receive_191 rfl ?_
  refine JO.ishl dX1_receive_192 ?_
  refine JO.cvv (C_cR_send hb _ _ _ _) (rcvR hb) K_cR_send k2_201 rfl rfl rfl (Nat.le_of_ble_eq_true rfl) dX1_receive_193 (fun a2 => ?_)
  refine JO.goto 199 dX1_receive_196 rfl ?_
  exact JO.vret dX1_receive_199 rfl rfl rfl
theorem J_cC_receive {X : JX} {ad : Nat → Nat} {b : Nat} (hb : isR b) (p2 : Int32) (p3 : Int32) (σ : CS) : JO X M_cC_receive (QF X eV (wC ad (xZ X))) 0 [some (.ref (ad (b + 2))), some (.ref (ad b)), some (.int p2), some (.int p3)] [] (wsC ad (xZ X) σ) (cC_receive b p2 p3 σ) := by
  unfold cC_receive
  refine JO.iloadn dX1_receive_0 rfl ?_
  refine JO.tsw [(2, 48, _), (3, 92, _), (5, 108, _), (8, 133, _), (9, 166, _)] 199 [(2, 48), (3, 92), (5, 108), (8, 133), (9, 166)] dX1_receive_1 rfl (by decide) rfl (by decide) (JO.swCons ?_ (JO.swCons ?_ (JO.swCons ?_ (JO.swCons ?_ (JO.swCons ?_ (JO.swNil)))))) ?_
  · refine JO.aloadn dX1_receive_48 rfl ?_
    refine gT4 (j := 0) hb (by decide) (Or.inr k1_139) k1_138 dX1_receive_49 ?_
    refine JO.ic 1 dX1_receive_52 (by decide) ?_
    refine JO.icmp_ne 199 dX1_receive_53 rfl ?_ ?_
    · exact JO.vret dX1_receive_199 rfl rfl rfl
    · refine JO.aloadn dX1_receive_56 rfl ?_
      refine JO.aloadn dX1_receive_57 rfl ?_
      refine JO.iloadn dX1_receive_58 rfl ?_
      refine JO.cvz (C_cC_allCounted hb _ _) (rcvT0 hb) K_cC_allCounted k3_15 rfl rfl rfl (Nat.le_of_ble_eq_true rfl) dX1_receive_59 (fun a1 => ?_)
      refine JO.zeq 199 dX1_receive_62 rfl ?_ ?_
      · exact JO.vret dX1_receive_199 rfl rfl rfl
      · refine JO.aloadn dX1_receive_65 rfl ?_
        refine gR0 hb k1_179 dX1_receive_66 ?_
        refine gS1 isS3 k1_45 dX1_receive_69 ?_
        refine JO.ic 2 dX1_receive_72 (by decide) ?_
        refine JO.icmp_ne 84 dX1_receive_73 rfl ?_ ?_
        · refine JO.aloadn dX1_receive_84 rfl ?_
          refine JO.aloadn dX1_receive_85 rfl ?_
          refine JO.cvv (C_cC_preCommit hb _) (rcvT0 hb) K_cC_preCommit k3_23 rfl rfl rfl (Nat.le_of_ble_eq_true rfl) dX1_receive_86 (fun a2 => ?_)
          refine JO.goto 199 dX1_receive_89 rfl ?_
          exact JO.vret dX1_receive_199 rfl rfl rfl
        · refine JO.aloadn dX1_receive_76 rfl ?_
          refine JO.aloadn dX1_receive_77 rfl ?_
          refine JO.cvv (C_cC_decideCommit hb _) (rcvT0 hb) K_cC_decideCommit k3_19 rfl rfl rfl (Nat.le_of_ble_eq_true rfl) dX1_receive_78 (fun a3 => ?_)
          refine JO.goto 199 dX1_receive_81 rfl ?_
          exact JO.vret dX1_receive_199 rfl rfl rfl
  · refine JO.aloadn dX1_receive_92 rfl ?_
    refine gT4 (j := 0) hb (by decide) (Or.inr k1_139) k1_138 dX1_receive_93 ?_
    refine JO.ic 1 dX1_receive_96 (by decide) ?_
    refine JO.icmp_ne 199 dX1_receive_97 rfl ?_ ?_
    · exact JO.vret dX1_receive_199 rfl rfl rfl
    · refine JO.aloadn dX1_receive_100 rfl ?_
      refine JO.aloadn dX1_receive_101 rfl ?_
      refine JO.cvv (C_cC_decideAbort hb _) (rcvT0 hb) K_cC_decideAbort k2_205 rfl rfl rfl (Nat.le_of_ble_eq_true rfl) dX1_receive_102 (fun a4 => ?_)
      refine JO.goto 199 dX1_receive_105 rfl ?_
      exact JO.vret dX1_receive_199 rfl rfl rfl
  · refine JO.aloadn dX1_receive_108 rfl ?_
    refine gT4 (j := 0) hb (by decide) (Or.inr k1_139) k1_138 dX1_receive_109 ?_
    refine JO.ic 2 dX1_receive_112 (by decide) ?_
    refine JO.icmp_ne 199 dX1_receive_113 rfl ?_ ?_
    · exact JO.vret dX1_receive_199 rfl rfl rfl
    · refine JO.aloadn dX1_receive_116 rfl ?_
      refine JO.aloadn dX1_receive_117 rfl ?_
      refine JO.iloadn dX1_receive_118 rfl ?_
      refine JO.cvz (C_cC_allCounted hb _ _) (rcvT0 hb) K_cC_allCounted k3_15 rfl rfl rfl (Nat.le_of_ble_eq_true rfl) dX1_receive_119 (fun a5 => ?_)
      refine JO.zeq 199 dX1_receive_122 rfl ?_ ?_
      · exact JO.vret dX1_receive_199 rfl rfl rfl
      · refine JO.aloadn dX1_receive_125 rfl ?_
        refine JO.aloadn dX1_receive_126 rfl ?_
        refine JO.cvv (C_cC_decideCommit hb _) (rcvT0 hb) K_cC_decideCommit k3_19 rfl rfl rfl (Nat.le_of_ble_eq_true rfl) dX1_receive_127 (fun a6 => ?_)
        refine JO.goto 199 dX1_receive_130 rfl ?_
        exact JO.vret dX1_receive_199 rfl rfl rfl
  · refine JO.aloadn dX1_receive_133 rfl ?_
    refine JO.cvz (C_cC_tellsDecision hb _) (rcvT0 hb) K_cC_tellsDecision k3_27 rfl rfl rfl (Nat.le_of_ble_eq_true rfl) dX1_receive_134 (fun a7 => ?_)
    refine JO.zeq 199 dX1_receive_137 rfl ?_ ?_
    · exact JO.vret dX1_receive_199 rfl rfl rfl
    · refine JO.aloadn dX1_receive_140 rfl ?_
      refine JO.aloadn dX1_receive_141 rfl ?_
      refine JO.iloadn dX1_receive_142 rfl ?_
      refine JO.cvz (C_cC_allCounted hb _ _) (rcvT0 hb) K_cC_allCounted k3_15 rfl rfl rfl (Nat.le_of_ble_eq_true rfl) dX1_receive_143 (fun a8 => ?_)
      refine JO.zeq 199 dX1_receive_146 rfl ?_ ?_
      · exact JO.vret dX1_receive_199 rfl rfl rfl
      · refine JO.aloadn dX1_receive_149 rfl ?_
        refine JO.bip 6 dX1_receive_150 (by decide) ?_
        refine JO.cuv (C_cT_note hb (by decide) _ _) (rcvT0 hb) U_cT_note_C_C (decl_of k2_213 k2_214) k2_209 rfl rfl rfl (Nat.le_of_ble_eq_true rfl) dX1_receive_152 (fun a9 => ?_)
        refine JO.aloadn dX1_receive_155 rfl ?_
        refine JO.ic 5 dX1_receive_156 (by decide) ?_
        refine JO.sip 160 dX1_receive_157 (by decide) ?_
        refine JO.cvv (C_cC_turnTo hb _ _ _) (rcvT0 hb) K_cC_turnTo k2_197 rfl rfl rfl (Nat.le_of_ble_eq_true rfl) dX1_receive_160 (fun a10 => ?_)
        refine JO.goto 199 dX1_receive_163 rfl ?_
        exact JO.vret dX1_receive_199 rfl rfl rfl
  · refine JO.aloadn dX1_receive_166 rfl ?_
    refine JO.cvz (C_cC_tellsDecision hb _) (rcvT0 hb) K_cC_tellsDecision k3_27 rfl rfl rfl (Nat.le_of_ble_eq_true rfl) dX1_receive_167 (fun a11 => ?_)
    refine JO.zne 181 dX1_receive_170 rfl ?_ ?_
    · exact (J_cC_receive_b181 hb _ _).jump (lvLe.so rfl (lvLe.so rfl (lvLe.no (lvLe.so rfl (lvLe.nil)))))
    · refine JO.aloadn dX1_receive_173 rfl ?_
      refine gT4 (j := 0) hb (by decide) (Or.inr k1_139) k1_138 dX1_receive_174 ?_
      refine JO.ic 5 dX1_receive_177 (by decide) ?_
      refine JO.icmp_ne 199 dX1_receive_178 rfl ?_ ?_
      · exact JO.vret dX1_receive_199 rfl rfl rfl
      · exact (J_cC_receive_b181 hb _ _).jump (lvLe.so rfl (lvLe.so rfl (lvLe.no (lvLe.so rfl (lvLe.nil)))))
  · exact JO.vret dX1_receive_199 rfl rfl rfl
theorem C_cC_receive {ad : Nat → Nat} {b : Nat} {Z : ZT} (hb : isR b) (p2 : Int32) (p3 : Int32) (σ : CS) : CO yX1_receive M_cC_receive eV Z (wC ad Z) [.ref (ad (b + 2)), .ref (ad b), .int p2, .int p3] (wsC ad Z σ) (cC_receive b p2 p3 σ) :=
  CO.of rfl rfl (Nat.le_of_ble_eq_true rfl) 0 (fun X hZ => by subst hZ; exact J_cC_receive hb _ _ σ)
theorem U_cC_receive_C_T : Ku "CommitPrefixes$Coordinator" "CommitPrefixes$Site" ⟨"CommitPrefixes$Site", "receive", "(LCommitPrefixes$Run;II)V"⟩ yX1_receive M_cC_receive 3 := ⟨k3_11, k3_12, k3_13, k1_7, k3_14, by decide +kernel⟩
abbrev M_cC_timeOut : JM := (cX1_timeOut, 2, RX1, none, 2, 45)
def cC_timeOut_b52 (b : Nat) (σ : CS) : Option (Unit × CS) :=
  (cR_waitEnd b σ).bind fun a1 =>
  (cC_decision b (tI a1.2 (b + 2) 5 a1.1)).bind fun a2 =>
  (cR_send b a2.1 0 (cI a2.2 b 5 &&& (cI a2.2 (b + 2) 6 ^^^ (-1))) a2.2).bind fun a3 =>
  some ((), a3.2)
def cC_timeOut (b : Nat) (σ : CS) : Option (Unit × CS) :=
  sw (cI σ (b + 2) 4) [(1, 36,
    (cC_decideAbort b σ).bind fun a1 =>
    some ((), a1.2)), (2, 44,
    (cC_decideCommit b σ).bind fun a2 =>
    some ((), a2.2)), (3, 52,
    cC_timeOut_b52 b σ), (4, 52,
    cC_timeOut_b52 b σ)] (
    some ((), σ))
theorem J_cC_timeOut_b52 {X : JX} {ad : Nat → Nat} {b : Nat} (hb : isR b) (σ : CS) : JO X M_cC_timeOut (QF X eV (wC ad (xZ X))) 52 [some (.ref (ad (b + 2))), some (.ref (ad b))] [] (wsC ad (xZ X) σ) (cC_timeOut_b52 b σ) := by
  unfold cC_timeOut_b52
  refine JO.aloadn dX1_timeOut_52 rfl ?_
  refine JO.aloadn dX1_timeOut_53 rfl ?_
  refine JO.cvi (C_cR_waitEnd hb _) (rcvR hb) K_cR_waitEnd k2_193 rfl rfl rfl (Nat.le_of_ble_eq_true rfl) dX1_timeOut_54 (fun a1 => ?_)
  refine pT5 (j := 0) hb (by decide) (Or.inr k1_146) k1_145 dX1_timeOut_57 ?_
  refine JO.aloadn dX1_timeOut_60 rfl ?_
  refine JO.aloadn dX1_timeOut_61 rfl ?_
  refine JO.cvi (C_cC_decision hb _) (rcvT0 hb) K_cC_decision k3_31 rfl rfl rfl (Nat.le_of_ble_eq_true rfl) dX1_timeOut_62 (fun a2 => ?_)
  refine JO.aloadn dX1_timeOut_65 rfl ?_
  refine gT0 (j := 0) hb (by decide) (Or.inr k1_121) k1_120 dX1_timeOut_66 ?_
  refine JO.aloadn dX1_timeOut_69 rfl ?_
  refine gR5 hb k1_188 dX1_timeOut_70 ?_
  refine JO.aloadn dX1_timeOut_73 rfl ?_
  refine gT6 hb k1_118 dX1_timeOut_74 ?_
  refine JO.ic (-1) dX1_timeOut_77 (by decide) ?_
  refine JO.ixor dX1_timeOut_78 ?_
  refine JO.iand dX1_timeOut_79 ?_
  refine JO.cvv (C_cR_send hb _ _ _ _) (rcvR hb) K_cR_send k2_201 rfl rfl rfl (Nat.le_of_ble_eq_true rfl) dX1_timeOut_80 (fun a3 => ?_)
  refine JO.goto 86 dX1_timeOut_83 rfl ?_
  exact JO.vret dX1_timeOut_86 rfl rfl rfl
theorem J_cC_timeOut {X : JX} {ad : Nat → Nat} {b : Nat} (hb : isR b) (σ : CS) : JO X M_cC_timeOut (QF X eV (wC ad (xZ X))) 0 [some (.ref (ad (b + 2))), some (.ref (ad b))] [] (wsC ad (xZ X) σ) (cC_timeOut b σ) := by
  unfold cC_timeOut
  refine JO.aloadn dX1_timeOut_0 rfl ?_
  refine gT4 (j := 0) hb (by decide) (Or.inr k1_139) k1_138 dX1_timeOut_1 ?_
  refine JO.tsw [(1, 36, _), (2, 44, _), (3, 52, _), (4, 52, _)] 86 [(1, 36), (2, 44), (3, 52), (4, 52)] dX1_timeOut_4 rfl (by decide) rfl (by decide) (JO.swCons ?_ (JO.swCons ?_ (JO.swCons ?_ (JO.swCons ?_ (JO.swNil))))) ?_
  · refine JO.aloadn dX1_timeOut_36 rfl ?_
    refine JO.aloadn dX1_timeOut_37 rfl ?_
    refine JO.cvv (C_cC_decideAbort hb _) (rcvT0 hb) K_cC_decideAbort k2_205 rfl rfl rfl (Nat.le_of_ble_eq_true rfl) dX1_timeOut_38 (fun a1 => ?_)
    refine JO.goto 86 dX1_timeOut_41 rfl ?_
    exact JO.vret dX1_timeOut_86 rfl rfl rfl
  · refine JO.aloadn dX1_timeOut_44 rfl ?_
    refine JO.aloadn dX1_timeOut_45 rfl ?_
    refine JO.cvv (C_cC_decideCommit hb _) (rcvT0 hb) K_cC_decideCommit k3_19 rfl rfl rfl (Nat.le_of_ble_eq_true rfl) dX1_timeOut_46 (fun a2 => ?_)
    refine JO.goto 86 dX1_timeOut_49 rfl ?_
    exact JO.vret dX1_timeOut_86 rfl rfl rfl
  · exact (J_cC_timeOut_b52 hb _).jump (lvLe.so rfl (lvLe.so rfl (lvLe.nil)))
  · exact (J_cC_timeOut_b52 hb _).jump (lvLe.so rfl (lvLe.so rfl (lvLe.nil)))
  · exact JO.vret dX1_timeOut_86 rfl rfl rfl
theorem C_cC_timeOut {ad : Nat → Nat} {b : Nat} {Z : ZT} (hb : isR b) (σ : CS) : CO yX1_timeOut M_cC_timeOut eV Z (wC ad Z) [.ref (ad (b + 2)), .ref (ad b)] (wsC ad Z σ) (cC_timeOut b σ) :=
  CO.of rfl rfl (Nat.le_of_ble_eq_true rfl) 0 (fun X hZ => by subst hZ; exact J_cC_timeOut hb σ)
theorem U_cC_timeOut_C_T : Ku "CommitPrefixes$Coordinator" "CommitPrefixes$Site" ⟨"CommitPrefixes$Site", "timeOut", "(LCommitPrefixes$Run;)V"⟩ yX1_timeOut M_cC_timeOut 1 := ⟨k3_75, k3_76, k3_77, k1_7, k3_78, by decide +kernel⟩
abbrev M_cA_stateBehind : JM := (cX3_stateBehind, 1, RX3, (some .int), 0, 0)
def cA_stateBehind (p1 : Int32) (σ : CS) : Option (Int32 × CS) :=
  sw p1 [(2, 28,
    some (1, σ)), (3, 30,
    some (2, σ)), (4, 32,
    some (3, σ))] (
    some (4, σ))
theorem J_cA_stateBehind {X : JX} {ad : Nat → Nat} (p1 : Int32) (σ : CS) : JO X M_cA_stateBehind (QF X eI (wC ad (xZ X))) 0 [some (.int p1)] [] (wsC ad (xZ X) σ) (cA_stateBehind p1 σ) := by
  unfold cA_stateBehind
  refine JO.iloadn dX3_stateBehind_0 rfl ?_
  refine JO.tsw [(2, 28, _), (3, 30, _), (4, 32, _)] 34 [(2, 28), (3, 30), (4, 32)] dX3_stateBehind_1 rfl (by decide) rfl (by decide) (JO.swCons ?_ (JO.swCons ?_ (JO.swCons ?_ (JO.swNil)))) ?_
  · refine JO.ic 1 dX3_stateBehind_28 (by decide) ?_
    exact JO.iret dX3_stateBehind_29 rfl rfl rfl
  · refine JO.ic 2 dX3_stateBehind_30 (by decide) ?_
    exact JO.iret dX3_stateBehind_31 rfl rfl rfl
  · refine JO.ic 3 dX3_stateBehind_32 (by decide) ?_
    exact JO.iret dX3_stateBehind_33 rfl rfl rfl
  · refine JO.ic 4 dX3_stateBehind_34 (by decide) ?_
    exact JO.iret dX3_stateBehind_35 rfl rfl rfl
theorem C_cA_stateBehind {ad : Nat → Nat} {Z : ZT} (p1 : Int32) (σ : CS) : CO yX3_stateBehind M_cA_stateBehind eI Z (wC ad Z) [.int p1] (wsC ad Z σ) (cA_stateBehind p1 σ) :=
  CO.of rfl rfl (Nat.le_of_ble_eq_true rfl) 0 (fun X hZ => by subst hZ; exact J_cA_stateBehind _ σ)
theorem K_cA_stateBehind : Ks yX3_stateBehind M_cA_stateBehind 1 := ⟨k2_225, k1_8, k2_226, by decide +kernel⟩
