abbrev M_cJ_coder : JM := (cJ0_coder_7d493, 1, RJ0, (some .byte), 0, 0)
def cJ_coder (w : Nat) (σ : CS) : Option (Int32 × CS) :=
  if (1 : Int32) = 0 then (
    some (1, σ))
  else (
    some (0, σ))
theorem J_cJ_coder {X : JX} {ad : Nat → Nat} {w : Nat} (hw : w < 11) (σ : CS) : JO X M_cJ_coder (QF X eI (wC ad (xZ X))) 0 [some (.ref (kz (xZ X) 4 w))] [] (wsC ad (xZ X) σ) (cJ_coder w σ) := by
  unfold cJ_coder
  refine JO.gets (v := .int 1) (fun h => h.2.2.2.2.2.2.1) k3_154 dJ0_coder_7d493_0 ?_
  refine JO.if_eq 13 dJ0_coder_7d493_3 rfl ?_ ?_
  · refine JO.ic 1 dJ0_coder_7d493_13 (by decide) ?_
    exact JO.nret dJ0_coder_7d493_14 rfl (by first | rfl | exact pk_nc _ | decide) rfl rfl
  · refine JO.aloadn dJ0_coder_7d493_6 rfl ?_
    refine JO.getO (cw_cod hw) k7_47 dJ0_coder_7d493_7 ?_
    refine JO.goto 14 dJ0_coder_7d493_10 rfl ?_
    exact JO.nret dJ0_coder_7d493_14 rfl (by first | rfl | exact pk_nc _ | decide) rfl rfl
theorem C_cJ_coder {ad : Nat → Nat} {w : Nat} {Z : ZT} (hw : w < 11) (σ : CS) : CO yJ0_coder_7d493 M_cJ_coder eI Z (wC ad Z) [.ref (kz Z 4 w)] (wsC ad Z σ) (cJ_coder w σ) :=
  CO.of rfl rfl (Nat.le_of_ble_eq_true rfl) 0 (fun X hZ => by subst hZ; exact J_cJ_coder hw σ)
theorem K_cJ_coder : Kv yJ0_coder_7d493 M_cJ_coder RJ0 0 := ⟨rfl, k3_151, k3_152, k1_12, k3_153, by decide +kernel⟩
abbrev M_cJ_length : JM := (cJ0_length_8abf5, 1, RJ0, (some .int), 1, 20)
def cJ_length (w : Nat) (σ : CS) : Option (Int32 × CS) :=
  (cJ_coder w σ).bind fun a1 =>
  some ((Int32.ofNat (itemLens.getD w 0) >>> (a1.1 &&& 31)), a1.2)
theorem J_cJ_length {X : JX} {ad : Nat → Nat} {w : Nat} (hw : w < 11) (σ : CS) : JO X M_cJ_length (QF X eI (wC ad (xZ X))) 0 [some (.ref (kz (xZ X) 4 w))] [] (wsC ad (xZ X) σ) (cJ_length w σ) := by
  unfold cJ_length
  refine JO.aloadn dJ0_length_8abf5_0 rfl ?_
  refine JO.getO (cw_val hw) k7_46 dJ0_length_8abf5_1 ?_
  refine JO.tlen (Int32.ofNat (itemLens.getD w 0)) (cw_byt hw) rfl dJ0_length_8abf5_4 ?_
  refine JO.aloadn dJ0_length_8abf5_5 rfl ?_
  refine JO.cvi (C_cJ_coder hw _) (rcvK hw) K_cJ_coder k3_150 rfl rfl rfl (Nat.le_of_ble_eq_true rfl) dJ0_length_8abf5_6 (fun a1 => ?_)
  refine JO.ishr dJ0_length_8abf5_9 ?_
  exact JO.iret dJ0_length_8abf5_10 rfl rfl rfl
theorem C_cJ_length {ad : Nat → Nat} {w : Nat} {Z : ZT} (hw : w < 11) (σ : CS) : CO yJ0_length_8abf5 M_cJ_length eI Z (wC ad Z) [.ref (kz Z 4 w)] (wsC ad Z σ) (cJ_length w σ) :=
  CO.of rfl rfl (Nat.le_of_ble_eq_true rfl) 0 (fun X hZ => by subst hZ; exact J_cJ_length hw σ)
theorem K_cJ_length : Kv yJ0_length_8abf5 M_cJ_length RJ0 0 := ⟨rfl, k3_147, k3_148, k1_12, k3_149, by decide +kernel⟩
abbrev M_cJ_isLatin1 : JM := (cJ0_isLatin1_aae02, 1, RJ0, (some .boolean), 0, 0)
def cJ_isLatin1 (w : Nat) (σ : CS) : Option (Bool × CS) :=
  if (1 : Int32) = 0 then (
    some (false, σ))
  else (
    if (0 : Int32) = 0 then (
      some (true, σ))
    else (
      some (false, σ)))
theorem J_cJ_isLatin1 {X : JX} {ad : Nat → Nat} {w : Nat} (hw : w < 11) (σ : CS) : JO X M_cJ_isLatin1 (QF X eZ (wC ad (xZ X))) 0 [some (.ref (kz (xZ X) 4 w))] [] (wsC ad (xZ X) σ) (cJ_isLatin1 w σ) := by
  unfold cJ_isLatin1
  refine JO.gets (v := .int 1) (fun h => h.2.2.2.2.2.2.1) k3_154 dJ0_isLatin1_aae02_0 ?_
  refine JO.if_eq 17 dJ0_isLatin1_aae02_3 rfl ?_ ?_
  · refine JO.ic 0 dJ0_isLatin1_aae02_17 (by decide) ?_
    exact JO.zret (b := false) dJ0_isLatin1_aae02_18 rfl rfl rfl
  · refine JO.aloadn dJ0_isLatin1_aae02_6 rfl ?_
    refine JO.getO (cw_cod hw) k7_47 dJ0_isLatin1_aae02_7 ?_
    refine JO.if_ne 17 dJ0_isLatin1_aae02_10 rfl ?_ ?_
    · refine JO.ic 0 dJ0_isLatin1_aae02_17 (by decide) ?_
      exact JO.zret (b := false) dJ0_isLatin1_aae02_18 rfl rfl rfl
    · refine JO.ic 1 dJ0_isLatin1_aae02_13 (by decide) ?_
      refine JO.goto 18 dJ0_isLatin1_aae02_14 rfl ?_
      exact JO.zret (b := true) dJ0_isLatin1_aae02_18 rfl rfl rfl
theorem C_cJ_isLatin1 {ad : Nat → Nat} {w : Nat} {Z : ZT} (hw : w < 11) (σ : CS) : CO yJ0_isLatin1_aae02 M_cJ_isLatin1 eZ Z (wC ad Z) [.ref (kz Z 4 w)] (wsC ad Z σ) (cJ_isLatin1 w σ) :=
  CO.of rfl rfl (Nat.le_of_ble_eq_true rfl) 0 (fun X hZ => by subst hZ; exact J_cJ_isLatin1 hw σ)
theorem K_cJ_isLatin1 : Kv yJ0_isLatin1_aae02 M_cJ_isLatin1 RJ0 0 := ⟨rfl, k3_161, k3_162, k1_12, k3_163, by decide +kernel⟩
abbrev M_cJ_checkP : JM := (cJ3_checkIndex_8e157, 3, RJ3, (some .int), 0, 0)
def cJ_checkP (p1 : Int32) (p2 : Int32) (σ : CS) : Option (Int32 × CS) :=
  if p1 < 0 then (
    none)
  else (
    if p1 < p2 then (
      some (p1, σ))
    else (
      none))
theorem J_cJ_checkP {X : JX} {ad : Nat → Nat} (p1 : Int32) (p2 : Int32) (σ : CS) : JO X M_cJ_checkP (QF X eI (wC ad (xZ X))) 0 [some (.int p1), some (.int p2), none] [] (wsC ad (xZ X) σ) (cJ_checkP p1 p2 σ) := by
  unfold cJ_checkP
  refine JO.iloadn dJ3_checkIndex_8e157_0 rfl ?_
  refine JO.if_lt 9 dJ3_checkIndex_8e157_1 rfl ?_ ?_
  · exact JO.nil
  · refine JO.iloadn dJ3_checkIndex_8e157_4 rfl ?_
    refine JO.iloadn dJ3_checkIndex_8e157_5 rfl ?_
    refine JO.icmp_lt 16 dJ3_checkIndex_8e157_6 rfl ?_ ?_
    · refine JO.iloadn dJ3_checkIndex_8e157_16 rfl ?_
      exact JO.iret dJ3_checkIndex_8e157_17 rfl rfl rfl
    · exact JO.nil
theorem C_cJ_checkP {ad : Nat → Nat} {Z : ZT} (p1 : Int32) (p2 : Int32) (σ : CS) : CO yJ3_checkIndex_8e157 M_cJ_checkP eI Z (wC ad Z) [.int p1, .int p2, fmV Z] (wsC ad Z σ) (cJ_checkP p1 p2 σ) :=
  CO.of rfl rfl (by rcases fmV_or Z with e | e <;> rw [e] <;> exact Nat.le_of_ble_eq_true rfl) 0 (fun X hZ => by subst hZ; exact (J_cJ_checkP _ _ σ).jump (lvLe.so rfl (lvLe.so rfl (lvLe.no lvLe.nil))))
theorem K_cJ_checkP : Ks yJ3_checkIndex_8e157 M_cJ_checkP 3 := ⟨k3_173, k1_14, k3_174, by decide +kernel⟩
abbrev M_cJ_checkS : JM := (cJ0_checkIndex_df160, 2, RJ0, none, 1, 22)
def cJ_checkS (p1 : Int32) (p2 : Int32) (σ : CS) : Option (Unit × CS) :=
  (cJ_checkP p1 p2 σ).bind fun a1 =>
  some ((), a1.2)
theorem J_cJ_checkS {X : JX} {ad : Nat → Nat} (p1 : Int32) (p2 : Int32) (σ : CS) : JO X M_cJ_checkS (QF X eV (wC ad (xZ X))) 0 [some (.int p1), some (.int p2)] [] (wsC ad (xZ X) σ) (cJ_checkS p1 p2 σ) := by
  unfold cJ_checkS
  refine JO.iloadn dJ0_checkIndex_df160_0 rfl ?_
  refine JO.iloadn dJ0_checkIndex_df160_1 rfl ?_
  refine JO.gets (v := fmV (xZ X)) (fun h => h.2.2.2.2.2.2.2) k3_170 dJ0_checkIndex_df160_2 ?_
  refine JO.csi (C_cJ_checkP _ _ _) K_cJ_checkP k3_172 rfl rfl rfl (Nat.le_of_ble_eq_true rfl) dJ0_checkIndex_df160_5 (fun a1 => ?_)
  refine JO.pop dJ0_checkIndex_df160_8 rfl ?_
  exact JO.vret dJ0_checkIndex_df160_9 rfl rfl rfl
theorem C_cJ_checkS {ad : Nat → Nat} {Z : ZT} (p1 : Int32) (p2 : Int32) (σ : CS) : CO yJ0_checkIndex_df160 M_cJ_checkS eV Z (wC ad Z) [.int p1, .int p2] (wsC ad Z σ) (cJ_checkS p1 p2 σ) :=
  CO.of rfl rfl (Nat.le_of_ble_eq_true rfl) 0 (fun X hZ => by subst hZ; exact J_cJ_checkS _ _ σ)
theorem K_cJ_checkS : Ks yJ0_checkIndex_df160 M_cJ_checkS 2 := ⟨k3_168, k1_12, k3_169, by decide +kernel⟩
abbrev M_cJ_charAtL : JM := (cJ1_charAt_3b067, 2, RJ1, (some .char), 2, 43)
def cJ_charAtL (w : Nat) (p2 : Int32) (σ : CS) : Option (Int32 × CS) :=
  (cJ_checkS p2 (Int32.ofNat (itemLens.getD w 0)) σ).bind fun a1 =>
  if inB p2 (itemLens.getD w 0) = true then
  some ((Int32.toUInt32 ((itemBytes.getD w []).getD (ix p2) 0 &&& 255) % 65536).toInt32, a1.2)
  else none
theorem J_cJ_charAtL {X : JX} {ad : Nat → Nat} {w : Nat} (hw : w < 11) (p2 : Int32) (σ : CS) : JO X M_cJ_charAtL (QF X eI (wC ad (xZ X))) 0 [some (.ref (kz (xZ X) 5 w)), some (.int p2)] [] (wsC ad (xZ X) σ) (cJ_charAtL w p2 σ) := by
  unfold cJ_charAtL
  refine JO.iloadn dJ1_charAt_3b067_0 rfl ?_
  refine JO.aloadn dJ1_charAt_3b067_1 rfl ?_
  refine JO.tlen (Int32.ofNat (itemLens.getD w 0)) (cw_byt hw) rfl dJ1_charAt_3b067_2 ?_
  refine JO.csv (C_cJ_checkS _ _ _) K_cJ_checkS k3_167 rfl rfl rfl (Nat.le_of_ble_eq_true rfl) dJ1_charAt_3b067_3 (fun a1 => ?_)
  refine JO.aloadn dJ1_charAt_3b067_6 rfl ?_
  refine JO.iloadn dJ1_charAt_3b067_7 rfl ?_
  refine JO.tb (f := fun j => (itemBytes.getD w []).getD j 0) (cw_byt hw) dJ1_charAt_3b067_8 ?_
  refine JO.sip 255 dJ1_charAt_3b067_9 (by decide) ?_
  refine JO.iand dJ1_charAt_3b067_12 ?_
  refine JO.i2c dJ1_charAt_3b067_13 ?_
  exact JO.nret dJ1_charAt_3b067_14 rfl (by first | rfl | exact pk_nc _ | decide) rfl rfl
theorem C_cJ_charAtL {ad : Nat → Nat} {w : Nat} {Z : ZT} (hw : w < 11) (p2 : Int32) (σ : CS) : CO yJ1_charAt_3b067 M_cJ_charAtL eI Z (wC ad Z) [.ref (kz Z 5 w), .int p2] (wsC ad Z σ) (cJ_charAtL w p2 σ) :=
  CO.of rfl rfl (Nat.le_of_ble_eq_true rfl) 0 (fun X hZ => by subst hZ; exact J_cJ_charAtL hw _ σ)
theorem K_cJ_charAtL : Ks yJ1_charAt_3b067 M_cJ_charAtL 2 := ⟨k3_165, k1_13, k3_166, by decide +kernel⟩
abbrev M_cJ_charAt : JM := (cJ0_charAt_5068e, 2, RJ0, (some .char), 3, 64)
def cJ_charAt (w : Nat) (p1 : Int32) (σ : CS) : Option (Int32 × CS) :=
  (cJ_isLatin1 w σ).bind fun a1 =>
  if a1.1 = true then (
    (cJ_charAtL w p1 a1.2).bind fun a2 =>
    if chOk a2.1 = true then some (a2.1, a2.2) else none)
  else (
    none)
theorem J_cJ_charAt {X : JX} {ad : Nat → Nat} {w : Nat} (hw : w < 11) (p1 : Int32) (σ : CS) : JO X M_cJ_charAt (QF X eI (wC ad (xZ X))) 0 [some (.ref (kz (xZ X) 4 w)), some (.int p1)] [] (wsC ad (xZ X) σ) (cJ_charAt w p1 σ) := by
  unfold cJ_charAt
  refine JO.aloadn dJ0_charAt_5068e_0 rfl ?_
  refine JO.cvz (C_cJ_isLatin1 hw _) (rcvK hw) K_cJ_isLatin1 k3_160 rfl rfl rfl (Nat.le_of_ble_eq_true rfl) dJ0_charAt_5068e_1 (fun a1 => ?_)
  refine JO.zeq 16 dJ0_charAt_5068e_4 rfl ?_ ?_
  · refine JO.aloadn dJ0_charAt_5068e_16 rfl ?_
    refine JO.getO (cw_val hw) k7_46 dJ0_charAt_5068e_17 ?_
    refine JO.iloadn dJ0_charAt_5068e_20 rfl ?_
    exact JO.nil
  · refine JO.aloadn dJ0_charAt_5068e_7 rfl ?_
    refine JO.getO (cw_val hw) k7_46 dJ0_charAt_5068e_8 ?_
    refine JO.iloadn dJ0_charAt_5068e_11 rfl ?_
    refine JO.csi (C_cJ_charAtL hw _ _) K_cJ_charAtL k3_164 rfl rfl rfl (Nat.le_of_ble_eq_true rfl) dJ0_charAt_5068e_12 (fun a2 => ?_)
    exact JO.gif (fun hc => JO.nret dJ0_charAt_5068e_15 rfl (chOk_n hc) rfl rfl)
theorem C_cJ_charAt {ad : Nat → Nat} {w : Nat} {Z : ZT} (hw : w < 11) (p1 : Int32) (σ : CS) : CO yJ0_charAt_5068e M_cJ_charAt eI Z (wC ad Z) [.ref (kz Z 4 w), .int p1] (wsC ad Z σ) (cJ_charAt w p1 σ) :=
  CO.of rfl rfl (Nat.le_of_ble_eq_true rfl) 0 (fun X hZ => by subst hZ; exact J_cJ_charAt hw _ σ)
theorem K_cJ_charAt : Kv yJ0_charAt_5068e M_cJ_charAt RJ0 1 := ⟨rfl, k3_157, k3_158, k1_12, k3_159, by decide +kernel⟩
abbrev M_cQ_stands : JM := (cX8_stands, 4, RX8, (some .boolean), 1, 21)
def cQ_stands (i : Nat) (p2 : Int32) (p3 : Int32) (σ : CS) : Option (Bool × CS) :=
  (cH_has i p2 σ).bind fun a1 =>
  if a1.1 = true then (
    (cH_letter i p2 a1.2).bind fun a2 =>
    if a2.1 = p3 then (
      some (true, a2.2))
    else (
      some (false, a2.2)))
  else (
    some (false, a1.2))
theorem J_cQ_stands {X : JX} {ad : Nat → Nat} {i : Nat} (hi : i < 8) (p2 : Int32) (p3 : Int32) (σ : CS) : JO X M_cQ_stands (QF X eZ (wC ad (xZ X))) 0 [some (.ref (ad 9)), some (.ref (ad (58 + i))), some (.int p2), some (.int p3)] [] (wsC ad (xZ X) σ) (cQ_stands i p2 p3 σ) := by
  unfold cQ_stands
  refine JO.aloadn dX8_stands_0 rfl ?_
  refine JO.iloadn dX8_stands_1 rfl ?_
  refine JO.cvz (C_cH_has hi _ _) (rcvH hi) K_cH_has k3_198 rfl rfl rfl (Nat.le_of_ble_eq_true rfl) dX8_stands_2 (fun a1 => ?_)
  refine JO.zeq 21 dX8_stands_5 rfl ?_ ?_
  · refine JO.ic 0 dX8_stands_21 (by decide) ?_
    exact JO.zret (b := false) dX8_stands_22 rfl rfl rfl
  · refine JO.aloadn dX8_stands_8 rfl ?_
    refine JO.iloadn dX8_stands_9 rfl ?_
    refine JO.cvi (C_cH_letter hi _ _) (rcvH hi) K_cH_letter k3_199 rfl rfl rfl (Nat.le_of_ble_eq_true rfl) dX8_stands_10 (fun a2 => ?_)
    refine JO.iloadn dX8_stands_13 rfl ?_
    refine JO.icmp_ne 21 dX8_stands_14 rfl ?_ ?_
    · refine JO.ic 0 dX8_stands_21 (by decide) ?_
      exact JO.zret (b := false) dX8_stands_22 rfl rfl rfl
    · refine JO.ic 1 dX8_stands_17 (by decide) ?_
      refine JO.goto 22 dX8_stands_18 rfl ?_
      exact JO.zret (b := true) dX8_stands_22 rfl rfl rfl
theorem C_cQ_stands {ad : Nat → Nat} {i : Nat} {Z : ZT} (hi : i < 8) (p2 : Int32) (p3 : Int32) (σ : CS) : CO yX8_stands M_cQ_stands eZ Z (wC ad Z) [.ref (ad 9), .ref (ad (58 + i)), .int p2, .int p3] (wsC ad Z σ) (cQ_stands i p2 p3 σ) :=
  CO.of rfl rfl (Nat.le_of_ble_eq_true rfl) 0 (fun X hZ => by subst hZ; exact J_cQ_stands hi _ _ σ)
theorem K_cQ_stands : Kv yX8_stands M_cQ_stands RX8 3 := ⟨rfl, k3_196, s2_9, k1_4, k3_197, by decide +kernel⟩
abbrev M_cQ_sameLetters : JM := (cX8_sameLetters, 4, RX8, (some .int), 4, 85)
def cQ_sameLetters_l2 (i : Nat) (w : Nat) : Nat → Int32 → CS → Option (Int32 × CS)
  | 0, _, _ => none
  | n + 1, x3, σ =>
    (cJ_length w σ).bind fun a1 =>
    if a1.1 ≤ x3 then (
      some (x3, a1.2))
    else (
      (cJ_charAt w x3 a1.2).bind fun a2 =>
      (cQ_stands i (cI a1.2 9 2 + x3) a2.1 a2.2).bind fun a3 =>
      if a3.1 = true then (
        cQ_sameLetters_l2 i w n (x3 + 1) a3.2)
      else (
        some (x3, a3.2)))
def cQ_sameLetters (i : Nat) (w : Nat) (σ : CS) : Option (Int32 × CS) :=
  cQ_sameLetters_l2 i w 4096 0 σ
theorem J_cQ_sameLetters_l2 {X : JX} {ad : Nat → Nat} {i : Nat} {w : Nat} (hi : i < 8) (hw : w < 11) : ∀ (n : Nat) (x3 : Int32) (σ : CS), JO X M_cQ_sameLetters (QF X eI (wC ad (xZ X))) 2 [some (.ref (ad 9)), some (.ref (ad (58 + i))), some (.ref (kz (xZ X) 4 w)), some (.int x3)] [] (wsC ad (xZ X) σ) (cQ_sameLetters_l2 i w n x3 σ) := by
  intro n
  induction n with
  | zero => intro x3 σ; exact JO.nil
  | succ n ih =>
    intro x3 σ
    unfold cQ_sameLetters_l2
    refine JO.iloadn dX8_sameLetters_2 rfl ?_
    refine JO.aloadn dX8_sameLetters_3 rfl ?_
    refine JO.cvi (C_cJ_length hw _) (rcvK hw) K_cJ_length k3_146 rfl rfl rfl (Nat.le_of_ble_eq_true rfl) dX8_sameLetters_4 (fun a1 => ?_)
    refine JO.icmp_ge 35 dX8_sameLetters_7 rfl ?_ ?_
    · refine JO.iloadn dX8_sameLetters_35 rfl ?_
      exact JO.iret dX8_sameLetters_36 rfl rfl rfl
    · refine JO.aloadn dX8_sameLetters_10 rfl ?_
      refine JO.aloadn dX8_sameLetters_11 rfl ?_
      refine JO.aloadn dX8_sameLetters_12 rfl ?_
      refine gQ2 k1_92 dX8_sameLetters_13 ?_
      refine JO.iloadn dX8_sameLetters_16 rfl ?_
      refine JO.iadd dX8_sameLetters_17 ?_
      refine JO.aloadn dX8_sameLetters_18 rfl ?_
      refine JO.iloadn dX8_sameLetters_19 rfl ?_
      refine JO.cvi (C_cJ_charAt hw _ _) (rcvK hw) K_cJ_charAt k3_156 rfl rfl rfl (Nat.le_of_ble_eq_true rfl) dX8_sameLetters_20 (fun a2 => ?_)
      refine JO.cvz (C_cQ_stands hi _ _ _) rcvQ K_cQ_stands k3_194 rfl rfl rfl (Nat.le_of_ble_eq_true rfl) dX8_sameLetters_23 (fun a3 => ?_)
      refine JO.zeq 35 dX8_sameLetters_26 rfl ?_ ?_
      · refine JO.iloadn dX8_sameLetters_35 rfl ?_
        exact JO.iret dX8_sameLetters_36 rfl rfl rfl
      · refine JO.iinc dX8_sameLetters_29 rfl 1 (by decide) rfl rfl ?_
        refine JO.goto 2 dX8_sameLetters_32 rfl ?_
        exact (ih _ _).jump (lvLe.so rfl (lvLe.so rfl (lvLe.so rfl (lvLe.so rfl (lvLe.nil)))))
theorem J_cQ_sameLetters {X : JX} {ad : Nat → Nat} {i : Nat} {w : Nat} (hi : i < 8) (hw : w < 11) (σ : CS) : JO X M_cQ_sameLetters (QF X eI (wC ad (xZ X))) 0 [some (.ref (ad 9)), some (.ref (ad (58 + i))), some (.ref (kz (xZ X) 4 w)), none] [] (wsC ad (xZ X) σ) (cQ_sameLetters i w σ) := by
  unfold cQ_sameLetters
  refine JO.ic 0 dX8_sameLetters_0 (by decide) ?_
  refine JO.istoren dX8_sameLetters_1 rfl rfl ?_
  exact (J_cQ_sameLetters_l2 hi hw 4096 _ _).jump (lvLe.so rfl (lvLe.so rfl (lvLe.so rfl (lvLe.so rfl (lvLe.nil)))))
theorem C_cQ_sameLetters {ad : Nat → Nat} {i : Nat} {w : Nat} {Z : ZT} (hi : i < 8) (hw : w < 11) (σ : CS) : CO yX8_sameLetters M_cQ_sameLetters eI Z (wC ad Z) [.ref (ad 9), .ref (ad (58 + i)), .ref (kz Z 4 w)] (wsC ad Z σ) (cQ_sameLetters i w σ) :=
  CO.of rfl rfl (Nat.le_of_ble_eq_true rfl) 1 (fun X hZ => by subst hZ; exact J_cQ_sameLetters hi hw σ)
theorem K_cQ_sameLetters : Kv yX8_sameLetters M_cQ_sameLetters RX8 2 := ⟨rfl, k3_144, s2_8, k1_4, k3_145, by decide +kernel⟩
abbrev M_cQ_readWord : JM := (cX8_readWord, 8, RX8, (some (.object "CommitPrefixes$Item")), 5, 108)
def cQ_readWord_l13 (i : Nat) : Nat → Int32 → Int32 → Int32 → CS → Option (Option Nat × CS)
  | 0, _, _, _, _ => none
  | n + 1, x2, x4, x5, σ =>
    if x4 ≤ x5 then (
      some (none, tI σ 9 1 (cI σ 9 2 + x2)))
    else (
      if inB x5 11 = true then
      (cQ_sameLetters i (ix x5) σ).bind fun a1 =>
      (cJ_length (ix x5) a1.2).bind fun a2 =>
      if a1.1 = a2.1 then (
        some (some (ix x5), tI a2.2 9 2 (cI a2.2 9 2 + a1.1)))
      else (
        cQ_readWord_l13 i n (if x2 < a1.1 then a1.1 else x2) x4 (x5 + 1) a2.2)
      else none)
def cQ_readWord (i : Nat) (σ : CS) : Option (Option Nat × CS) :=
  cQ_readWord_l13 i 4096 0 11 0 σ
theorem J_cQ_readWord_l13 {X : JX} {ad : Nat → Nat} {i : Nat} (hi : i < 8) : ∀ (n : Nat) (x2 : Int32) (x4 : Int32) (x5 : Int32) (σ : CS), JO X M_cQ_readWord (QF X (eO (xZ X)) (wC ad (xZ X))) 13 [some (.ref (ad 9)), some (.ref (ad (58 + i))), some (.int x2), some (.ref (kz (xZ X) 2 0)), some (.int x4), some (.int x5), none, none] [] (wsC ad (xZ X) σ) (cQ_readWord_l13 i n x2 x4 x5 σ) := by
  intro n
  induction n with
  | zero => intro x2 x4 x5 σ; exact JO.nil
  | succ n ih =>
    intro x2 x4 x5 σ
    unfold cQ_readWord_l13
    refine JO.iload dX8_readWord_13 rfl ?_
    refine JO.iload dX8_readWord_15 rfl ?_
    refine JO.icmp_ge 78 dX8_readWord_17 rfl ?_ ?_
    · refine JO.aloadn dX8_readWord_78 rfl ?_
      refine JO.aloadn dX8_readWord_79 rfl ?_
      refine gQ2 k1_92 dX8_readWord_80 ?_
      refine JO.iloadn dX8_readWord_83 rfl ?_
      refine JO.iadd dX8_readWord_84 ?_
      refine pQ1 k1_90 dX8_readWord_85 ?_
      refine JO.null dX8_readWord_88 ?_
      exact JO.aret dX8_readWord_89 rfl (Or.inl ⟨_, rfl⟩) (Or.inl rfl) rfl rfl
    · refine JO.aloadn dX8_readWord_20 rfl ?_
      refine JO.iload dX8_readWord_21 rfl ?_
      refine JO.tqI dX8_readWord_23 (fun h21 => ?_)
      refine JO.astore dX8_readWord_24 rfl rfl ?_
      refine JO.aloadn dX8_readWord_26 rfl ?_
      refine JO.aloadn dX8_readWord_27 rfl ?_
      refine JO.aload dX8_readWord_28 rfl ?_
      refine JO.getO (cw_let h21) k7_45 dX8_readWord_30 ?_
      refine JO.cvi (C_cQ_sameLetters hi h21 _) rcvQ K_cQ_sameLetters k3_142 rfl rfl rfl (Nat.le_of_ble_eq_true rfl) dX8_readWord_33 (fun a1 => ?_)
      refine JO.istore dX8_readWord_36 rfl rfl ?_
      refine JO.iload dX8_readWord_38 rfl ?_
      refine JO.aload dX8_readWord_40 rfl ?_
      refine JO.getO (cw_let h21) k7_45 dX8_readWord_42 ?_
      refine JO.cvi (C_cJ_length h21 _) (rcvK h21) K_cJ_length k3_146 rfl rfl rfl (Nat.le_of_ble_eq_true rfl) dX8_readWord_45 (fun a2 => ?_)
      refine JO.icmp_ne 65 dX8_readWord_48 rfl ?_ ?_
      · refine JO.iloadn dX8_readWord_65 rfl ?_
        refine JO.iload dX8_readWord_66 rfl ?_
        refine JO.mathX rfl rfl k3_203 k3_204 k1_16 k3_205 rfl dX8_readWord_68 ?_
        refine JO.istoren dX8_readWord_71 rfl rfl ?_
        refine JO.iinc dX8_readWord_72 rfl 1 (by decide) rfl rfl ?_
        refine JO.goto 13 dX8_readWord_75 rfl ?_
        exact (ih _ _ _ _).jump (lvLe.so rfl (lvLe.so rfl (lvLe.so rfl (lvLe.so rfl (lvLe.so rfl (lvLe.so rfl (lvLe.no (lvLe.no (lvLe.nil)))))))))
      · refine JO.aloadn dX8_readWord_51 rfl ?_
        refine JO.dup dX8_readWord_52 rfl ?_
        refine gQ2 k1_92 dX8_readWord_53 ?_
        refine JO.iload dX8_readWord_56 rfl ?_
        refine JO.iadd dX8_readWord_58 ?_
        refine pQ2 k1_92 dX8_readWord_59 ?_
        refine JO.aload dX8_readWord_62 rfl ?_
        exact JO.aret (a := (some (ix x5), _)) dX8_readWord_64 rfl (Or.inl ⟨_, rfl⟩) (Or.inr ⟨_, rfl⟩) rfl rfl
theorem J_cQ_readWord {X : JX} {ad : Nat → Nat} {i : Nat} (hi : i < 8) (σ : CS) : JO X M_cQ_readWord (QF X (eO (xZ X)) (wC ad (xZ X))) 0 [some (.ref (ad 9)), some (.ref (ad (58 + i))), none, none, none, none, none, none] [] (wsC ad (xZ X) σ) (cQ_readWord i σ) := by
  unfold cQ_readWord
  refine JO.ic 0 dX8_readWord_0 (by decide) ?_
  refine JO.istoren dX8_readWord_1 rfl rfl ?_
  refine JO.getsI rfl dX8_readWord_2 ?_
  refine JO.astoren dX8_readWord_5 rfl rfl ?_
  refine JO.aloadn dX8_readWord_6 rfl ?_
  refine JO.tlen 11 (fun h => h.2.2.2.1.2) rfl dX8_readWord_7 ?_
  refine JO.istore dX8_readWord_8 rfl rfl ?_
  refine JO.ic 0 dX8_readWord_10 (by decide) ?_
  refine JO.istore dX8_readWord_11 rfl rfl ?_
  exact (J_cQ_readWord_l13 hi 4096 _ _ _ _).jump (lvLe.so rfl (lvLe.so rfl (lvLe.so rfl (lvLe.so rfl (lvLe.so rfl (lvLe.so rfl (lvLe.no (lvLe.no (lvLe.nil)))))))))
theorem C_cQ_readWord {ad : Nat → Nat} {i : Nat} {Z : ZT} (hi : i < 8) (σ : CS) : CO yX8_readWord M_cQ_readWord (eO Z) Z (wC ad Z) [.ref (ad 9), .ref (ad (58 + i))] (wsC ad Z σ) (cQ_readWord i σ) :=
  CO.of rfl rfl (Nat.le_of_ble_eq_true rfl) 6 (fun X hZ => by subst hZ; exact J_cQ_readWord hi σ)
theorem K_cQ_readWord : Kv yX8_readWord M_cQ_readWord RX8 1 := ⟨rfl, k3_138, s2_7, k1_4, k3_139, by decide +kernel⟩
abbrev M_cQ_readSign : JM := (cX8_readSign, 3, RX8, (some .boolean), 2, 44)
def cQ_readSign (i : Nat) (p2 : Int32) (σ : CS) : Option (Bool × CS) :=
  (cQ_stands i (cI σ 9 2) p2 σ).bind fun a1 =>
  if a1.1 = true then (
    some (true, tI a1.2 9 2 (cI a1.2 9 2 + 1)))
  else (
    some (false, tI a1.2 9 1 (cI a1.2 9 2)))
theorem J_cQ_readSign {X : JX} {ad : Nat → Nat} {i : Nat} (hi : i < 8) (p2 : Int32) (σ : CS) : JO X M_cQ_readSign (QF X eZ (wC ad (xZ X))) 0 [some (.ref (ad 9)), some (.ref (ad (58 + i))), some (.int p2)] [] (wsC ad (xZ X) σ) (cQ_readSign i p2 σ) := by
  unfold cQ_readSign
  refine JO.aloadn dX8_readSign_0 rfl ?_
  refine JO.aloadn dX8_readSign_1 rfl ?_
  refine JO.aloadn dX8_readSign_2 rfl ?_
  refine gQ2 k1_92 dX8_readSign_3 ?_
  refine JO.iloadn dX8_readSign_6 rfl ?_
  refine JO.cvz (C_cQ_stands hi _ _ _) rcvQ K_cQ_stands k3_194 rfl rfl rfl (Nat.le_of_ble_eq_true rfl) dX8_readSign_7 (fun a1 => ?_)
  refine JO.zne 23 dX8_readSign_10 rfl ?_ ?_
  · refine JO.aloadn dX8_readSign_23 rfl ?_
    refine JO.dup dX8_readSign_24 rfl ?_
    refine gQ2 k1_92 dX8_readSign_25 ?_
    refine JO.ic 1 dX8_readSign_28 (by decide) ?_
    refine JO.iadd dX8_readSign_29 ?_
    refine pQ2 k1_92 dX8_readSign_30 ?_
    refine JO.ic 1 dX8_readSign_33 (by decide) ?_
    exact JO.zret (b := true) dX8_readSign_34 rfl rfl rfl
  · refine JO.aloadn dX8_readSign_13 rfl ?_
    refine JO.aloadn dX8_readSign_14 rfl ?_
    refine gQ2 k1_92 dX8_readSign_15 ?_
    refine pQ1 k1_90 dX8_readSign_18 ?_
    refine JO.ic 0 dX8_readSign_21 (by decide) ?_
    exact JO.zret (b := false) dX8_readSign_22 rfl rfl rfl
theorem C_cQ_readSign {ad : Nat → Nat} {i : Nat} {Z : ZT} (hi : i < 8) (p2 : Int32) (σ : CS) : CO yX8_readSign M_cQ_readSign eZ Z (wC ad Z) [.ref (ad 9), .ref (ad (58 + i)), .int p2] (wsC ad Z σ) (cQ_readSign i p2 σ) :=
  CO.of rfl rfl (Nat.le_of_ble_eq_true rfl) 0 (fun X hZ => by subst hZ; exact J_cQ_readSign hi _ σ)
theorem K_cQ_readSign : Kv yX8_readSign M_cQ_readSign RX8 2 := ⟨rfl, k3_208, s2_10, k1_4, k3_209, by decide +kernel⟩
abbrev M_cQ_lowest : JM := (cX8_lowest, 3, RX8, (some .int), 0, 0)
def cQ_lowest (w : Nat) (p2 : Int32) (σ : CS) : Option (Int32 × CS) :=
  if p2 = 0 then (
    some (itemLow.getD w 0, σ))
  else (
    if p2 = 1 then (
      some (0, σ))
    else (
      if inB 1 3 = true then
      some ((cA σ 13 (ix 1) + 1), σ)
      else none))
theorem J_cQ_lowest {X : JX} {ad : Nat → Nat} {w : Nat} (hw : w < 11) (p2 : Int32) (σ : CS) : JO X M_cQ_lowest (QF X eI (wC ad (xZ X))) 0 [some (.ref (ad 9)), some (.ref (kz (xZ X) 1 w)), some (.int p2)] [] (wsC ad (xZ X) σ) (cQ_lowest w p2 σ) := by
  unfold cQ_lowest
  refine JO.iloadn dX8_lowest_0 rfl ?_
  refine JO.if_ne 9 dX8_lowest_1 rfl ?_ ?_
  · refine JO.iloadn dX8_lowest_9 rfl ?_
    refine JO.ic 1 dX8_lowest_10 (by decide) ?_
    refine JO.icmp_ne 18 dX8_lowest_11 rfl ?_ ?_
    · refine JO.aloadn dX8_lowest_18 rfl ?_
      refine gQ3 k1_93 dX8_lowest_19 ?_
      refine JO.ic 1 dX8_lowest_22 (by decide) ?_
      refine JO.aC i_13 dX8_lowest_23 ?_
      refine JO.ic 1 dX8_lowest_24 (by decide) ?_
      refine JO.iadd dX8_lowest_25 ?_
      exact JO.iret dX8_lowest_26 rfl rfl rfl
    · refine JO.ic 0 dX8_lowest_14 (by decide) ?_
      refine JO.goto 26 dX8_lowest_15 rfl ?_
      exact JO.iret dX8_lowest_26 rfl rfl rfl
  · refine JO.aloadn dX8_lowest_4 rfl ?_
    refine JO.getO (cw_low hw) k7_49 dX8_lowest_5 ?_
    exact JO.iret dX8_lowest_8 rfl rfl rfl
theorem C_cQ_lowest {ad : Nat → Nat} {w : Nat} {Z : ZT} (hw : w < 11) (p2 : Int32) (σ : CS) : CO yX8_lowest M_cQ_lowest eI Z (wC ad Z) [.ref (ad 9), .ref (kz Z 1 w), .int p2] (wsC ad Z σ) (cQ_lowest w p2 σ) :=
  CO.of rfl rfl (Nat.le_of_ble_eq_true rfl) 0 (fun X hZ => by subst hZ; exact J_cQ_lowest hw _ σ)
theorem K_cQ_lowest : Kv yX8_lowest M_cQ_lowest RX8 2 := ⟨rfl, k3_212, s2_11, k1_4, k3_213, by decide +kernel⟩
abbrev M_cQ_highest : JM := (cX8_highest, 3, RX8, (some .int), 0, 0)
def cQ_highest (w : Nat) (p2 : Int32) (σ : CS) : Option (Int32 × CS) :=
  if p2 = 0 then (
    some (itemHigh.getD w 0, σ))
  else (
    some (60, σ))
theorem J_cQ_highest {X : JX} {ad : Nat → Nat} {w : Nat} (hw : w < 11) (p2 : Int32) (σ : CS) : JO X M_cQ_highest (QF X eI (wC ad (xZ X))) 0 [some (.ref (ad 9)), some (.ref (kz (xZ X) 1 w)), some (.int p2)] [] (wsC ad (xZ X) σ) (cQ_highest w p2 σ) := by
  unfold cQ_highest
  refine JO.iloadn dX8_highest_0 rfl ?_
  refine JO.if_ne 11 dX8_highest_1 rfl ?_ ?_
  · refine JO.bip 60 dX8_highest_11 (by decide) ?_
    exact JO.iret dX8_highest_13 rfl rfl rfl
  · refine JO.aloadn dX8_highest_4 rfl ?_
    refine JO.getO (cw_high hw) k7_50 dX8_highest_5 ?_
    refine JO.goto 13 dX8_highest_8 rfl ?_
    exact JO.iret dX8_highest_13 rfl rfl rfl
theorem C_cQ_highest {ad : Nat → Nat} {w : Nat} {Z : ZT} (hw : w < 11) (p2 : Int32) (σ : CS) : CO yX8_highest M_cQ_highest eI Z (wC ad Z) [.ref (ad 9), .ref (kz Z 1 w), .int p2] (wsC ad Z σ) (cQ_highest w p2 σ) :=
  CO.of rfl rfl (Nat.le_of_ble_eq_true rfl) 0 (fun X hZ => by subst hZ; exact J_cQ_highest hw _ σ)
theorem K_cQ_highest : Kv yX8_highest M_cQ_highest RX8 2 := ⟨rfl, k3_216, s2_12, k1_4, k3_217, by decide +kernel⟩
abbrev M_cQ_isDigit : JM := (cX8_isDigit, 3, RX8, (some .boolean), 1, 21)
def cQ_isDigit (i : Nat) (p2 : Int32) (σ : CS) : Option (Bool × CS) :=
  (cH_has i p2 σ).bind fun a1 =>
  if a1.1 = true then (
    (cH_letter i p2 a1.2).bind fun a2 =>
    if a2.1 < 48 then (
      some (false, a2.2))
    else (
      (cH_letter i p2 a2.2).bind fun a3 =>
      if 57 < a3.1 then (
        some (false, a3.2))
      else (
        some (true, a3.2))))
  else (
    some (false, a1.2))
theorem J_cQ_isDigit {X : JX} {ad : Nat → Nat} {i : Nat} (hi : i < 8) (p2 : Int32) (σ : CS) : JO X M_cQ_isDigit (QF X eZ (wC ad (xZ X))) 0 [some (.ref (ad 9)), some (.ref (ad (58 + i))), some (.int p2)] [] (wsC ad (xZ X) σ) (cQ_isDigit i p2 σ) := by
  unfold cQ_isDigit
  refine JO.aloadn dX8_isDigit_0 rfl ?_
  refine JO.iloadn dX8_isDigit_1 rfl ?_
  refine JO.cvz (C_cH_has hi _ _) (rcvH hi) K_cH_has k3_198 rfl rfl rfl (Nat.le_of_ble_eq_true rfl) dX8_isDigit_2 (fun a1 => ?_)
  refine JO.zeq 32 dX8_isDigit_5 rfl ?_ ?_
  · refine JO.ic 0 dX8_isDigit_32 (by decide) ?_
    exact JO.zret (b := false) dX8_isDigit_33 rfl rfl rfl
  · refine JO.aloadn dX8_isDigit_8 rfl ?_
    refine JO.iloadn dX8_isDigit_9 rfl ?_
    refine JO.cvi (C_cH_letter hi _ _) (rcvH hi) K_cH_letter k3_199 rfl rfl rfl (Nat.le_of_ble_eq_true rfl) dX8_isDigit_10 (fun a2 => ?_)
    refine JO.bip 48 dX8_isDigit_13 (by decide) ?_
    refine JO.icmp_lt 32 dX8_isDigit_15 rfl ?_ ?_
    · refine JO.ic 0 dX8_isDigit_32 (by decide) ?_
      exact JO.zret (b := false) dX8_isDigit_33 rfl rfl rfl
    · refine JO.aloadn dX8_isDigit_18 rfl ?_
      refine JO.iloadn dX8_isDigit_19 rfl ?_
      refine JO.cvi (C_cH_letter hi _ _) (rcvH hi) K_cH_letter k3_199 rfl rfl rfl (Nat.le_of_ble_eq_true rfl) dX8_isDigit_20 (fun a3 => ?_)
      refine JO.bip 57 dX8_isDigit_23 (by decide) ?_
      refine JO.icmp_gt 32 dX8_isDigit_25 rfl ?_ ?_
      · refine JO.ic 0 dX8_isDigit_32 (by decide) ?_
        exact JO.zret (b := false) dX8_isDigit_33 rfl rfl rfl
      · refine JO.ic 1 dX8_isDigit_28 (by decide) ?_
        refine JO.goto 33 dX8_isDigit_29 rfl ?_
        exact JO.zret (b := true) dX8_isDigit_33 rfl rfl rfl
theorem C_cQ_isDigit {ad : Nat → Nat} {i : Nat} {Z : ZT} (hi : i < 8) (p2 : Int32) (σ : CS) : CO yX8_isDigit M_cQ_isDigit eZ Z (wC ad Z) [.ref (ad 9), .ref (ad (58 + i)), .int p2] (wsC ad Z σ) (cQ_isDigit i p2 σ) :=
  CO.of rfl rfl (Nat.le_of_ble_eq_true rfl) 0 (fun X hZ => by subst hZ; exact J_cQ_isDigit hi _ σ)
theorem K_cQ_isDigit : Kv yX8_isDigit M_cQ_isDigit RX8 2 := ⟨rfl, k3_224, s2_14, k1_4, k3_225, by decide +kernel⟩
abbrev M_cQ_readNumber : JM := (cX8_readNumber, 7, RX8, (some .boolean), 2, 43)
def cQ_readNumber_b64 (i : Nat) (x2 : Int32) (x3 : Int32) (x4 : Int32) (x5 : Int32) (x6 : Int32) (σ : CS) : Option (Bool × CS) :=
  if cI σ 9 2 = x5 then (
    some (false, tI σ 9 1 x5))
  else (
    if x6 < x3 then (
      some (false, tI σ 9 1 x5))
    else (
      if x6 ≤ x4 then (
        if inB x2 3 = true then
        some (true, tA σ 13 (ix x2) x6)
        else none)
      else (
        some (false, tI σ 9 1 x5))))
def cQ_readNumber_l9 (i : Nat) : Nat → Int32 → Int32 → Int32 → Int32 → Int32 → CS → Option (Bool × CS)
  | 0, _, _, _, _, _, _ => none
  | n + 1, x2, x3, x4, x5, x6, σ =>
    if (x5 + 2) ≤ cI σ 9 2 then (
      cQ_readNumber_b64 i x2 x3 x4 x5 x6 σ)
    else (
      (cQ_isDigit i (cI σ 9 2) σ).bind fun a1 =>
      if a1.1 = true then (
        (cH_letter i (cI a1.2 9 2) a1.2).bind fun a2 =>
        cQ_readNumber_l9 i n x2 x3 x4 x5 (((x6 * 10) + a2.1) - 48) (tI a2.2 9 2 (cI a2.2 9 2 + 1)))
      else (
        cQ_readNumber_b64 i x2 x3 x4 x5 x6 a1.2))
def cQ_readNumber (i : Nat) (p2 : Int32) (p3 : Int32) (p4 : Int32) (σ : CS) : Option (Bool × CS) :=
  cQ_readNumber_l9 i 4096 p2 p3 p4 (cI σ 9 2) 0 σ
theorem J_cQ_readNumber_b64 {X : JX} {ad : Nat → Nat} {i : Nat} (hi : i < 8) (x2 : Int32) (x3 : Int32) (x4 : Int32) (x5 : Int32) (x6 : Int32) (σ : CS) : JO X M_cQ_readNumber (QF X eZ (wC ad (xZ X))) 64 [some (.ref (ad 9)), none, some (.int x2), some (.int x3), some (.int x4), some (.int x5), some (.int x6)] [] (wsC ad (xZ X) σ) (cQ_readNumber_b64 i x2 x3 x4 x5 x6 σ) := by
  unfold cQ_readNumber_b64
  refine JO.aloadn dX8_readNumber_64 rfl ?_
  refine gQ2 k1_92 dX8_readNumber_65 ?_
  refine JO.iload dX8_readNumber_68 rfl ?_
  refine JO.icmp_eq 86 dX8_readNumber_70 rfl ?_ ?_
  · refine JO.aloadn dX8_readNumber_86 rfl ?_
    refine JO.iload dX8_readNumber_87 rfl ?_
    refine pQ1 k1_90 dX8_readNumber_89 ?_
    refine JO.ic 0 dX8_readNumber_92 (by decide) ?_
    exact JO.zret (b := false) dX8_readNumber_93 rfl rfl rfl
  · refine JO.iload dX8_readNumber_73 rfl ?_
    refine JO.iloadn dX8_readNumber_75 rfl ?_
    refine JO.icmp_lt 86 dX8_readNumber_76 rfl ?_ ?_
    · refine JO.aloadn dX8_readNumber_86 rfl ?_
      refine JO.iload dX8_readNumber_87 rfl ?_
      refine pQ1 k1_90 dX8_readNumber_89 ?_
      refine JO.ic 0 dX8_readNumber_92 (by decide) ?_
      exact JO.zret (b := false) dX8_readNumber_93 rfl rfl rfl
    · refine JO.iload dX8_readNumber_79 rfl ?_
      refine JO.iload dX8_readNumber_81 rfl ?_
      refine JO.icmp_le 94 dX8_readNumber_83 rfl ?_ ?_
      · refine JO.aloadn dX8_readNumber_94 rfl ?_
        refine gQ3 k1_93 dX8_readNumber_95 ?_
        refine JO.iloadn dX8_readNumber_98 rfl ?_
        refine JO.iload dX8_readNumber_99 rfl ?_
        refine JO.uC i_13 dX8_readNumber_101 ?_
        refine JO.ic 1 dX8_readNumber_102 (by decide) ?_
        exact JO.zret (b := true) dX8_readNumber_103 rfl rfl rfl
      · refine JO.aloadn dX8_readNumber_86 rfl ?_
        refine JO.iload dX8_readNumber_87 rfl ?_
        refine pQ1 k1_90 dX8_readNumber_89 ?_
        refine JO.ic 0 dX8_readNumber_92 (by decide) ?_
        exact JO.zret (b := false) dX8_readNumber_93 rfl rfl rfl
theorem J_cQ_readNumber_l9 {X : JX} {ad : Nat → Nat} {i : Nat} (hi : i < 8) : ∀ (n : Nat) (x2 : Int32) (x3 : Int32) (x4 : Int32) (x5 : Int32) (x6 : Int32) (σ : CS), JO X M_cQ_readNumber (QF X eZ (wC ad (xZ X))) 9 [some (.ref (ad 9)), some (.ref (ad (58 + i))), some (.int x2), some (.int x3), some (.int x4), some (.int x5), some (.int x6)] [] (wsC ad (xZ X) σ) (cQ_readNumber_l9 i n x2 x3 x4 x5 x6 σ) := by
  intro n
  induction n with
  | zero => intro x2 x3 x4 x5 x6 σ; exact JO.nil
  | succ n ih =>
    intro x2 x3 x4 x5 x6 σ
    unfold cQ_readNumber_l9
    refine JO.aloadn dX8_readNumber_9 rfl ?_
    refine gQ2 k1_92 dX8_readNumber_10 ?_
    refine JO.iload dX8_readNumber_13 rfl ?_
    refine JO.ic 2 dX8_readNumber_15 (by decide) ?_
    refine JO.iadd dX8_readNumber_16 ?_
    refine JO.icmp_ge 64 dX8_readNumber_17 rfl ?_ ?_
    · exact (J_cQ_readNumber_b64 hi _ _ _ _ _ _).jump (lvLe.so rfl (lvLe.no (lvLe.so rfl (lvLe.so rfl (lvLe.so rfl (lvLe.so rfl (lvLe.so rfl (lvLe.nil))))))))
    · refine JO.aloadn dX8_readNumber_20 rfl ?_
      refine JO.aloadn dX8_readNumber_21 rfl ?_
      refine JO.aloadn dX8_readNumber_22 rfl ?_
      refine gQ2 k1_92 dX8_readNumber_23 ?_
      refine JO.cvz (C_cQ_isDigit hi _ _) rcvQ K_cQ_isDigit k3_222 rfl rfl rfl (Nat.le_of_ble_eq_true rfl) dX8_readNumber_26 (fun a1 => ?_)
      refine JO.zeq 64 dX8_readNumber_29 rfl ?_ ?_
      · exact (J_cQ_readNumber_b64 hi _ _ _ _ _ _).jump (lvLe.so rfl (lvLe.no (lvLe.so rfl (lvLe.so rfl (lvLe.so rfl (lvLe.so rfl (lvLe.so rfl (lvLe.nil))))))))
      · refine JO.iload dX8_readNumber_32 rfl ?_
        refine JO.bip 10 dX8_readNumber_34 (by decide) ?_
        refine JO.imul dX8_readNumber_36 ?_
        refine JO.aloadn dX8_readNumber_37 rfl ?_
        refine JO.aloadn dX8_readNumber_38 rfl ?_
        refine gQ2 k1_92 dX8_readNumber_39 ?_
        refine JO.cvi (C_cH_letter hi _ _) (rcvH hi) K_cH_letter k3_199 rfl rfl rfl (Nat.le_of_ble_eq_true rfl) dX8_readNumber_42 (fun a2 => ?_)
        refine JO.iadd dX8_readNumber_45 ?_
        refine JO.bip 48 dX8_readNumber_46 (by decide) ?_
        refine JO.isub dX8_readNumber_48 ?_
        refine JO.istore dX8_readNumber_49 rfl rfl ?_
        refine JO.aloadn dX8_readNumber_51 rfl ?_
        refine JO.dup dX8_readNumber_52 rfl ?_
        refine gQ2 k1_92 dX8_readNumber_53 ?_
        refine JO.ic 1 dX8_readNumber_56 (by decide) ?_
        refine JO.iadd dX8_readNumber_57 ?_
        refine pQ2 k1_92 dX8_readNumber_58 ?_
        refine JO.goto 9 dX8_readNumber_61 rfl ?_
        exact (ih _ _ _ _ _ _).jump (lvLe.so rfl (lvLe.so rfl (lvLe.so rfl (lvLe.so rfl (lvLe.so rfl (lvLe.so rfl (lvLe.so rfl (lvLe.nil))))))))
theorem J_cQ_readNumber {X : JX} {ad : Nat → Nat} {i : Nat} (hi : i < 8) (p2 : Int32) (p3 : Int32) (p4 : Int32) (σ : CS) : JO X M_cQ_readNumber (QF X eZ (wC ad (xZ X))) 0 [some (.ref (ad 9)), some (.ref (ad (58 + i))), some (.int p2), some (.int p3), some (.int p4), none, none] [] (wsC ad (xZ X) σ) (cQ_readNumber i p2 p3 p4 σ) := by
  unfold cQ_readNumber
  refine JO.aloadn dX8_readNumber_0 rfl ?_
  refine gQ2 k1_92 dX8_readNumber_1 ?_
  refine JO.istore dX8_readNumber_4 rfl rfl ?_
  refine JO.ic 0 dX8_readNumber_6 (by decide) ?_
  refine JO.istore dX8_readNumber_7 rfl rfl ?_
  exact (J_cQ_readNumber_l9 hi 4096 _ _ _ _ _ _).jump (lvLe.so rfl (lvLe.so rfl (lvLe.so rfl (lvLe.so rfl (lvLe.so rfl (lvLe.so rfl (lvLe.so rfl (lvLe.nil))))))))
theorem C_cQ_readNumber {ad : Nat → Nat} {i : Nat} {Z : ZT} (hi : i < 8) (p2 : Int32) (p3 : Int32) (p4 : Int32) (σ : CS) : CO yX8_readNumber M_cQ_readNumber eZ Z (wC ad Z) [.ref (ad 9), .ref (ad (58 + i)), .int p2, .int p3, .int p4] (wsC ad Z σ) (cQ_readNumber i p2 p3 p4 σ) :=
  CO.of rfl rfl (Nat.le_of_ble_eq_true rfl) 2 (fun X hZ => by subst hZ; exact J_cQ_readNumber hi _ _ _ σ)
theorem K_cQ_readNumber : Kv yX8_readNumber M_cQ_readNumber RX8 4 := ⟨rfl, k3_220, s2_13, k1_4, k3_221, by decide +kernel⟩
abbrev M_cQ_readItem : JM := (cX8_readItem, 4, RX8, (some .boolean), 6, 135)
def cQ_readItem_b61 (i : Nat) (x2 : Nat) (σ : CS) : Option (Bool × CS) :=
  if x2 < 11 then
  if inB 0 3 = true then
  if inB 1 3 = true then
  if inB 2 3 = true then
  (cS_apply 10 x2 (cA σ 13 (ix 0)) (cA σ 13 (ix 1)) (cA σ 13 (ix 2)) σ).bind fun a1 =>
  some (true, a1.2)
  else none
  else none
  else none
  else none
def cQ_readItem_l14 (i : Nat) : Nat → Nat → Int32 → CS → Option (Bool × CS)
  | 0, _, _, _ => none
  | n + 1, x2, x3, σ =>
    if x2 < 11 then
    if itemNum.getD x2 0 ≤ x3 then (
      cQ_readItem_b61 i x2 σ)
    else (
      (cQ_readSign i 32 σ).bind fun a1 =>
      if a1.1 = true then (
        (cQ_lowest x2 x3 a1.2).bind fun a2 =>
        (cQ_highest x2 x3 a2.2).bind fun a3 =>
        (cQ_readNumber i x3 a2.1 a3.1 a3.2).bind fun a4 =>
        if a4.1 = true then (
          cQ_readItem_l14 i n x2 (x3 + 1) a4.2)
        else (
          some (false, a4.2)))
      else (
        some (false, a1.2)))
    else none
def cQ_readItem (i : Nat) (σ : CS) : Option (Bool × CS) :=
  (cQ_readWord i σ).bind fun a1 =>
  Option.elim a1.1 (
    some (false, a1.2))
  (fun w1 => if w1 < 11 then (
    cQ_readItem_l14 i 4096 w1 0 a1.2) else none)
theorem J_cQ_readItem_b61 {X : JX} {ad : Nat → Nat} {i : Nat} (hi : i < 8) (x2 : Nat) (σ : CS) : JO X M_cQ_readItem (QF X eZ (wC ad (xZ X))) 61 [some (.ref (ad 9)), none, some (.ref (kz (xZ X) 1 x2)), none] [] (wsC ad (xZ X) σ) (cQ_readItem_b61 i x2 σ) := by
  unfold cQ_readItem_b61
  refine JO.gif (fun hx2 => ?_)
  refine JO.aloadn dX8_readItem_61 rfl ?_
  refine gQ0 k1_88 dX8_readItem_62 ?_
  refine JO.aloadn dX8_readItem_65 rfl ?_
  refine JO.aloadn dX8_readItem_66 rfl ?_
  refine gQ3 k1_93 dX8_readItem_67 ?_
  refine JO.ic 0 dX8_readItem_70 (by decide) ?_
  refine JO.aC i_13 dX8_readItem_71 ?_
  refine JO.aloadn dX8_readItem_72 rfl ?_
  refine gQ3 k1_93 dX8_readItem_73 ?_
  refine JO.ic 1 dX8_readItem_76 (by decide) ?_
  refine JO.aC i_13 dX8_readItem_77 ?_
  refine JO.aloadn dX8_readItem_78 rfl ?_
  refine gQ3 k1_93 dX8_readItem_79 ?_
  refine JO.ic 2 dX8_readItem_82 (by decide) ?_
  refine JO.aC i_13 dX8_readItem_83 ?_
  refine JO.cvv (C_cS_apply isS10 hx2 _ _ _ _) (rcvS isS10) K_cS_apply k3_226 rfl rfl rfl (Nat.le_of_ble_eq_true rfl) dX8_readItem_84 (fun a1 => ?_)
  refine JO.ic 1 dX8_readItem_87 (by decide) ?_
  exact JO.zret (b := true) dX8_readItem_88 rfl rfl rfl
theorem J_cQ_readItem_l14 {X : JX} {ad : Nat → Nat} {i : Nat} (hi : i < 8) : ∀ (n : Nat) (x2 : Nat) (x3 : Int32) (σ : CS), JO X M_cQ_readItem (QF X eZ (wC ad (xZ X))) 14 [some (.ref (ad 9)), some (.ref (ad (58 + i))), some (.ref (kz (xZ X) 1 x2)), some (.int x3)] [] (wsC ad (xZ X) σ) (cQ_readItem_l14 i n x2 x3 σ) := by
  intro n
  induction n with
  | zero => intro x2 x3 σ; exact JO.nil
  | succ n ih =>
    intro x2 x3 σ
    unfold cQ_readItem_l14
    refine JO.gif (fun hx2 => ?_)
    refine JO.iloadn dX8_readItem_14 rfl ?_
    refine JO.aloadn dX8_readItem_15 rfl ?_
    refine JO.getO (cw_num hx2) k7_48 dX8_readItem_16 ?_
    refine JO.icmp_ge 61 dX8_readItem_19 rfl ?_ ?_
    · exact (J_cQ_readItem_b61 hi _ _).jump (lvLe.so rfl (lvLe.no (lvLe.so rfl (lvLe.no (lvLe.nil)))))
    · refine JO.aloadn dX8_readItem_22 rfl ?_
      refine JO.aloadn dX8_readItem_23 rfl ?_
      refine JO.bip 32 dX8_readItem_24 (by decide) ?_
      refine JO.cvz (C_cQ_readSign hi _ _) rcvQ K_cQ_readSign k3_206 rfl rfl rfl (Nat.le_of_ble_eq_true rfl) dX8_readItem_26 (fun a1 => ?_)
      refine JO.zeq 53 dX8_readItem_29 rfl ?_ ?_
      · refine JO.ic 0 dX8_readItem_53 (by decide) ?_
        exact JO.zret (b := false) dX8_readItem_54 rfl rfl rfl
      · refine JO.aloadn dX8_readItem_32 rfl ?_
        refine JO.aloadn dX8_readItem_33 rfl ?_
        refine JO.iloadn dX8_readItem_34 rfl ?_
        refine JO.aloadn dX8_readItem_35 rfl ?_
        refine JO.aloadn dX8_readItem_36 rfl ?_
        refine JO.iloadn dX8_readItem_37 rfl ?_
        refine JO.cvi (C_cQ_lowest hx2 _ _) rcvQ K_cQ_lowest k3_210 rfl rfl rfl (Nat.le_of_ble_eq_true rfl) dX8_readItem_38 (fun a2 => ?_)
        refine JO.aloadn dX8_readItem_41 rfl ?_
        refine JO.aloadn dX8_readItem_42 rfl ?_
        refine JO.iloadn dX8_readItem_43 rfl ?_
        refine JO.cvi (C_cQ_highest hx2 _ _) rcvQ K_cQ_highest k3_214 rfl rfl rfl (Nat.le_of_ble_eq_true rfl) dX8_readItem_44 (fun a3 => ?_)
        refine JO.cvz (C_cQ_readNumber hi _ _ _ _) rcvQ K_cQ_readNumber k3_218 rfl rfl rfl (Nat.le_of_ble_eq_true rfl) dX8_readItem_47 (fun a4 => ?_)
        refine JO.zne 55 dX8_readItem_50 rfl ?_ ?_
        · refine JO.iinc dX8_readItem_55 rfl 1 (by decide) rfl rfl ?_
          refine JO.goto 14 dX8_readItem_58 rfl ?_
          exact (ih _ _ _).jump (lvLe.so rfl (lvLe.so rfl (lvLe.so rfl (lvLe.so rfl (lvLe.nil)))))
        · refine JO.ic 0 dX8_readItem_53 (by decide) ?_
          exact JO.zret (b := false) dX8_readItem_54 rfl rfl rfl
theorem J_cQ_readItem {X : JX} {ad : Nat → Nat} {i : Nat} (hi : i < 8) (σ : CS) : JO X M_cQ_readItem (QF X eZ (wC ad (xZ X))) 0 [some (.ref (ad 9)), some (.ref (ad (58 + i))), none, none] [] (wsC ad (xZ X) σ) (cQ_readItem i σ) := by
  unfold cQ_readItem
  refine JO.aloadn dX8_readItem_0 rfl ?_
  refine JO.aloadn dX8_readItem_1 rfl ?_
  refine JO.cvo (C_cQ_readWord hi _) rcvQ K_cQ_readWord k3_136 rfl rfl rfl (Nat.le_of_ble_eq_true rfl) dX8_readItem_2 (fun a1 => ?_)
  refine JO.opt ?_ (fun w1 h61 => ?_)
  · refine JO.astorenN dX8_readItem_5 rfl rfl ?_
    refine JO.aloadnN dX8_readItem_6 rfl ?_
    refine JO.ifnnN dX8_readItem_7 ?_
    refine JO.ic 0 dX8_readItem_10 (by decide) ?_
    exact JO.zret (b := false) dX8_readItem_11 rfl rfl rfl
  · refine JO.astoren dX8_readItem_5 rfl rfl ?_
    refine JO.aloadn dX8_readItem_6 rfl ?_
    refine JO.ifnn 12 dX8_readItem_7 rfl ?_
    refine JO.ic 0 dX8_readItem_12 (by decide) ?_
    refine JO.istoren dX8_readItem_13 rfl rfl ?_
    exact (J_cQ_readItem_l14 hi 4096 _ _ _).jump (lvLe.so rfl (lvLe.so rfl (lvLe.so rfl (lvLe.so rfl (lvLe.nil)))))
theorem C_cQ_readItem {ad : Nat → Nat} {i : Nat} {Z : ZT} (hi : i < 8) (σ : CS) : CO yX8_readItem M_cQ_readItem eZ Z (wC ad Z) [.ref (ad 9), .ref (ad (58 + i))] (wsC ad Z σ) (cQ_readItem i σ) :=
  CO.of rfl rfl (Nat.le_of_ble_eq_true rfl) 2 (fun X hZ => by subst hZ; exact J_cQ_readItem hi σ)
theorem K_cQ_readItem : Kv yX8_readItem M_cQ_readItem RX8 1 := ⟨rfl, k3_134, s2_6, k1_4, k3_135, by decide +kernel⟩
abbrev M_cQ_readItems : JM := (cX8_readItems, 3, RX8, (some .int), 7, 158)
def cQ_readItems_l12 (i : Nat) : Nat → Int32 → CS → Option (Int32 × CS)
  | 0, _, _ => none
  | n + 1, x2, σ =>
    if (cI σ (58 + i) 2 + 1) < x2 then (
      some ((-1), σ))
    else (
      (cQ_readItem i σ).bind fun a1 =>
      if a1.1 = true then (
        if cI a1.2 9 2 = cI a1.2 (58 + i) 2 then (
          some (x2, a1.2))
        else (
          (cQ_readSign i 59 a1.2).bind fun a2 =>
          if a2.1 = true then (
            cQ_readItems_l12 i n (x2 + 1) a2.2)
          else (
            some ((-1), a2.2))))
      else (
        some ((-1), a1.2)))
def cQ_readItems (i : Nat) (σ : CS) : Option (Int32 × CS) :=
  cQ_readItems_l12 i 4096 1 (tI (tI σ 9 1 (-1)) 9 2 0)
theorem J_cQ_readItems_l12 {X : JX} {ad : Nat → Nat} {i : Nat} (hi : i < 8) : ∀ (n : Nat) (x2 : Int32) (σ : CS), JO X M_cQ_readItems (QF X eI (wC ad (xZ X))) 12 [some (.ref (ad 9)), some (.ref (ad (58 + i))), some (.int x2)] [] (wsC ad (xZ X) σ) (cQ_readItems_l12 i n x2 σ) := by
  intro n
  induction n with
  | zero => intro x2 σ; exact JO.nil
  | succ n ih =>
    intro x2 σ
    unfold cQ_readItems_l12
    refine JO.iloadn dX8_readItems_12 rfl ?_
    refine JO.aloadn dX8_readItems_13 rfl ?_
    refine gH2 hi k2_12 dX8_readItems_14 ?_
    refine JO.ic 1 dX8_readItems_17 (by decide) ?_
    refine JO.iadd dX8_readItems_18 ?_
    refine JO.icmp_gt 63 dX8_readItems_19 rfl ?_ ?_
    · refine JO.ic (-1) dX8_readItems_63 (by decide) ?_
      exact JO.iret dX8_readItems_64 rfl rfl rfl
    · refine JO.aloadn dX8_readItems_22 rfl ?_
      refine JO.aloadn dX8_readItems_23 rfl ?_
      refine JO.cvz (C_cQ_readItem hi _) rcvQ K_cQ_readItem k3_132 rfl rfl rfl (Nat.le_of_ble_eq_true rfl) dX8_readItems_24 (fun a1 => ?_)
      refine JO.zne 32 dX8_readItems_27 rfl ?_ ?_
      · refine JO.aloadn dX8_readItems_32 rfl ?_
        refine gQ2 k1_92 dX8_readItems_33 ?_
        refine JO.aloadn dX8_readItems_36 rfl ?_
        refine gH2 hi k2_12 dX8_readItems_37 ?_
        refine JO.icmp_ne 45 dX8_readItems_40 rfl ?_ ?_
        · refine JO.aloadn dX8_readItems_45 rfl ?_
          refine JO.aloadn dX8_readItems_46 rfl ?_
          refine JO.bip 59 dX8_readItems_47 (by decide) ?_
          refine JO.cvz (C_cQ_readSign hi _ _) rcvQ K_cQ_readSign k3_206 rfl rfl rfl (Nat.le_of_ble_eq_true rfl) dX8_readItems_49 (fun a2 => ?_)
          refine JO.zne 57 dX8_readItems_52 rfl ?_ ?_
          · refine JO.iinc dX8_readItems_57 rfl 1 (by decide) rfl rfl ?_
            refine JO.goto 12 dX8_readItems_60 rfl ?_
            exact (ih _ _).jump (lvLe.so rfl (lvLe.so rfl (lvLe.so rfl (lvLe.nil))))
          · refine JO.ic (-1) dX8_readItems_55 (by decide) ?_
            exact JO.iret dX8_readItems_56 rfl rfl rfl
        · refine JO.iloadn dX8_readItems_43 rfl ?_
          exact JO.iret dX8_readItems_44 rfl rfl rfl
      · refine JO.ic (-1) dX8_readItems_30 (by decide) ?_
        exact JO.iret dX8_readItems_31 rfl rfl rfl
theorem J_cQ_readItems {X : JX} {ad : Nat → Nat} {i : Nat} (hi : i < 8) (σ : CS) : JO X M_cQ_readItems (QF X eI (wC ad (xZ X))) 0 [some (.ref (ad 9)), some (.ref (ad (58 + i))), none] [] (wsC ad (xZ X) σ) (cQ_readItems i σ) := by
  unfold cQ_readItems
  refine JO.aloadn dX8_readItems_0 rfl ?_
  refine JO.ic (-1) dX8_readItems_1 (by decide) ?_
  refine pQ1 k1_90 dX8_readItems_2 ?_
  refine JO.aloadn dX8_readItems_5 rfl ?_
  refine JO.ic 0 dX8_readItems_6 (by decide) ?_
  refine pQ2 k1_92 dX8_readItems_7 ?_
  refine JO.ic 1 dX8_readItems_10 (by decide) ?_
  refine JO.istoren dX8_readItems_11 rfl rfl ?_
  exact (J_cQ_readItems_l12 hi 4096 _ _).jump (lvLe.so rfl (lvLe.so rfl (lvLe.so rfl (lvLe.nil))))
theorem C_cQ_readItems {ad : Nat → Nat} {i : Nat} {Z : ZT} (hi : i < 8) (σ : CS) : CO yX8_readItems M_cQ_readItems eI Z (wC ad Z) [.ref (ad 9), .ref (ad (58 + i))] (wsC ad Z σ) (cQ_readItems i σ) :=
  CO.of rfl rfl (Nat.le_of_ble_eq_true rfl) 1 (fun X hZ => by subst hZ; exact J_cQ_readItems hi σ)
theorem K_cQ_readItems : Kv yX8_readItems M_cQ_readItems RX8 1 := ⟨rfl, k3_129, k3_130, k1_4, k3_131, by decide +kernel⟩
abbrev M_cP_isShelf : JM := (cX9_isShelf, 1, RX9, (some .boolean), 0, 0)
def cP_isShelf (p1 : Int32) (σ : CS) : Option (Bool × CS) :=
  if p1 < 0 then (
    some (false, σ))
  else (
    if 8 ≤ p1 then (
      some (false, σ))
    else (
      some (true, σ)))
theorem J_cP_isShelf {X : JX} {ad : Nat → Nat} (p1 : Int32) (σ : CS) : JO X M_cP_isShelf (QF X eZ (wC ad (xZ X))) 0 [some (.int p1)] [] (wsC ad (xZ X) σ) (cP_isShelf p1 σ) := by
  unfold cP_isShelf
  refine JO.iloadn dX9_isShelf_0 rfl ?_
  refine JO.if_lt 14 dX9_isShelf_1 rfl ?_ ?_
  · refine JO.ic 0 dX9_isShelf_14 (by decide) ?_
    exact JO.zret (b := false) dX9_isShelf_15 rfl rfl rfl
  · refine JO.iloadn dX9_isShelf_4 rfl ?_
    refine JO.bip 8 dX9_isShelf_5 (by decide) ?_
    refine JO.icmp_ge 14 dX9_isShelf_7 rfl ?_ ?_
    · refine JO.ic 0 dX9_isShelf_14 (by decide) ?_
      exact JO.zret (b := false) dX9_isShelf_15 rfl rfl rfl
    · refine JO.ic 1 dX9_isShelf_10 (by decide) ?_
      refine JO.goto 15 dX9_isShelf_11 rfl ?_
      exact JO.zret (b := true) dX9_isShelf_15 rfl rfl rfl
theorem C_cP_isShelf {ad : Nat → Nat} {Z : ZT} (p1 : Int32) (σ : CS) : CO yX9_isShelf M_cP_isShelf eZ Z (wC ad Z) [.int p1] (wsC ad Z σ) (cP_isShelf p1 σ) :=
  CO.of rfl rfl (Nat.le_of_ble_eq_true rfl) 0 (fun X hZ => by subst hZ; exact J_cP_isShelf _ σ)
theorem K_cP_isShelf : Ks yX9_isShelf M_cP_isShelf 1 := ⟨k2_84, k1_1, k2_85, by decide +kernel⟩
abbrev M_cP_refuse : JM := (cX9_refuse, 2, RX9, (some .int), 0, 0)
def cP_refuse (p1 : Int32) (σ : CS) : Option (Int32 × CS) :=
  if inB (-p1) 8 = true then
  if inB (-p1) 8 = true then
  some (p1, tA σ 2 (ix (-p1)) (cA σ 2 (ix (-p1)) + 1))
  else none
  else none
theorem J_cP_refuse {X : JX} {ad : Nat → Nat} (p1 : Int32) (σ : CS) : JO X M_cP_refuse (QF X eI (wC ad (xZ X))) 0 [some (.ref (ad 0)), some (.int p1)] [] (wsC ad (xZ X) σ) (cP_refuse p1 σ) := by
  unfold cP_refuse
  refine JO.aloadn dX9_refuse_0 rfl ?_
  refine gP1 k2_40 dX9_refuse_1 ?_
  refine JO.iloadn dX9_refuse_4 rfl ?_
  refine JO.ineg dX9_refuse_5 ?_
  refine JO.dup2 dX9_refuse_6 rfl rfl ?_
  refine JO.aC i_2 dX9_refuse_7 ?_
  refine JO.ic 1 dX9_refuse_8 (by decide) ?_
  refine JO.iadd dX9_refuse_9 ?_
  refine JO.uC i_2 dX9_refuse_10 ?_
  refine JO.iloadn dX9_refuse_11 rfl ?_
  exact JO.iret dX9_refuse_12 rfl rfl rfl
theorem C_cP_refuse {ad : Nat → Nat} {Z : ZT} (p1 : Int32) (σ : CS) : CO yX9_refuse M_cP_refuse eI Z (wC ad Z) [.ref (ad 0), .int p1] (wsC ad Z σ) (cP_refuse p1 σ) :=
  CO.of rfl rfl (Nat.le_of_ble_eq_true rfl) 0 (fun X hZ => by subst hZ; exact J_cP_refuse _ σ)
theorem K_cP_refuse : Kv yX9_refuse M_cP_refuse RX9 1 := ⟨rfl, k2_88, s1_0, k1_1, k2_89, by decide +kernel⟩
abbrev M_cP_row : JM := (cX9_row, 4, RX9, (some .int), 2, 46)
def cP_row_b33 (σ : CS) : Option (Int32 × CS) :=
  (cP_refuse (-6) σ).bind fun a1 =>
  some (a1.1, a1.2)
def cP_row (p1 : Int32) (p2 : Int32) (p3 : Int32) (σ : CS) : Option (Int32 × CS) :=
  (cP_isShelf p1 σ).bind fun a1 =>
  if a1.1 = true then (
    if 0 ≤ p3 then (
      if p2 < 0 then (
        cP_row_b33 a1.2)
      else (
        if p2 ≤ 3 then (
          if p3 ≤ 160 then (
            if inB p1 8 = true then
            (cH_holdRow (ix p1) p2 p3 a1.2).bind fun a2 =>
            some (1, a2.2)
            else none)
          else (
            (cP_refuse (-7) a1.2).bind fun a3 =>
            some (a3.1, a3.2)))
        else (
          cP_row_b33 a1.2)))
    else (
      (cP_refuse (-4) a1.2).bind fun a4 =>
      some (a4.1, a4.2)))
  else (
    (cP_refuse (-1) a1.2).bind fun a5 =>
    some (a5.1, a5.2))
theorem J_cP_row_b33 {X : JX} {ad : Nat → Nat} (σ : CS) : JO X M_cP_row (QF X eI (wC ad (xZ X))) 33 [some (.ref (ad 0)), none, none, none] [] (wsC ad (xZ X) σ) (cP_row_b33 σ) := by
  unfold cP_row_b33
  refine JO.aloadn dX9_row_33 rfl ?_
  refine JO.bip (-6) dX9_row_34 (by decide) ?_
  refine JO.cvi (C_cP_refuse _ _) rcvP K_cP_refuse k2_86 rfl rfl rfl (Nat.le_of_ble_eq_true rfl) dX9_row_36 (fun a1 => ?_)
  exact JO.iret dX9_row_39 rfl rfl rfl
theorem J_cP_row {X : JX} {ad : Nat → Nat} (p1 : Int32) (p2 : Int32) (p3 : Int32) (σ : CS) : JO X M_cP_row (QF X eI (wC ad (xZ X))) 0 [some (.ref (ad 0)), some (.int p1), some (.int p2), some (.int p3)] [] (wsC ad (xZ X) σ) (cP_row p1 p2 p3 σ) := by
  unfold cP_row
  refine JO.iloadn dX9_row_0 rfl ?_
  refine JO.csz (C_cP_isShelf _ _) K_cP_isShelf k2_83 rfl rfl rfl (Nat.le_of_ble_eq_true rfl) dX9_row_1 (fun a1 => ?_)
  refine JO.zne 13 dX9_row_4 rfl ?_ ?_
  · refine JO.iloadn dX9_row_13 rfl ?_
    refine JO.if_ge 24 dX9_row_14 rfl ?_ ?_
    · refine JO.iloadn dX9_row_24 rfl ?_
      refine JO.if_lt 33 dX9_row_25 rfl ?_ ?_
      · exact (J_cP_row_b33 _).jump (lvLe.so rfl (lvLe.no (lvLe.no (lvLe.no (lvLe.nil)))))
      · refine JO.iloadn dX9_row_28 rfl ?_
        refine JO.ic 3 dX9_row_29 (by decide) ?_
        refine JO.icmp_le 40 dX9_row_30 rfl ?_ ?_
        · refine JO.iloadn dX9_row_40 rfl ?_
          refine JO.sip 160 dX9_row_41 (by decide) ?_
          refine JO.icmp_le 54 dX9_row_44 rfl ?_ ?_
          · refine JO.aloadn dX9_row_54 rfl ?_
            refine gP0 k2_39 dX9_row_55 ?_
            refine JO.iloadn dX9_row_58 rfl ?_
            refine JO.aH dX9_row_59 (fun h21 => ?_)
            refine JO.iloadn dX9_row_60 rfl ?_
            refine JO.iloadn dX9_row_61 rfl ?_
            refine JO.cvv (C_cH_holdRow h21 _ _ _) (rcvH h21) K_cH_holdRow k2_90 rfl rfl rfl (Nat.le_of_ble_eq_true rfl) dX9_row_62 (fun a2 => ?_)
            refine JO.ic 1 dX9_row_65 (by decide) ?_
            exact JO.iret dX9_row_66 rfl rfl rfl
          · refine JO.aloadn dX9_row_47 rfl ?_
            refine JO.bip (-7) dX9_row_48 (by decide) ?_
            refine JO.cvi (C_cP_refuse _ _) rcvP K_cP_refuse k2_86 rfl rfl rfl (Nat.le_of_ble_eq_true rfl) dX9_row_50 (fun a3 => ?_)
            exact JO.iret dX9_row_53 rfl rfl rfl
        · exact (J_cP_row_b33 _).jump (lvLe.so rfl (lvLe.no (lvLe.no (lvLe.no (lvLe.nil)))))
    · refine JO.aloadn dX9_row_17 rfl ?_
      refine JO.bip (-4) dX9_row_18 (by decide) ?_
      refine JO.cvi (C_cP_refuse _ _) rcvP K_cP_refuse k2_86 rfl rfl rfl (Nat.le_of_ble_eq_true rfl) dX9_row_20 (fun a4 => ?_)
      exact JO.iret dX9_row_23 rfl rfl rfl
  · refine JO.aloadn dX9_row_7 rfl ?_
    refine JO.ic (-1) dX9_row_8 (by decide) ?_
    refine JO.cvi (C_cP_refuse _ _) rcvP K_cP_refuse k2_86 rfl rfl rfl (Nat.le_of_ble_eq_true rfl) dX9_row_9 (fun a5 => ?_)
    exact JO.iret dX9_row_12 rfl rfl rfl
theorem C_cP_row {ad : Nat → Nat} {Z : ZT} (p1 : Int32) (p2 : Int32) (p3 : Int32) (σ : CS) : CO yX9_row M_cP_row eI Z (wC ad Z) [.ref (ad 0), .int p1, .int p2, .int p3] (wsC ad Z σ) (cP_row p1 p2 p3 σ) :=
  CO.of rfl rfl (Nat.le_of_ble_eq_true rfl) 0 (fun X hZ => by subst hZ; exact J_cP_row _ _ _ σ)
theorem K_cP_row : Kv yX9_row M_cP_row RX9 3 := ⟨rfl, k2_80, k2_81, k1_1, k2_82, by decide +kernel⟩
abbrev M_cP_rowLack : JM := (cX9_rowLack, 2, RX9, (some .int), 1, 20)
def cP_rowLack (p1 : Int32) (σ : CS) : Option (Int32 × CS) :=
  (cP_isShelf p1 σ).bind fun a1 =>
  if a1.1 = true then (
    if inB p1 8 = true then
    (cH_isMessage (ix p1) a1.2).bind fun a2 =>
    if a2.1 = true then (
      some ((-2), a2.2))
    else (
      if inB p1 8 = true then
      (cH_isEmpty (ix p1) a2.2).bind fun a3 =>
      if a3.1 = true then (
        some ((-3), a3.2))
      else (
        some (0, a3.2))
      else none)
    else none)
  else (
    some ((-1), a1.2))
theorem J_cP_rowLack {X : JX} {ad : Nat → Nat} (p1 : Int32) (σ : CS) : JO X M_cP_rowLack (QF X eI (wC ad (xZ X))) 0 [some (.ref (ad 0)), some (.int p1)] [] (wsC ad (xZ X) σ) (cP_rowLack p1 σ) := by
  unfold cP_rowLack
  refine JO.iloadn dX9_rowLack_0 rfl ?_
  refine JO.csz (C_cP_isShelf _ _) K_cP_isShelf k2_83 rfl rfl rfl (Nat.le_of_ble_eq_true rfl) dX9_rowLack_1 (fun a1 => ?_)
  refine JO.zne 9 dX9_rowLack_4 rfl ?_ ?_
  · refine JO.aloadn dX9_rowLack_9 rfl ?_
    refine gP0 k2_39 dX9_rowLack_10 ?_
    refine JO.iloadn dX9_rowLack_13 rfl ?_
    refine JO.aH dX9_rowLack_14 (fun h21 => ?_)
    refine JO.cvz (C_cH_isMessage h21 _) (rcvH h21) K_cH_isMessage k2_105 rfl rfl rfl (Nat.le_of_ble_eq_true rfl) dX9_rowLack_15 (fun a2 => ?_)
    refine JO.zeq 24 dX9_rowLack_18 rfl ?_ ?_
    · refine JO.aloadn dX9_rowLack_24 rfl ?_
      refine gP0 k2_39 dX9_rowLack_25 ?_
      refine JO.iloadn dX9_rowLack_28 rfl ?_
      refine JO.aH dX9_rowLack_29 (fun h22 => ?_)
      refine JO.cvz (C_cH_isEmpty h22 _) (rcvH h22) K_cH_isEmpty k2_109 rfl rfl rfl (Nat.le_of_ble_eq_true rfl) dX9_rowLack_30 (fun a3 => ?_)
      refine JO.zeq 41 dX9_rowLack_33 rfl ?_ ?_
      · refine JO.ic 0 dX9_rowLack_41 (by decide) ?_
        exact JO.iret dX9_rowLack_42 rfl rfl rfl
      · refine JO.bip (-3) dX9_rowLack_36 (by decide) ?_
        refine JO.goto 42 dX9_rowLack_38 rfl ?_
        exact JO.iret dX9_rowLack_42 rfl rfl rfl
    · refine JO.bip (-2) dX9_rowLack_21 (by decide) ?_
      exact JO.iret dX9_rowLack_23 rfl rfl rfl
  · refine JO.ic (-1) dX9_rowLack_7 (by decide) ?_
    exact JO.iret dX9_rowLack_8 rfl rfl rfl
theorem C_cP_rowLack {ad : Nat → Nat} {Z : ZT} (p1 : Int32) (σ : CS) : CO yX9_rowLack M_cP_rowLack eI Z (wC ad Z) [.ref (ad 0), .int p1] (wsC ad Z σ) (cP_rowLack p1 σ) :=
  CO.of rfl rfl (Nat.le_of_ble_eq_true rfl) 0 (fun X hZ => by subst hZ; exact J_cP_rowLack _ σ)
theorem K_cP_rowLack : Kv yX9_rowLack M_cP_rowLack RX9 1 := ⟨rfl, k2_103, s1_1, k1_1, k2_104, by decide +kernel⟩
