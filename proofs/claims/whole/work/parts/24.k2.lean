abbrev M_cT_enter : JM := (cX7_enter, 3, RX7, none, 0, 0)
def cT_enter (b : Nat) (j : Nat) (p1 : Int32) (p2 : Int32) (σ : CS) : Option (Unit × CS) :=
  some ((), tI (tI σ (b + 2 + j) 4 p1) (b + 2 + j) 5 p2)
theorem J_cT_enter {X : JX} {ad : Nat → Nat} {b : Nat} {j : Nat} (hb : isR b) (hj : j < 6) (p1 : Int32) (p2 : Int32) (σ : CS) : JO X M_cT_enter (QF X eV (wC ad (xZ X))) 0 [some (.ref (ad (b + 2 + j))), some (.int p1), some (.int p2)] [] (wsC ad (xZ X) σ) (cT_enter b j p1 p2 σ) := by
  unfold cT_enter
  refine JO.aloadn dX7_enter_0 rfl ?_
  refine JO.iloadn dX7_enter_1 rfl ?_
  refine pT4 (j := j) hb hj (Or.inl rfl) k1_135 dX7_enter_2 ?_
  refine JO.aloadn dX7_enter_5 rfl ?_
  refine JO.iloadn dX7_enter_6 rfl ?_
  refine pT5 (j := j) hb hj (Or.inl rfl) k1_141 dX7_enter_7 ?_
  exact JO.vret dX7_enter_10 rfl rfl rfl
theorem C_cT_enter {ad : Nat → Nat} {b : Nat} {j : Nat} {Z : ZT} (hb : isR b) (hj : j < 6) (p1 : Int32) (p2 : Int32) (σ : CS) : CO yX7_enter M_cT_enter eV Z (wC ad Z) [.ref (ad (b + 2 + j)), .int p1, .int p2] (wsC ad Z σ) (cT_enter b j p1 p2 σ) :=
  CO.of rfl rfl (Nat.le_of_ble_eq_true rfl) 0 (fun X hZ => by subst hZ; exact J_cT_enter hb hj _ _ σ)
theorem U_cT_enter_C_T : Ku "CommitPrefixes$Coordinator" "CommitPrefixes$Site" ⟨"CommitPrefixes$Site", "enter", "(II)V"⟩ yX7_enter M_cT_enter 2 := ⟨k2_173, k2_174, k2_172, k1_6, k2_176, by decide +kernel⟩
theorem U_cT_enter_A_T : Ku "CommitPrefixes$Participant" "CommitPrefixes$Site" ⟨"CommitPrefixes$Site", "enter", "(II)V"⟩ yX7_enter M_cT_enter 2 := ⟨k2_173, k2_175, k2_172, k1_6, k2_176, by decide +kernel⟩
theorem U_cT_enter_A_A : Ku "CommitPrefixes$Participant" "CommitPrefixes$Site" ⟨"CommitPrefixes$Participant", "enter", "(II)V"⟩ yX7_enter M_cT_enter 2 := ⟨k2_228, k2_230, k2_172, k1_6, k2_176, by decide +kernel⟩
abbrev M_cA_recover : JM := (cX3_recover, 3, RX3, none, 1, 22)
def cA_recover_b14 (b : Nat) (j : Nat) (x2 : Int32) (σ : CS) : Option (Unit × CS) :=
  (cA_stateBehind x2 σ).bind fun a1 =>
  (cT_enter b j a1.1 160 a1.2).bind fun a2 =>
  if cI a2.2 (b + 2 + j) 4 = 1 then (
    some ((), tI a2.2 (b + 2 + j) 5 (cI a2.2 b 6)))
  else (
    if cI a2.2 (b + 2 + j) 4 = 2 then (
      (cR_waitEnd b a2.2).bind fun a3 =>
      some ((), tI a3.2 (b + 2 + j) 5 a3.1))
    else (
      some ((), a2.2)))
def cA_recover (b : Nat) (j : Nat) (σ : CS) : Option (Unit × CS) :=
  (cT_lastRecord b j σ).bind fun a1 =>
  if a1.1 = 0 then (
    (cT_note b j 5 a1.2).bind fun a2 =>
    cA_recover_b14 b j a1.1 a2.2)
  else (
    cA_recover_b14 b j a1.1 a1.2)
theorem J_cA_recover_b14 {X : JX} {ad : Nat → Nat} {b : Nat} {j : Nat} (hb : isR b) (h0 : 0 < j) (hj : j < 6) (x2 : Int32) (σ : CS) : JO X M_cA_recover (QF X eV (wC ad (xZ X))) 14 [some (.ref (ad (b + 2 + j))), some (.ref (ad b)), some (.int x2)] [] (wsC ad (xZ X) σ) (cA_recover_b14 b j x2 σ) := by
  unfold cA_recover_b14
  refine JO.aloadn dX3_recover_14 rfl ?_
  refine JO.iloadn dX3_recover_15 rfl ?_
  refine JO.csi (C_cA_stateBehind _ _) K_cA_stateBehind k2_224 rfl rfl rfl (Nat.le_of_ble_eq_true rfl) dX3_recover_16 (fun a1 => ?_)
  refine JO.sip 160 dX3_recover_19 (by decide) ?_
  refine JO.cuv (C_cT_enter hb hj _ _ _) (rcvT hb h0 hj) U_cT_enter_A_A (decl_of k2_172 k2_176) k2_227 rfl rfl rfl (Nat.le_of_ble_eq_true rfl) dX3_recover_22 (fun a2 => ?_)
  refine JO.aloadn dX3_recover_25 rfl ?_
  refine gT4 (j := j) hb hj (Or.inr k1_137) k1_136 dX3_recover_26 ?_
  refine JO.ic 1 dX3_recover_29 (by decide) ?_
  refine JO.icmp_ne 44 dX3_recover_30 rfl ?_ ?_
  · refine JO.aloadn dX3_recover_44 rfl ?_
    refine gT4 (j := j) hb hj (Or.inr k1_137) k1_136 dX3_recover_45 ?_
    refine JO.ic 2 dX3_recover_48 (by decide) ?_
    refine JO.icmp_ne 60 dX3_recover_49 rfl ?_ ?_
    · exact JO.vret dX3_recover_60 rfl rfl rfl
    · refine JO.aloadn dX3_recover_52 rfl ?_
      refine JO.aloadn dX3_recover_53 rfl ?_
      refine JO.cvi (C_cR_waitEnd hb _) (rcvR hb) K_cR_waitEnd k2_231 rfl rfl rfl (Nat.le_of_ble_eq_true rfl) dX3_recover_54 (fun a3 => ?_)
      refine pT5 (j := j) hb hj (Or.inr k1_143) k1_142 dX3_recover_57 ?_
      exact JO.vret dX3_recover_60 rfl rfl rfl
  · refine JO.aloadn dX3_recover_33 rfl ?_
    refine JO.aloadn dX3_recover_34 rfl ?_
    refine gR6 hb k1_191 dX3_recover_35 ?_
    refine pT5 (j := j) hb hj (Or.inr k1_143) k1_142 dX3_recover_38 ?_
    refine JO.goto 60 dX3_recover_41 rfl ?_
    exact JO.vret dX3_recover_60 rfl rfl rfl
theorem J_cA_recover {X : JX} {ad : Nat → Nat} {b : Nat} {j : Nat} (hb : isR b) (h0 : 0 < j) (hj : j < 6) (σ : CS) : JO X M_cA_recover (QF X eV (wC ad (xZ X))) 0 [some (.ref (ad (b + 2 + j))), some (.ref (ad b)), none] [] (wsC ad (xZ X) σ) (cA_recover b j σ) := by
  unfold cA_recover
  refine JO.aloadn dX3_recover_0 rfl ?_
  refine JO.cui (C_cT_lastRecord hb hj _) (rcvT hb h0 hj) U_cT_lastRecord_A_A (decl_of k2_191 k2_192) k2_218 rfl rfl rfl (Nat.le_of_ble_eq_true rfl) dX3_recover_1 (fun a1 => ?_)
  refine JO.istoren dX3_recover_4 rfl rfl ?_
  refine JO.iloadn dX3_recover_5 rfl ?_
  refine JO.if_ne 14 dX3_recover_6 rfl ?_ ?_
  · exact (J_cA_recover_b14 hb h0 hj _ _).jump (lvLe.so rfl (lvLe.so rfl (lvLe.so rfl (lvLe.nil))))
  · refine JO.aloadn dX3_recover_9 rfl ?_
    refine JO.ic 5 dX3_recover_10 (by decide) ?_
    refine JO.cuv (C_cT_note hb hj _ _) (rcvT hb h0 hj) U_cT_note_A_A (decl_of k2_213 k2_214) k2_221 rfl rfl rfl (Nat.le_of_ble_eq_true rfl) dX3_recover_11 (fun a2 => ?_)
    exact (J_cA_recover_b14 hb h0 hj _ _).jump (lvLe.so rfl (lvLe.so rfl (lvLe.so rfl (lvLe.nil))))
theorem C_cA_recover {ad : Nat → Nat} {b : Nat} {j : Nat} {Z : ZT} (hb : isR b) (h0 : 0 < j) (hj : j < 6) (σ : CS) : CO yX3_recover M_cA_recover eV Z (wC ad Z) [.ref (ad (b + 2 + j)), .ref (ad b)] (wsC ad Z σ) (cA_recover b j σ) :=
  CO.of rfl rfl (Nat.le_of_ble_eq_true rfl) 1 (fun X hZ => by subst hZ; exact J_cA_recover hb h0 hj σ)
theorem U_cA_recover_A_T : Ku "CommitPrefixes$Participant" "CommitPrefixes$Site" ⟨"CommitPrefixes$Site", "recover", "(LCommitPrefixes$Run;)V"⟩ yX3_recover M_cA_recover 1 := ⟨k2_183, k2_215, k2_216, k1_8, k2_217, by decide +kernel⟩
abbrev M_cS_votesYes : JM := (cX5_votesYes, 2, RX5, (some .boolean), 0, 0)
def cS_votesYes (q : Nat) (p1 : Int32) (σ : CS) : Option (Bool × CS) :=
  if ((cI σ q 4 >>> (p1 &&& 31)) &&& 1) = 0 then (
    some (false, σ))
  else (
    some (true, σ))
theorem J_cS_votesYes {X : JX} {ad : Nat → Nat} {q : Nat} (hq : isS q) (p1 : Int32) (σ : CS) : JO X M_cS_votesYes (QF X eZ (wC ad (xZ X))) 0 [some (.ref (ad q)), some (.int p1)] [] (wsC ad (xZ X) σ) (cS_votesYes q p1 σ) := by
  unfold cS_votesYes
  refine JO.aloadn dX5_votesYes_0 rfl ?_
  refine gS4 hq k1_50 dX5_votesYes_1 ?_
  refine JO.iloadn dX5_votesYes_4 rfl ?_
  refine JO.ishr dX5_votesYes_5 ?_
  refine JO.ic 1 dX5_votesYes_6 (by decide) ?_
  refine JO.iand dX5_votesYes_7 ?_
  refine JO.if_eq 15 dX5_votesYes_8 rfl ?_ ?_
  · refine JO.ic 0 dX5_votesYes_15 (by decide) ?_
    exact JO.zret (b := false) dX5_votesYes_16 rfl rfl rfl
  · refine JO.ic 1 dX5_votesYes_11 (by decide) ?_
    refine JO.goto 16 dX5_votesYes_12 rfl ?_
    exact JO.zret (b := true) dX5_votesYes_16 rfl rfl rfl
theorem C_cS_votesYes {ad : Nat → Nat} {q : Nat} {Z : ZT} (hq : isS q) (p1 : Int32) (σ : CS) : CO yX5_votesYes M_cS_votesYes eZ Z (wC ad Z) [.ref (ad q), .int p1] (wsC ad Z σ) (cS_votesYes q p1 σ) :=
  CO.of rfl rfl (Nat.le_of_ble_eq_true rfl) 0 (fun X hZ => by subst hZ; exact J_cS_votesYes hq _ σ)
theorem K_cS_votesYes : Kv yX5_votesYes M_cS_votesYes RX5 1 := ⟨rfl, k3_45, k3_46, k1_2, k3_47, by decide +kernel⟩
abbrev M_cA_sayYes : JM := (cX3_sayYes, 2, RX3, none, 1, 24)
def cA_sayYes (b : Nat) (j : Nat) (σ : CS) : Option (Unit × CS) :=
  (cT_note b j 2 σ).bind fun a1 =>
  (cR_waitEnd b a1.2).bind fun a2 =>
  (cT_enter b j 1 a2.1 a2.2).bind fun a3 =>
  (cR_send b 2 (Int32.ofNat j) 1 a3.2).bind fun a4 =>
  some ((), a4.2)
theorem J_cA_sayYes {X : JX} {ad : Nat → Nat} {b : Nat} {j : Nat} (hb : isR b) (h0 : 0 < j) (hj : j < 6) (σ : CS) : JO X M_cA_sayYes (QF X eV (wC ad (xZ X))) 0 [some (.ref (ad (b + 2 + j))), some (.ref (ad b))] [] (wsC ad (xZ X) σ) (cA_sayYes b j σ) := by
  unfold cA_sayYes
  refine JO.aloadn dX3_sayYes_0 rfl ?_
  refine JO.ic 2 dX3_sayYes_1 (by decide) ?_
  refine JO.cuv (C_cT_note hb hj _ _) (rcvT hb h0 hj) U_cT_note_A_A (decl_of k2_213 k2_214) k2_221 rfl rfl rfl (Nat.le_of_ble_eq_true rfl) dX3_sayYes_2 (fun a1 => ?_)
  refine JO.aloadn dX3_sayYes_5 rfl ?_
  refine JO.ic 1 dX3_sayYes_6 (by decide) ?_
  refine JO.aloadn dX3_sayYes_7 rfl ?_
  refine JO.cvi (C_cR_waitEnd hb _) (rcvR hb) K_cR_waitEnd k2_231 rfl rfl rfl (Nat.le_of_ble_eq_true rfl) dX3_sayYes_8 (fun a2 => ?_)
  refine JO.cuv (C_cT_enter hb hj _ _ _) (rcvT hb h0 hj) U_cT_enter_A_A (decl_of k2_172 k2_176) k2_227 rfl rfl rfl (Nat.le_of_ble_eq_true rfl) dX3_sayYes_11 (fun a3 => ?_)
  refine JO.aloadn dX3_sayYes_14 rfl ?_
  refine JO.ic 2 dX3_sayYes_15 (by decide) ?_
  refine JO.aloadn dX3_sayYes_16 rfl ?_
  refine gT0 (j := j) hb hj (Or.inr k1_123) k1_122 dX3_sayYes_17 ?_
  refine JO.ic 1 dX3_sayYes_20 (by decide) ?_
  refine JO.cvv (C_cR_send hb _ _ _ _) (rcvR hb) K_cR_send k3_52 rfl rfl rfl (Nat.le_of_ble_eq_true rfl) dX3_sayYes_21 (fun a4 => ?_)
  exact JO.vret dX3_sayYes_24 rfl rfl rfl
theorem C_cA_sayYes {ad : Nat → Nat} {b : Nat} {j : Nat} {Z : ZT} (hb : isR b) (h0 : 0 < j) (hj : j < 6) (σ : CS) : CO yX3_sayYes M_cA_sayYes eV Z (wC ad Z) [.ref (ad (b + 2 + j)), .ref (ad b)] (wsC ad Z σ) (cA_sayYes b j σ) :=
  CO.of rfl rfl (Nat.le_of_ble_eq_true rfl) 0 (fun X hZ => by subst hZ; exact J_cA_sayYes hb h0 hj σ)
theorem K_cA_sayYes : Kv yX3_sayYes M_cA_sayYes RX3 1 := ⟨rfl, k3_50, s1_15, k1_8, k3_51, by decide +kernel⟩
abbrev M_cA_settle : JM := (cX3_settle, 2, RX3, none, 1, 22)
def cA_settle_b27 (b : Nat) (j : Nat) (t0 : Int32) (σ : CS) : Option (Unit × CS) :=
  (cT_enter b j t0 160 σ).bind fun a1 =>
  some ((), a1.2)
def cA_settle_b12 (b : Nat) (j : Nat) (x1 : Int32) (t0 : Int32) (σ : CS) : Option (Unit × CS) :=
  (cT_note b j t0 σ).bind fun a1 =>
  if x1 = 6 then (
    cA_settle_b27 b j 3 a1.2)
  else (
    cA_settle_b27 b j 4 a1.2)
def cA_settle (b : Nat) (j : Nat) (p1 : Int32) (σ : CS) : Option (Unit × CS) :=
  if p1 = 6 then (
    cA_settle_b12 b j p1 4 σ)
  else (
    cA_settle_b12 b j p1 5 σ)
theorem J_cA_settle_b27 {X : JX} {ad : Nat → Nat} {b : Nat} {j : Nat} (hb : isR b) (h0 : 0 < j) (hj : j < 6) (t0 : Int32) (σ : CS) : JO X M_cA_settle (QF X eV (wC ad (xZ X))) 27 [none, none] [.int t0, .ref (ad (b + 2 + j))] (wsC ad (xZ X) σ) (cA_settle_b27 b j t0 σ) := by
  unfold cA_settle_b27
  refine JO.sip 160 dX3_settle_27 (by decide) ?_
  refine JO.cuv (C_cT_enter hb hj _ _ _) (rcvT hb h0 hj) U_cT_enter_A_A (decl_of k2_172 k2_176) k2_227 rfl rfl rfl (Nat.le_of_ble_eq_true rfl) dX3_settle_30 (fun a1 => ?_)
  exact JO.vret dX3_settle_33 rfl rfl rfl
theorem J_cA_settle_b12 {X : JX} {ad : Nat → Nat} {b : Nat} {j : Nat} (hb : isR b) (h0 : 0 < j) (hj : j < 6) (x1 : Int32) (t0 : Int32) (σ : CS) : JO X M_cA_settle (QF X eV (wC ad (xZ X))) 12 [some (.ref (ad (b + 2 + j))), some (.int x1)] [.int t0, .ref (ad (b + 2 + j))] (wsC ad (xZ X) σ) (cA_settle_b12 b j x1 t0 σ) := by
  unfold cA_settle_b12
  refine JO.cuv (C_cT_note hb hj _ _) (rcvT hb h0 hj) U_cT_note_A_A (decl_of k2_213 k2_214) k2_221 rfl rfl rfl (Nat.le_of_ble_eq_true rfl) dX3_settle_12 (fun a1 => ?_)
  refine JO.aloadn dX3_settle_15 rfl ?_
  refine JO.iloadn dX3_settle_16 rfl ?_
  refine JO.bip 6 dX3_settle_17 (by decide) ?_
  refine JO.icmp_ne 26 dX3_settle_19 rfl ?_ ?_
  · refine JO.ic 4 dX3_settle_26 (by decide) ?_
    exact (J_cA_settle_b27 hb h0 hj _ _).jump (lvLe.no (lvLe.no (lvLe.nil)))
  · refine JO.ic 3 dX3_settle_22 (by decide) ?_
    refine JO.goto 27 dX3_settle_23 rfl ?_
    exact (J_cA_settle_b27 hb h0 hj _ _).jump (lvLe.no (lvLe.no (lvLe.nil)))
theorem J_cA_settle {X : JX} {ad : Nat → Nat} {b : Nat} {j : Nat} (hb : isR b) (h0 : 0 < j) (hj : j < 6) (p1 : Int32) (σ : CS) : JO X M_cA_settle (QF X eV (wC ad (xZ X))) 0 [some (.ref (ad (b + 2 + j))), some (.int p1)] [] (wsC ad (xZ X) σ) (cA_settle b j p1 σ) := by
  unfold cA_settle
  refine JO.aloadn dX3_settle_0 rfl ?_
  refine JO.iloadn dX3_settle_1 rfl ?_
  refine JO.bip 6 dX3_settle_2 (by decide) ?_
  refine JO.icmp_ne 11 dX3_settle_4 rfl ?_ ?_
  · refine JO.ic 5 dX3_settle_11 (by decide) ?_
    exact (J_cA_settle_b12 hb h0 hj _ _ _).jump (lvLe.so rfl (lvLe.so rfl (lvLe.nil)))
  · refine JO.ic 4 dX3_settle_7 (by decide) ?_
    refine JO.goto 12 dX3_settle_8 rfl ?_
    exact (J_cA_settle_b12 hb h0 hj _ _ _).jump (lvLe.so rfl (lvLe.so rfl (lvLe.nil)))
theorem C_cA_settle {ad : Nat → Nat} {b : Nat} {j : Nat} {Z : ZT} (hb : isR b) (h0 : 0 < j) (hj : j < 6) (p1 : Int32) (σ : CS) : CO yX3_settle M_cA_settle eV Z (wC ad Z) [.ref (ad (b + 2 + j)), .int p1] (wsC ad Z σ) (cA_settle b j p1 σ) :=
  CO.of rfl rfl (Nat.le_of_ble_eq_true rfl) 0 (fun X hZ => by subst hZ; exact J_cA_settle hb h0 hj _ σ)
theorem K_cA_settle : Kv yX3_settle M_cA_settle RX3 1 := ⟨rfl, k3_55, s2_0, k1_8, k3_56, by decide +kernel⟩
abbrev M_cA_hearPre : JM := (cX3_hearPre, 2, RX3, none, 1, 24)
def cA_hearPre (b : Nat) (j : Nat) (σ : CS) : Option (Unit × CS) :=
  if cI σ (b + 2 + j) 4 = 1 then (
    (cT_note b j 3 σ).bind fun a2 =>
    (cR_waitEnd b a2.2).bind fun a3 =>
    (cT_enter b j 2 a3.1 a3.2).bind fun a4 =>
    (cR_send b 5 (Int32.ofNat j) 1 a4.2).bind fun a5 =>
    some ((), a5.2))
  else (
    if cI σ (b + 2 + j) 4 = 2 then (
      (cR_send b 5 (Int32.ofNat j) 1 σ).bind fun a1 =>
      some ((), a1.2))
    else (
      some ((), σ)))
theorem J_cA_hearPre {X : JX} {ad : Nat → Nat} {b : Nat} {j : Nat} (hb : isR b) (h0 : 0 < j) (hj : j < 6) (σ : CS) : JO X M_cA_hearPre (QF X eV (wC ad (xZ X))) 0 [some (.ref (ad (b + 2 + j))), some (.ref (ad b))] [] (wsC ad (xZ X) σ) (cA_hearPre b j σ) := by
  unfold cA_hearPre
  refine JO.aloadn dX3_hearPre_0 rfl ?_
  refine gT4 (j := j) hb hj (Or.inr k1_137) k1_136 dX3_hearPre_1 ?_
  refine JO.ic 1 dX3_hearPre_4 (by decide) ?_
  refine JO.icmp_ne 35 dX3_hearPre_5 rfl ?_ ?_
  · refine JO.aloadn dX3_hearPre_35 rfl ?_
    refine gT4 (j := j) hb hj (Or.inr k1_137) k1_136 dX3_hearPre_36 ?_
    refine JO.ic 2 dX3_hearPre_39 (by decide) ?_
    refine JO.icmp_ne 53 dX3_hearPre_40 rfl ?_ ?_
    · exact JO.vret dX3_hearPre_53 rfl rfl rfl
    · refine JO.aloadn dX3_hearPre_43 rfl ?_
      refine JO.ic 5 dX3_hearPre_44 (by decide) ?_
      refine JO.aloadn dX3_hearPre_45 rfl ?_
      refine gT0 (j := j) hb hj (Or.inr k1_123) k1_122 dX3_hearPre_46 ?_
      refine JO.ic 1 dX3_hearPre_49 (by decide) ?_
      refine JO.cvv (C_cR_send hb _ _ _ _) (rcvR hb) K_cR_send k3_52 rfl rfl rfl (Nat.le_of_ble_eq_true rfl) dX3_hearPre_50 (fun a1 => ?_)
      exact JO.vret dX3_hearPre_53 rfl rfl rfl
  · refine JO.aloadn dX3_hearPre_8 rfl ?_
    refine JO.ic 3 dX3_hearPre_9 (by decide) ?_
    refine JO.cuv (C_cT_note hb hj _ _) (rcvT hb h0 hj) U_cT_note_A_A (decl_of k2_213 k2_214) k2_221 rfl rfl rfl (Nat.le_of_ble_eq_true rfl) dX3_hearPre_10 (fun a2 => ?_)
    refine JO.aloadn dX3_hearPre_13 rfl ?_
    refine JO.ic 2 dX3_hearPre_14 (by decide) ?_
    refine JO.aloadn dX3_hearPre_15 rfl ?_
    refine JO.cvi (C_cR_waitEnd hb _) (rcvR hb) K_cR_waitEnd k2_231 rfl rfl rfl (Nat.le_of_ble_eq_true rfl) dX3_hearPre_16 (fun a3 => ?_)
    refine JO.cuv (C_cT_enter hb hj _ _ _) (rcvT hb h0 hj) U_cT_enter_A_A (decl_of k2_172 k2_176) k2_227 rfl rfl rfl (Nat.le_of_ble_eq_true rfl) dX3_hearPre_19 (fun a4 => ?_)
    refine JO.aloadn dX3_hearPre_22 rfl ?_
    refine JO.ic 5 dX3_hearPre_23 (by decide) ?_
    refine JO.aloadn dX3_hearPre_24 rfl ?_
    refine gT0 (j := j) hb hj (Or.inr k1_123) k1_122 dX3_hearPre_25 ?_
    refine JO.ic 1 dX3_hearPre_28 (by decide) ?_
    refine JO.cvv (C_cR_send hb _ _ _ _) (rcvR hb) K_cR_send k3_52 rfl rfl rfl (Nat.le_of_ble_eq_true rfl) dX3_hearPre_29 (fun a5 => ?_)
    refine JO.goto 53 dX3_hearPre_32 rfl ?_
    exact JO.vret dX3_hearPre_53 rfl rfl rfl
theorem C_cA_hearPre {ad : Nat → Nat} {b : Nat} {j : Nat} {Z : ZT} (hb : isR b) (h0 : 0 < j) (hj : j < 6) (σ : CS) : CO yX3_hearPre M_cA_hearPre eV Z (wC ad Z) [.ref (ad (b + 2 + j)), .ref (ad b)] (wsC ad Z σ) (cA_hearPre b j σ) :=
  CO.of rfl rfl (Nat.le_of_ble_eq_true rfl) 0 (fun X hZ => by subst hZ; exact J_cA_hearPre hb h0 hj σ)
theorem K_cA_hearPre : Kv yX3_hearPre M_cA_hearPre RX3 1 := ⟨rfl, k3_59, s2_1, k1_8, k3_60, by decide +kernel⟩
abbrev M_cA_isSettled : JM := (cX3_isSettled, 1, RX3, (some .boolean), 0, 0)
def cA_isSettled (b : Nat) (j : Nat) (σ : CS) : Option (Bool × CS) :=
  if cI σ (b + 2 + j) 4 = 3 then (
    some (true, σ))
  else (
    if cI σ (b + 2 + j) 4 = 4 then (
      some (true, σ))
    else (
      some (false, σ)))
theorem J_cA_isSettled {X : JX} {ad : Nat → Nat} {b : Nat} {j : Nat} (hb : isR b) (h0 : 0 < j) (hj : j < 6) (σ : CS) : JO X M_cA_isSettled (QF X eZ (wC ad (xZ X))) 0 [some (.ref (ad (b + 2 + j)))] [] (wsC ad (xZ X) σ) (cA_isSettled b j σ) := by
  unfold cA_isSettled
  refine JO.aloadn dX3_isSettled_0 rfl ?_
  refine gT4 (j := j) hb hj (Or.inr k1_137) k1_136 dX3_isSettled_1 ?_
  refine JO.ic 3 dX3_isSettled_4 (by decide) ?_
  refine JO.icmp_eq 16 dX3_isSettled_5 rfl ?_ ?_
  · refine JO.ic 1 dX3_isSettled_16 (by decide) ?_
    refine JO.goto 21 dX3_isSettled_17 rfl ?_
    exact JO.zret (b := true) dX3_isSettled_21 rfl rfl rfl
  · refine JO.aloadn dX3_isSettled_8 rfl ?_
    refine gT4 (j := j) hb hj (Or.inr k1_137) k1_136 dX3_isSettled_9 ?_
    refine JO.ic 4 dX3_isSettled_12 (by decide) ?_
    refine JO.icmp_ne 20 dX3_isSettled_13 rfl ?_ ?_
    · refine JO.ic 0 dX3_isSettled_20 (by decide) ?_
      exact JO.zret (b := false) dX3_isSettled_21 rfl rfl rfl
    · refine JO.ic 1 dX3_isSettled_16 (by decide) ?_
      refine JO.goto 21 dX3_isSettled_17 rfl ?_
      exact JO.zret (b := true) dX3_isSettled_21 rfl rfl rfl
theorem C_cA_isSettled {ad : Nat → Nat} {b : Nat} {j : Nat} {Z : ZT} (hb : isR b) (h0 : 0 < j) (hj : j < 6) (σ : CS) : CO yX3_isSettled M_cA_isSettled eZ Z (wC ad Z) [.ref (ad (b + 2 + j))] (wsC ad Z σ) (cA_isSettled b j σ) :=
  CO.of rfl rfl (Nat.le_of_ble_eq_true rfl) 0 (fun X hZ => by subst hZ; exact J_cA_isSettled hb h0 hj σ)
theorem K_cA_isSettled : Kv yX3_isSettled M_cA_isSettled RX3 0 := ⟨rfl, k3_63, s2_2, k1_8, k3_64, by decide +kernel⟩
abbrev M_cA_receive : JM := (cX3_receive, 4, RX3, none, 2, 45)
def cA_receive_b81 (b : Nat) (j : Nat) (σ : CS) : Option (Unit × CS) :=
  if cI σ (b + 2 + j) 4 = 0 then (
    (cA_settle b j 7 σ).bind fun a1 =>
    (cR_send b 3 (Int32.ofNat j) 1 a1.2).bind fun a2 =>
    some ((), a2.2))
  else (
    some ((), σ))
def cA_receive_b140 (b : Nat) (j : Nat) (σ : CS) : Option (Unit × CS) :=
  (cR_send b 8 (Int32.ofNat j) 1 σ).bind fun a1 =>
  some ((), a1.2)
def cA_receive_b127 (b : Nat) (j : Nat) (x2 : Int32) (σ : CS) : Option (Unit × CS) :=
  if x2 = 6 then (
    cA_receive_b140 b j σ)
  else (
    if cZ σ b 3 = true then (
      some ((), σ))
    else (
      cA_receive_b140 b j σ))
def cA_receive_b115 (b : Nat) (j : Nat) (x2 : Int32) (σ : CS) : Option (Unit × CS) :=
  (cA_isSettled b j σ).bind fun a1 =>
  if a1.1 = true then (
    cA_receive_b127 b j x2 a1.2)
  else (
    (cA_settle b j x2 a1.2).bind fun a2 =>
    cA_receive_b127 b j x2 a2.2)
def cA_receive_b190 (b : Nat) (j : Nat) (x3 : Int32) (t0 : Int32) (σ : CS) : Option (Unit × CS) :=
  (cR_send b t0 (Int32.ofNat j) ((1 : Int32) <<< (x3 &&& 31)) σ).bind fun a1 =>
  some ((), a1.2)
def cA_receive_b167 (b : Nat) (j : Nat) (x3 : Int32) (σ : CS) : Option (Unit × CS) :=
  (cA_isSettled b j σ).bind fun a1 =>
  if a1.1 = true then (
    if cI a1.2 (b + 2 + j) 4 = 3 then (
      cA_receive_b190 b j x3 6 a1.2)
    else (
      cA_receive_b190 b j x3 7 a1.2))
  else (
    some ((), a1.2))
def cA_receive (b : Nat) (j : Nat) (p2 : Int32) (p3 : Int32) (σ : CS) : Option (Unit × CS) :=
  sw p2 [(1, 52,
    if cI σ (b + 2 + j) 4 = 0 then (
      (cS_votesYes 3 (Int32.ofNat j) σ).bind fun a1 =>
      if a1.1 = true then (
        (cA_sayYes b j a1.2).bind fun a2 =>
        some ((), a2.2))
      else (
        cA_receive_b81 b j a1.2))
    else (
      cA_receive_b81 b j σ)), (4, 107,
    (cA_hearPre b j σ).bind fun a3 =>
    some ((), a3.2)), (6, 115,
    cA_receive_b115 b j p2 σ), (7, 115,
    cA_receive_b115 b j p2 σ), (9, 154,
    if cI σ (b + 2 + j) 4 = 0 then (
      (cA_settle b j 7 σ).bind fun a4 =>
      cA_receive_b167 b j p3 a4.2)
    else (
      cA_receive_b167 b j p3 σ))] (
    some ((), σ))
theorem J_cA_receive_b81 {X : JX} {ad : Nat → Nat} {b : Nat} {j : Nat} (hb : isR b) (h0 : 0 < j) (hj : j < 6) (σ : CS) : JO X M_cA_receive (QF X eV (wC ad (xZ X))) 81 [some (.ref (ad (b + 2 + j))), some (.ref (ad b)), none, none] [] (wsC ad (xZ X) σ) (cA_receive_b81 b j σ) := by
  unfold cA_receive_b81
  refine JO.aloadn dX3_receive_81 rfl ?_
  refine gT4 (j := j) hb hj (Or.inr k1_137) k1_136 dX3_receive_82 ?_
  refine JO.if_ne 203 dX3_receive_85 rfl ?_ ?_
  · exact JO.vret dX3_receive_203 rfl rfl rfl
  · refine JO.aloadn dX3_receive_88 rfl ?_
    refine JO.bip 7 dX3_receive_89 (by decide) ?_
    refine JO.cvv (C_cA_settle hb h0 hj _ _) (rcvT hb h0 hj) K_cA_settle k3_53 rfl rfl rfl (Nat.le_of_ble_eq_true rfl) dX3_receive_91 (fun a1 => ?_)
    refine JO.aloadn dX3_receive_94 rfl ?_
    refine JO.ic 3 dX3_receive_95 (by decide) ?_
    refine JO.aloadn dX3_receive_96 rfl ?_
    refine gT0 (j := j) hb hj (Or.inr k1_123) k1_122 dX3_receive_97 ?_
    refine JO.ic 1 dX3_receive_100 (by decide) ?_
    refine JO.cvv (C_cR_send hb _ _ _ _) (rcvR hb) K_cR_send k3_52 rfl rfl rfl (Nat.le_of_ble_eq_true rfl) dX3_receive_101 (fun a2 => ?_)
    refine JO.goto 203 dX3_receive_104 rfl ?_
    exact JO.vret dX3_receive_203 rfl rfl rfl
theorem J_cA_receive_b140 {X : JX} {ad : Nat → Nat} {b : Nat} {j : Nat} (hb : isR b) (h0 : 0 < j) (hj : j < 6) (σ : CS) : JO X M_cA_receive (QF X eV (wC ad (xZ X))) 140 [some (.ref (ad (b + 2 + j))), some (.ref (ad b)), none, none] [] (wsC ad (xZ X) σ) (cA_receive_b140 b j σ) := by
  unfold cA_receive_b140
  refine JO.aloadn dX3_receive_140 rfl ?_
  refine JO.bip 8 dX3_receive_141 (by decide) ?_
  refine JO.aloadn dX3_receive_143 rfl ?_
  refine gT0 (j := j) hb hj (Or.inr k1_123) k1_122 dX3_receive_144 ?_
  refine JO.ic 1 dX3_receive_147 (by decide) ?_
  refine JO.cvv (C_cR_send hb _ _ _ _) (rcvR hb) K_cR_send k3_52 rfl rfl rfl (Nat.le_of_ble_eq_true rfl) dX3_receive_148 (fun a1 => ?_)
  refine JO.goto 203 dX3_receive_151 rfl ?_
  exact JO.vret dX3_receive_203 rfl rfl rfl
theorem J_cA_receive_b127 {X : JX} {ad : Nat → Nat} {b : Nat} {j : Nat} (hb : isR b) (h0 : 0 < j) (hj : j < 6) (x2 : Int32) (σ : CS) : JO X M_cA_receive (QF X eV (wC ad (xZ X))) 127 [some (.ref (ad (b + 2 + j))), some (.ref (ad b)), some (.int x2), none] [] (wsC ad (xZ X) σ) (cA_receive_b127 b j x2 σ) := by
  unfold cA_receive_b127
  refine JO.iloadn dX3_receive_127 rfl ?_
  refine JO.bip 6 dX3_receive_128 (by decide) ?_
  refine JO.icmp_eq 140 dX3_receive_130 rfl ?_ ?_
  · exact (J_cA_receive_b140 hb h0 hj _).jump (lvLe.so rfl (lvLe.so rfl (lvLe.no (lvLe.no (lvLe.nil)))))
  · refine JO.aloadn dX3_receive_133 rfl ?_
    refine gR3 hb k1_184 dX3_receive_134 ?_
    refine JO.zne 203 dX3_receive_137 rfl ?_ ?_
    · exact JO.vret dX3_receive_203 rfl rfl rfl
    · exact (J_cA_receive_b140 hb h0 hj _).jump (lvLe.so rfl (lvLe.so rfl (lvLe.no (lvLe.no (lvLe.nil)))))
theorem J_cA_receive_b115 {X : JX} {ad : Nat → Nat} {b : Nat} {j : Nat} (hb : isR b) (h0 : 0 < j) (hj : j < 6) (x2 : Int32) (σ : CS) : JO X M_cA_receive (QF X eV (wC ad (xZ X))) 115 [some (.ref (ad (b + 2 + j))), some (.ref (ad b)), some (.int x2), none] [] (wsC ad (xZ X) σ) (cA_receive_b115 b j x2 σ) := by
  unfold cA_receive_b115
  refine JO.aloadn dX3_receive_115 rfl ?_
  refine JO.cvz (C_cA_isSettled hb h0 hj _) (rcvT hb h0 hj) K_cA_isSettled k3_61 rfl rfl rfl (Nat.le_of_ble_eq_true rfl) dX3_receive_116 (fun a1 => ?_)
  refine JO.zne 127 dX3_receive_119 rfl ?_ ?_
  · exact (J_cA_receive_b127 hb h0 hj _ _).jump (lvLe.so rfl (lvLe.so rfl (lvLe.so rfl (lvLe.no (lvLe.nil)))))
  · refine JO.aloadn dX3_receive_122 rfl ?_
    refine JO.iloadn dX3_receive_123 rfl ?_
    refine JO.cvv (C_cA_settle hb h0 hj _ _) (rcvT hb h0 hj) K_cA_settle k3_53 rfl rfl rfl (Nat.le_of_ble_eq_true rfl) dX3_receive_124 (fun a2 => ?_)
    exact (J_cA_receive_b127 hb h0 hj _ _).jump (lvLe.so rfl (lvLe.so rfl (lvLe.so rfl (lvLe.no (lvLe.nil)))))
theorem J_cA_receive_b190 {X : JX} {ad : Nat → Nat} {b : Nat} {j : Nat} (hb : isR b) (h0 : 0 < j) (hj : j < 6) (x3 : Int32) (t0 : Int32) (σ : CS) : JO X M_cA_receive (QF X eV (wC ad (xZ X))) 190 [some (.ref (ad (b + 2 + j))), none, none, some (.int x3)] [.int t0, .ref (ad b)] (wsC ad (xZ X) σ) (cA_receive_b190 b j x3 t0 σ) := by
  unfold cA_receive_b190
  refine JO.aloadn dX3_receive_190 rfl ?_
  refine gT0 (j := j) hb hj (Or.inr k1_123) k1_122 dX3_receive_191 ?_
  refine JO.ic 1 dX3_receive_194 (by decide) ?_
  refine JO.iloadn dX3_receive_195 rfl ?_
  refine JO.ishl dX3_receive_196 ?_
  refine JO.cvv (C_cR_send hb _ _ _ _) (rcvR hb) K_cR_send k3_52 rfl rfl rfl (Nat.le_of_ble_eq_true rfl) dX3_receive_197 (fun a1 => ?_)
  refine JO.goto 203 dX3_receive_200 rfl ?_
  exact JO.vret dX3_receive_203 rfl rfl rfl
theorem J_cA_receive_b167 {X : JX} {ad : Nat → Nat} {b : Nat} {j : Nat} (hb : isR b) (h0 : 0 < j) (hj : j < 6) (x3 : Int32) (σ : CS) : JO X M_cA_receive (QF X eV (wC ad (xZ X))) 167 [some (.ref (ad (b + 2 + j))), some (.ref (ad b)), none, some (.int x3)] [] (wsC ad (xZ X) σ) (cA_receive_b167 b j x3 σ) := by
  unfold cA_receive_b167
  refine JO.aloadn dX3_receive_167 rfl ?_
  refine JO.cvz (C_cA_isSettled hb h0 hj _) (rcvT hb h0 hj) K_cA_isSettled k3_61 rfl rfl rfl (Nat.le_of_ble_eq_true rfl) dX3_receive_168 (fun a1 => ?_)
  refine JO.zeq 203 dX3_receive_171 rfl ?_ ?_
  · exact JO.vret dX3_receive_203 rfl rfl rfl
  · refine JO.aloadn dX3_receive_174 rfl ?_
    refine JO.aloadn dX3_receive_175 rfl ?_
    refine gT4 (j := j) hb hj (Or.inr k1_137) k1_136 dX3_receive_176 ?_
    refine JO.ic 3 dX3_receive_179 (by decide) ?_
    refine JO.icmp_ne 188 dX3_receive_180 rfl ?_ ?_
    · refine JO.bip 7 dX3_receive_188 (by decide) ?_
      exact (J_cA_receive_b190 hb h0 hj _ _ _).jump (lvLe.so rfl (lvLe.no (lvLe.no (lvLe.so rfl (lvLe.nil)))))
    · refine JO.bip 6 dX3_receive_183 (by decide) ?_
      refine JO.goto 190 dX3_receive_185 rfl ?_
      exact (J_cA_receive_b190 hb h0 hj _ _ _).jump (lvLe.so rfl (lvLe.no (lvLe.no (lvLe.so rfl (lvLe.nil)))))
theorem J_cA_receive {X : JX} {ad : Nat → Nat} {b : Nat} {j : Nat} (hb : isR b) (h0 : 0 < j) (hj : j < 6) (p2 : Int32) (p3 : Int32) (σ : CS) : JO X M_cA_receive (QF X eV (wC ad (xZ X))) 0 [some (.ref (ad (b + 2 + j))), some (.ref (ad b)), some (.int p2), some (.int p3)] [] (wsC ad (xZ X) σ) (cA_receive b j p2 p3 σ) := by
  unfold cA_receive
  refine JO.iloadn dX3_receive_0 rfl ?_
  refine JO.tsw [(1, 52, _), (4, 107, _), (6, 115, _), (7, 115, _), (9, 154, _)] 203 [(1, 52), (4, 107), (6, 115), (7, 115), (9, 154)] dX3_receive_1 rfl (by decide) rfl (by decide) (JO.swCons ?_ (JO.swCons ?_ (JO.swCons ?_ (JO.swCons ?_ (JO.swCons ?_ (JO.swNil)))))) ?_
  · refine JO.aloadn dX3_receive_52 rfl ?_
    refine gT4 (j := j) hb hj (Or.inr k1_137) k1_136 dX3_receive_53 ?_
    refine JO.if_ne 81 dX3_receive_56 rfl ?_ ?_
    · exact (J_cA_receive_b81 hb h0 hj _).jump (lvLe.so rfl (lvLe.so rfl (lvLe.no (lvLe.no (lvLe.nil)))))
    · refine JO.aloadn dX3_receive_59 rfl ?_
      refine gR0 hb k1_178 dX3_receive_60 ?_
      refine JO.aloadn dX3_receive_63 rfl ?_
      refine gT0 (j := j) hb hj (Or.inr k1_123) k1_122 dX3_receive_64 ?_
      refine JO.cvz (C_cS_votesYes isS3 _ _) (rcvS isS3) K_cS_votesYes k3_44 rfl rfl rfl (Nat.le_of_ble_eq_true rfl) dX3_receive_67 (fun a1 => ?_)
      refine JO.zeq 81 dX3_receive_70 rfl ?_ ?_
      · exact (J_cA_receive_b81 hb h0 hj _).jump (lvLe.so rfl (lvLe.so rfl (lvLe.no (lvLe.no (lvLe.nil)))))
      · refine JO.aloadn dX3_receive_73 rfl ?_
        refine JO.aloadn dX3_receive_74 rfl ?_
        refine JO.cvv (C_cA_sayYes hb h0 hj _) (rcvT hb h0 hj) K_cA_sayYes k3_48 rfl rfl rfl (Nat.le_of_ble_eq_true rfl) dX3_receive_75 (fun a2 => ?_)
        refine JO.goto 203 dX3_receive_78 rfl ?_
        exact JO.vret dX3_receive_203 rfl rfl rfl
  · refine JO.aloadn dX3_receive_107 rfl ?_
    refine JO.aloadn dX3_receive_108 rfl ?_
    refine JO.cvv (C_cA_hearPre hb h0 hj _) (rcvT hb h0 hj) K_cA_hearPre k3_57 rfl rfl rfl (Nat.le_of_ble_eq_true rfl) dX3_receive_109 (fun a3 => ?_)
    refine JO.goto 203 dX3_receive_112 rfl ?_
    exact JO.vret dX3_receive_203 rfl rfl rfl
  · exact (J_cA_receive_b115 hb h0 hj _ _).jump (lvLe.so rfl (lvLe.so rfl (lvLe.so rfl (lvLe.no (lvLe.nil)))))
  · exact (J_cA_receive_b115 hb h0 hj _ _).jump (lvLe.so rfl (lvLe.so rfl (lvLe.so rfl (lvLe.no (lvLe.nil)))))
  · refine JO.aloadn dX3_receive_154 rfl ?_
    refine gT4 (j := j) hb hj (Or.inr k1_137) k1_136 dX3_receive_155 ?_
    refine JO.if_ne 167 dX3_receive_158 rfl ?_ ?_
    · exact (J_cA_receive_b167 hb h0 hj _ _).jump (lvLe.so rfl (lvLe.so rfl (lvLe.no (lvLe.so rfl (lvLe.nil)))))
    · refine JO.aloadn dX3_receive_161 rfl ?_
      refine JO.bip 7 dX3_receive_162 (by decide) ?_
      refine JO.cvv (C_cA_settle hb h0 hj _ _) (rcvT hb h0 hj) K_cA_settle k3_53 rfl rfl rfl (Nat.le_of_ble_eq_true rfl) dX3_receive_164 (fun a4 => ?_)
      exact (J_cA_receive_b167 hb h0 hj _ _).jump (lvLe.so rfl (lvLe.so rfl (lvLe.no (lvLe.so rfl (lvLe.nil)))))
  · exact JO.vret dX3_receive_203 rfl rfl rfl
theorem C_cA_receive {ad : Nat → Nat} {b : Nat} {j : Nat} {Z : ZT} (hb : isR b) (h0 : 0 < j) (hj : j < 6) (p2 : Int32) (p3 : Int32) (σ : CS) : CO yX3_receive M_cA_receive eV Z (wC ad Z) [.ref (ad (b + 2 + j)), .ref (ad b), .int p2, .int p3] (wsC ad Z σ) (cA_receive b j p2 p3 σ) :=
  CO.of rfl rfl (Nat.le_of_ble_eq_true rfl) 0 (fun X hZ => by subst hZ; exact J_cA_receive hb h0 hj _ _ σ)
theorem U_cA_receive_A_T : Ku "CommitPrefixes$Participant" "CommitPrefixes$Site" ⟨"CommitPrefixes$Site", "receive", "(LCommitPrefixes$Run;II)V"⟩ yX3_receive M_cA_receive 3 := ⟨k3_11, k3_41, k3_42, k1_8, k3_43, by decide +kernel⟩
abbrev M_cA_timeOut : JM := (cX3_timeOut, 2, RX3, none, 2, 43)
def cA_timeOut_b72 (b : Nat) (j : Nat) (σ : CS) : Option (Unit × CS) :=
  if cI σ (b + 2 + j) 4 = 1 then (
    (cA_settle b j 7 σ).bind fun a1 =>
    some ((), a1.2))
  else (
    some ((), σ))
def cA_timeOut (b : Nat) (j : Nat) (σ : CS) : Option (Unit × CS) :=
  if cI σ (b + 2 + j) 4 = 2 then (
    (cA_settle b j 6 σ).bind fun a3 =>
    some ((), a3.2))
  else (
    if cI σ (b + 2 + j) 4 = 1 then (
      if cI σ 3 1 = 2 then (
        (cR_waitEnd b σ).bind fun a1 =>
        (cR_send b 9 (Int32.ofNat j) ((cI (tI a1.2 (b + 2 + j) 5 a1.1) b 5 ||| 1) &&& (((1 : Int32) <<< (Int32.ofNat j &&& 31)) ^^^ (-1))) (tI a1.2 (b + 2 + j) 5 a1.1)).bind fun a2 =>
        some ((), a2.2))
      else (
        cA_timeOut_b72 b j σ))
    else (
      cA_timeOut_b72 b j σ))
theorem J_cA_timeOut_b72 {X : JX} {ad : Nat → Nat} {b : Nat} {j : Nat} (hb : isR b) (h0 : 0 < j) (hj : j < 6) (σ : CS) : JO X M_cA_timeOut (QF X eV (wC ad (xZ X))) 72 [some (.ref (ad (b + 2 + j))), none] [] (wsC ad (xZ X) σ) (cA_timeOut_b72 b j σ) := by
  unfold cA_timeOut_b72
  refine JO.aloadn dX3_timeOut_72 rfl ?_
  refine gT4 (j := j) hb hj (Or.inr k1_137) k1_136 dX3_timeOut_73 ?_
  refine JO.ic 1 dX3_timeOut_76 (by decide) ?_
  refine JO.icmp_ne 86 dX3_timeOut_77 rfl ?_ ?_
  · exact JO.vret dX3_timeOut_86 rfl rfl rfl
  · refine JO.aloadn dX3_timeOut_80 rfl ?_
    refine JO.bip 7 dX3_timeOut_81 (by decide) ?_
    refine JO.cvv (C_cA_settle hb h0 hj _ _) (rcvT hb h0 hj) K_cA_settle k3_53 rfl rfl rfl (Nat.le_of_ble_eq_true rfl) dX3_timeOut_83 (fun a1 => ?_)
    exact JO.vret dX3_timeOut_86 rfl rfl rfl
theorem J_cA_timeOut {X : JX} {ad : Nat → Nat} {b : Nat} {j : Nat} (hb : isR b) (h0 : 0 < j) (hj : j < 6) (σ : CS) : JO X M_cA_timeOut (QF X eV (wC ad (xZ X))) 0 [some (.ref (ad (b + 2 + j))), some (.ref (ad b))] [] (wsC ad (xZ X) σ) (cA_timeOut b j σ) := by
  unfold cA_timeOut
  refine JO.aloadn dX3_timeOut_0 rfl ?_
  refine gT4 (j := j) hb hj (Or.inr k1_137) k1_136 dX3_timeOut_1 ?_
  refine JO.ic 2 dX3_timeOut_4 (by decide) ?_
  refine JO.icmp_ne 17 dX3_timeOut_5 rfl ?_ ?_
  · refine JO.aloadn dX3_timeOut_17 rfl ?_
    refine gT4 (j := j) hb hj (Or.inr k1_137) k1_136 dX3_timeOut_18 ?_
    refine JO.ic 1 dX3_timeOut_21 (by decide) ?_
    refine JO.icmp_ne 72 dX3_timeOut_22 rfl ?_ ?_
    · exact (J_cA_timeOut_b72 hb h0 hj _).jump (lvLe.so rfl (lvLe.no (lvLe.nil)))
    · refine JO.aloadn dX3_timeOut_25 rfl ?_
      refine gR0 hb k1_178 dX3_timeOut_26 ?_
      refine gS1 isS3 k1_44 dX3_timeOut_29 ?_
      refine JO.ic 2 dX3_timeOut_32 (by decide) ?_
      refine JO.icmp_ne 72 dX3_timeOut_33 rfl ?_ ?_
      · exact (J_cA_timeOut_b72 hb h0 hj _).jump (lvLe.so rfl (lvLe.no (lvLe.nil)))
      · refine JO.aloadn dX3_timeOut_36 rfl ?_
        refine JO.aloadn dX3_timeOut_37 rfl ?_
        refine JO.cvi (C_cR_waitEnd hb _) (rcvR hb) K_cR_waitEnd k2_231 rfl rfl rfl (Nat.le_of_ble_eq_true rfl) dX3_timeOut_38 (fun a1 => ?_)
        refine pT5 (j := j) hb hj (Or.inr k1_143) k1_142 dX3_timeOut_41 ?_
        refine JO.aloadn dX3_timeOut_44 rfl ?_
        refine JO.bip 9 dX3_timeOut_45 (by decide) ?_
        refine JO.aloadn dX3_timeOut_47 rfl ?_
        refine gT0 (j := j) hb hj (Or.inr k1_123) k1_122 dX3_timeOut_48 ?_
        refine JO.aloadn dX3_timeOut_51 rfl ?_
        refine gR5 hb k1_189 dX3_timeOut_52 ?_
        refine JO.ic 1 dX3_timeOut_55 (by decide) ?_
        refine JO.ior dX3_timeOut_56 ?_
        refine JO.ic 1 dX3_timeOut_57 (by decide) ?_
        refine JO.aloadn dX3_timeOut_58 rfl ?_
        refine gT0 (j := j) hb hj (Or.inr k1_123) k1_122 dX3_timeOut_59 ?_
        refine JO.ishl dX3_timeOut_62 ?_
        refine JO.ic (-1) dX3_timeOut_63 (by decide) ?_
        refine JO.ixor dX3_timeOut_64 ?_
        refine JO.iand dX3_timeOut_65 ?_
        refine JO.cvv (C_cR_send hb _ _ _ _) (rcvR hb) K_cR_send k3_52 rfl rfl rfl (Nat.le_of_ble_eq_true rfl) dX3_timeOut_66 (fun a2 => ?_)
        refine JO.goto 86 dX3_timeOut_69 rfl ?_
        exact JO.vret dX3_timeOut_86 rfl rfl rfl
  · refine JO.aloadn dX3_timeOut_8 rfl ?_
    refine JO.bip 6 dX3_timeOut_9 (by decide) ?_
    refine JO.cvv (C_cA_settle hb h0 hj _ _) (rcvT hb h0 hj) K_cA_settle k3_53 rfl rfl rfl (Nat.le_of_ble_eq_true rfl) dX3_timeOut_11 (fun a3 => ?_)
    refine JO.goto 86 dX3_timeOut_14 rfl ?_
    exact JO.vret dX3_timeOut_86 rfl rfl rfl
theorem C_cA_timeOut {ad : Nat → Nat} {b : Nat} {j : Nat} {Z : ZT} (hb : isR b) (h0 : 0 < j) (hj : j < 6) (σ : CS) : CO yX3_timeOut M_cA_timeOut eV Z (wC ad Z) [.ref (ad (b + 2 + j)), .ref (ad b)] (wsC ad Z σ) (cA_timeOut b j σ) :=
  CO.of rfl rfl (Nat.le_of_ble_eq_true rfl) 0 (fun X hZ => by subst hZ; exact J_cA_timeOut hb h0 hj σ)
theorem U_cA_timeOut_A_T : Ku "CommitPrefixes$Participant" "CommitPrefixes$Site" ⟨"CommitPrefixes$Site", "timeOut", "(LCommitPrefixes$Run;)V"⟩ yX3_timeOut M_cA_timeOut 1 := ⟨k3_75, k3_79, k3_80, k1_8, k3_81, by decide +kernel⟩
abbrev M_cS_everyone : JM := (cX5_everyone, 1, RX5, (some .int), 0, 0)
def cS_everyone (q : Nat) (σ : CS) : Option (Int32 × CS) :=
  some ((((2 : Int32) <<< (cI σ q 0 &&& 31)) - 2), σ)
theorem J_cS_everyone {X : JX} {ad : Nat → Nat} {q : Nat} (hq : isS q) (σ : CS) : JO X M_cS_everyone (QF X eI (wC ad (xZ X))) 0 [some (.ref (ad q))] [] (wsC ad (xZ X) σ) (cS_everyone q σ) := by
  unfold cS_everyone
  refine JO.ic 2 dX5_everyone_0 (by decide) ?_
  refine JO.aloadn dX5_everyone_1 rfl ?_
  refine gS0 hq k1_40 dX5_everyone_2 ?_
  refine JO.ishl dX5_everyone_5 ?_
  refine JO.ic 2 dX5_everyone_6 (by decide) ?_
  refine JO.isub dX5_everyone_7 ?_
  exact JO.iret dX5_everyone_8 rfl rfl rfl
theorem C_cS_everyone {ad : Nat → Nat} {q : Nat} {Z : ZT} (hq : isS q) (σ : CS) : CO yX5_everyone M_cS_everyone eI Z (wC ad Z) [.ref (ad q)] (wsC ad Z σ) (cS_everyone q σ) :=
  CO.of rfl rfl (Nat.le_of_ble_eq_true rfl) 0 (fun X hZ => by subst hZ; exact J_cS_everyone hq σ)
theorem K_cS_everyone : Kv yX5_everyone M_cS_everyone RX5 0 := ⟨rfl, k2_162, k2_163, k1_2, k2_164, by decide +kernel⟩
abbrev M_cT_startAnew : JM := (cX7_startAnew, 1, RX7, none, 1, 22)
def cT_startAnew (b : Nat) (j : Nat) (σ : CS) : Option (Unit × CS) :=
  (cT_enter b j 0 160 (tZ (tI σ (b + 2 + j) 2 0) (b + 2 + j) 3 true)).bind fun a1 =>
  some ((), a1.2)
theorem J_cT_startAnew {X : JX} {ad : Nat → Nat} {b : Nat} {j : Nat} (hb : isR b) (hj : j < 6) (σ : CS) : JO X M_cT_startAnew (QF X eV (wC ad (xZ X))) 0 [some (.ref (ad (b + 2 + j)))] [] (wsC ad (xZ X) σ) (cT_startAnew b j σ) := by
  unfold cT_startAnew
  refine JO.aloadn dX7_startAnew_0 rfl ?_
  refine JO.ic 0 dX7_startAnew_1 (by decide) ?_
  refine pT2 (j := j) hb hj (Or.inl rfl) k1_126 dX7_startAnew_2 ?_
  refine JO.aloadn dX7_startAnew_5 rfl ?_
  refine JO.ic 1 dX7_startAnew_6 (by decide) ?_
  refine pT3 (v := true) (j := j) hb hj (Or.inl rfl) k1_131 dX7_startAnew_7 ?_
  refine JO.aloadn dX7_startAnew_10 rfl ?_
  refine JO.ic 0 dX7_startAnew_11 (by decide) ?_
  refine JO.sip 160 dX7_startAnew_12 (by decide) ?_
  refine JO.ctv (C_cT_enter hb hj _ _ _) hb hj U_cT_enter_C_T U_cT_enter_A_T (decl_of k2_172 k2_176) k2_171 rfl rfl rfl (Nat.le_of_ble_eq_true rfl) dX7_startAnew_15 (fun a1 => ?_)
  exact JO.vret dX7_startAnew_18 rfl rfl rfl
theorem C_cT_startAnew {ad : Nat → Nat} {b : Nat} {j : Nat} {Z : ZT} (hb : isR b) (hj : j < 6) (σ : CS) : CO yX7_startAnew M_cT_startAnew eV Z (wC ad Z) [.ref (ad (b + 2 + j))] (wsC ad Z σ) (cT_startAnew b j σ) :=
  CO.of rfl rfl (Nat.le_of_ble_eq_true rfl) 0 (fun X hZ => by subst hZ; exact J_cT_startAnew hb hj σ)
theorem U_cT_startAnew_C_T : Ku "CommitPrefixes$Coordinator" "CommitPrefixes$Site" ⟨"CommitPrefixes$Site", "startAnew", "()V"⟩ yX7_startAnew M_cT_startAnew 0 := ⟨k2_167, k2_168, k2_166, k1_6, k2_170, by decide +kernel⟩
theorem U_cT_startAnew_A_T : Ku "CommitPrefixes$Participant" "CommitPrefixes$Site" ⟨"CommitPrefixes$Site", "startAnew", "()V"⟩ yX7_startAnew M_cT_startAnew 0 := ⟨k2_167, k2_169, k2_166, k1_6, k2_170, by decide +kernel⟩
abbrev M_cR_comeUp : JM := (cX4_comeUp, 2, RX4, none, 3, 66)
def cR_comeUp_l2 (b : Nat) : Nat → Int32 → CS → Option (Unit × CS)
  | 0, _, _ => none
  | n + 1, x1, σ =>
    if cI σ 3 0 < x1 then (
      some ((), σ))
    else (
      if inB x1 6 = true then
      if cA σ (3 + 2) (ix x1) = cI σ b 6 then (
        if inB x1 6 = true then
        if inB x1 6 = true then
        (if ix x1 = 0 then cC_recover b (tZ σ (b + 2 + (ix x1)) 3 true) else cA_recover b (ix x1) (tZ σ (b + 2 + (ix x1)) 3 true)).bind fun a1 =>
        cR_comeUp_l2 b n (x1 + 1) a1.2
        else none
        else none)
      else (
        cR_comeUp_l2 b n (x1 + 1) σ)
      else none)
def cR_comeUp (b : Nat) (σ : CS) : Option (Unit × CS) :=
  cR_comeUp_l2 b 4096 0 σ
theorem J_cR_comeUp_l2 {X : JX} {ad : Nat → Nat} {b : Nat} (hb : isR b) : ∀ (n : Nat) (x1 : Int32) (σ : CS), JO X M_cR_comeUp (QF X eV (wC ad (xZ X))) 2 [some (.ref (ad b)), some (.int x1)] [] (wsC ad (xZ X) σ) (cR_comeUp_l2 b n x1 σ) := by
  intro n
  induction n with
  | zero => intro x1 σ; exact JO.nil
  | succ n ih =>
    intro x1 σ
    unfold cR_comeUp_l2
    refine JO.iloadn dX4_comeUp_2 rfl ?_
    refine JO.aloadn dX4_comeUp_3 rfl ?_
    refine gR0 hb k1_177 dX4_comeUp_4 ?_
    refine gS0 isS3 k1_41 dX4_comeUp_7 ?_
    refine JO.icmp_gt 55 dX4_comeUp_10 rfl ?_ ?_
    · exact JO.vret dX4_comeUp_55 rfl rfl rfl
    · refine JO.aloadn dX4_comeUp_13 rfl ?_
      refine gR0 hb k1_177 dX4_comeUp_14 ?_
      refine gS7 isS3 k1_57 dX4_comeUp_17 ?_
      refine JO.iloadn dX4_comeUp_20 rfl ?_
      refine JO.aC (i_cu isS3) dX4_comeUp_21 ?_
      refine JO.aloadn dX4_comeUp_22 rfl ?_
      refine gR6 hb k1_190 dX4_comeUp_23 ?_
      refine JO.icmp_ne 49 dX4_comeUp_26 rfl ?_ ?_
      · refine JO.iinc dX4_comeUp_49 rfl 1 (by decide) rfl rfl ?_
        refine JO.goto 2 dX4_comeUp_52 rfl ?_
        exact (ih _ _).jump (lvLe.so rfl (lvLe.so rfl (lvLe.nil)))
      · refine JO.aloadn dX4_comeUp_29 rfl ?_
        refine gR2 hb k1_181 dX4_comeUp_30 ?_
        refine JO.iloadn dX4_comeUp_33 rfl ?_
        refine JO.aT hb dX4_comeUp_34 (fun h21 => ?_)
        refine JO.ic 1 dX4_comeUp_35 (by decide) ?_
        refine pT3 (v := true) (j := ix x1) hb h21 (Or.inl rfl) k1_132 dX4_comeUp_36 ?_
        refine JO.aloadn dX4_comeUp_39 rfl ?_
        refine gR2 hb k1_181 dX4_comeUp_40 ?_
        refine JO.iloadn dX4_comeUp_43 rfl ?_
        refine JO.aT hb dX4_comeUp_44 (fun h22 => ?_)
        refine JO.aloadn dX4_comeUp_45 rfl ?_
        refine JO.cdv (C_cC_recover hb _) (fun h0 => C_cA_recover hb h0 h22 _) hb h22 U_cC_recover_C_T U_cA_recover_A_T decl_rec k2_181 rfl rfl rfl (Nat.le_of_ble_eq_true rfl) dX4_comeUp_46 (fun a1 => ?_)
        refine JO.iinc dX4_comeUp_49 rfl 1 (by decide) rfl rfl ?_
        refine JO.goto 2 dX4_comeUp_52 rfl ?_
        exact (ih _ _).jump (lvLe.so rfl (lvLe.so rfl (lvLe.nil)))
theorem J_cR_comeUp {X : JX} {ad : Nat → Nat} {b : Nat} (hb : isR b) (σ : CS) : JO X M_cR_comeUp (QF X eV (wC ad (xZ X))) 0 [some (.ref (ad b)), none] [] (wsC ad (xZ X) σ) (cR_comeUp b σ) := by
  unfold cR_comeUp
  refine JO.ic 0 dX4_comeUp_0 (by decide) ?_
  refine JO.istoren dX4_comeUp_1 rfl rfl ?_
  exact (J_cR_comeUp_l2 hb 4096 _ _).jump (lvLe.so rfl (lvLe.so rfl (lvLe.nil)))
theorem C_cR_comeUp {ad : Nat → Nat} {b : Nat} {Z : ZT} (hb : isR b) (σ : CS) : CO yX4_comeUp M_cR_comeUp eV Z (wC ad Z) [.ref (ad b)] (wsC ad Z σ) (cR_comeUp b σ) :=
  CO.of rfl rfl (Nat.le_of_ble_eq_true rfl) 1 (fun X hZ => by subst hZ; exact J_cR_comeUp hb σ)
theorem K_cR_comeUp : Kv yX4_comeUp M_cR_comeUp RX4 0 := ⟨rfl, k2_179, s1_5, k1_5, k2_180, by decide +kernel⟩
abbrev M_cT_goAway : JM := (cX7_goAway, 1, RX7, none, 1, 22)
def cT_goAway (b : Nat) (j : Nat) (σ : CS) : Option (Unit × CS) :=
  (cT_enter b j 0 160 (tZ σ (b + 2 + j) 3 false)).bind fun a1 =>
  some ((), a1.2)
theorem J_cT_goAway {X : JX} {ad : Nat → Nat} {b : Nat} {j : Nat} (hb : isR b) (hj : j < 6) (σ : CS) : JO X M_cT_goAway (QF X eV (wC ad (xZ X))) 0 [some (.ref (ad (b + 2 + j)))] [] (wsC ad (xZ X) σ) (cT_goAway b j σ) := by
  unfold cT_goAway
  refine JO.aloadn dX7_goAway_0 rfl ?_
  refine JO.ic 0 dX7_goAway_1 (by decide) ?_
  refine pT3 (v := false) (j := j) hb hj (Or.inl rfl) k1_131 dX7_goAway_2 ?_
  refine JO.aloadn dX7_goAway_5 rfl ?_
  refine JO.ic 0 dX7_goAway_6 (by decide) ?_
  refine JO.sip 160 dX7_goAway_7 (by decide) ?_
  refine JO.ctv (C_cT_enter hb hj _ _ _) hb hj U_cT_enter_C_T U_cT_enter_A_T (decl_of k2_172 k2_176) k2_171 rfl rfl rfl (Nat.le_of_ble_eq_true rfl) dX7_goAway_10 (fun a1 => ?_)
  exact JO.vret dX7_goAway_13 rfl rfl rfl
theorem C_cT_goAway {ad : Nat → Nat} {b : Nat} {j : Nat} {Z : ZT} (hb : isR b) (hj : j < 6) (σ : CS) : CO yX7_goAway M_cT_goAway eV Z (wC ad Z) [.ref (ad (b + 2 + j))] (wsC ad Z σ) (cT_goAway b j σ) :=
  CO.of rfl rfl (Nat.le_of_ble_eq_true rfl) 0 (fun X hZ => by subst hZ; exact J_cT_goAway hb hj σ)
theorem U_cT_goAway_C_T : Ku "CommitPrefixes$Coordinator" "CommitPrefixes$Site" ⟨"CommitPrefixes$Site", "goAway", "()V"⟩ yX7_goAway M_cT_goAway 0 := ⟨k2_238, k2_239, k2_237, k1_6, k3_1, by decide +kernel⟩
theorem U_cT_goAway_A_T : Ku "CommitPrefixes$Participant" "CommitPrefixes$Site" ⟨"CommitPrefixes$Site", "goAway", "()V"⟩ yX7_goAway M_cT_goAway 0 := ⟨k2_238, k3_0, k2_237, k1_6, k3_1, by decide +kernel⟩
abbrev M_cR_goDown : JM := (cX4_goDown, 2, RX4, none, 2, 42)
def cR_goDown_l2 (b : Nat) : Nat → Int32 → CS → Option (Unit × CS)
  | 0, _, _ => none
  | n + 1, x1, σ =>
    if cI σ 3 0 < x1 then (
      some ((), σ))
    else (
      if inB x1 6 = true then
      if cA σ (3 + 1) (ix x1) = cI σ b 6 then (
        if inB x1 6 = true then
        (cT_goAway b (ix x1) σ).bind fun a1 =>
        cR_goDown_l2 b n (x1 + 1) a1.2
        else none)
      else (
        cR_goDown_l2 b n (x1 + 1) σ)
      else none)
def cR_goDown (b : Nat) (σ : CS) : Option (Unit × CS) :=
  cR_goDown_l2 b 4096 0 σ
theorem J_cR_goDown_l2 {X : JX} {ad : Nat → Nat} {b : Nat} (hb : isR b) : ∀ (n : Nat) (x1 : Int32) (σ : CS), JO X M_cR_goDown (QF X eV (wC ad (xZ X))) 2 [some (.ref (ad b)), some (.int x1)] [] (wsC ad (xZ X) σ) (cR_goDown_l2 b n x1 σ) := by
  intro n
  induction n with
  | zero => intro x1 σ; exact JO.nil
  | succ n ih =>
    intro x1 σ
    unfold cR_goDown_l2
    refine JO.iloadn dX4_goDown_2 rfl ?_
    refine JO.aloadn dX4_goDown_3 rfl ?_
    refine gR0 hb k1_177 dX4_goDown_4 ?_
    refine gS0 isS3 k1_41 dX4_goDown_7 ?_
    refine JO.icmp_gt 44 dX4_goDown_10 rfl ?_ ?_
    · exact JO.vret dX4_goDown_44 rfl rfl rfl
    · refine JO.aloadn dX4_goDown_13 rfl ?_
      refine gR0 hb k1_177 dX4_goDown_14 ?_
      refine gS6 isS3 k1_55 dX4_goDown_17 ?_
      refine JO.iloadn dX4_goDown_20 rfl ?_
      refine JO.aC (i_gd isS3) dX4_goDown_21 ?_
      refine JO.aloadn dX4_goDown_22 rfl ?_
      refine gR6 hb k1_190 dX4_goDown_23 ?_
      refine JO.icmp_ne 38 dX4_goDown_26 rfl ?_ ?_
      · refine JO.iinc dX4_goDown_38 rfl 1 (by decide) rfl rfl ?_
        refine JO.goto 2 dX4_goDown_41 rfl ?_
        exact (ih _ _).jump (lvLe.so rfl (lvLe.so rfl (lvLe.nil)))
      · refine JO.aloadn dX4_goDown_29 rfl ?_
        refine gR2 hb k1_181 dX4_goDown_30 ?_
        refine JO.iloadn dX4_goDown_33 rfl ?_
        refine JO.aT hb dX4_goDown_34 (fun h21 => ?_)
        refine JO.ctv (C_cT_goAway hb h21 _) hb h21 U_cT_goAway_C_T U_cT_goAway_A_T (decl_of k2_237 k3_1) k2_236 rfl rfl rfl (Nat.le_of_ble_eq_true rfl) dX4_goDown_35 (fun a1 => ?_)
        refine JO.iinc dX4_goDown_38 rfl 1 (by decide) rfl rfl ?_
        refine JO.goto 2 dX4_goDown_41 rfl ?_
        exact (ih _ _).jump (lvLe.so rfl (lvLe.so rfl (lvLe.nil)))
theorem J_cR_goDown {X : JX} {ad : Nat → Nat} {b : Nat} (hb : isR b) (σ : CS) : JO X M_cR_goDown (QF X eV (wC ad (xZ X))) 0 [some (.ref (ad b)), none] [] (wsC ad (xZ X) σ) (cR_goDown b σ) := by
  unfold cR_goDown
  refine JO.ic 0 dX4_goDown_0 (by decide) ?_
  refine JO.istoren dX4_goDown_1 rfl rfl ?_
  exact (J_cR_goDown_l2 hb 4096 _ _).jump (lvLe.so rfl (lvLe.so rfl (lvLe.nil)))
theorem C_cR_goDown {ad : Nat → Nat} {b : Nat} {Z : ZT} (hb : isR b) (σ : CS) : CO yX4_goDown M_cR_goDown eV Z (wC ad Z) [.ref (ad b)] (wsC ad Z σ) (cR_goDown b σ) :=
  CO.of rfl rfl (Nat.le_of_ble_eq_true rfl) 1 (fun X hZ => by subst hZ; exact J_cR_goDown hb σ)
theorem K_cR_goDown : Kv yX4_goDown M_cR_goDown RX4 0 := ⟨rfl, k2_234, s1_8, k1_5, k2_235, by decide +kernel⟩
abbrev M_cP_isIn : JM := (cX9_isIn, 3, RX9, (some .boolean), 0, 0)
def cP_isIn (p1 : Int64) (p2 : Int32) (σ : CS) : Option (Bool × CS) :=
  if p2 < 0 then (
    some (false, σ))
  else (
    if 60 ≤ p2 then (
      some (false, σ))
    else (
      if (lg_cmp ((Int64.toUInt64 p1 >>> ((Int32.toInt64 p2).toUInt64 &&& Int64.toUInt64 63)).toInt64 &&& 1) 0) = 0 then (
        some (false, σ))
      else (
        some (true, σ))))
theorem J_cP_isIn {X : JX} {ad : Nat → Nat} (p1 : Int64) (p2 : Int32) (σ : CS) : JO X M_cP_isIn (QF X eZ (wC ad (xZ X))) 0 [some (.long p1), none, some (.int p2)] [] (wsC ad (xZ X) σ) (cP_isIn p1 p2 σ) := by
  unfold cP_isIn
  refine JO.iloadn dX9_isIn_0 rfl ?_
  refine JO.if_lt 24 dX9_isIn_1 rfl ?_ ?_
  · refine JO.ic 0 dX9_isIn_24 (by decide) ?_
    exact JO.zret (b := false) dX9_isIn_25 rfl rfl rfl
  · refine JO.iloadn dX9_isIn_4 rfl ?_
    refine JO.bip 60 dX9_isIn_5 (by decide) ?_
    refine JO.icmp_ge 24 dX9_isIn_7 rfl ?_ ?_
    · refine JO.ic 0 dX9_isIn_24 (by decide) ?_
      exact JO.zret (b := false) dX9_isIn_25 rfl rfl rfl
    · refine JO.lloadn dX9_isIn_10 rfl ?_
      refine JO.iloadn dX9_isIn_11 rfl ?_
      refine JO.lushr dX9_isIn_12 ?_
      refine JO.lc 1 dX9_isIn_13 (by decide) ?_
      refine JO.land dX9_isIn_14 ?_
      refine JO.lc 0 dX9_isIn_15 (by decide) ?_
      refine JO.lcmp dX9_isIn_16 ?_
      refine JO.if_eq 24 dX9_isIn_17 rfl ?_ ?_
      · refine JO.ic 0 dX9_isIn_24 (by decide) ?_
        exact JO.zret (b := false) dX9_isIn_25 rfl rfl rfl
      · refine JO.ic 1 dX9_isIn_20 (by decide) ?_
        refine JO.goto 25 dX9_isIn_21 rfl ?_
        exact JO.zret (b := true) dX9_isIn_25 rfl rfl rfl
theorem C_cP_isIn {ad : Nat → Nat} {Z : ZT} (p1 : Int64) (p2 : Int32) (σ : CS) : CO yX9_isIn M_cP_isIn eZ Z (wC ad Z) [.long p1, .int p2] (wsC ad Z σ) (cP_isIn p1 p2 σ) :=
  CO.of rfl rfl (Nat.le_of_ble_eq_true rfl) 0 (fun X hZ => by subst hZ; exact J_cP_isIn _ _ σ)
theorem K_cP_isIn : Ks yX9_isIn M_cP_isIn 2 := ⟨k3_7, k1_1, k3_8, by decide +kernel⟩
abbrev M_cR_deliver : JM := (cX4_deliver, 5, RX4, none, 3, 68)
def cR_deliver_l2 (b : Nat) : Nat → Int32 → Int32 → CS → Option (Unit × CS)
  | 0, _, _, _ => none
  | n + 1, x2, x3, σ =>
    if x2 ≤ x3 then (
      some ((), σ))
    else (
      if inB x3 200 = true then
      if inB (cA σ (b + 16) (ix x3)) 6 = true then
      (cP_isIn (cG σ b 4) x3 σ).bind fun a1 =>
      if a1.1 = true then (
        if inB x3 200 = true then
        cR_deliver_l2 b n x2 (x3 + 1) (tA a1.2 (b + 18) (ix x3) 1)
        else none)
      else (
        if cZ a1.2 (b + 2 + (ix (cA σ (b + 16) (ix x3)))) 3 = true then (
          if inB x3 200 = true then
          if inB x3 200 = true then
          if inB x3 200 = true then
          (if ix (cA σ (b + 16) (ix x3)) = 0 then cC_receive b (cA (tA a1.2 (b + 18) (ix x3) 0) (b + 14) (ix x3)) (cA (tA a1.2 (b + 18) (ix x3) 0) (b + 15) (ix x3)) (tA a1.2 (b + 18) (ix x3) 0) else cA_receive b (ix (cA σ (b + 16) (ix x3))) (cA (tA a1.2 (b + 18) (ix x3) 0) (b + 14) (ix x3)) (cA (tA a1.2 (b + 18) (ix x3) 0) (b + 15) (ix x3)) (tA a1.2 (b + 18) (ix x3) 0)).bind fun a2 =>
          cR_deliver_l2 b n x2 (x3 + 1) a2.2
          else none
          else none
          else none)
        else (
          if inB x3 200 = true then
          cR_deliver_l2 b n x2 (x3 + 1) (tA a1.2 (b + 18) (ix x3) 2)
          else none))
      else none
      else none)
def cR_deliver (b : Nat) (p1 : Int32) (p2 : Int32) (σ : CS) : Option (Unit × CS) :=
  cR_deliver_l2 b 4096 p2 p1 σ
theorem J_cR_deliver_l2 {X : JX} {ad : Nat → Nat} {b : Nat} (hb : isR b) : ∀ (n : Nat) (x2 : Int32) (x3 : Int32) (σ : CS), JO X M_cR_deliver (QF X eV (wC ad (xZ X))) 2 [some (.ref (ad b)), none, some (.int x2), some (.int x3), none] [] (wsC ad (xZ X) σ) (cR_deliver_l2 b n x2 x3 σ) := by
  intro n
  induction n with
  | zero => intro x2 x3 σ; exact JO.nil
  | succ n ih =>
    intro x2 x3 σ
    unfold cR_deliver_l2
    refine JO.iloadn dX4_deliver_2 rfl ?_
    refine JO.iloadn dX4_deliver_3 rfl ?_
    refine JO.icmp_ge 90 dX4_deliver_4 rfl ?_ ?_
    · exact JO.vret dX4_deliver_90 rfl rfl rfl
    · refine JO.aloadn dX4_deliver_7 rfl ?_
      refine gR2 hb k1_181 dX4_deliver_8 ?_
      refine JO.aloadn dX4_deliver_11 rfl ?_
      refine gR11 hb k1_199 dX4_deliver_12 ?_
      refine JO.iloadn dX4_deliver_15 rfl ?_
      refine JO.aC (i_r16 hb) dX4_deliver_16 ?_
      refine JO.aT hb dX4_deliver_17 (fun h21 => ?_)
      refine JO.astore dX4_deliver_18 rfl rfl ?_
      refine JO.aloadn dX4_deliver_20 rfl ?_
      refine gR4 hb k1_186 dX4_deliver_21 ?_
      refine JO.iloadn dX4_deliver_24 rfl ?_
      refine JO.csnz (C_cP_isIn _ _ _) K_cP_isIn (fun ok => ok.nw.2.1) rfl rfl rfl (Nat.le_of_ble_eq_true rfl) dX4_deliver_25 (fun a1 => ?_)
      refine JO.zeq 41 dX4_deliver_28 rfl ?_ ?_
      · refine JO.aload dX4_deliver_41 rfl ?_
        refine gT3 (j := ix (cA σ (b + 16) (ix x3))) hb h21 (Or.inl rfl) k1_132 dX4_deliver_43 ?_
        refine JO.zne 59 dX4_deliver_46 rfl ?_ ?_
        · refine JO.aloadn dX4_deliver_59 rfl ?_
          refine gR13 hb k1_203 dX4_deliver_60 ?_
          refine JO.iloadn dX4_deliver_63 rfl ?_
          refine JO.ic 0 dX4_deliver_64 (by decide) ?_
          refine JO.uC (i_r18 hb) dX4_deliver_65 ?_
          refine JO.aload dX4_deliver_66 rfl ?_
          refine JO.aloadn dX4_deliver_68 rfl ?_
          refine JO.aloadn dX4_deliver_69 rfl ?_
          refine gR9 hb k1_195 dX4_deliver_70 ?_
          refine JO.iloadn dX4_deliver_73 rfl ?_
          refine JO.aC (i_r14 hb) dX4_deliver_74 ?_
          refine JO.aloadn dX4_deliver_75 rfl ?_
          refine gR10 hb k1_197 dX4_deliver_76 ?_
          refine JO.iloadn dX4_deliver_79 rfl ?_
          refine JO.aC (i_r15 hb) dX4_deliver_80 ?_
          refine JO.cdv (C_cC_receive hb _ _ _) (fun h0 => C_cA_receive hb h0 h21 _ _ _) hb h21 U_cC_receive_C_T U_cA_receive_A_T decl_rcv k3_9 rfl rfl rfl (Nat.le_of_ble_eq_true rfl) dX4_deliver_81 (fun a2 => ?_)
          refine JO.iinc dX4_deliver_84 rfl 1 (by decide) rfl rfl ?_
          refine JO.goto 2 dX4_deliver_87 rfl ?_
          exact (ih _ _ _).jump (lvLe.so rfl (lvLe.no (lvLe.so rfl (lvLe.so rfl (lvLe.no (lvLe.nil))))))
        · refine JO.aloadn dX4_deliver_49 rfl ?_
          refine gR13 hb k1_203 dX4_deliver_50 ?_
          refine JO.iloadn dX4_deliver_53 rfl ?_
          refine JO.ic 2 dX4_deliver_54 (by decide) ?_
          refine JO.uC (i_r18 hb) dX4_deliver_55 ?_
          refine JO.goto 84 dX4_deliver_56 rfl ?_
          refine JO.iinc dX4_deliver_84 rfl 1 (by decide) rfl rfl ?_
          refine JO.goto 2 dX4_deliver_87 rfl ?_
          exact (ih _ _ _).jump (lvLe.so rfl (lvLe.no (lvLe.so rfl (lvLe.so rfl (lvLe.no (lvLe.nil))))))
      · refine JO.aloadn dX4_deliver_31 rfl ?_
        refine gR13 hb k1_203 dX4_deliver_32 ?_
        refine JO.iloadn dX4_deliver_35 rfl ?_
        refine JO.ic 1 dX4_deliver_36 (by decide) ?_
        refine JO.uC (i_r18 hb) dX4_deliver_37 ?_
        refine JO.goto 84 dX4_deliver_38 rfl ?_
        refine JO.iinc dX4_deliver_84 rfl 1 (by decide) rfl rfl ?_
        refine JO.goto 2 dX4_deliver_87 rfl ?_
        exact (ih _ _ _).jump (lvLe.so rfl (lvLe.no (lvLe.so rfl (lvLe.so rfl (lvLe.no (lvLe.nil))))))
theorem J_cR_deliver {X : JX} {ad : Nat → Nat} {b : Nat} (hb : isR b) (p1 : Int32) (p2 : Int32) (σ : CS) : JO X M_cR_deliver (QF X eV (wC ad (xZ X))) 0 [some (.ref (ad b)), some (.int p1), some (.int p2), none, none] [] (wsC ad (xZ X) σ) (cR_deliver b p1 p2 σ) := by
  unfold cR_deliver
  refine JO.iloadn dX4_deliver_0 rfl ?_
  refine JO.istoren dX4_deliver_1 rfl rfl ?_
  exact (J_cR_deliver_l2 hb 4096 _ _ _).jump (lvLe.so rfl (lvLe.no (lvLe.so rfl (lvLe.so rfl (lvLe.no (lvLe.nil))))))
theorem C_cR_deliver {ad : Nat → Nat} {b : Nat} {Z : ZT} (hb : isR b) (p1 : Int32) (p2 : Int32) (σ : CS) : CO yX4_deliver M_cR_deliver eV Z (wC ad Z) [.ref (ad b), .int p1, .int p2] (wsC ad Z σ) (cR_deliver b p1 p2 σ) :=
  CO.of rfl rfl (Nat.le_of_ble_eq_true rfl) 2 (fun X hZ => by subst hZ; exact J_cR_deliver hb _ _ σ)
theorem K_cR_deliver : Kv yX4_deliver M_cR_deliver RX4 2 := ⟨rfl, k3_4, s1_9, k1_5, k3_5, by decide +kernel⟩
abbrev M_cR_endWaits : JM := (cX4_endWaits, 2, RX4, none, 3, 66)
def cR_endWaits_l27 (b : Nat) : Nat → Int32 → CS → Option (Unit × CS)
  | 0, _, _ => none
  | n + 1, x1, σ =>
    if cI σ 3 0 < x1 then (
      some ((), σ))
    else (
      if inB x1 6 = true then
      if cZ σ (b + 2 + (ix x1)) 3 = true then (
        if inB x1 6 = true then
        if cI σ b 6 < cI σ (b + 2 + (ix x1)) 5 then (
          cR_endWaits_l27 b n (x1 + 1) σ)
        else (
          if inB x1 6 = true then
          if inB x1 6 = true then
          (if ix x1 = 0 then cC_timeOut b (tI σ (b + 2 + (ix x1)) 5 160) else cA_timeOut b (ix x1) (tI σ (b + 2 + (ix x1)) 5 160)).bind fun a1 =>
          cR_endWaits_l27 b n (x1 + 1) a1.2
          else none
          else none)
        else none)
      else (
        cR_endWaits_l27 b n (x1 + 1) σ)
      else none)
def cR_endWaits (b : Nat) (σ : CS) : Option (Unit × CS) :=
  if cI σ b 6 = 0 then (
    if cZ σ (b + 2) 3 = true then (
      (cC_begin b σ).bind fun a1 =>
      cR_endWaits_l27 b 4096 0 a1.2)
    else (
      cR_endWaits_l27 b 4096 0 σ))
  else (
    cR_endWaits_l27 b 4096 0 σ)
theorem J_cR_endWaits_l27 {X : JX} {ad : Nat → Nat} {b : Nat} (hb : isR b) : ∀ (n : Nat) (x1 : Int32) (σ : CS), JO X M_cR_endWaits (QF X eV (wC ad (xZ X))) 27 [some (.ref (ad b)), some (.int x1)] [] (wsC ad (xZ X) σ) (cR_endWaits_l27 b n x1 σ) := by
  intro n
  induction n with
  | zero => intro x1 σ; exact JO.nil
  | succ n ih =>
    intro x1 σ
    unfold cR_endWaits_l27
    refine JO.iloadn dX4_endWaits_27 rfl ?_
    refine JO.aloadn dX4_endWaits_28 rfl ?_
    refine gR0 hb k1_177 dX4_endWaits_29 ?_
    refine gS0 isS3 k1_41 dX4_endWaits_32 ?_
    refine JO.icmp_gt 94 dX4_endWaits_35 rfl ?_ ?_
    · exact JO.vret dX4_endWaits_94 rfl rfl rfl
    · refine JO.aloadn dX4_endWaits_38 rfl ?_
      refine gR2 hb k1_181 dX4_endWaits_39 ?_
      refine JO.iloadn dX4_endWaits_42 rfl ?_
      refine JO.aT hb dX4_endWaits_43 (fun h21 => ?_)
      refine gT3 (j := ix x1) hb h21 (Or.inl rfl) k1_132 dX4_endWaits_44 ?_
      refine JO.zeq 88 dX4_endWaits_47 rfl ?_ ?_
      · refine JO.iinc dX4_endWaits_88 rfl 1 (by decide) rfl rfl ?_
        refine JO.goto 27 dX4_endWaits_91 rfl ?_
        exact (ih _ _).jump (lvLe.so rfl (lvLe.so rfl (lvLe.nil)))
      · refine JO.aloadn dX4_endWaits_50 rfl ?_
        refine gR2 hb k1_181 dX4_endWaits_51 ?_
        refine JO.iloadn dX4_endWaits_54 rfl ?_
        refine JO.aT hb dX4_endWaits_55 (fun h22 => ?_)
        refine gT5 (j := ix x1) hb h22 (Or.inl rfl) k1_144 dX4_endWaits_56 ?_
        refine JO.aloadn dX4_endWaits_59 rfl ?_
        refine gR6 hb k1_190 dX4_endWaits_60 ?_
        refine JO.icmp_gt 88 dX4_endWaits_63 rfl ?_ ?_
        · refine JO.iinc dX4_endWaits_88 rfl 1 (by decide) rfl rfl ?_
          refine JO.goto 27 dX4_endWaits_91 rfl ?_
          exact (ih _ _).jump (lvLe.so rfl (lvLe.so rfl (lvLe.nil)))
        · refine JO.aloadn dX4_endWaits_66 rfl ?_
          refine gR2 hb k1_181 dX4_endWaits_67 ?_
          refine JO.iloadn dX4_endWaits_70 rfl ?_
          refine JO.aT hb dX4_endWaits_71 (fun h23 => ?_)
          refine JO.sip 160 dX4_endWaits_72 (by decide) ?_
          refine pT5 (j := ix x1) hb h23 (Or.inl rfl) k1_144 dX4_endWaits_75 ?_
          refine JO.aloadn dX4_endWaits_78 rfl ?_
          refine gR2 hb k1_181 dX4_endWaits_79 ?_
          refine JO.iloadn dX4_endWaits_82 rfl ?_
          refine JO.aT hb dX4_endWaits_83 (fun h24 => ?_)
          refine JO.aloadn dX4_endWaits_84 rfl ?_
          refine JO.cdv (C_cC_timeOut hb _) (fun h0 => C_cA_timeOut hb h0 h24 _) hb h24 U_cC_timeOut_C_T U_cA_timeOut_A_T decl_tmo k3_73 rfl rfl rfl (Nat.le_of_ble_eq_true rfl) dX4_endWaits_85 (fun a1 => ?_)
          refine JO.iinc dX4_endWaits_88 rfl 1 (by decide) rfl rfl ?_
          refine JO.goto 27 dX4_endWaits_91 rfl ?_
          exact (ih _ _).jump (lvLe.so rfl (lvLe.so rfl (lvLe.nil)))
theorem J_cR_endWaits {X : JX} {ad : Nat → Nat} {b : Nat} (hb : isR b) (σ : CS) : JO X M_cR_endWaits (QF X eV (wC ad (xZ X))) 0 [some (.ref (ad b)), none] [] (wsC ad (xZ X) σ) (cR_endWaits b σ) := by
  unfold cR_endWaits
  refine JO.aloadn dX4_endWaits_0 rfl ?_
  refine gR6 hb k1_190 dX4_endWaits_1 ?_
  refine JO.if_ne 25 dX4_endWaits_4 rfl ?_ ?_
  · refine JO.ic 0 dX4_endWaits_25 (by decide) ?_
    refine JO.istoren dX4_endWaits_26 rfl rfl ?_
    exact (J_cR_endWaits_l27 hb 4096 _ _).jump (lvLe.so rfl (lvLe.so rfl (lvLe.nil)))
  · refine JO.aloadn dX4_endWaits_7 rfl ?_
    refine gR1 hb k1_180 dX4_endWaits_8 ?_
    refine gT3 (j := 0) hb (by decide) (Or.inr k1_134) k1_133 dX4_endWaits_11 ?_
    refine JO.zeq 25 dX4_endWaits_14 rfl ?_ ?_
    · refine JO.ic 0 dX4_endWaits_25 (by decide) ?_
      refine JO.istoren dX4_endWaits_26 rfl rfl ?_
      exact (J_cR_endWaits_l27 hb 4096 _ _).jump (lvLe.so rfl (lvLe.so rfl (lvLe.nil)))
    · refine JO.aloadn dX4_endWaits_17 rfl ?_
      refine gR1 hb k1_180 dX4_endWaits_18 ?_
      refine JO.aloadn dX4_endWaits_21 rfl ?_
      refine JO.cvv (C_cC_begin hb _) (rcvT0 hb) K_cC_begin k3_69 rfl rfl rfl (Nat.le_of_ble_eq_true rfl) dX4_endWaits_22 (fun a1 => ?_)
      refine JO.ic 0 dX4_endWaits_25 (by decide) ?_
      refine JO.istoren dX4_endWaits_26 rfl rfl ?_
      exact (J_cR_endWaits_l27 hb 4096 _ _).jump (lvLe.so rfl (lvLe.so rfl (lvLe.nil)))
theorem C_cR_endWaits {ad : Nat → Nat} {b : Nat} {Z : ZT} (hb : isR b) (σ : CS) : CO yX4_endWaits M_cR_endWaits eV Z (wC ad Z) [.ref (ad b)] (wsC ad Z σ) (cR_endWaits b σ) :=
  CO.of rfl rfl (Nat.le_of_ble_eq_true rfl) 1 (fun X hZ => by subst hZ; exact J_cR_endWaits hb σ)
theorem K_cR_endWaits : Kv yX4_endWaits M_cR_endWaits RX4 0 := ⟨rfl, k3_67, s2_3, k1_5, k3_68, by decide +kernel⟩
