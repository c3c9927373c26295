abbrev M_fill6 : JM := (cJ7_fill_53178, 4, RJ7, none, 1, 20)
def w_fill6 (h0 : Nat) (Z : ZT) (as : Nat → Nat) : va_W := [(h0, .inl (Z.1, 6, .inl (upd (upd (upd (upd (upd (upd (fun _ => 0) 0 (-1)) 1 (-1)) 2 (-1)) 3 (-1)) 4 (-1)) 5 (-1))))]
set_option maxRecDepth 20000 in
theorem N_fill6 {Z : ZT} (h0 : Nat) : CN yJ7_fill_53178 M_fill6 0 0 Z [.ref h0, .int (-1)] [(h0, .inl (Z.1, 6, .inl (fun _ => 0)))] (w_fill6 h0 Z) := by
  refine CN.of rfl rfl (Nat.le_of_ble_eq_true rfl) 2 (fun X hZ hm => ?_)
  subst hZ
  show JN X M_fill6 0 0 (QN X 0 0 (w_fill6 h0 (xZ X))) 0 0 0 [some (.ref h0), some (.int (-1)), none, none] [] [(h0, .inl ((xZ X).1, 6, .inl (fun _ => 0)))]
  refine JN.ic 0 dJ7_fill_53178_0 (by decide) ?_
  refine JN.istoren (lv' := [some (.ref h0), some (.int (-1)), some (.int 0), none]) dJ7_fill_53178_1 rfl rfl rfl ?_
  refine JN.aloadn dJ7_fill_53178_2 rfl ?_
  refine JN.alen (q0 := 0) rfl 6 rfl dJ7_fill_53178_3 ?_
  refine JN.istoren (lv' := [some (.ref h0), some (.int (-1)), some (.int 0), some (.int 6)]) dJ7_fill_53178_4 rfl rfl rfl ?_
  refine JN.iloadn dJ7_fill_53178_5 rfl ?_
  refine JN.iloadn dJ7_fill_53178_6 rfl ?_
  refine JN.geF dJ7_fill_53178_7 20 rfl (by decide) ?_
  refine JN.aloadn dJ7_fill_53178_10 rfl ?_
  refine JN.iloadn dJ7_fill_53178_11 rfl ?_
  refine JN.iloadn dJ7_fill_53178_12 rfl ?_
  refine JN.iast (q0 := 0) (ws' := [(h0, .inl ((xZ X).1, 6, .inl (upd (fun _ => 0) 0 (-1))))]) rfl (by decide) rfl dJ7_fill_53178_13 ?_
  refine JN.iinc (v := 1) (lv' := [some (.ref h0), some (.int (-1)), some (.int 1), some (.int 6)]) dJ7_fill_53178_14 rfl (by decide) rfl rfl rfl ?_
  refine JN.goto 5 dJ7_fill_53178_17 rfl ?_
  refine JN.iloadn dJ7_fill_53178_5 rfl ?_
  refine JN.iloadn dJ7_fill_53178_6 rfl ?_
  refine JN.geF dJ7_fill_53178_7 20 rfl (by decide) ?_
  refine JN.aloadn dJ7_fill_53178_10 rfl ?_
  refine JN.iloadn dJ7_fill_53178_11 rfl ?_
  refine JN.iloadn dJ7_fill_53178_12 rfl ?_
  refine JN.iast (q0 := 0) (ws' := [(h0, .inl ((xZ X).1, 6, .inl (upd (upd (fun _ => 0) 0 (-1)) 1 (-1))))]) rfl (by decide) rfl dJ7_fill_53178_13 ?_
  refine JN.iinc (v := 2) (lv' := [some (.ref h0), some (.int (-1)), some (.int 2), some (.int 6)]) dJ7_fill_53178_14 rfl (by decide) rfl rfl rfl ?_
  refine JN.goto 5 dJ7_fill_53178_17 rfl ?_
  refine JN.iloadn dJ7_fill_53178_5 rfl ?_
  refine JN.iloadn dJ7_fill_53178_6 rfl ?_
  refine JN.geF dJ7_fill_53178_7 20 rfl (by decide) ?_
  refine JN.aloadn dJ7_fill_53178_10 rfl ?_
  refine JN.iloadn dJ7_fill_53178_11 rfl ?_
  refine JN.iloadn dJ7_fill_53178_12 rfl ?_
  refine JN.iast (q0 := 0) (ws' := [(h0, .inl ((xZ X).1, 6, .inl (upd (upd (upd (fun _ => 0) 0 (-1)) 1 (-1)) 2 (-1))))]) rfl (by decide) rfl dJ7_fill_53178_13 ?_
  refine JN.iinc (v := 3) (lv' := [some (.ref h0), some (.int (-1)), some (.int 3), some (.int 6)]) dJ7_fill_53178_14 rfl (by decide) rfl rfl rfl ?_
  refine JN.goto 5 dJ7_fill_53178_17 rfl ?_
  refine JN.iloadn dJ7_fill_53178_5 rfl ?_
  refine JN.iloadn dJ7_fill_53178_6 rfl ?_
  refine JN.geF dJ7_fill_53178_7 20 rfl (by decide) ?_
  refine JN.aloadn dJ7_fill_53178_10 rfl ?_
  refine JN.iloadn dJ7_fill_53178_11 rfl ?_
  refine JN.iloadn dJ7_fill_53178_12 rfl ?_
  refine JN.iast (q0 := 0) (ws' := [(h0, .inl ((xZ X).1, 6, .inl (upd (upd (upd (upd (fun _ => 0) 0 (-1)) 1 (-1)) 2 (-1)) 3 (-1))))]) rfl (by decide) rfl dJ7_fill_53178_13 ?_
  refine JN.iinc (v := 4) (lv' := [some (.ref h0), some (.int (-1)), some (.int 4), some (.int 6)]) dJ7_fill_53178_14 rfl (by decide) rfl rfl rfl ?_
  refine JN.goto 5 dJ7_fill_53178_17 rfl ?_
  refine JN.iloadn dJ7_fill_53178_5 rfl ?_
  refine JN.iloadn dJ7_fill_53178_6 rfl ?_
  refine JN.geF dJ7_fill_53178_7 20 rfl (by decide) ?_
  refine JN.aloadn dJ7_fill_53178_10 rfl ?_
  refine JN.iloadn dJ7_fill_53178_11 rfl ?_
  refine JN.iloadn dJ7_fill_53178_12 rfl ?_
  refine JN.iast (q0 := 0) (ws' := [(h0, .inl ((xZ X).1, 6, .inl (upd (upd (upd (upd (upd (fun _ => 0) 0 (-1)) 1 (-1)) 2 (-1)) 3 (-1)) 4 (-1))))]) rfl (by decide) rfl dJ7_fill_53178_13 ?_
  refine JN.iinc (v := 5) (lv' := [some (.ref h0), some (.int (-1)), some (.int 5), some (.int 6)]) dJ7_fill_53178_14 rfl (by decide) rfl rfl rfl ?_
  refine JN.goto 5 dJ7_fill_53178_17 rfl ?_
  refine JN.iloadn dJ7_fill_53178_5 rfl ?_
  refine JN.iloadn dJ7_fill_53178_6 rfl ?_
  refine JN.geF dJ7_fill_53178_7 20 rfl (by decide) ?_
  refine JN.aloadn dJ7_fill_53178_10 rfl ?_
  refine JN.iloadn dJ7_fill_53178_11 rfl ?_
  refine JN.iloadn dJ7_fill_53178_12 rfl ?_
  refine JN.iast (q0 := 0) (ws' := [(h0, .inl ((xZ X).1, 6, .inl (upd (upd (upd (upd (upd (upd (fun _ => 0) 0 (-1)) 1 (-1)) 2 (-1)) 3 (-1)) 4 (-1)) 5 (-1))))]) rfl (by decide) rfl dJ7_fill_53178_13 ?_
  refine JN.iinc (v := 6) (lv' := [some (.ref h0), some (.int (-1)), some (.int 6), some (.int 6)]) dJ7_fill_53178_14 rfl (by decide) rfl rfl rfl ?_
  refine JN.goto 5 dJ7_fill_53178_17 rfl ?_
  refine JN.iloadn dJ7_fill_53178_5 rfl ?_
  refine JN.iloadn dJ7_fill_53178_6 rfl ?_
  refine JN.geT dJ7_fill_53178_7 20 rfl (by decide) ?_
  exact JN.vret (fun k => ([0, 0] : List Nat).getD k 0) [0] rfl (by decide) rfl (Nat.le_of_ble_eq_true rfl) (Nat.le_of_ble_eq_true rfl) rfl dJ7_fill_53178_20
theorem K_fill6 : Ks yJ7_fill_53178 M_fill6 2 := ⟨k1_38, k1_3, k1_39, by decide +kernel⟩
abbrev M_Site0 : JM := (cX7_init, 2, RX7, none, 1, 20)
def w_Site0 (h0 : Nat) (v : Int32) (Z : ZT) (as : Nat → Nat) : va_W := [(h0, .inr (0, [.int v, .ref (as 1), .int 0, .int 1, .int 0, .int 160, .int 0])), ((as 1), .inl (Z.1, 8, .inl (fun _ => 0)))]
set_option maxRecDepth 20000 in
theorem N_Site0 {Z : ZT} (h0 : Nat) (v : Int32) : CN yX7_init M_Site0 1 8 Z [.ref h0, .int v] [(h0, .inr (0, [.int 0, .null, .int 0, .int 0, .int 0, .int 0, .int 0]))] (w_Site0 h0 v Z) := by
  refine CN.of rfl rfl (Nat.le_of_ble_eq_true rfl) 0 (fun X hZ hm => ?_)
  subst hZ
  have hm := hm rfl
  show JN X M_Site0 1 8 (QN X 1 8 (w_Site0 h0 v (xZ X))) 0 0 0 [some (.ref h0), some (.int v)] [] [(h0, .inr (0, [.int 0, .null, .int 0, .int 0, .int 0, .int 0, .int 0]))]
  refine JN.aloadn dX7_init_0 rfl ?_
  refine JN.obj k1_117 rfl dX7_init_1 ?_
  refine JN.aloadn dX7_init_4 rfl ?_
  refine JN.bip 8 dX7_init_5 (by decide) ?_
  refine JN.newI 8 (by decide) (by decide) (Nat.le_of_ble_eq_true rfl) (Nat.le_of_ble_eq_true rfl) (Nat.le_of_ble_eq_true rfl) dX7_init_7 (fun q1 => ?_)
  refine JN.putF (q0 := 0) (ci := 0) (ty := (.array .int)) (ws' := [(h0, .inr (0, [.int 0, .ref q1, .int 0, .int 0, .int 0, .int 0, .int 0])), (q1, .inl ((xZ X).1, 8, .inl (fun _ => 0)))]) (fun _ => hm) tyX1 tyX1_ok nmX1 rfl inT1 rfl 1 rfl k1_124 rfl rfl rfl rfl rfl rfl (Nat.le_of_ble_eq_true rfl) rfl dX7_init_9 ?_
  refine JN.aloadn dX7_init_12 rfl ?_
  refine JN.ic 0 dX7_init_13 (by decide) ?_
  refine JN.put (q0 := 0) (ci := 0) (ty := .int) (ws' := [(h0, .inr (0, [.int 0, .ref q1, .int 0, .int 0, .int 0, .int 0, .int 0])), (q1, .inl ((xZ X).1, 8, .inl (fun _ => 0)))]) tyX1 tyX1_ok nmX1 rfl inT1 rfl 2 rfl k1_126 rfl rfl rfl rfl rfl (Nat.le_of_ble_eq_true rfl) rfl dX7_init_14 ?_
  refine JN.aloadn dX7_init_17 rfl ?_
  refine JN.ic 1 dX7_init_18 (by decide) ?_
  refine JN.put (q0 := 0) (ci := 0) (ty := .boolean) (ws' := [(h0, .inr (0, [.int 0, .ref q1, .int 0, .int 1, .int 0, .int 0, .int 0])), (q1, .inl ((xZ X).1, 8, .inl (fun _ => 0)))]) tyX1 tyX1_ok nmX1 rfl inT1 rfl 3 rfl k1_131 rfl rfl rfl rfl rfl (Nat.le_of_ble_eq_true rfl) rfl dX7_init_19 ?_
  refine JN.aloadn dX7_init_22 rfl ?_
  refine JN.ic 0 dX7_init_23 (by decide) ?_
  refine JN.put (q0 := 0) (ci := 0) (ty := .int) (ws' := [(h0, .inr (0, [.int 0, .ref q1, .int 0, .int 1, .int 0, .int 0, .int 0])), (q1, .inl ((xZ X).1, 8, .inl (fun _ => 0)))]) tyX1 tyX1_ok nmX1 rfl inT1 rfl 4 rfl k1_135 rfl rfl rfl rfl rfl (Nat.le_of_ble_eq_true rfl) rfl dX7_init_24 ?_
  refine JN.aloadn dX7_init_27 rfl ?_
  refine JN.sip 160 dX7_init_28 (by decide) ?_
  refine JN.put (q0 := 0) (ci := 0) (ty := .int) (ws' := [(h0, .inr (0, [.int 0, .ref q1, .int 0, .int 1, .int 0, .int 160, .int 0])), (q1, .inl ((xZ X).1, 8, .inl (fun _ => 0)))]) tyX1 tyX1_ok nmX1 rfl inT1 rfl 5 rfl k1_141 rfl rfl rfl rfl rfl (Nat.le_of_ble_eq_true rfl) rfl dX7_init_31 ?_
  refine JN.aloadn dX7_init_34 rfl ?_
  refine JN.iloadn dX7_init_35 rfl ?_
  refine JN.putF (q0 := 0) (ci := 0) (ty := .int) (ws' := [(h0, .inr (0, [.int v, .ref q1, .int 0, .int 1, .int 0, .int 160, .int 0])), (q1, .inl ((xZ X).1, 8, .inl (fun _ => 0)))]) (fun _ => hm) tyX1 tyX1_ok nmX1 rfl inT1 rfl 0 rfl k1_119 rfl rfl rfl rfl rfl rfl (Nat.le_of_ble_eq_true rfl) rfl dX7_init_36 ?_
  exact JN.vret (fun k => ([0, q1] : List Nat).getD k 0) [0, 1] rfl (by decide) rfl (Nat.le_of_ble_eq_true rfl) (Nat.le_of_ble_eq_true rfl) rfl dX7_init_39
theorem K_Site0 : Ki yX7_init M_Site0 1 := ⟨rfl, k1_115, k1_6, k1_116, by decide +kernel⟩
abbrev M_Site1 : JM := (cX7_init, 2, RX7, none, 1, 20)
def w_Site1 (h0 : Nat) (v : Int32) (Z : ZT) (as : Nat → Nat) : va_W := [(h0, .inr (1, [.int v, .ref (as 1), .int 0, .int 1, .int 0, .int 160])), ((as 1), .inl (Z.1, 8, .inl (fun _ => 0)))]
set_option maxRecDepth 20000 in
theorem N_Site1 {Z : ZT} (h0 : Nat) (v : Int32) : CN yX7_init M_Site1 1 8 Z [.ref h0, .int v] [(h0, .inr (1, [.int 0, .null, .int 0, .int 0, .int 0, .int 0]))] (w_Site1 h0 v Z) := by
  refine CN.of rfl rfl (Nat.le_of_ble_eq_true rfl) 0 (fun X hZ hm => ?_)
  subst hZ
  have hm := hm rfl
  show JN X M_Site1 1 8 (QN X 1 8 (w_Site1 h0 v (xZ X))) 0 0 0 [some (.ref h0), some (.int v)] [] [(h0, .inr (1, [.int 0, .null, .int 0, .int 0, .int 0, .int 0]))]
  refine JN.aloadn dX7_init_0 rfl ?_
  refine JN.obj k1_117 rfl dX7_init_1 ?_
  refine JN.aloadn dX7_init_4 rfl ?_
  refine JN.bip 8 dX7_init_5 (by decide) ?_
  refine JN.newI 8 (by decide) (by decide) (Nat.le_of_ble_eq_true rfl) (Nat.le_of_ble_eq_true rfl) (Nat.le_of_ble_eq_true rfl) dX7_init_7 (fun q1 => ?_)
  refine JN.putF (q0 := 0) (ci := 1) (ty := (.array .int)) (ws' := [(h0, .inr (1, [.int 0, .ref q1, .int 0, .int 0, .int 0, .int 0])), (q1, .inl ((xZ X).1, 8, .inl (fun _ => 0)))]) (fun _ => hm) tyX3 tyX3_ok nmX3 rfl inT3 rfl 1 rfl k1_124 rfl rfl rfl rfl rfl rfl (Nat.le_of_ble_eq_true rfl) rfl dX7_init_9 ?_
  refine JN.aloadn dX7_init_12 rfl ?_
  refine JN.ic 0 dX7_init_13 (by decide) ?_
  refine JN.put (q0 := 0) (ci := 1) (ty := .int) (ws' := [(h0, .inr (1, [.int 0, .ref q1, .int 0, .int 0, .int 0, .int 0])), (q1, .inl ((xZ X).1, 8, .inl (fun _ => 0)))]) tyX3 tyX3_ok nmX3 rfl inT3 rfl 2 rfl k1_126 rfl rfl rfl rfl rfl (Nat.le_of_ble_eq_true rfl) rfl dX7_init_14 ?_
  refine JN.aloadn dX7_init_17 rfl ?_
  refine JN.ic 1 dX7_init_18 (by decide) ?_
  refine JN.put (q0 := 0) (ci := 1) (ty := .boolean) (ws' := [(h0, .inr (1, [.int 0, .ref q1, .int 0, .int 1, .int 0, .int 0])), (q1, .inl ((xZ X).1, 8, .inl (fun _ => 0)))]) tyX3 tyX3_ok nmX3 rfl inT3 rfl 3 rfl k1_131 rfl rfl rfl rfl rfl (Nat.le_of_ble_eq_true rfl) rfl dX7_init_19 ?_
  refine JN.aloadn dX7_init_22 rfl ?_
  refine JN.ic 0 dX7_init_23 (by decide) ?_
  refine JN.put (q0 := 0) (ci := 1) (ty := .int) (ws' := [(h0, .inr (1, [.int 0, .ref q1, .int 0, .int 1, .int 0, .int 0])), (q1, .inl ((xZ X).1, 8, .inl (fun _ => 0)))]) tyX3 tyX3_ok nmX3 rfl inT3 rfl 4 rfl k1_135 rfl rfl rfl rfl rfl (Nat.le_of_ble_eq_true rfl) rfl dX7_init_24 ?_
  refine JN.aloadn dX7_init_27 rfl ?_
  refine JN.sip 160 dX7_init_28 (by decide) ?_
  refine JN.put (q0 := 0) (ci := 1) (ty := .int) (ws' := [(h0, .inr (1, [.int 0, .ref q1, .int 0, .int 1, .int 0, .int 160])), (q1, .inl ((xZ X).1, 8, .inl (fun _ => 0)))]) tyX3 tyX3_ok nmX3 rfl inT3 rfl 5 rfl k1_141 rfl rfl rfl rfl rfl (Nat.le_of_ble_eq_true rfl) rfl dX7_init_31 ?_
  refine JN.aloadn dX7_init_34 rfl ?_
  refine JN.iloadn dX7_init_35 rfl ?_
  refine JN.putF (q0 := 0) (ci := 1) (ty := .int) (ws' := [(h0, .inr (1, [.int v, .ref q1, .int 0, .int 1, .int 0, .int 160])), (q1, .inl ((xZ X).1, 8, .inl (fun _ => 0)))]) (fun _ => hm) tyX3 tyX3_ok nmX3 rfl inT3 rfl 0 rfl k1_119 rfl rfl rfl rfl rfl rfl (Nat.le_of_ble_eq_true rfl) rfl dX7_init_36 ?_
  exact JN.vret (fun k => ([0, q1] : List Nat).getD k 0) [0, 1] rfl (by decide) rfl (Nat.le_of_ble_eq_true rfl) (Nat.le_of_ble_eq_true rfl) rfl dX7_init_39
theorem K_Site1 : Ki yX7_init M_Site1 1 := ⟨rfl, k1_115, k1_6, k1_116, by decide +kernel⟩
abbrev M_Coord : JM := (cX1_init, 1, RX1, none, 2, 41)
def w_Coord (h0 : Nat) (Z : ZT) (as : Nat → Nat) : va_W := [(h0, .inr (0, [.int 0, .ref (as 1), .int 0, .int 1, .int 0, .int 160, .int 0])), ((as 1), .inl (Z.1, 8, .inl (fun _ => 0)))]
set_option maxRecDepth 20000 in
theorem N_Coord {Z : ZT} (h0 : Nat) : CN yX1_init M_Coord 1 8 Z [.ref h0] [(h0, .inr (0, [.int 0, .null, .int 0, .int 0, .int 0, .int 0, .int 0]))] (w_Coord h0 Z) := by
  refine CN.of rfl rfl (Nat.le_of_ble_eq_true rfl) 0 (fun X hZ hm => ?_)
  subst hZ
  have hm := hm rfl
  show JN X M_Coord 1 8 (QN X 1 8 (w_Coord h0 (xZ X))) 0 0 0 [some (.ref h0)] [] [(h0, .inr (0, [.int 0, .null, .int 0, .int 0, .int 0, .int 0, .int 0]))]
  refine JN.aloadn dX1_init_0 rfl ?_
  refine JN.ic 0 dX1_init_1 (by decide) ?_
  refine JN.callI [] [0] [] (N_Site0 h0 0) K_Site0 k1_114 rfl rfl rfl (by decide) rfl (by decide) (by decide) rfl rfl rfl (Nat.le_of_ble_eq_true rfl) (Nat.le_of_ble_eq_true rfl) (Nat.le_of_ble_eq_true rfl) dX1_init_2 (fun as1 => ?_)
  refine JN.aloadn dX1_init_5 rfl ?_
  refine JN.ic 0 dX1_init_6 (by decide) ?_
  refine JN.put (q0 := 0) (ci := 0) (ty := .int) (ws' := [(h0, .inr (0, [.int 0, .ref (as1 1), .int 0, .int 1, .int 0, .int 160, .int 0])), ((as1 1), .inl ((xZ X).1, 8, .inl (fun _ => 0)))]) tyX1 tyX1_ok nmX1 rfl inT1 rfl 6 rfl k1_118 rfl rfl rfl rfl rfl (Nat.le_of_ble_eq_true rfl) rfl dX1_init_7 ?_
  exact JN.vret (fun k => ([0, (as1 1)] : List Nat).getD k 0) [0, 1] rfl (by decide) rfl (Nat.le_of_ble_eq_true rfl) (Nat.le_of_ble_eq_true rfl) rfl dX1_init_10
theorem K_Coord : Ki yX1_init M_Coord 0 := ⟨rfl, k1_112, k1_7, k1_113, by decide +kernel⟩
abbrev M_Part : JM := (cX3_init, 2, RX3, none, 2, 41)
def w_Part (h0 : Nat) (v : Int32) (Z : ZT) (as : Nat → Nat) : va_W := [(h0, .inr (1, [.int v, .ref (as 1), .int 0, .int 1, .int 0, .int 160])), ((as 1), .inl (Z.1, 8, .inl (fun _ => 0)))]
set_option maxRecDepth 20000 in
theorem N_Part {Z : ZT} (h0 : Nat) (v : Int32) : CN yX3_init M_Part 1 8 Z [.ref h0, .int v] [(h0, .inr (1, [.int 0, .null, .int 0, .int 0, .int 0, .int 0]))] (w_Part h0 v Z) := by
  refine CN.of rfl rfl (Nat.le_of_ble_eq_true rfl) 0 (fun X hZ hm => ?_)
  subst hZ
  have hm := hm rfl
  show JN X M_Part 1 8 (QN X 1 8 (w_Part h0 v (xZ X))) 0 0 0 [some (.ref h0), some (.int v)] [] [(h0, .inr (1, [.int 0, .null, .int 0, .int 0, .int 0, .int 0]))]
  refine JN.aloadn dX3_init_0 rfl ?_
  refine JN.iloadn dX3_init_1 rfl ?_
  refine JN.callI [] [0] [] (N_Site1 h0 v) K_Site1 k1_169 rfl rfl rfl (by decide) rfl (by decide) (by decide) rfl rfl rfl (Nat.le_of_ble_eq_true rfl) (Nat.le_of_ble_eq_true rfl) (Nat.le_of_ble_eq_true rfl) dX3_init_2 (fun as1 => ?_)
  exact JN.vret (fun k => ([0, (as1 1)] : List Nat).getD k 0) [0, 1] rfl (by decide) rfl (Nat.le_of_ble_eq_true rfl) (Nat.le_of_ble_eq_true rfl) rfl dX3_init_5
theorem K_Part : Ki yX3_init M_Part 1 := ⟨rfl, k1_167, k1_8, k1_168, by decide +kernel⟩
abbrev M_Setup : JM := (cX5_init, 1, RX5, none, 2, 43)
def w_Setup (h0 : Nat) (Z : ZT) (as : Nat → Nat) : va_W := [(h0, .inr (3, [.int 3, .int 2, .int 4, .int 0, .int 62, .long 0, .ref (as 1), .ref (as 2), .int 1])), ((as 1), .inl (Z.1, 6, .inl (upd (upd (upd (upd (upd (upd (fun _ => 0) 0 (-1)) 1 (-1)) 2 (-1)) 3 (-1)) 4 (-1)) 5 (-1)))), ((as 2), .inl (Z.1, 6, .inl (upd (upd (upd (upd (upd (upd (fun _ => 0) 0 (-1)) 1 (-1)) 2 (-1)) 3 (-1)) 4 (-1)) 5 (-1))))]
set_option maxRecDepth 20000 in
theorem N_Setup {Z : ZT} (h0 : Nat) : CN yX5_init M_Setup 2 12 Z [.ref h0] [(h0, .inr (3, [.int 0, .int 0, .int 0, .int 0, .int 0, .long 0, .null, .null, .int 0]))] (w_Setup h0 Z) := by
  refine CN.of rfl rfl (Nat.le_of_ble_eq_true rfl) 0 (fun X hZ hm => ?_)
  subst hZ
  have hm := hm rfl
  show JN X M_Setup 2 12 (QN X 2 12 (w_Setup h0 (xZ X))) 0 0 0 [some (.ref h0)] [] [(h0, .inr (3, [.int 0, .int 0, .int 0, .int 0, .int 0, .long 0, .null, .null, .int 0]))]
  refine JN.aloadn dX5_init_0 rfl ?_
  refine JN.obj k1_36 rfl dX5_init_1 ?_
  refine JN.aloadn dX5_init_4 rfl ?_
  refine JN.ic 3 dX5_init_5 (by decide) ?_
  refine JN.put (q0 := 0) (ci := 3) (ty := .int) (ws' := [(h0, .inr (3, [.int 3, .int 0, .int 0, .int 0, .int 0, .long 0, .null, .null, .int 0]))]) tyX5 tyX5_ok nmX5 rfl inT5 rfl 0 rfl k1_40 rfl rfl rfl rfl rfl (Nat.le_of_ble_eq_true rfl) rfl dX5_init_6 ?_
  refine JN.aloadn dX5_init_9 rfl ?_
  refine JN.ic 2 dX5_init_10 (by decide) ?_
  refine JN.put (q0 := 0) (ci := 3) (ty := .int) (ws' := [(h0, .inr (3, [.int 3, .int 2, .int 0, .int 0, .int 0, .long 0, .null, .null, .int 0]))]) tyX5 tyX5_ok nmX5 rfl inT5 rfl 1 rfl k1_43 rfl rfl rfl rfl rfl (Nat.le_of_ble_eq_true rfl) rfl dX5_init_11 ?_
  refine JN.aloadn dX5_init_14 rfl ?_
  refine JN.ic 4 dX5_init_15 (by decide) ?_
  refine JN.put (q0 := 0) (ci := 3) (ty := .int) (ws' := [(h0, .inr (3, [.int 3, .int 2, .int 4, .int 0, .int 0, .long 0, .null, .null, .int 0]))]) tyX5 tyX5_ok nmX5 rfl inT5 rfl 2 rfl k1_46 rfl rfl rfl rfl rfl (Nat.le_of_ble_eq_true rfl) rfl dX5_init_16 ?_
  refine JN.aloadn dX5_init_19 rfl ?_
  refine JN.ic 0 dX5_init_20 (by decide) ?_
  refine JN.put (q0 := 0) (ci := 3) (ty := .boolean) (ws' := [(h0, .inr (3, [.int 3, .int 2, .int 4, .int 0, .int 0, .long 0, .null, .null, .int 0]))]) tyX5 tyX5_ok nmX5 rfl inT5 rfl 3 rfl k1_48 rfl rfl rfl rfl rfl (Nat.le_of_ble_eq_true rfl) rfl dX5_init_21 ?_
  refine JN.aloadn dX5_init_24 rfl ?_
  refine JN.bip 62 dX5_init_25 (by decide) ?_
  refine JN.put (q0 := 0) (ci := 3) (ty := .int) (ws' := [(h0, .inr (3, [.int 3, .int 2, .int 4, .int 0, .int 62, .long 0, .null, .null, .int 0]))]) tyX5 tyX5_ok nmX5 rfl inT5 rfl 4 rfl k1_50 rfl rfl rfl rfl rfl (Nat.le_of_ble_eq_true rfl) rfl dX5_init_27 ?_
  refine JN.aloadn dX5_init_30 rfl ?_
  refine JN.lc 0 dX5_init_31 (by decide) ?_
  refine JN.put (q0 := 0) (ci := 3) (ty := .long) (ws' := [(h0, .inr (3, [.int 3, .int 2, .int 4, .int 0, .int 62, .long 0, .null, .null, .int 0]))]) tyX5 tyX5_ok nmX5 rfl inT5 rfl 5 rfl k1_52 rfl rfl rfl rfl rfl (Nat.le_of_ble_eq_true rfl) rfl dX5_init_32 ?_
  refine JN.aloadn dX5_init_35 rfl ?_
  refine JN.bip 6 dX5_init_36 (by decide) ?_
  refine JN.newI 6 (by decide) (by decide) (Nat.le_of_ble_eq_true rfl) (Nat.le_of_ble_eq_true rfl) (Nat.le_of_ble_eq_true rfl) dX5_init_38 (fun q1 => ?_)
  refine JN.putF (q0 := 0) (ci := 3) (ty := (.array .int)) (ws' := [(h0, .inr (3, [.int 3, .int 2, .int 4, .int 0, .int 62, .long 0, .ref q1, .null, .int 0])), (q1, .inl ((xZ X).1, 6, .inl (fun _ => 0)))]) (fun _ => hm) tyX5 tyX5_ok nmX5 rfl inT5 rfl 6 rfl k1_54 rfl rfl rfl rfl rfl rfl (Nat.le_of_ble_eq_true rfl) rfl dX5_init_40 ?_
  refine JN.aloadn dX5_init_43 rfl ?_
  refine JN.bip 6 dX5_init_44 (by decide) ?_
  refine JN.newI 6 (by decide) (by decide) (Nat.le_of_ble_eq_true rfl) (Nat.le_of_ble_eq_true rfl) (Nat.le_of_ble_eq_true rfl) dX5_init_46 (fun q2 => ?_)
  refine JN.putF (q0 := 0) (ci := 3) (ty := (.array .int)) (ws' := [(h0, .inr (3, [.int 3, .int 2, .int 4, .int 0, .int 62, .long 0, .ref q1, .ref q2, .int 0])), (q1, .inl ((xZ X).1, 6, .inl (fun _ => 0))), (q2, .inl ((xZ X).1, 6, .inl (fun _ => 0)))]) (fun _ => hm) tyX5 tyX5_ok nmX5 rfl inT5 rfl 7 rfl k1_56 rfl rfl rfl rfl rfl rfl (Nat.le_of_ble_eq_true rfl) rfl dX5_init_48 ?_
  refine JN.aloadn dX5_init_51 rfl ?_
  refine JN.ic 1 dX5_init_52 (by decide) ?_
  refine JN.put (q0 := 0) (ci := 3) (ty := .int) (ws' := [(h0, .inr (3, [.int 3, .int 2, .int 4, .int 0, .int 62, .long 0, .ref q1, .ref q2, .int 1])), (q1, .inl ((xZ X).1, 6, .inl (fun _ => 0))), (q2, .inl ((xZ X).1, 6, .inl (fun _ => 0)))]) tyX5 tyX5_ok nmX5 rfl inT5 rfl 8 rfl k1_58 rfl rfl rfl rfl rfl (Nat.le_of_ble_eq_true rfl) rfl dX5_init_53 ?_
  refine JN.aloadn dX5_init_56 rfl ?_
  refine JN.get (q0 := 0) (ci := 3) rfl inT5 rfl 6 rfl k1_54 rfl rfl dX5_init_57 ?_
  refine JN.ic (-1) dX5_init_60 (by decide) ?_
  refine JN.callS [(h0, .inr (3, [.int 3, .int 2, .int 4, .int 0, .int 62, .long 0, .ref q1, .ref q2, .int 1])), (q2, .inl ((xZ X).1, 6, .inl (fun _ => 0)))] [1] [0, 2] (N_fill6 q1) K_fill6 k1_37 rfl rfl (by decide) rfl (by decide) (by decide) rfl rfl rfl (Nat.le_of_ble_eq_true rfl) (Nat.le_of_ble_eq_true rfl) (Nat.le_of_ble_eq_true rfl) dX5_init_61 (fun as3 => ?_)
  refine JN.aloadn dX5_init_64 rfl ?_
  refine JN.get (q0 := 0) (ci := 3) rfl inT5 rfl 7 rfl k1_56 rfl rfl dX5_init_65 ?_
  refine JN.ic (-1) dX5_init_68 (by decide) ?_
  refine JN.callS [(h0, .inr (3, [.int 3, .int 2, .int 4, .int 0, .int 62, .long 0, .ref q1, .ref q2, .int 1])), (q1, .inl ((xZ X).1, 6, .inl (upd (upd (upd (upd (upd (upd (fun _ => 0) 0 (-1)) 1 (-1)) 2 (-1)) 3 (-1)) 4 (-1)) 5 (-1))))] [1] [0, 2] (N_fill6 q2) K_fill6 k1_37 rfl rfl (by decide) rfl (by decide) (by decide) rfl rfl rfl (Nat.le_of_ble_eq_true rfl) (Nat.le_of_ble_eq_true rfl) (Nat.le_of_ble_eq_true rfl) dX5_init_69 (fun as4 => ?_)
  exact JN.vret (fun k => ([0, q1, q2] : List Nat).getD k 0) [0, 1, 2] rfl (by decide) rfl (Nat.le_of_ble_eq_true rfl) (Nat.le_of_ble_eq_true rfl) rfl dX5_init_72
theorem K_Setup : Ki yX5_init M_Setup 0 := ⟨rfl, k1_34, k1_2, k1_35, by decide +kernel⟩
abbrev M_Shelf : JM := (cX6_init, 1, RX6, none, 1, 20)
def w_Shelf (h0 : Nat) (Z : ZT) (as : Nat → Nat) : va_W := [(h0, .inr (4, [.int 0, .int 0, .int 0, .ref (as 1), .int 0, .int 0, .int 0, .int 0])), ((as 1), .inl (Z.2.1, 160, .inr (.inl (fun _ => 0))))]
set_option maxRecDepth 20000 in
theorem N_Shelf {Z : ZT} (h0 : Nat) : CN yX6_init M_Shelf 1 160 Z [.ref h0] [(h0, .inr (4, [.int 0, .int 0, .int 0, .null, .int 0, .int 0, .int 0, .int 0]))] (w_Shelf h0 Z) := by
  refine CN.of rfl rfl (Nat.le_of_ble_eq_true rfl) 0 (fun X hZ hm => ?_)
  subst hZ
  have hm := hm rfl
  show JN X M_Shelf 1 160 (QN X 1 160 (w_Shelf h0 (xZ X))) 0 0 0 [some (.ref h0)] [] [(h0, .inr (4, [.int 0, .int 0, .int 0, .null, .int 0, .int 0, .int 0, .int 0]))]
  refine JN.aloadn dX6_init_0 rfl ?_
  refine JN.obj k2_7 rfl dX6_init_1 ?_
  refine JN.aloadn dX6_init_4 rfl ?_
  refine JN.ic 0 dX6_init_5 (by decide) ?_
  refine JN.put (q0 := 0) (ci := 4) (ty := .int) (ws' := [(h0, .inr (4, [.int 0, .int 0, .int 0, .null, .int 0, .int 0, .int 0, .int 0]))]) tyX6 tyX6_ok nmX6 rfl inT6 rfl 0 rfl k2_8 rfl rfl rfl rfl rfl (Nat.le_of_ble_eq_true rfl) rfl dX6_init_6 ?_
  refine JN.aloadn dX6_init_9 rfl ?_
  refine JN.ic 0 dX6_init_10 (by decide) ?_
  refine JN.put (q0 := 0) (ci := 4) (ty := .int) (ws' := [(h0, .inr (4, [.int 0, .int 0, .int 0, .null, .int 0, .int 0, .int 0, .int 0]))]) tyX6 tyX6_ok nmX6 rfl inT6 rfl 1 rfl k2_9 rfl rfl rfl rfl rfl (Nat.le_of_ble_eq_true rfl) rfl dX6_init_11 ?_
  refine JN.aloadn dX6_init_14 rfl ?_
  refine JN.ic 0 dX6_init_15 (by decide) ?_
  refine JN.put (q0 := 0) (ci := 4) (ty := .int) (ws' := [(h0, .inr (4, [.int 0, .int 0, .int 0, .null, .int 0, .int 0, .int 0, .int 0]))]) tyX6 tyX6_ok nmX6 rfl inT6 rfl 2 rfl k2_11 rfl rfl rfl rfl rfl (Nat.le_of_ble_eq_true rfl) rfl dX6_init_16 ?_
  refine JN.aloadn dX6_init_19 rfl ?_
  refine JN.sip 160 dX6_init_20 (by decide) ?_
  refine JN.newL 160 (by decide) (by decide) (Nat.le_of_ble_eq_true rfl) (Nat.le_of_ble_eq_true rfl) (Nat.le_of_ble_eq_true rfl) dX6_init_23 (fun q1 => ?_)
  refine JN.putF (q0 := 0) (ci := 4) (ty := (.array .long)) (ws' := [(h0, .inr (4, [.int 0, .int 0, .int 0, .ref q1, .int 0, .int 0, .int 0, .int 0])), (q1, .inl ((xZ X).2.1, 160, .inr (.inl (fun _ => 0))))]) (fun _ => hm) tyX6 tyX6_ok nmX6 rfl inT6 rfl 3 rfl k2_14 rfl rfl rfl rfl rfl rfl (Nat.le_of_ble_eq_true rfl) rfl dX6_init_25 ?_
  refine JN.aloadn dX6_init_28 rfl ?_
  refine JN.ic 0 dX6_init_29 (by decide) ?_
  refine JN.put (q0 := 0) (ci := 4) (ty := .int) (ws' := [(h0, .inr (4, [.int 0, .int 0, .int 0, .ref q1, .int 0, .int 0, .int 0, .int 0])), (q1, .inl ((xZ X).2.1, 160, .inr (.inl (fun _ => 0))))]) tyX6 tyX6_ok nmX6 rfl inT6 rfl 4 rfl k2_16 rfl rfl rfl rfl rfl (Nat.le_of_ble_eq_true rfl) rfl dX6_init_30 ?_
  refine JN.aloadn dX6_init_33 rfl ?_
  refine JN.ic 0 dX6_init_34 (by decide) ?_
  refine JN.put (q0 := 0) (ci := 4) (ty := .int) (ws' := [(h0, .inr (4, [.int 0, .int 0, .int 0, .ref q1, .int 0, .int 0, .int 0, .int 0])), (q1, .inl ((xZ X).2.1, 160, .inr (.inl (fun _ => 0))))]) tyX6 tyX6_ok nmX6 rfl inT6 rfl 5 rfl k2_18 rfl rfl rfl rfl rfl (Nat.le_of_ble_eq_true rfl) rfl dX6_init_35 ?_
  refine JN.aloadn dX6_init_38 rfl ?_
  refine JN.ic 0 dX6_init_39 (by decide) ?_
  refine JN.put (q0 := 0) (ci := 4) (ty := .int) (ws' := [(h0, .inr (4, [.int 0, .int 0, .int 0, .ref q1, .int 0, .int 0, .int 0, .int 0])), (q1, .inl ((xZ X).2.1, 160, .inr (.inl (fun _ => 0))))]) tyX6 tyX6_ok nmX6 rfl inT6 rfl 6 rfl k2_19 rfl rfl rfl rfl rfl (Nat.le_of_ble_eq_true rfl) rfl dX6_init_40 ?_
  refine JN.aloadn dX6_init_43 rfl ?_
  refine JN.ic 0 dX6_init_44 (by decide) ?_
  refine JN.put (q0 := 0) (ci := 4) (ty := .int) (ws' := [(h0, .inr (4, [.int 0, .int 0, .int 0, .ref q1, .int 0, .int 0, .int 0, .int 0])), (q1, .inl ((xZ X).2.1, 160, .inr (.inl (fun _ => 0))))]) tyX6 tyX6_ok nmX6 rfl inT6 rfl 7 rfl k2_20 rfl rfl rfl rfl rfl (Nat.le_of_ble_eq_true rfl) rfl dX6_init_45 ?_
  exact JN.vret (fun k => ([0, q1] : List Nat).getD k 0) [0, 1] rfl (by decide) rfl (Nat.le_of_ble_eq_true rfl) (Nat.le_of_ble_eq_true rfl) rfl dX6_init_48
theorem K_Shelf : Ki yX6_init M_Shelf 0 := ⟨rfl, k2_5, k1_9, k2_6, by decide +kernel⟩
abbrev M_Reader : JM := (cX8_init, 1, RX8, none, 3, 63)
def w_Reader (h0 : Nat) (Z : ZT) (as : Nat → Nat) : va_W := [(h0, .inr (5, [.ref (as 1), .int (-1), .int 0, .ref (as 4)])), ((as 1), .inr (3, [.int 3, .int 2, .int 4, .int 0, .int 62, .long 0, .ref (as 2), .ref (as 3), .int 1])), ((as 2), .inl (Z.1, 6, .inl (upd (upd (upd (upd (upd (upd (fun _ => 0) 0 (-1)) 1 (-1)) 2 (-1)) 3 (-1)) 4 (-1)) 5 (-1)))), ((as 3), .inl (Z.1, 6, .inl (upd (upd (upd (upd (upd (upd (fun _ => 0) 0 (-1)) 1 (-1)) 2 (-1)) 3 (-1)) 4 (-1)) 5 (-1)))), ((as 4), .inl (Z.1, 3, .inl (fun _ => 0)))]
set_option maxRecDepth 20000 in
theorem N_Reader {Z : ZT} (h0 : Nat) : CN yX8_init M_Reader 4 24 Z [.ref h0] [(h0, .inr (5, [.null, .int 0, .int 0, .null]))] (w_Reader h0 Z) := by
  refine CN.of rfl rfl (Nat.le_of_ble_eq_true rfl) 0 (fun X hZ hm => ?_)
  subst hZ
  have hm := hm rfl
  show JN X M_Reader 4 24 (QN X 4 24 (w_Reader h0 (xZ X))) 0 0 0 [some (.ref h0)] [] [(h0, .inr (5, [.null, .int 0, .int 0, .null]))]
  refine JN.aloadn dX8_init_0 rfl ?_
  refine JN.obj k1_85 rfl dX8_init_1 ?_
  refine JN.aloadn dX8_init_4 rfl ?_
  refine JN.new (ci := 3) (C := RX5) (T := TX5) (N := 9) (fs := [.int 0, .int 0, .int 0, .int 0, .int 0, .long 0, .null, .null, .int 0]) tyX5 tyX5_ok inT5 k1_86 k1_32 k1_2 rfl rfl (Nat.le_of_ble_eq_true rfl) (Nat.le_of_ble_eq_true rfl) dX8_init_5 (fun q1 => ?_)
  refine JN.dup dX8_init_8 rfl ?_
  refine JN.callI [(h0, .inr (5, [.null, .int 0, .int 0, .null]))] [1] [0] (N_Setup q1) K_Setup k1_87 rfl rfl rfl (by decide) rfl (by decide) (by decide) rfl rfl rfl (Nat.le_of_ble_eq_true rfl) (Nat.le_of_ble_eq_true rfl) (Nat.le_of_ble_eq_true rfl) dX8_init_9 (fun as2 => ?_)
  refine JN.putF (q0 := 0) (ci := 5) (ty := (.object "CommitPrefixes$Setup")) (ws' := [(h0, .inr (5, [.ref q1, .int 0, .int 0, .null])), (q1, .inr (3, [.int 3, .int 2, .int 4, .int 0, .int 62, .long 0, .ref (as2 1), .ref (as2 2), .int 1])), ((as2 1), .inl ((xZ X).1, 6, .inl (upd (upd (upd (upd (upd (upd (fun _ => 0) 0 (-1)) 1 (-1)) 2 (-1)) 3 (-1)) 4 (-1)) 5 (-1)))), ((as2 2), .inl ((xZ X).1, 6, .inl (upd (upd (upd (upd (upd (upd (fun _ => 0) 0 (-1)) 1 (-1)) 2 (-1)) 3 (-1)) 4 (-1)) 5 (-1))))]) (fun _ => hm) tyX8 tyX8_ok nmX8 rfl inT8 rfl 0 rfl k1_88 rfl rfl rfl rfl rfl rfl (Nat.le_of_ble_eq_true rfl) rfl dX8_init_12 ?_
  refine JN.aloadn dX8_init_15 rfl ?_
  refine JN.ic (-1) dX8_init_16 (by decide) ?_
  refine JN.put (q0 := 0) (ci := 5) (ty := .int) (ws' := [(h0, .inr (5, [.ref q1, .int (-1), .int 0, .null])), (q1, .inr (3, [.int 3, .int 2, .int 4, .int 0, .int 62, .long 0, .ref (as2 1), .ref (as2 2), .int 1])), ((as2 1), .inl ((xZ X).1, 6, .inl (upd (upd (upd (upd (upd (upd (fun _ => 0) 0 (-1)) 1 (-1)) 2 (-1)) 3 (-1)) 4 (-1)) 5 (-1)))), ((as2 2), .inl ((xZ X).1, 6, .inl (upd (upd (upd (upd (upd (upd (fun _ => 0) 0 (-1)) 1 (-1)) 2 (-1)) 3 (-1)) 4 (-1)) 5 (-1))))]) tyX8 tyX8_ok nmX8 rfl inT8 rfl 1 rfl k1_90 rfl rfl rfl rfl rfl (Nat.le_of_ble_eq_true rfl) rfl dX8_init_17 ?_
  refine JN.aloadn dX8_init_20 rfl ?_
  refine JN.ic 0 dX8_init_21 (by decide) ?_
  refine JN.put (q0 := 0) (ci := 5) (ty := .int) (ws' := [(h0, .inr (5, [.ref q1, .int (-1), .int 0, .null])), (q1, .inr (3, [.int 3, .int 2, .int 4, .int 0, .int 62, .long 0, .ref (as2 1), .ref (as2 2), .int 1])), ((as2 1), .inl ((xZ X).1, 6, .inl (upd (upd (upd (upd (upd (upd (fun _ => 0) 0 (-1)) 1 (-1)) 2 (-1)) 3 (-1)) 4 (-1)) 5 (-1)))), ((as2 2), .inl ((xZ X).1, 6, .inl (upd (upd (upd (upd (upd (upd (fun _ => 0) 0 (-1)) 1 (-1)) 2 (-1)) 3 (-1)) 4 (-1)) 5 (-1))))]) tyX8 tyX8_ok nmX8 rfl inT8 rfl 2 rfl k1_92 rfl rfl rfl rfl rfl (Nat.le_of_ble_eq_true rfl) rfl dX8_init_22 ?_
  refine JN.aloadn dX8_init_25 rfl ?_
  refine JN.ic 3 dX8_init_26 (by decide) ?_
  refine JN.newI 3 (by decide) (by decide) (Nat.le_of_ble_eq_true rfl) (Nat.le_of_ble_eq_true rfl) (Nat.le_of_ble_eq_true rfl) dX8_init_27 (fun q3 => ?_)
  refine JN.putF (q0 := 0) (ci := 5) (ty := (.array .int)) (ws' := [(h0, .inr (5, [.ref q1, .int (-1), .int 0, .ref q3])), (q1, .inr (3, [.int 3, .int 2, .int 4, .int 0, .int 62, .long 0, .ref (as2 1), .ref (as2 2), .int 1])), ((as2 1), .inl ((xZ X).1, 6, .inl (upd (upd (upd (upd (upd (upd (fun _ => 0) 0 (-1)) 1 (-1)) 2 (-1)) 3 (-1)) 4 (-1)) 5 (-1)))), ((as2 2), .inl ((xZ X).1, 6, .inl (upd (upd (upd (upd (upd (upd (fun _ => 0) 0 (-1)) 1 (-1)) 2 (-1)) 3 (-1)) 4 (-1)) 5 (-1)))), (q3, .inl ((xZ X).1, 3, .inl (fun _ => 0)))]) (fun _ => hm) tyX8 tyX8_ok nmX8 rfl inT8 rfl 3 rfl k1_93 rfl rfl rfl rfl rfl rfl (Nat.le_of_ble_eq_true rfl) rfl dX8_init_29 ?_
  exact JN.vret (fun k => ([0, q1, (as2 1), (as2 2), q3] : List Nat).getD k 0) [0, 1, 2, 3, 4] rfl (by decide) rfl (Nat.le_of_ble_eq_true rfl) (Nat.le_of_ble_eq_true rfl) rfl dX8_init_32
theorem K_Reader : Ki yX8_init M_Reader 0 := ⟨rfl, k1_83, k1_4, k1_84, by decide +kernel⟩
abbrev M_Run : JM := (cX4_init, 3, RX4, none, 3, 62)
def w_Run (h0 : Nat) (hs : Nat) (Z : ZT) (as : Nat → Nat) : va_W := [(h0, .inr (2, [.ref hs, .ref (as 2), .ref (as 1), .int 0, .long 0, .int 0, .int 0, .int 0, .int 0, .ref (as 14), .ref (as 15), .ref (as 16), .ref (as 17), .ref (as 18), .ref (as 19), .ref (as 20), .ref (as 21)])), ((as 1), .inl (Z.2.2.2.1, 6, .inr (.inr (.inr (.inr (va_up (va_up (va_up (va_up (va_up (va_up (fun _ => none) 0 (some (as 2))) 1 (some (as 3))) 2 (some (as 4))) 3 (some (as 5))) 4 (some (as 6))) 5 (some (as 7)))))))), ((as 2), .inr (0, [.int 0, .ref (as 8), .int 0, .int 1, .int 0, .int 160, .int 0])), ((as 3), .inr (1, [.int 1, .ref (as 9), .int 0, .int 1, .int 0, .int 160])), ((as 4), .inr (1, [.int 2, .ref (as 10), .int 0, .int 1, .int 0, .int 160])), ((as 5), .inr (1, [.int 3, .ref (as 11), .int 0, .int 1, .int 0, .int 160])), ((as 6), .inr (1, [.int 4, .ref (as 12), .int 0, .int 1, .int 0, .int 160])), ((as 7), .inr (1, [.int 5, .ref (as 13), .int 0, .int 1, .int 0, .int 160])), ((as 8), .inl (Z.1, 8, .inl (fun _ => 0))), ((as 9), .inl (Z.1, 8, .inl (fun _ => 0))), ((as 10), .inl (Z.1, 8, .inl (fun _ => 0))), ((as 11), .inl (Z.1, 8, .inl (fun _ => 0))), ((as 12), .inl (Z.1, 8, .inl (fun _ => 0))), ((as 13), .inl (Z.1, 8, .inl (fun _ => 0))), ((as 14), .inl (Z.1, 200, .inl (fun _ => 0))), ((as 15), .inl (Z.1, 200, .inl (fun _ => 0))), ((as 16), .inl (Z.1, 200, .inl (fun _ => 0))), ((as 17), .inl (Z.1, 200, .inl (fun _ => 0))), ((as 18), .inl (Z.1, 200, .inl (fun _ => 0))), ((as 19), .inl (Z.1, 366, .inl (fun _ => 0))), ((as 20), .inl (Z.1, 366, .inl (fun _ => 0))), ((as 21), .inl (Z.1, 61, .inl (fun _ => 0)))]
set_option maxRecDepth 20000 in
theorem N_Run {Z : ZT} (h0 : Nat) (hs : Nat) : CN yX4_init M_Run 21 1884 Z [.ref h0, .ref hs] [(h0, .inr (2, [.null, .null, .null, .int 0, .long 0, .int 0, .int 0, .int 0, .int 0, .null, .null, .null, .null, .null, .null, .null, .null]))] (w_Run h0 hs Z) := by
  refine CN.of rfl rfl (Nat.le_of_ble_eq_true rfl) 1 (fun X hZ hm => ?_)
  subst hZ
  have hm := hm rfl
  show JN X M_Run 21 1884 (QN X 21 1884 (w_Run h0 hs (xZ X))) 0 0 0 [some (.ref h0), some (.ref hs), none] [] [(h0, .inr (2, [.null, .null, .null, .int 0, .long 0, .int 0, .int 0, .int 0, .int 0, .null, .null, .null, .null, .null, .null, .null, .null]))]
  refine JN.aloadn dX4_init_0 rfl ?_
  refine JN.obj k1_108 rfl dX4_init_1 ?_
  refine JN.aloadn dX4_init_4 rfl ?_
  refine JN.new (ci := 0) (C := RX1) (T := TX1) (N := 7) (fs := [.int 0, .null, .int 0, .int 0, .int 0, .int 0, .int 0]) tyX1 tyX1_ok inT1 k1_109 k1_110 k1_7 rfl rfl (Nat.le_of_ble_eq_true rfl) (Nat.le_of_ble_eq_true rfl) dX4_init_5 (fun q1 => ?_)
  refine JN.dup dX4_init_8 rfl ?_
  refine JN.callI [(h0, .inr (2, [.null, .null, .null, .int 0, .long 0, .int 0, .int 0, .int 0, .int 0, .null, .null, .null, .null, .null, .null, .null, .null]))] [1] [0] (N_Coord q1) K_Coord k1_111 rfl rfl rfl (by decide) rfl (by decide) (by decide) rfl rfl rfl (Nat.le_of_ble_eq_true rfl) (Nat.le_of_ble_eq_true rfl) (Nat.le_of_ble_eq_true rfl) dX4_init_9 (fun as2 => ?_)
  refine JN.putF (q0 := 0) (ci := 2) (ty := (.object "CommitPrefixes$Coordinator")) (ws' := [(h0, .inr (2, [.null, .ref q1, .null, .int 0, .long 0, .int 0, .int 0, .int 0, .int 0, .null, .null, .null, .null, .null, .null, .null, .null])), (q1, .inr (0, [.int 0, .ref (as2 1), .int 0, .int 1, .int 0, .int 160, .int 0])), ((as2 1), .inl ((xZ X).1, 8, .inl (fun _ => 0)))]) (fun _ => hm) tyX4 tyX4_ok nmX4 rfl inT4 rfl 1 rfl k1_180 rfl rfl rfl rfl rfl rfl (Nat.le_of_ble_eq_true rfl) rfl dX4_init_12 ?_
  refine JN.aloadn dX4_init_15 rfl ?_
  refine JN.bip 6 dX4_init_16 (by decide) ?_
  refine JN.newT 6 k1_162 (by decide) (by decide) (Nat.le_of_ble_eq_true rfl) (Nat.le_of_ble_eq_true rfl) (Nat.le_of_ble_eq_true rfl) dX4_init_18 (fun q3 => ?_)
  refine JN.putF (q0 := 0) (ci := 2) (ty := (.array (.object "CommitPrefixes$Site"))) (ws' := [(h0, .inr (2, [.null, .ref q1, .ref q3, .int 0, .long 0, .int 0, .int 0, .int 0, .int 0, .null, .null, .null, .null, .null, .null, .null, .null])), (q1, .inr (0, [.int 0, .ref (as2 1), .int 0, .int 1, .int 0, .int 160, .int 0])), ((as2 1), .inl ((xZ X).1, 8, .inl (fun _ => 0))), (q3, .inl ((xZ X).2.2.2.1, 6, .inr (.inr (.inr (.inr (fun _ => none))))))]) (fun _ => hm) tyX4 tyX4_ok nmX4 rfl inT4 rfl 2 rfl k1_181 rfl rfl rfl rfl rfl rfl (Nat.le_of_ble_eq_true rfl) rfl dX4_init_21 ?_
  refine JN.aloadn dX4_init_24 rfl ?_
  refine JN.ic 0 dX4_init_25 (by decide) ?_
  refine JN.put (q0 := 0) (ci := 2) (ty := .boolean) (ws' := [(h0, .inr (2, [.null, .ref q1, .ref q3, .int 0, .long 0, .int 0, .int 0, .int 0, .int 0, .null, .null, .null, .null, .null, .null, .null, .null])), (q1, .inr (0, [.int 0, .ref (as2 1), .int 0, .int 1, .int 0, .int 160, .int 0])), ((as2 1), .inl ((xZ X).1, 8, .inl (fun _ => 0))), (q3, .inl ((xZ X).2.2.2.1, 6, .inr (.inr (.inr (.inr (fun _ => none))))))]) tyX4 tyX4_ok nmX4 rfl inT4 rfl 3 rfl k1_183 rfl rfl rfl rfl rfl (Nat.le_of_ble_eq_true rfl) rfl dX4_init_26 ?_
  refine JN.aloadn dX4_init_29 rfl ?_
  refine JN.lc 0 dX4_init_30 (by decide) ?_
  refine JN.put (q0 := 0) (ci := 2) (ty := .long) (ws' := [(h0, .inr (2, [.null, .ref q1, .ref q3, .int 0, .long 0, .int 0, .int 0, .int 0, .int 0, .null, .null, .null, .null, .null, .null, .null, .null])), (q1, .inr (0, [.int 0, .ref (as2 1), .int 0, .int 1, .int 0, .int 160, .int 0])), ((as2 1), .inl ((xZ X).1, 8, .inl (fun _ => 0))), (q3, .inl ((xZ X).2.2.2.1, 6, .inr (.inr (.inr (.inr (fun _ => none))))))]) tyX4 tyX4_ok nmX4 rfl inT4 rfl 4 rfl k1_186 rfl rfl rfl rfl rfl (Nat.le_of_ble_eq_true rfl) rfl dX4_init_31 ?_
  refine JN.aloadn dX4_init_34 rfl ?_
  refine JN.ic 0 dX4_init_35 (by decide) ?_
  refine JN.put (q0 := 0) (ci := 2) (ty := .int) (ws' := [(h0, .inr (2, [.null, .ref q1, .ref q3, .int 0, .long 0, .int 0, .int 0, .int 0, .int 0, .null, .null, .null, .null, .null, .null, .null, .null])), (q1, .inr (0, [.int 0, .ref (as2 1), .int 0, .int 1, .int 0, .int 160, .int 0])), ((as2 1), .inl ((xZ X).1, 8, .inl (fun _ => 0))), (q3, .inl ((xZ X).2.2.2.1, 6, .inr (.inr (.inr (.inr (fun _ => none))))))]) tyX4 tyX4_ok nmX4 rfl inT4 rfl 5 rfl k1_187 rfl rfl rfl rfl rfl (Nat.le_of_ble_eq_true rfl) rfl dX4_init_36 ?_
  refine JN.aloadn dX4_init_39 rfl ?_
  refine JN.ic 0 dX4_init_40 (by decide) ?_
  refine JN.put (q0 := 0) (ci := 2) (ty := .int) (ws' := [(h0, .inr (2, [.null, .ref q1, .ref q3, .int 0, .long 0, .int 0, .int 0, .int 0, .int 0, .null, .null, .null, .null, .null, .null, .null, .null])), (q1, .inr (0, [.int 0, .ref (as2 1), .int 0, .int 1, .int 0, .int 160, .int 0])), ((as2 1), .inl ((xZ X).1, 8, .inl (fun _ => 0))), (q3, .inl ((xZ X).2.2.2.1, 6, .inr (.inr (.inr (.inr (fun _ => none))))))]) tyX4 tyX4_ok nmX4 rfl inT4 rfl 6 rfl k1_190 rfl rfl rfl rfl rfl (Nat.le_of_ble_eq_true rfl) rfl dX4_init_41 ?_
  refine JN.aloadn dX4_init_44 rfl ?_
  refine JN.ic 0 dX4_init_45 (by decide) ?_
  refine JN.put (q0 := 0) (ci := 2) (ty := .int) (ws' := [(h0, .inr (2, [.null, .ref q1, .ref q3, .int 0, .long 0, .int 0, .int 0, .int 0, .int 0, .null, .null, .null, .null, .null, .null, .null, .null])), (q1, .inr (0, [.int 0, .ref (as2 1), .int 0, .int 1, .int 0, .int 160, .int 0])), ((as2 1), .inl ((xZ X).1, 8, .inl (fun _ => 0))), (q3, .inl ((xZ X).2.2.2.1, 6, .inr (.inr (.inr (.inr (fun _ => none))))))]) tyX4 tyX4_ok nmX4 rfl inT4 rfl 7 rfl k1_192 rfl rfl rfl rfl rfl (Nat.le_of_ble_eq_true rfl) rfl dX4_init_46 ?_
  refine JN.aloadn dX4_init_49 rfl ?_
  refine JN.ic 0 dX4_init_50 (by decide) ?_
  refine JN.put (q0 := 0) (ci := 2) (ty := .int) (ws' := [(h0, .inr (2, [.null, .ref q1, .ref q3, .int 0, .long 0, .int 0, .int 0, .int 0, .int 0, .null, .null, .null, .null, .null, .null, .null, .null])), (q1, .inr (0, [.int 0, .ref (as2 1), .int 0, .int 1, .int 0, .int 160, .int 0])), ((as2 1), .inl ((xZ X).1, 8, .inl (fun _ => 0))), (q3, .inl ((xZ X).2.2.2.1, 6, .inr (.inr (.inr (.inr (fun _ => none))))))]) tyX4 tyX4_ok nmX4 rfl inT4 rfl 8 rfl k1_193 rfl rfl rfl rfl rfl (Nat.le_of_ble_eq_true rfl) rfl dX4_init_51 ?_
  refine JN.aloadn dX4_init_54 rfl ?_
  refine JN.sip 200 dX4_init_55 (by decide) ?_
  refine JN.newI 200 (by decide) (by decide) (Nat.le_of_ble_eq_true rfl) (Nat.le_of_ble_eq_true rfl) (Nat.le_of_ble_eq_true rfl) dX4_init_58 (fun q4 => ?_)
  refine JN.putF (q0 := 0) (ci := 2) (ty := (.array .int)) (ws' := [(h0, .inr (2, [.null, .ref q1, .ref q3, .int 0, .long 0, .int 0, .int 0, .int 0, .int 0, .ref q4, .null, .null, .null, .null, .null, .null, .null])), (q1, .inr (0, [.int 0, .ref (as2 1), .int 0, .int 1, .int 0, .int 160, .int 0])), ((as2 1), .inl ((xZ X).1, 8, .inl (fun _ => 0))), (q3, .inl ((xZ X).2.2.2.1, 6, .inr (.inr (.inr (.inr (fun _ => none)))))), (q4, .inl ((xZ X).1, 200, .inl (fun _ => 0)))]) (fun _ => hm) tyX4 tyX4_ok nmX4 rfl inT4 rfl 9 rfl k1_195 rfl rfl rfl rfl rfl rfl (Nat.le_of_ble_eq_true rfl) rfl dX4_init_60 ?_
  refine JN.aloadn dX4_init_63 rfl ?_
  refine JN.sip 200 dX4_init_64 (by decide) ?_
  refine JN.newI 200 (by decide) (by decide) (Nat.le_of_ble_eq_true rfl) (Nat.le_of_ble_eq_true rfl) (Nat.le_of_ble_eq_true rfl) dX4_init_67 (fun q5 => ?_)
  refine JN.putF (q0 := 0) (ci := 2) (ty := (.array .int)) (ws' := [(h0, .inr (2, [.null, .ref q1, .ref q3, .int 0, .long 0, .int 0, .int 0, .int 0, .int 0, .ref q4, .ref q5, .null, .null, .null, .null, .null, .null])), (q1, .inr (0, [.int 0, .ref (as2 1), .int 0, .int 1, .int 0, .int 160, .int 0])), ((as2 1), .inl ((xZ X).1, 8, .inl (fun _ => 0))), (q3, .inl ((xZ X).2.2.2.1, 6, .inr (.inr (.inr (.inr (fun _ => none)))))), (q4, .inl ((xZ X).1, 200, .inl (fun _ => 0))), (q5, .inl ((xZ X).1, 200, .inl (fun _ => 0)))]) (fun _ => hm) tyX4 tyX4_ok nmX4 rfl inT4 rfl 10 rfl k1_197 rfl rfl rfl rfl rfl rfl (Nat.le_of_ble_eq_true rfl) rfl dX4_init_69 ?_
  refine JN.aloadn dX4_init_72 rfl ?_
  refine JN.sip 200 dX4_init_73 (by decide) ?_
  refine JN.newI 200 (by decide) (by decide) (Nat.le_of_ble_eq_true rfl) (Nat.le_of_ble_eq_true rfl) (Nat.le_of_ble_eq_true rfl) dX4_init_76 (fun q6 => ?_)
  refine JN.putF (q0 := 0) (ci := 2) (ty := (.array .int)) (ws' := [(h0, .inr (2, [.null, .ref q1, .ref q3, .int 0, .long 0, .int 0, .int 0, .int 0, .int 0, .ref q4, .ref q5, .ref q6, .null, .null, .null, .null, .null])), (q1, .inr (0, [.int 0, .ref (as2 1), .int 0, .int 1, .int 0, .int 160, .int 0])), ((as2 1), .inl ((xZ X).1, 8, .inl (fun _ => 0))), (q3, .inl ((xZ X).2.2.2.1, 6, .inr (.inr (.inr (.inr (fun _ => none)))))), (q4, .inl ((xZ X).1, 200, .inl (fun _ => 0))), (q5, .inl ((xZ X).1, 200, .inl (fun _ => 0))), (q6, .inl ((xZ X).1, 200, .inl (fun _ => 0)))]) (fun _ => hm) tyX4 tyX4_ok nmX4 rfl inT4 rfl 11 rfl k1_199 rfl rfl rfl rfl rfl rfl (Nat.le_of_ble_eq_true rfl) rfl dX4_init_78 ?_
  refine JN.aloadn dX4_init_81 rfl ?_
  refine JN.sip 200 dX4_init_82 (by decide) ?_
  refine JN.newI 200 (by decide) (by decide) (Nat.le_of_ble_eq_true rfl) (Nat.le_of_ble_eq_true rfl) (Nat.le_of_ble_eq_true rfl) dX4_init_85 (fun q7 => ?_)
  refine JN.putF (q0 := 0) (ci := 2) (ty := (.array .int)) (ws' := [(h0, .inr (2, [.null, .ref q1, .ref q3, .int 0, .long 0, .int 0, .int 0, .int 0, .int 0, .ref q4, .ref q5, .ref q6, .ref q7, .null, .null, .null, .null])), (q1, .inr (0, [.int 0, .ref (as2 1), .int 0, .int 1, .int 0, .int 160, .int 0])), ((as2 1), .inl ((xZ X).1, 8, .inl (fun _ => 0))), (q3, .inl ((xZ X).2.2.2.1, 6, .inr (.inr (.inr (.inr (fun _ => none)))))), (q4, .inl ((xZ X).1, 200, .inl (fun _ => 0))), (q5, .inl ((xZ X).1, 200, .inl (fun _ => 0))), (q6, .inl ((xZ X).1, 200, .inl (fun _ => 0))), (q7, .inl ((xZ X).1, 200, .inl (fun _ => 0)))]) (fun _ => hm) tyX4 tyX4_ok nmX4 rfl inT4 rfl 12 rfl k1_201 rfl rfl rfl rfl rfl rfl (Nat.le_of_ble_eq_true rfl) rfl dX4_init_87 ?_
  refine JN.aloadn dX4_init_90 rfl ?_
  refine JN.sip 200 dX4_init_91 (by decide) ?_
  refine JN.newI 200 (by decide) (by decide) (Nat.le_of_ble_eq_true rfl) (Nat.le_of_ble_eq_true rfl) (Nat.le_of_ble_eq_true rfl) dX4_init_94 (fun q8 => ?_)
  refine JN.putF (q0 := 0) (ci := 2) (ty := (.array .int)) (ws' := [(h0, .inr (2, [.null, .ref q1, .ref q3, .int 0, .long 0, .int 0, .int 0, .int 0, .int 0, .ref q4, .ref q5, .ref q6, .ref q7, .ref q8, .null, .null, .null])), (q1, .inr (0, [.int 0, .ref (as2 1), .int 0, .int 1, .int 0, .int 160, .int 0])), ((as2 1), .inl ((xZ X).1, 8, .inl (fun _ => 0))), (q3, .inl ((xZ X).2.2.2.1, 6, .inr (.inr (.inr (.inr (fun _ => none)))))), (q4, .inl ((xZ X).1, 200, .inl (fun _ => 0))), (q5, .inl ((xZ X).1, 200, .inl (fun _ => 0))), (q6, .inl ((xZ X).1, 200, .inl (fun _ => 0))), (q7, .inl ((xZ X).1, 200, .inl (fun _ => 0))), (q8, .inl ((xZ X).1, 200, .inl (fun _ => 0)))]) (fun _ => hm) tyX4 tyX4_ok nmX4 rfl inT4 rfl 13 rfl k1_203 rfl rfl rfl rfl rfl rfl (Nat.le_of_ble_eq_true rfl) rfl dX4_init_96 ?_
  refine JN.aloadn dX4_init_99 rfl ?_
  refine JN.sip 366 dX4_init_100 (by decide) ?_
  refine JN.newI 366 (by decide) (by decide) (Nat.le_of_ble_eq_true rfl) (Nat.le_of_ble_eq_true rfl) (Nat.le_of_ble_eq_true rfl) dX4_init_103 (fun q9 => ?_)
  refine JN.putF (q0 := 0) (ci := 2) (ty := (.array .int)) (ws' := [(h0, .inr (2, [.null, .ref q1, .ref q3, .int 0, .long 0, .int 0, .int 0, .int 0, .int 0, .ref q4, .ref q5, .ref q6, .ref q7, .ref q8, .ref q9, .null, .null])), (q1, .inr (0, [.int 0, .ref (as2 1), .int 0, .int 1, .int 0, .int 160, .int 0])), ((as2 1), .inl ((xZ X).1, 8, .inl (fun _ => 0))), (q3, .inl ((xZ X).2.2.2.1, 6, .inr (.inr (.inr (.inr (fun _ => none)))))), (q4, .inl ((xZ X).1, 200, .inl (fun _ => 0))), (q5, .inl ((xZ X).1, 200, .inl (fun _ => 0))), (q6, .inl ((xZ X).1, 200, .inl (fun _ => 0))), (q7, .inl ((xZ X).1, 200, .inl (fun _ => 0))), (q8, .inl ((xZ X).1, 200, .inl (fun _ => 0))), (q9, .inl ((xZ X).1, 366, .inl (fun _ => 0)))]) (fun _ => hm) tyX4 tyX4_ok nmX4 rfl inT4 rfl 14 rfl k1_205 rfl rfl rfl rfl rfl rfl (Nat.le_of_ble_eq_true rfl) rfl dX4_init_105 ?_
  refine JN.aloadn dX4_init_108 rfl ?_
  refine JN.sip 366 dX4_init_109 (by decide) ?_
  refine JN.newI 366 (by decide) (by decide) (Nat.le_of_ble_eq_true rfl) (Nat.le_of_ble_eq_true rfl) (Nat.le_of_ble_eq_true rfl) dX4_init_112 (fun q10 => ?_)
  refine JN.putF (q0 := 0) (ci := 2) (ty := (.array .int)) (ws' := [(h0, .inr (2, [.null, .ref q1, .ref q3, .int 0, .long 0, .int 0, .int 0, .int 0, .int 0, .ref q4, .ref q5, .ref q6, .ref q7, .ref q8, .ref q9, .ref q10, .null])), (q1, .inr (0, [.int 0, .ref (as2 1), .int 0, .int 1, .int 0, .int 160, .int 0])), ((as2 1), .inl ((xZ X).1, 8, .inl (fun _ => 0))), (q3, .inl ((xZ X).2.2.2.1, 6, .inr (.inr (.inr (.inr (fun _ => none)))))), (q4, .inl ((xZ X).1, 200, .inl (fun _ => 0))), (q5, .inl ((xZ X).1, 200, .inl (fun _ => 0))), (q6, .inl ((xZ X).1, 200, .inl (fun _ => 0))), (q7, .inl ((xZ X).1, 200, .inl (fun _ => 0))), (q8, .inl ((xZ X).1, 200, .inl (fun _ => 0))), (q9, .inl ((xZ X).1, 366, .inl (fun _ => 0))), (q10, .inl ((xZ X).1, 366, .inl (fun _ => 0)))]) (fun _ => hm) tyX4 tyX4_ok nmX4 rfl inT4 rfl 15 rfl k1_206 rfl rfl rfl rfl rfl rfl (Nat.le_of_ble_eq_true rfl) rfl dX4_init_114 ?_
  refine JN.aloadn dX4_init_117 rfl ?_
  refine JN.bip 61 dX4_init_118 (by decide) ?_
  refine JN.newI 61 (by decide) (by decide) (Nat.le_of_ble_eq_true rfl) (Nat.le_of_ble_eq_true rfl) (Nat.le_of_ble_eq_true rfl) dX4_init_120 (fun q11 => ?_)
  refine JN.putF (q0 := 0) (ci := 2) (ty := (.array .int)) (ws' := [(h0, .inr (2, [.null, .ref q1, .ref q3, .int 0, .long 0, .int 0, .int 0, .int 0, .int 0, .ref q4, .ref q5, .ref q6, .ref q7, .ref q8, .ref q9, .ref q10, .ref q11])), (q1, .inr (0, [.int 0, .ref (as2 1), .int 0, .int 1, .int 0, .int 160, .int 0])), ((as2 1), .inl ((xZ X).1, 8, .inl (fun _ => 0))), (q3, .inl ((xZ X).2.2.2.1, 6, .inr (.inr (.inr (.inr (fun _ => none)))))), (q4, .inl ((xZ X).1, 200, .inl (fun _ => 0))), (q5, .inl ((xZ X).1, 200, .inl (fun _ => 0))), (q6, .inl ((xZ X).1, 200, .inl (fun _ => 0))), (q7, .inl ((xZ X).1, 200, .inl (fun _ => 0))), (q8, .inl ((xZ X).1, 200, .inl (fun _ => 0))), (q9, .inl ((xZ X).1, 366, .inl (fun _ => 0))), (q10, .inl ((xZ X).1, 366, .inl (fun _ => 0))), (q11, .inl ((xZ X).1, 61, .inl (fun _ => 0)))]) (fun _ => hm) tyX4 tyX4_ok nmX4 rfl inT4 rfl 16 rfl k1_207 rfl rfl rfl rfl rfl rfl (Nat.le_of_ble_eq_true rfl) rfl dX4_init_122 ?_
  refine JN.aloadn dX4_init_125 rfl ?_
  refine JN.aloadn dX4_init_126 rfl ?_
  refine JN.putF (q0 := 0) (ci := 2) (ty := (.object "CommitPrefixes$Setup")) (ws' := [(h0, .inr (2, [.ref hs, .ref q1, .ref q3, .int 0, .long 0, .int 0, .int 0, .int 0, .int 0, .ref q4, .ref q5, .ref q6, .ref q7, .ref q8, .ref q9, .ref q10, .ref q11])), (q1, .inr (0, [.int 0, .ref (as2 1), .int 0, .int 1, .int 0, .int 160, .int 0])), ((as2 1), .inl ((xZ X).1, 8, .inl (fun _ => 0))), (q3, .inl ((xZ X).2.2.2.1, 6, .inr (.inr (.inr (.inr (fun _ => none)))))), (q4, .inl ((xZ X).1, 200, .inl (fun _ => 0))), (q5, .inl ((xZ X).1, 200, .inl (fun _ => 0))), (q6, .inl ((xZ X).1, 200, .inl (fun _ => 0))), (q7, .inl ((xZ X).1, 200, .inl (fun _ => 0))), (q8, .inl ((xZ X).1, 200, .inl (fun _ => 0))), (q9, .inl ((xZ X).1, 366, .inl (fun _ => 0))), (q10, .inl ((xZ X).1, 366, .inl (fun _ => 0))), (q11, .inl ((xZ X).1, 61, .inl (fun _ => 0)))]) (fun _ => hm) tyX4 tyX4_ok nmX4 rfl inT4 rfl 0 rfl k1_177 rfl rfl rfl rfl rfl rfl (Nat.le_of_ble_eq_true rfl) rfl dX4_init_127 ?_
  refine JN.aloadn dX4_init_130 rfl ?_
  refine JN.get (q0 := 0) (ci := 2) rfl inT4 rfl 2 rfl k1_181 rfl rfl dX4_init_131 ?_
  refine JN.ic 0 dX4_init_134 (by decide) ?_
  refine JN.aloadn dX4_init_135 rfl ?_
  refine JN.get (q0 := 0) (ci := 2) rfl inT4 rfl 1 rfl k1_180 rfl rfl dX4_init_136 ?_
  refine JN.aastC (q0 := 3) (qk := 1) (ws' := [(h0, .inr (2, [.ref hs, .ref q1, .ref q3, .int 0, .long 0, .int 0, .int 0, .int 0, .int 0, .ref q4, .ref q5, .ref q6, .ref q7, .ref q8, .ref q9, .ref q10, .ref q11])), (q1, .inr (0, [.int 0, .ref (as2 1), .int 0, .int 1, .int 0, .int 160, .int 0])), ((as2 1), .inl ((xZ X).1, 8, .inl (fun _ => 0))), (q3, .inl ((xZ X).2.2.2.1, 6, .inr (.inr (.inr (.inr (va_up (fun _ => none) 0 (some q1))))))), (q4, .inl ((xZ X).1, 200, .inl (fun _ => 0))), (q5, .inl ((xZ X).1, 200, .inl (fun _ => 0))), (q6, .inl ((xZ X).1, 200, .inl (fun _ => 0))), (q7, .inl ((xZ X).1, 200, .inl (fun _ => 0))), (q8, .inl ((xZ X).1, 200, .inl (fun _ => 0))), (q9, .inl ((xZ X).1, 366, .inl (fun _ => 0))), (q10, .inl ((xZ X).1, 366, .inl (fun _ => 0))), (q11, .inl ((xZ X).1, 61, .inl (fun _ => 0)))]) rfl rfl (by decide) rfl dX4_init_139 ?_
  refine JN.ic 1 dX4_init_140 (by decide) ?_
  refine JN.istoren (lv' := [some (.ref h0), some (.ref hs), some (.int 1)]) dX4_init_141 rfl rfl rfl ?_
  refine JN.iloadn dX4_init_142 rfl ?_
  refine JN.bip 6 dX4_init_143 (by decide) ?_
  refine JN.geF dX4_init_145 168 rfl (by decide) ?_
  refine JN.aloadn dX4_init_148 rfl ?_
  refine JN.get (q0 := 0) (ci := 2) rfl inT4 rfl 2 rfl k1_181 rfl rfl dX4_init_149 ?_
  refine JN.iloadn dX4_init_152 rfl ?_
  refine JN.new (ci := 1) (C := RX3) (T := TX3) (N := 6) (fs := [.int 0, .null, .int 0, .int 0, .int 0, .int 0]) tyX3 tyX3_ok inT3 k1_164 k1_165 k1_8 rfl rfl (Nat.le_of_ble_eq_true rfl) (Nat.le_of_ble_eq_true rfl) dX4_init_153 (fun q12 => ?_)
  refine JN.dup dX4_init_156 rfl ?_
  refine JN.iloadn dX4_init_157 rfl ?_
  refine JN.callI [(h0, .inr (2, [.ref hs, .ref q1, .ref q3, .int 0, .long 0, .int 0, .int 0, .int 0, .int 0, .ref q4, .ref q5, .ref q6, .ref q7, .ref q8, .ref q9, .ref q10, .ref q11])), (q1, .inr (0, [.int 0, .ref (as2 1), .int 0, .int 1, .int 0, .int 160, .int 0])), ((as2 1), .inl ((xZ X).1, 8, .inl (fun _ => 0))), (q3, .inl ((xZ X).2.2.2.1, 6, .inr (.inr (.inr (.inr (va_up (fun _ => none) 0 (some q1))))))), (q4, .inl ((xZ X).1, 200, .inl (fun _ => 0))), (q5, .inl ((xZ X).1, 200, .inl (fun _ => 0))), (q6, .inl ((xZ X).1, 200, .inl (fun _ => 0))), (q7, .inl ((xZ X).1, 200, .inl (fun _ => 0))), (q8, .inl ((xZ X).1, 200, .inl (fun _ => 0))), (q9, .inl ((xZ X).1, 366, .inl (fun _ => 0))), (q10, .inl ((xZ X).1, 366, .inl (fun _ => 0))), (q11, .inl ((xZ X).1, 61, .inl (fun _ => 0)))] [12] [0, 1, 2, 3, 4, 5, 6, 7, 8, 9, 10, 11] (N_Part q12 1) K_Part k1_166 rfl rfl rfl (by decide) rfl (by decide) (by decide) rfl rfl rfl (Nat.le_of_ble_eq_true rfl) (Nat.le_of_ble_eq_true rfl) (Nat.le_of_ble_eq_true rfl) dX4_init_158 (fun as13 => ?_)
  refine JN.aastA (q0 := 3) (qk := 12) (ws' := [(h0, .inr (2, [.ref hs, .ref q1, .ref q3, .int 0, .long 0, .int 0, .int 0, .int 0, .int 0, .ref q4, .ref q5, .ref q6, .ref q7, .ref q8, .ref q9, .ref q10, .ref q11])), (q1, .inr (0, [.int 0, .ref (as2 1), .int 0, .int 1, .int 0, .int 160, .int 0])), ((as2 1), .inl ((xZ X).1, 8, .inl (fun _ => 0))), (q3, .inl ((xZ X).2.2.2.1, 6, .inr (.inr (.inr (.inr (va_up (va_up (fun _ => none) 0 (some q1)) 1 (some q12))))))), (q4, .inl ((xZ X).1, 200, .inl (fun _ => 0))), (q5, .inl ((xZ X).1, 200, .inl (fun _ => 0))), (q6, .inl ((xZ X).1, 200, .inl (fun _ => 0))), (q7, .inl ((xZ X).1, 200, .inl (fun _ => 0))), (q8, .inl ((xZ X).1, 200, .inl (fun _ => 0))), (q9, .inl ((xZ X).1, 366, .inl (fun _ => 0))), (q10, .inl ((xZ X).1, 366, .inl (fun _ => 0))), (q11, .inl ((xZ X).1, 61, .inl (fun _ => 0))), (q12, .inr (1, [.int 1, .ref (as13 1), .int 0, .int 1, .int 0, .int 160])), ((as13 1), .inl ((xZ X).1, 8, .inl (fun _ => 0)))]) rfl rfl (by decide) rfl dX4_init_161 ?_
  refine JN.iinc (v := 2) (lv' := [some (.ref h0), some (.ref hs), some (.int 2)]) dX4_init_162 rfl (by decide) rfl rfl rfl ?_
  refine JN.goto 142 dX4_init_165 rfl ?_
  refine JN.iloadn dX4_init_142 rfl ?_
  refine JN.bip 6 dX4_init_143 (by decide) ?_
  refine JN.geF dX4_init_145 168 rfl (by decide) ?_
  refine JN.aloadn dX4_init_148 rfl ?_
  refine JN.get (q0 := 0) (ci := 2) rfl inT4 rfl 2 rfl k1_181 rfl rfl dX4_init_149 ?_
  refine JN.iloadn dX4_init_152 rfl ?_
  refine JN.new (ci := 1) (C := RX3) (T := TX3) (N := 6) (fs := [.int 0, .null, .int 0, .int 0, .int 0, .int 0]) tyX3 tyX3_ok inT3 k1_164 k1_165 k1_8 rfl rfl (Nat.le_of_ble_eq_true rfl) (Nat.le_of_ble_eq_true rfl) dX4_init_153 (fun q14 => ?_)
  refine JN.dup dX4_init_156 rfl ?_
  refine JN.iloadn dX4_init_157 rfl ?_
  refine JN.callI [(h0, .inr (2, [.ref hs, .ref q1, .ref q3, .int 0, .long 0, .int 0, .int 0, .int 0, .int 0, .ref q4, .ref q5, .ref q6, .ref q7, .ref q8, .ref q9, .ref q10, .ref q11])), (q1, .inr (0, [.int 0, .ref (as2 1), .int 0, .int 1, .int 0, .int 160, .int 0])), ((as2 1), .inl ((xZ X).1, 8, .inl (fun _ => 0))), (q3, .inl ((xZ X).2.2.2.1, 6, .inr (.inr (.inr (.inr (va_up (va_up (fun _ => none) 0 (some q1)) 1 (some q12))))))), (q4, .inl ((xZ X).1, 200, .inl (fun _ => 0))), (q5, .inl ((xZ X).1, 200, .inl (fun _ => 0))), (q6, .inl ((xZ X).1, 200, .inl (fun _ => 0))), (q7, .inl ((xZ X).1, 200, .inl (fun _ => 0))), (q8, .inl ((xZ X).1, 200, .inl (fun _ => 0))), (q9, .inl ((xZ X).1, 366, .inl (fun _ => 0))), (q10, .inl ((xZ X).1, 366, .inl (fun _ => 0))), (q11, .inl ((xZ X).1, 61, .inl (fun _ => 0))), (q12, .inr (1, [.int 1, .ref (as13 1), .int 0, .int 1, .int 0, .int 160])), ((as13 1), .inl ((xZ X).1, 8, .inl (fun _ => 0)))] [14] [0, 1, 2, 3, 4, 5, 6, 7, 8, 9, 10, 11, 12, 13] (N_Part q14 2) K_Part k1_166 rfl rfl rfl (by decide) rfl (by decide) (by decide) rfl rfl rfl (Nat.le_of_ble_eq_true rfl) (Nat.le_of_ble_eq_true rfl) (Nat.le_of_ble_eq_true rfl) dX4_init_158 (fun as15 => ?_)
  refine JN.aastA (q0 := 3) (qk := 14) (ws' := [(h0, .inr (2, [.ref hs, .ref q1, .ref q3, .int 0, .long 0, .int 0, .int 0, .int 0, .int 0, .ref q4, .ref q5, .ref q6, .ref q7, .ref q8, .ref q9, .ref q10, .ref q11])), (q1, .inr (0, [.int 0, .ref (as2 1), .int 0, .int 1, .int 0, .int 160, .int 0])), ((as2 1), .inl ((xZ X).1, 8, .inl (fun _ => 0))), (q3, .inl ((xZ X).2.2.2.1, 6, .inr (.inr (.inr (.inr (va_up (va_up (va_up (fun _ => none) 0 (some q1)) 1 (some q12)) 2 (some q14))))))), (q4, .inl ((xZ X).1, 200, .inl (fun _ => 0))), (q5, .inl ((xZ X).1, 200, .inl (fun _ => 0))), (q6, .inl ((xZ X).1, 200, .inl (fun _ => 0))), (q7, .inl ((xZ X).1, 200, .inl (fun _ => 0))), (q8, .inl ((xZ X).1, 200, .inl (fun _ => 0))), (q9, .inl ((xZ X).1, 366, .inl (fun _ => 0))), (q10, .inl ((xZ X).1, 366, .inl (fun _ => 0))), (q11, .inl ((xZ X).1, 61, .inl (fun _ => 0))), (q12, .inr (1, [.int 1, .ref (as13 1), .int 0, .int 1, .int 0, .int 160])), ((as13 1), .inl ((xZ X).1, 8, .inl (fun _ => 0))), (q14, .inr (1, [.int 2, .ref (as15 1), .int 0, .int 1, .int 0, .int 160])), ((as15 1), .inl ((xZ X).1, 8, .inl (fun _ => 0)))]) rfl rfl (by decide) rfl dX4_init_161 ?_
  refine JN.iinc (v := 3) (lv' := [some (.ref h0), some (.ref hs), some (.int 3)]) dX4_init_162 rfl (by decide) rfl rfl rfl ?_
  refine JN.goto 142 dX4_init_165 rfl ?_
  refine JN.iloadn dX4_init_142 rfl ?_
  refine JN.bip 6 dX4_init_143 (by decide) ?_
  refine JN.geF dX4_init_145 168 rfl (by decide) ?_
  refine JN.aloadn dX4_init_148 rfl ?_
  refine JN.get (q0 := 0) (ci := 2) rfl inT4 rfl 2 rfl k1_181 rfl rfl dX4_init_149 ?_
  refine JN.iloadn dX4_init_152 rfl ?_
  refine JN.new (ci := 1) (C := RX3) (T := TX3) (N := 6) (fs := [.int 0, .null, .int 0, .int 0, .int 0, .int 0]) tyX3 tyX3_ok inT3 k1_164 k1_165 k1_8 rfl rfl (Nat.le_of_ble_eq_true rfl) (Nat.le_of_ble_eq_true rfl) dX4_init_153 (fun q16 => ?_)
  refine JN.dup dX4_init_156 rfl ?_
  refine JN.iloadn dX4_init_157 rfl ?_
  refine JN.callI [(h0, .inr (2, [.ref hs, .ref q1, .ref q3, .int 0, .long 0, .int 0, .int 0, .int 0, .int 0, .ref q4, .ref q5, .ref q6, .ref q7, .ref q8, .ref q9, .ref q10, .ref q11])), (q1, .inr (0, [.int 0, .ref (as2 1), .int 0, .int 1, .int 0, .int 160, .int 0])), ((as2 1), .inl ((xZ X).1, 8, .inl (fun _ => 0))), (q3, .inl ((xZ X).2.2.2.1, 6, .inr (.inr (.inr (.inr (va_up (va_up (va_up (fun _ => none) 0 (some q1)) 1 (some q12)) 2 (some q14))))))), (q4, .inl ((xZ X).1, 200, .inl (fun _ => 0))), (q5, .inl ((xZ X).1, 200, .inl (fun _ => 0))), (q6, .inl ((xZ X).1, 200, .inl (fun _ => 0))), (q7, .inl ((xZ X).1, 200, .inl (fun _ => 0))), (q8, .inl ((xZ X).1, 200, .inl (fun _ => 0))), (q9, .inl ((xZ X).1, 366, .inl (fun _ => 0))), (q10, .inl ((xZ X).1, 366, .inl (fun _ => 0))), (q11, .inl ((xZ X).1, 61, .inl (fun _ => 0))), (q12, .inr (1, [.int 1, .ref (as13 1), .int 0, .int 1, .int 0, .int 160])), ((as13 1), .inl ((xZ X).1, 8, .inl (fun _ => 0))), (q14, .inr (1, [.int 2, .ref (as15 1), .int 0, .int 1, .int 0, .int 160])), ((as15 1), .inl ((xZ X).1, 8, .inl (fun _ => 0)))] [16] [0, 1, 2, 3, 4, 5, 6, 7, 8, 9, 10, 11, 12, 13, 14, 15] (N_Part q16 3) K_Part k1_166 rfl rfl rfl (by decide) rfl (by decide) (by decide) rfl rfl rfl (Nat.le_of_ble_eq_true rfl) (Nat.le_of_ble_eq_true rfl) (Nat.le_of_ble_eq_true rfl) dX4_init_158 (fun as17 => ?_)
  refine JN.aastA (q0 := 3) (qk := 16) (ws' := [(h0, .inr (2, [.ref hs, .ref q1, .ref q3, .int 0, .long 0, .int 0, .int 0, .int 0, .int 0, .ref q4, .ref q5, .ref q6, .ref q7, .ref q8, .ref q9, .ref q10, .ref q11])), (q1, .inr (0, [.int 0, .ref (as2 1), .int 0, .int 1, .int 0, .int 160, .int 0])), ((as2 1), .inl ((xZ X).1, 8, .inl (fun _ => 0))), (q3, .inl ((xZ X).2.2.2.1, 6, .inr (.inr (.inr (.inr (va_up (va_up (va_up (va_up (fun _ => none) 0 (some q1)) 1 (some q12)) 2 (some q14)) 3 (some q16))))))), (q4, .inl ((xZ X).1, 200, .inl (fun _ => 0))), (q5, .inl ((xZ X).1, 200, .inl (fun _ => 0))), (q6, .inl ((xZ X).1, 200, .inl (fun _ => 0))), (q7, .inl ((xZ X).1, 200, .inl (fun _ => 0))), (q8, .inl ((xZ X).1, 200, .inl (fun _ => 0))), (q9, .inl ((xZ X).1, 366, .inl (fun _ => 0))), (q10, .inl ((xZ X).1, 366, .inl (fun _ => 0))), (q11, .inl ((xZ X).1, 61, .inl (fun _ => 0))), (q12, .inr (1, [.int 1, .ref (as13 1), .int 0, .int 1, .int 0, .int 160])), ((as13 1), .inl ((xZ X).1, 8, .inl (fun _ => 0))), (q14, .inr (1, [.int 2, .ref (as15 1), .int 0, .int 1, .int 0, .int 160])), ((as15 1), .inl ((xZ X).1, 8, .inl (fun _ => 0))), (q16, .inr (1, [.int 3, .ref (as17 1), .int 0, .int 1, .int 0, .int 160])), ((as17 1), .inl ((xZ X).1, 8, .inl (fun _ => 0)))]) rfl rfl (by decide) rfl dX4_init_161 ?_
  refine JN.iinc (v := 4) (lv' := [some (.ref h0), some (.ref hs), some (.int 4)]) dX4_init_162 rfl (by decide) rfl rfl rfl ?_
  refine JN.goto 142 dX4_init_165 rfl ?_
  refine JN.iloadn dX4_init_142 rfl ?_
  refine JN.bip 6 dX4_init_143 (by decide) ?_
  refine JN.geF dX4_init_145 168 rfl (by decide) ?_
  refine JN.aloadn dX4_init_148 rfl ?_
  refine JN.get (q0 := 0) (ci := 2) rfl inT4 rfl 2 rfl k1_181 rfl rfl dX4_init_149 ?_
  refine JN.iloadn dX4_init_152 rfl ?_
  refine JN.new (ci := 1) (C := RX3) (T := TX3) (N := 6) (fs := [.int 0, .null, .int 0, .int 0, .int 0, .int 0]) tyX3 tyX3_ok inT3 k1_164 k1_165 k1_8 rfl rfl (Nat.le_of_ble_eq_true rfl) (Nat.le_of_ble_eq_true rfl) dX4_init_153 (fun q18 => ?_)
  refine JN.dup dX4_init_156 rfl ?_
  refine JN.iloadn dX4_init_157 rfl ?_
  refine JN.callI [(h0, .inr (2, [.ref hs, .ref q1, .ref q3, .int 0, .long 0, .int 0, .int 0, .int 0, .int 0, .ref q4, .ref q5, .ref q6, .ref q7, .ref q8, .ref q9, .ref q10, .ref q11])), (q1, .inr (0, [.int 0, .ref (as2 1), .int 0, .int 1, .int 0, .int 160, .int 0])), ((as2 1), .inl ((xZ X).1, 8, .inl (fun _ => 0))), (q3, .inl ((xZ X).2.2.2.1, 6, .inr (.inr (.inr (.inr (va_up (va_up (va_up (va_up (fun _ => none) 0 (some q1)) 1 (some q12)) 2 (some q14)) 3 (some q16))))))), (q4, .inl ((xZ X).1, 200, .inl (fun _ => 0))), (q5, .inl ((xZ X).1, 200, .inl (fun _ => 0))), (q6, .inl ((xZ X).1, 200, .inl (fun _ => 0))), (q7, .inl ((xZ X).1, 200, .inl (fun _ => 0))), (q8, .inl ((xZ X).1, 200, .inl (fun _ => 0))), (q9, .inl ((xZ X).1, 366, .inl (fun _ => 0))), (q10, .inl ((xZ X).1, 366, .inl (fun _ => 0))), (q11, .inl ((xZ X).1, 61, .inl (fun _ => 0))), (q12, .inr (1, [.int 1, .ref (as13 1), .int 0, .int 1, .int 0, .int 160])), ((as13 1), .inl ((xZ X).1, 8, .inl (fun _ => 0))), (q14, .inr (1, [.int 2, .ref (as15 1), .int 0, .int 1, .int 0, .int 160])), ((as15 1), .inl ((xZ X).1, 8, .inl (fun _ => 0))), (q16, .inr (1, [.int 3, .ref (as17 1), .int 0, .int 1, .int 0, .int 160])), ((as17 1), .inl ((xZ X).1, 8, .inl (fun _ => 0)))] [18] [0, 1, 2, 3, 4, 5, 6, 7, 8, 9, 10, 11, 12, 13, 14, 15, 16, 17] (N_Part q18 4) K_Part k1_166 rfl rfl rfl (by decide) rfl (by decide) (by decide) rfl rfl rfl (Nat.le_of_ble_eq_true rfl) (Nat.le_of_ble_eq_true rfl) (Nat.le_of_ble_eq_true rfl) dX4_init_158 (fun as19 => ?_)
  refine JN.aastA (q0 := 3) (qk := 18) (ws' := [(h0, .inr (2, [.ref hs, .ref q1, .ref q3, .int 0, .long 0, .int 0, .int 0, .int 0, .int 0, .ref q4, .ref q5, .ref q6, .ref q7, .ref q8, .ref q9, .ref q10, .ref q11])), (q1, .inr (0, [.int 0, .ref (as2 1), .int 0, .int 1, .int 0, .int 160, .int 0])), ((as2 1), .inl ((xZ X).1, 8, .inl (fun _ => 0))), (q3, .inl ((xZ X).2.2.2.1, 6, .inr (.inr (.inr (.inr (va_up (va_up (va_up (va_up (va_up (fun _ => none) 0 (some q1)) 1 (some q12)) 2 (some q14)) 3 (some q16)) 4 (some q18))))))), (q4, .inl ((xZ X).1, 200, .inl (fun _ => 0))), (q5, .inl ((xZ X).1, 200, .inl (fun _ => 0))), (q6, .inl ((xZ X).1, 200, .inl (fun _ => 0))), (q7, .inl ((xZ X).1, 200, .inl (fun _ => 0))), (q8, .inl ((xZ X).1, 200, .inl (fun _ => 0))), (q9, .inl ((xZ X).1, 366, .inl (fun _ => 0))), (q10, .inl ((xZ X).1, 366, .inl (fun _ => 0))), (q11, .inl ((xZ X).1, 61, .inl (fun _ => 0))), (q12, .inr (1, [.int 1, .ref (as13 1), .int 0, .int 1, .int 0, .int 160])), ((as13 1), .inl ((xZ X).1, 8, .inl (fun _ => 0))), (q14, .inr (1, [.int 2, .ref (as15 1), .int 0, .int 1, .int 0, .int 160])), ((as15 1), .inl ((xZ X).1, 8, .inl (fun _ => 0))), (q16, .inr (1, [.int 3, .ref (as17 1), .int 0, .int 1, .int 0, .int 160])), ((as17 1), .inl ((xZ X).1, 8, .inl (fun _ => 0))), (q18, .inr (1, [.int 4, .ref (as19 1), .int 0, .int 1, .int 0, .int 160])), ((as19 1), .inl ((xZ X).1, 8, .inl (fun _ => 0)))]) rfl rfl (by decide) rfl dX4_init_161 ?_
  refine JN.iinc (v := 5) (lv' := [some (.ref h0), some (.ref hs), some (.int 5)]) dX4_init_162 rfl (by decide) rfl rfl rfl ?_
  refine JN.goto 142 dX4_init_165 rfl ?_
  refine JN.iloadn dX4_init_142 rfl ?_
  refine JN.bip 6 dX4_init_143 (by decide) ?_
  refine JN.geF dX4_init_145 168 rfl (by decide) ?_
  refine JN.aloadn dX4_init_148 rfl ?_
  refine JN.get (q0 := 0) (ci := 2) rfl inT4 rfl 2 rfl k1_181 rfl rfl dX4_init_149 ?_
  refine JN.iloadn dX4_init_152 rfl ?_
  refine JN.new (ci := 1) (C := RX3) (T := TX3) (N := 6) (fs := [.int 0, .null, .int 0, .int 0, .int 0, .int 0]) tyX3 tyX3_ok inT3 k1_164 k1_165 k1_8 rfl rfl (Nat.le_of_ble_eq_true rfl) (Nat.le_of_ble_eq_true rfl) dX4_init_153 (fun q20 => ?_)
  refine JN.dup dX4_init_156 rfl ?_
  refine JN.iloadn dX4_init_157 rfl ?_
  refine JN.callI [(h0, .inr (2, [.ref hs, .ref q1, .ref q3, .int 0, .long 0, .int 0, .int 0, .int 0, .int 0, .ref q4, .ref q5, .ref q6, .ref q7, .ref q8, .ref q9, .ref q10, .ref q11])), (q1, .inr (0, [.int 0, .ref (as2 1), .int 0, .int 1, .int 0, .int 160, .int 0])), ((as2 1), .inl ((xZ X).1, 8, .inl (fun _ => 0))), (q3, .inl ((xZ X).2.2.2.1, 6, .inr (.inr (.inr (.inr (va_up (va_up (va_up (va_up (va_up (fun _ => none) 0 (some q1)) 1 (some q12)) 2 (some q14)) 3 (some q16)) 4 (some q18))))))), (q4, .inl ((xZ X).1, 200, .inl (fun _ => 0))), (q5, .inl ((xZ X).1, 200, .inl (fun _ => 0))), (q6, .inl ((xZ X).1, 200, .inl (fun _ => 0))), (q7, .inl ((xZ X).1, 200, .inl (fun _ => 0))), (q8, .inl ((xZ X).1, 200, .inl (fun _ => 0))), (q9, .inl ((xZ X).1, 366, .inl (fun _ => 0))), (q10, .inl ((xZ X).1, 366, .inl (fun _ => 0))), (q11, .inl ((xZ X).1, 61, .inl (fun _ => 0))), (q12, .inr (1, [.int 1, .ref (as13 1), .int 0, .int 1, .int 0, .int 160])), ((as13 1), .inl ((xZ X).1, 8, .inl (fun _ => 0))), (q14, .inr (1, [.int 2, .ref (as15 1), .int 0, .int 1, .int 0, .int 160])), ((as15 1), .inl ((xZ X).1, 8, .inl (fun _ => 0))), (q16, .inr (1, [.int 3, .ref (as17 1), .int 0, .int 1, .int 0, .int 160])), ((as17 1), .inl ((xZ X).1, 8, .inl (fun _ => 0))), (q18, .inr (1, [.int 4, .ref (as19 1), .int 0, .int 1, .int 0, .int 160])), ((as19 1), .inl ((xZ X).1, 8, .inl (fun _ => 0)))] [20] [0, 1, 2, 3, 4, 5, 6, 7, 8, 9, 10, 11, 12, 13, 14, 15, 16, 17, 18, 19] (N_Part q20 5) K_Part k1_166 rfl rfl rfl (by decide) rfl (by decide) (by decide) rfl rfl rfl (Nat.le_of_ble_eq_true rfl) (Nat.le_of_ble_eq_true rfl) (Nat.le_of_ble_eq_true rfl) dX4_init_158 (fun as21 => ?_)
  refine JN.aastA (q0 := 3) (qk := 20) (ws' := [(h0, .inr (2, [.ref hs, .ref q1, .ref q3, .int 0, .long 0, .int 0, .int 0, .int 0, .int 0, .ref q4, .ref q5, .ref q6, .ref q7, .ref q8, .ref q9, .ref q10, .ref q11])), (q1, .inr (0, [.int 0, .ref (as2 1), .int 0, .int 1, .int 0, .int 160, .int 0])), ((as2 1), .inl ((xZ X).1, 8, .inl (fun _ => 0))), (q3, .inl ((xZ X).2.2.2.1, 6, .inr (.inr (.inr (.inr (va_up (va_up (va_up (va_up (va_up (va_up (fun _ => none) 0 (some q1)) 1 (some q12)) 2 (some q14)) 3 (some q16)) 4 (some q18)) 5 (some q20))))))), (q4, .inl ((xZ X).1, 200, .inl (fun _ => 0))), (q5, .inl ((xZ X).1, 200, .inl (fun _ => 0))), (q6, .inl ((xZ X).1, 200, .inl (fun _ => 0))), (q7, .inl ((xZ X).1, 200, .inl (fun _ => 0))), (q8, .inl ((xZ X).1, 200, .inl (fun _ => 0))), (q9, .inl ((xZ X).1, 366, .inl (fun _ => 0))), (q10, .inl ((xZ X).1, 366, .inl (fun _ => 0))), (q11, .inl ((xZ X).1, 61, .inl (fun _ => 0))), (q12, .inr (1, [.int 1, .ref (as13 1), .int 0, .int 1, .int 0, .int 160])), ((as13 1), .inl ((xZ X).1, 8, .inl (fun _ => 0))), (q14, .inr (1, [.int 2, .ref (as15 1), .int 0, .int 1, .int 0, .int 160])), ((as15 1), .inl ((xZ X).1, 8, .inl (fun _ => 0))), (q16, .inr (1, [.int 3, .ref (as17 1), .int 0, .int 1, .int 0, .int 160])), ((as17 1), .inl ((xZ X).1, 8, .inl (fun _ => 0))), (q18, .inr (1, [.int 4, .ref (as19 1), .int 0, .int 1, .int 0, .int 160])), ((as19 1), .inl ((xZ X).1, 8, .inl (fun _ => 0))), (q20, .inr (1, [.int 5, .ref (as21 1), .int 0, .int 1, .int 0, .int 160])), ((as21 1), .inl ((xZ X).1, 8, .inl (fun _ => 0)))]) rfl rfl (by decide) rfl dX4_init_161 ?_
  refine JN.iinc (v := 6) (lv' := [some (.ref h0), some (.ref hs), some (.int 6)]) dX4_init_162 rfl (by decide) rfl rfl rfl ?_
  refine JN.goto 142 dX4_init_165 rfl ?_
  refine JN.iloadn dX4_init_142 rfl ?_
  refine JN.bip 6 dX4_init_143 (by decide) ?_
  refine JN.geT dX4_init_145 168 rfl (by decide) ?_
  exact JN.vret (fun k => ([0, q3, q1, q12, q14, q16, q18, q20, (as2 1), (as13 1), (as15 1), (as17 1), (as19 1), (as21 1), q4, q5, q6, q7, q8, q9, q10, q11] : List Nat).getD k 0) [0, 3, 1, 12, 14, 16, 18, 20, 2, 13, 15, 17, 19, 21, 4, 5, 6, 7, 8, 9, 10, 11] rfl (by decide) rfl (Nat.le_of_ble_eq_true rfl) (Nat.le_of_ble_eq_true rfl) rfl dX4_init_168
theorem K_Run : Ki yX4_init M_Run 1 := ⟨rfl, k1_106, k1_5, k1_107, by decide +kernel⟩
