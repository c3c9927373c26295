/-! THE LAW'S BEGINNING: both constructors, then the loop -/
def neg6 : Nat → Int32 := upd (upd (upd (upd (upd (upd (fun _ => 0) 0 (-1)) 1 (-1)) 2 (-1)) 3 (-1)) 4 (-1)) 5 (-1)
def one6 : Nat → Int32 := upd (upd (upd (upd (upd (upd (fun _ => 0) 0 1) 1 1) 2 1) 3 1) 4 1) 5 1
def isSite (c : Nat) : Bool := (decide (16 ≤ c) && decide (c < 22)) || (decide (38 ≤ c) && decide (c < 44))
/-- the class as it is made -/
def σ0 : CS := (fun c k => if c = 0 then (if k = 6 then -1 else 0) else if (c == 3 || c == 6 || c == 10) = true then ([3, 2, 4, 0, 62, 0, 0, 0, 1] : List Int32).getD k 0 else if c = 9 then (if k = 1 then -1 else 0) else if isSite c = true then (if k = 5 then 160 else 0) else 0,
  fun c k => isSite c && (k == 3), fun _ _ => 0, fun c => if (c == 4 || c == 5 || c == 7 || c == 8 || c == 11 || c == 12) = true then neg6 else fun _ => 0, fun _ _ => 0)
/-- the reference as it is made -/
def τ0 : MS := (fun k => if k = 5 then 3 else if k = 6 then 2 else if k = 7 then 4 else if k = 9 then 1 else if k = 36 then -1 else 0, fun k => k == 9, fun k => if k = 1 then one6 else if k = 3 then neg6 else fun _ => 0, fun _ => 0)
def adCf (q : Nat) (as : Nat → Nat) (c : Nat) : Nat := if c = 0 then q else as c
def adMf (q : Nat) (as : Nat → Nat) (c : Nat) : Nat := if c = 0 then q else as (if c ≤ 5 then c else if c ≤ 21 then c - 5 else if c ≤ 35 then c - 9 else 27)
theorem rowH_eq {q : Nat} {as : Nat → Nat} : va_up (va_up (va_up (va_up (va_up (va_up (va_up (va_up (fun _ => none) 0 (some (as 58))) 1 (some (as 59))) 2 (some (as 60))) 3 (some (as 61))) 4 (some (as 62))) 5 (some (as 63))) 6 (some (as 64))) 7 (some (as 65)) = rowH (adCf q as) := by
  funext j
  match j with
  | 0 => rfl
  | 1 => rfl
  | 2 => rfl
  | 3 => rfl
  | 4 => rfl
  | 5 => rfl
  | 6 => rfl
  | 7 => rfl
  | n + 8 => simp [va_up, rowH]
theorem rowT_eq {b q : Nat} {as : Nat → Nat} (hb : 0 < b) : va_up (va_up (va_up (va_up (va_up (va_up (fun _ => none) 0 (some (as (b + 2)))) 1 (some (as (b + 3)))) 2 (some (as (b + 4)))) 3 (some (as (b + 5)))) 4 (some (as (b + 6)))) 5 (some (as (b + 7))) = rowT (adCf q as) b := by
  funext j
  match j with
  | 0 => simp [va_up, rowT, adCf]
  | 1 => simp [va_up, rowT, adCf]
  | 2 => simp [va_up, rowT, adCf]
  | 3 => simp [va_up, rowT, adCf]
  | 4 => simp [va_up, rowT, adCf]
  | 5 => simp [va_up, rowT, adCf]
  | n + 6 => simp [va_up, rowT]
set_option maxRecDepth 100000 in
theorem w_New_eq {q : Nat} {Z : ZT} {as : Nat → Nat} : w_New q Z as = wsC (adCf q as) Z σ0 := by
  unfold w_New
  rw [rowH_eq (q := q), rowT_eq (b := 14) (q := q) (by decide), rowT_eq (b := 36) (q := q) (by decide)]
  rfl
set_option maxRecDepth 100000 in
theorem w_NewM_eq {q : Nat} {Z : ZT} {as : Nat → Nat} : w_NewM q Z as = wsM (adMf q as) Z τ0 := rfl
theorem rg_app {w1 w2 : va_W} {n : Nat} (hn : w1.length = n) : (List.range n).map (fun i => (w1 ++ w2)[i]?) = w1.map some := by
  subst hn
  apply List.ext_getElem?
  intro i
  by_cases h : i < w1.length
  · rw [List.getElem?_map, List.getElem?_range h, Option.map_some, List.getElem?_map, List.getElem?_append_left h, List.getElem?_eq_getElem h, Option.map_some]
  · rw [List.getElem?_eq_none (by simp; omega), List.getElem?_eq_none (by simp; omega)]
theorem wsC_len {ad : Nat → Nat} {Z : ZT} {σ : CS} : (wsC ad Z σ).length = 74 := by unfold wsC; simp
theorem at_app {w1 : va_W} {x : Nat × va_E} {n : Nat} (hn : w1.length = n) : (w1 ++ [x])[n]? = some x := by
  subst hn; simp
theorem law_begin {X : JX} {nC nS : Nat} {Q : State → Prop} {b L : Nat} {sc : Nat → Int32} {Rel : CS → MS → Prop} (hS : SX X b L sc) (hL : L ≤ 3072) (h0 : Rel σ0 τ0) (H : Steps Rel) (hnC : 102 ≤ nC) (hnS : 8940 ≤ nS)
    (hend : ∀ (adC adM : Nat → Nat) (x3 : Int32) (σ : CS) (τ : MS), JN X M_law nC nS Q 102 8940 1188 [some (.ref b), some (.ref (adC 0)), some (.ref (adM 0)), some (.int x3)] [] (wsC adC (xZ X) σ ++ wsM adM (xZ X) τ)) :
    JN X M_law nC nS Q 0 0 0 [some (.ref b), none, none, none] [] [] := by
  refine JN.new (ci := 6) (C := RX9) (T := TX9) (N := 13) (fs := [.null, .null, .null, .null, .int 0, .null, .int 0, .null, .int 0, .null, .int 0, .long 0, .long 0]) tyX9 tyX9_ok inT9 k1_21 k1_22 k1_1 rfl rfl (by omega) (by omega) dL_law_0 (fun q1 => ?_)
  refine JN.dup dL_law_3 rfl ?_
  refine JN.callI (y := yX9_init) (M' := M_New) (As := []) (b0 := q1) (rest := [.ref q1]) [] [0] [] (N_New q1) K_New k1_23 rfl rfl rfl rfl rfl rfl (fun i hi => by cases hi) rfl rfl rfl (Nat.le_of_ble_eq_true rfl) (by omega) (by omega) dL_law_4 (fun as1 => ?_)
  rw [show ([] : va_W) ++ w_New q1 (xZ X) as1 = wsC (adCf q1 as1) (xZ X) σ0 from w_New_eq]
  refine JN.astoren (lv' := [some (.ref b), some (.ref q1), none, none]) dL_law_7 rfl rfl rfl ?_
  refine JN.new (ci := 7) (C := RX10) (T := TX10) (N := 43) (fs := [.null, .null, .null, .null, .null, .int 0, .int 0, .int 0, .int 0, .int 0, .null, .null, .null, .null, .null, .null, .null, .null, .null, .null, .null, .int 0, .int 0, .int 0, .int 0, .null, .null, .null, .null, .null, .null, .null, .null, .null, .null, .int 0, .int 0, .int 0, .int 0, .null, .int 0, .int 0, .int 0]) tyX10 tyX10_ok inT10 k4_231 k4_232 k1_10 rfl rfl (by omega) (by omega) dL_law_8 (fun q3 => ?_)
  refine JN.dup dL_law_11 rfl ?_
  refine JN.callI (y := yX10_init) (M' := M_NewM) (As := []) (b0 := q3) (rest := [.ref q3]) (wsC (adCf q1 as1) (xZ X) σ0) [74] (List.range 74) (N_NewM q3) K_NewM k4_233 rfl (by rw [List.map_singleton, at_app wsC_len]; rfl) (by rw [List.filterMap_cons, at_app wsC_len]; rfl) rfl (rg_app wsC_len) (by decide +kernel) (fun i hi => by rw [List.mem_range] at hi; rw [List.mem_singleton]; omega) rfl rfl rfl (Nat.le_of_ble_eq_true rfl) (by omega) (by omega) dL_law_12 (fun as2 => ?_)
  rw [w_NewM_eq]
  refine JN.astoren (lv' := [some (.ref b), some (.ref q1), some (.ref q3), none]) dL_law_15 rfl rfl rfl ?_
  refine JN.ic 0 dL_law_16 (by decide) ?_
  refine JN.istoren (lv' := [some (.ref b), some (.ref q1), some (.ref q3), some (.int (nI 0))]) dL_law_17 rfl rfl rfl ?_
  exact law_loop (adC := adCf q1 as1) (adM := adMf q3 as2) hnC hnS hS hL H (hend _ _) 513 0 σ0 τ0 h0 (by omega) (by omega)
