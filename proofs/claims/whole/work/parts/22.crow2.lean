section CD
variable {α : Type} {X : JX} {M M' M0 M1 : JM} {Qf : α → State → Prop} {pc n index b j : Nat} {lv : List (Option Value)} {st rest As : List Value} {ad : Nat → Nat} {σ : CS} {y y0 y1 x : MethodName} {owner : String} {o : Option α}
/-- a site's own method, inherited by both kinds -/
theorem JO.ctv {o' : Option (Unit × CS)} {kk : Unit × CS → Option α} (hc : CO y M' eV (xZ X) (wC ad (xZ X)) (.ref (ad (b + 2 + j)) :: As) (wsC ad (xZ X) σ) o') (hb : isR b) (hj : j < 6) (K0 : Ku RX1 owner x y M' n) (K1 : Ku RX3 owner x y M' n) (hdecl : OKX X M → va_Decl (xs X) ⟨owner, x.name, x.desc⟩) (w1 : Cond.methodLink M.2.2.1 index x ∈ TT) (hn : As.length = n) (hst : st = As.reverse ++ .ref (ad (b + 2 + j)) :: rest) (hroom : roomOk M M' = true) (hcat : (rest.map fun v => v.category).sum ≤ 8) (d : decode M.1 pc = .ok (.invokevirtual index, 3)) (k : ∀ b : Unit × CS, JO X M Qf (pc + 3) lv rest (wsC ad (xZ X) b.2) (kk b)) : JO X M Qf pc lv st (wsC ad (xZ X) σ) (o'.bind kk) := by
  rcases Nat.eq_zero_or_pos j with rfl | h0
  · exact JO.cuv hc (rcvT0 hb) K0 hdecl w1 hn hst hroom hcat d k
  · exact JO.cuv hc (rcvT hb h0 hj) K1 hdecl w1 hn hst hroom hcat d k
theorem JO.ctz {o' : Option (Bool × CS)} {kk : Bool × CS → Option α} (hc : CO y M' eZ (xZ X) (wC ad (xZ X)) (.ref (ad (b + 2 + j)) :: As) (wsC ad (xZ X) σ) o') (hb : isR b) (hj : j < 6) (K0 : Ku RX1 owner x y M' n) (K1 : Ku RX3 owner x y M' n) (hdecl : OKX X M → va_Decl (xs X) ⟨owner, x.name, x.desc⟩) (w1 : Cond.methodLink M.2.2.1 index x ∈ TT) (hn : As.length = n) (hst : st = As.reverse ++ .ref (ad (b + 2 + j)) :: rest) (hroom : roomOk M M' = true) (hcat : (rest.map fun v => v.category).sum ≤ 8) (d : decode M.1 pc = .ok (.invokevirtual index, 3)) (k : ∀ b : Bool × CS, JO X M Qf (pc + 3) lv (.int (bI b.1) :: rest) (wsC ad (xZ X) b.2) (kk b)) : JO X M Qf pc lv st (wsC ad (xZ X) σ) (o'.bind kk) := by
  rcases Nat.eq_zero_or_pos j with rfl | h0
  · exact JO.cuz hc (rcvT0 hb) K0 hdecl w1 hn hst hroom hcat d k
  · exact JO.cuz hc (rcvT hb h0 hj) K1 hdecl w1 hn hst hroom hcat d k
/-- a method that each kind has of its own -/
theorem JO.cdv {o0 o1 : Option (Unit × CS)} {kk : Unit × CS → Option α} (hc0 : CO y0 M0 eV (xZ X) (wC ad (xZ X)) (.ref (ad (b + 2)) :: As) (wsC ad (xZ X) σ) o0) (hc1 : 0 < j → CO y1 M1 eV (xZ X) (wC ad (xZ X)) (.ref (ad (b + 2 + j)) :: As) (wsC ad (xZ X) σ) o1) (hb : isR b) (hj : j < 6) (K0 : Ku RX1 owner x y0 M0 n) (K1 : Ku RX3 owner x y1 M1 n) (hdecl : OKX X M → va_Decl (xs X) ⟨owner, x.name, x.desc⟩) (w1 : Cond.methodLink M.2.2.1 index x ∈ TT) (hn : As.length = n) (hst : st = As.reverse ++ .ref (ad (b + 2 + j)) :: rest) (hroom : (roomOk M M0 && roomOk M M1) = true) (hcat : (rest.map fun v => v.category).sum ≤ 8) (d : decode M.1 pc = .ok (.invokevirtual index, 3)) (k : ∀ b : Unit × CS, JO X M Qf (pc + 3) lv rest (wsC ad (xZ X) b.2) (kk b)) : JO X M Qf pc lv st (wsC ad (xZ X) σ) ((if j = 0 then o0 else o1).bind kk) := by
  rw [Bool.and_eq_true] at hroom
  rcases Nat.eq_zero_or_pos j with rfl | h0
  · rw [if_pos rfl]; exact JO.cuv hc0 (rcvT0 hb) K0 hdecl w1 hn hst hroom.1 hcat d k
  · rw [if_neg (by omega)]; exact JO.cuv (hc1 h0) (rcvT hb h0 hj) K1 hdecl w1 hn hst hroom.2 hcat d k
theorem decl_rec (ok : OKX X M) : va_Decl (xs X) yRec := va_Decl.abs ok.nw.2.2.2.2.1
theorem decl_rcv (ok : OKX X M) : va_Decl (xs X) yRcv := va_Decl.abs ok.nw.2.2.2.2.2.1
theorem decl_tmo (ok : OKX X M) : va_Decl (xs X) yTmo := va_Decl.abs ok.nw.2.2.2.2.2.2.1
theorem cw_it {Z : ZT} {A : Nat → Prop} {U : State} {H : Heap} (h : CWh Z A U H) {i : Nat} (hi : i < 11) : ∀ q ∈ itemInts, va_OF q.1 q.2.1 q.2.2.1 (.int (q.2.2.2.getD i 0)) (kz Z 1 i) A U H := (h.2.1.1 i hi).2.2
theorem cw_ord {Z : ZT} {A : Nat → Prop} {U : State} {H : Heap} {i : Nat} (hi : i < 11) (h : CWh Z A U H) : va_OF "java/lang/Enum" "ordinal" "I" (.int ([0, 1, 2, 3, 4, 5, 6, 7, 8, 9, 10].getD i 0)) (kz Z 1 i) A U H := cw_it h hi _ (List.mem_of_getElem? (i := 0) rfl)
theorem cw_num {Z : ZT} {A : Nat → Prop} {U : State} {H : Heap} {i : Nat} (hi : i < 11) (h : CWh Z A U H) : va_OF "CommitPrefixes$Item" "numbers" "I" (.int (itemNum.getD i 0)) (kz Z 1 i) A U H := cw_it h hi _ (List.mem_of_getElem? (i := 1) rfl)
theorem cw_low {Z : ZT} {A : Nat → Prop} {U : State} {H : Heap} {i : Nat} (hi : i < 11) (h : CWh Z A U H) : va_OF "CommitPrefixes$Item" "low" "I" (.int (itemLow.getD i 0)) (kz Z 1 i) A U H := cw_it h hi _ (List.mem_of_getElem? (i := 2) rfl)
theorem cw_high {Z : ZT} {A : Nat → Prop} {U : State} {H : Heap} {i : Nat} (hi : i < 11) (h : CWh Z A U H) : va_OF "CommitPrefixes$Item" "high" "I" (.int (itemHigh.getD i 0)) (kz Z 1 i) A U H := cw_it h hi _ (List.mem_of_getElem? (i := 3) rfl)
theorem cw_let {Z : ZT} {A : Nat → Prop} {U : State} {H : Heap} {i : Nat} (hi : i < 11) (h : CWh Z A U H) : va_OF "CommitPrefixes$Item" "letters" "Ljava/lang/String;" (.ref (kz Z 4 i)) (kz Z 1 i) A U H := h.2.2.1 i hi
theorem cw_cod {Z : ZT} {A : Nat → Prop} {U : State} {H : Heap} {i : Nat} (hi : i < 11) (h : CWh Z A U H) : va_OF "java/lang/String" "coder" "B" (.int 0) (kz Z 4 i) A U H := (h.2.2.2.2.2.1.1 i hi).2.1
theorem cw_val {Z : ZT} {A : Nat → Prop} {U : State} {H : Heap} {i : Nat} (hi : i < 11) (h : CWh Z A U H) : va_OF "java/lang/String" "value" "[B" (.ref (kz Z 5 i)) (kz Z 4 i) A U H := (h.2.2.2.2.2.1.1 i hi).2.2.1
theorem cw_byt {Z : ZT} {A : Nat → Prop} {U : State} {H : Heap} {i : Nat} (hi : i < 11) (h : CWh Z A U H) : va_T .byte (kz Z 5 i) (itemLens.getD i 0) (fun j => .int ((itemBytes.getD i []).getD j 0)) A U H := (h.2.2.2.2.2.1.1 i hi).2.2.2
theorem JO.getsI (hM : M.2.2.1 = RX8) (d : decode M.1 pc = .ok (.getstatic 71, 3)) (k : JO X M Qf (pc + 3) lv (.ref (kz (xZ X) 2 0) :: st) (wsC ad (xZ X) σ) o) : JO X M Qf pc lv st (wsC ad (xZ X) σ) o :=
  fun a h ok ls H locs hl hP hD hS => va_getsN (C := "CommitPrefixes") (n := "ITEMS") (d := "[LCommitPrefixes$Item;") (ref := "CommitPrefixes") (host := "CommitPrefixes") (own := RX8) ok.1 ok.2.1 ok.cw.2.2.2.1.1 hS (by rw [← hM]; exact ok.2.2.2.1) (va_Nw.use rfl ok.nw.1) (fun _ q => q) d (k a h ok ls H locs hl hP hD hS)
theorem JO.i2c {x : Int32} {ws : va_W} (d : decode M.1 pc = .ok (.i2c, 1)) (k : JO X M Qf (pc + 1) lv (.int (x.toUInt32 % 65536).toInt32 :: st) ws o) : JO X M Qf pc lv (.int x :: st) ws o :=
  fun a h ok ls H locs hl hP hD hS => lv_i2c ok.1 ok.2.1 d rfl (k a h ok ls H locs hl hP hD hS)
end CD
theorem JO.nret {α : Type} {X : JX} {M : JM} {pc : Nat} {lv : List (Option Value)} {ws : va_W} {enc : α → Option Value} {wo : α → va_W} {a : α} {v : Int32} {ty : FieldType} (d : decode M.1 pc = .ok (.ireturn, 1)) (hr : M.2.2.2.1 = some ty) (hn : narrow ty (.int v) = .int v) (he : enc a = some (.int v)) (hw : wo a = ws) : JO X M (QF X enc wo) pc lv [.int v] ws (some a) := by
  intro a' h ok ls H locs hl hP hD hS
  cases h
  exact W.zret ok.1 ok.2.1 (ok.2.2.2.2.1.trans hr) hn (fun t ht hW => ⟨⟨by rw [he], by rw [ht, hw]; exact hP, va_K.moved hW.alike ok.hK⟩, hS.F ht⟩) hS.2.2 d (hlocks := ok.2.2.2.2.2.2.2.2.1)
theorem JO.tqI {α : Type} {X : JX} {M : JM} {Qf : α → State → Prop} {pc : Nat} {lv : List (Option Value)} {st : List Value} {ws : va_W} {o : Option α} {i : Int32} (d : decode M.1 pc = .ok (.aaload, 1)) (k : ix i < 11 → JO X M Qf (pc + 1) lv (.ref (kz (xZ X) 1 (ix i)) :: st) ws o) : JO X M Qf pc lv (.int i :: .ref (kz (xZ X) 2 0) :: st) ws (if inB i 11 = true then o else none) := by
  by_cases hi : inB i 11 = true
  · exact JO.tq (f := kz (xZ X) 1) (fun h => h.2.2.2.1.2) d (k (inB_lt hi))
  · rw [if_neg hi]; exact JO.nil
theorem JO.gif {α : Type} {X : JX} {M : JM} {Qf : α → State → Prop} {pc : Nat} {lv : List (Option Value)} {st : List Value} {ws : va_W} {o : Option α} {c : Prop} {hc : Decidable c} (k : c → JO X M Qf pc lv st ws o) : JO X M Qf pc lv st ws (if c then o else none) := by
  by_cases h : c
  · rw [if_pos h]; exact k h
  · rw [if_neg h]; exact JO.nil
def chOk (v : Int32) : Bool := decide ((v.toUInt32 % 65536).toInt32 = v)
theorem chOk_n {v : Int32} (h : chOk v = true) : narrow .char (.int v) = .int v := by
  have e : (v.toUInt32 % 65536).toInt32 = v := of_decide_eq_true h
  have := pk_nc v
  rw [e] at this
  exact this
