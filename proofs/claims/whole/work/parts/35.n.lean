/-! CONSTRUCTORS: the judgement with cells that are made. JN: from here, with kc cells and ks slots made, the method comes to Q; MC, MS: the most that it makes -/
def OKN (X : JX) (M : JM) (MC MS : Nat) : Prop := OKX X M ∧ MC ≤ (xR X).cells ∧ MS ≤ (xR X).slots
def JN (X : JX) (M : JM) (MC MS : Nat) (Q : State → Prop) (kc ks pc : Nat) (lv : List (Option Value)) (st : List Value) (ws : va_W) : Prop :=
  OKN X M MC MS → ∀ (ls : Array Slot) (H : Heap) (locs : List Loc), lvD ls M.2.1 lv → va_P (xD X) vwCl ws H → va_D (xA X) ws → va_S (xA X) (xs X).heap H locs →
    W (xp X) (xl X) (xe X) (xR X) (xs X) (xm X) (xargs X) (xbelow X) (xmeth X) (xc X) H locs kc ks Q (F0 (xm X) pc ls st)
section JNR
variable {X : JX} {M : JM} {MC MS : Nat} {Q : State → Prop} {kc ks pc : Nat} {lv : List (Option Value)} {st : List Value} {ws : va_W}
theorem JN.ic {n : Int} (v : Int32) (d : decode M.1 pc = .ok (.iconst n, 1)) (hv : Int32.ofInt n = v) (k : JN X M MC MS Q kc ks (pc + 1) lv (.int v :: st) ws) : JN X M MC MS Q kc ks pc lv st ws :=
  fun ok ls H locs hl hP hD hS => lv_iconst ok.1.1 ok.1.2.1 d hv (k ok ls H locs hl hP hD hS)
theorem JN.bip {n : Int} (v : Int32) (d : decode M.1 pc = .ok (.bipush n, 2)) (hv : (Int8.ofInt n).toInt32 = v) (k : JN X M MC MS Q kc ks (pc + 2) lv (.int v :: st) ws) : JN X M MC MS Q kc ks pc lv st ws :=
  fun ok ls H locs hl hP hD hS => lv_bipush ok.1.1 ok.1.2.1 d hv (k ok ls H locs hl hP hD hS)
theorem JN.sip {n : Int} (v : Int32) (d : decode M.1 pc = .ok (.sipush n, 3)) (hv : (Int16.ofInt n).toInt32 = v) (k : JN X M MC MS Q kc ks (pc + 3) lv (.int v :: st) ws) : JN X M MC MS Q kc ks pc lv st ws :=
  fun ok ls H locs hl hP hD hS => lv_sipush ok.1.1 ok.1.2.1 d hv (k ok ls H locs hl hP hD hS)
theorem JN.lc {n : Fin 2} (v : Int64) (d : decode M.1 pc = .ok (.lconst n, 1)) (hv : Int64.ofNat (n : Nat) = v) (k : JN X M MC MS Q kc ks (pc + 1) lv (.long v :: st) ws) : JN X M MC MS Q kc ks pc lv st ws :=
  fun ok ls H locs hl hP hD hS => lv_lconst ok.1.1 ok.1.2.1 d hv (k ok ls H locs hl hP hD hS)
theorem JN.iloadn {i : Fin 4} {x : Int32} (d : decode M.1 pc = .ok (.iload_n i, 1)) (hx : lv[(i : Nat)]? = some (some (.int x))) (k : JN X M MC MS Q kc ks (pc + 1) lv (.int x :: st) ws) : JN X M MC MS Q kc ks pc lv st ws :=
  fun ok ls H locs hl hP hD hS => lv_iload_n ok.1.1 ok.1.2.1 d rfl (hl.2.2 _ _ hx) (k ok ls H locs hl hP hD hS)
theorem JN.aloadn {i : Fin 4} {x : Nat} (d : decode M.1 pc = .ok (.aload_n i, 1)) (hx : lv[(i : Nat)]? = some (some (.ref x))) (k : JN X M MC MS Q kc ks (pc + 1) lv (.ref x :: st) ws) : JN X M MC MS Q kc ks pc lv st ws :=
  fun ok ls H locs hl hP hD hS => lv_aload_n ok.1.1 ok.1.2.1 d rfl (hl.2.2 _ _ hx) (k ok ls H locs hl hP hD hS)
theorem JN.istoren {i : Fin 4} {x : Int32} {lv' : List (Option Value)} (d : decode M.1 pc = .ok (.istore_n i, 1)) (hi : decide ((i : Nat) < M.2.1) = true) (hk : lvOk lv i = true) (hw : lv.set i (some (.int x)) = lv') (k : JN X M MC MS Q kc ks (pc + 1) lv' st ws) : JN X M MC MS Q kc ks pc lv (.int x :: st) ws :=
  fun ok ls H locs hl hP hD hS => lv_istore_n ok.1.1 ok.1.2.1 d rfl hl.has (of_decide_eq_true hi) rfl (fun ls' hl' => k ok ls' H locs (hw ▸ lvD.set1 hk hl') hP hD hS)
theorem JN.iinc {i : Nat} {n : Int} {x v : Int32} {lv' : List (Option Value)} (d : decode M.1 pc = .ok (.iinc i n, 3)) (hx : lv[i]? = some (some (.int x))) (hv : x + Int32.ofInt n = v) (hi : decide (i < M.2.1) = true) (hk : lvOk lv i = true) (hw : lv.set i (some (.int v)) = lv') (k : JN X M MC MS Q kc ks (pc + 3) lv' st ws) : JN X M MC MS Q kc ks pc lv st ws :=
  fun ok ls H locs hl hP hD hS => by
    obtain ⟨j, hj⟩ := List.getElem?_of_mem ((lvP_mem (lv := lv) (q := (i, .int x))).mpr hx)
    exact lv_iinc ok.1.1 ok.1.2.1 d hl.has hj hv (of_decide_eq_true hi) rfl (fun ls' hl' => k ok ls' H locs (hw ▸ lvD.set1 hk hl') hP hD hS)
theorem JN.dup {va : Value} (d : decode M.1 pc = .ok (.dup, 1)) (hva : va.category = 1) (k : JN X M MC MS Q kc ks (pc + 1) lv (va :: va :: st) ws) : JN X M MC MS Q kc ks pc lv (va :: st) ws :=
  fun ok ls H locs hl hP hD hS => lv_dup ok.1.1 ok.1.2.1 d hva (k ok ls H locs hl hP hD hS)
theorem JN.goto {off : Int} (tgt : Nat) (d : decode M.1 pc = .ok (.goto off, 3)) (ht : (pc : Int) + off = (tgt : Int)) (k : JN X M MC MS Q kc ks tgt lv st ws) : JN X M MC MS Q kc ks pc lv st ws :=
  fun ok ls H locs hl hP hD hS => lv_goto ok.1.1 ok.1.2.1 d ht (k ok ls H locs hl hP hD hS)
/-- a comparison of numbers that are known: not greater or equal, greater or equal -/
theorem JN.geF {x y : Int32} {off : Int} (d : decode M.1 pc = .ok (.if_icmp .ge off, 3)) (tgt : Nat) (ht : (pc : Int) + off = (tgt : Int)) (hc : ¬ y ≤ x) (k : JN X M MC MS Q kc ks (pc + 3) lv st ws) : JN X M MC MS Q kc ks pc lv (.int y :: .int x :: st) ws :=
  fun ok ls H locs hl hP hD hS => lv_icmp_ge ok.1.1 ok.1.2.1 d ht (fun c => absurd c hc) (fun _ => k ok ls H locs hl hP hD hS)
theorem JN.geT {x y : Int32} {off : Int} (d : decode M.1 pc = .ok (.if_icmp .ge off, 3)) (tgt : Nat) (ht : (pc : Int) + off = (tgt : Int)) (hc : y ≤ x) (k : JN X M MC MS Q kc ks tgt lv st ws) : JN X M MC MS Q kc ks pc lv (.int y :: .int x :: st) ws :=
  fun ok ls H locs hl hP hD hS => lv_icmp_ge ok.1.1 ok.1.2.1 d ht (fun _ => k ok ls H locs hl hP hD hS) (fun c => absurd hc c)
theorem JN.get {q0 ci N index b : Nat} {fs : List Value} {C ref : String} {T : u_T} {v : Value} (hc : vwCl[ci]? = some (C, T, N)) (hin : ∀ w ∈ u_ws C T N, w ∈ TT) (he : ws[q0]? = some (b, .inr (ci, fs))) (k : Nat) (hk : decide (k < N) = true) (w : Cond.fieldLink M.2.2.1 index ref (T k).2.1 (T k).2.2.1 ∈ TT) (hs : (T k).1 = ref) (hv : fs[k]? = some v) (d : decode M.1 pc = .ok (.getfield index, 3)) (kk : JN X M MC MS Q kc ks (pc + 3) lv (v :: st) ws) : JN X M MC MS Q kc ks pc lv (.ref b :: st) ws :=
  fun ok ls H locs hl hP hD hS => va_get ok.1.1 ok.1.2.1 ok.1.hts hin ok.1.2.2.2.1 ok.1.hK hP q0 he hc k (of_decide_eq_true hk) (ok.1.hts _ w) (fun x q => by rw [← hs]; exact q) hv d (kk ok ls H locs hl hP hD hS)
theorem JN.put {q0 ci N index b : Nat} {fs : List Value} {C ref : String} {T : u_T} {v : Value} {ws' : va_W} {ty : FieldType} (tys : Nat → FieldType) (hty : ∀ k, k < N → parseFieldDescriptor (T k).2.2.1 = some (tys k)) (hnm : ∀ a, a < N → ∀ b, b < N → a ≠ b → (T a).2.1 ≠ (T b).2.1) (hc : vwCl[ci]? = some (C, T, N)) (hin : ∀ w ∈ u_ws C T N, w ∈ TT) (he : ws[q0]? = some (b, .inr (ci, fs))) (k : Nat) (hk : decide (k < N) = true) (w : Cond.fieldLink M.2.2.1 index ref (T k).2.1 (T k).2.2.1 ∈ TT) (hs : (T k).1 = ref) (hf : (T k).2.2.2 = false) (hd : parseFieldDescriptor (T k).2.2.1 = some ty) (hn : narrow ty v = v) (hfit : fits ty v = true) (hl2 : k < fs.length) (hw : ws.set q0 (b, .inr (ci, fs.set k v)) = ws') (d : decode M.1 pc = .ok (.putfield index, 3)) (kk : JN X M MC MS Q kc ks (pc + 3) lv st ws') : JN X M MC MS Q kc ks pc lv (v :: .ref b :: st) ws :=
  fun ok ls H locs hl hP hD hS => va_put ok.1.1 ok.1.2.1 ok.1.hts hin tys hty hnm ok.1.2.2.2.1 ok.1.hK hP hD hS q0 he hc k (of_decide_eq_true hk) (ok.1.hts _ w) (fun x q => by rw [← hs]; exact q) hf hd hn hfit hl2 d (fun H1 locs1 hP1 hD1 hS1 => kk ok ls H1 locs1 hl (hw ▸ hP1) (hw ▸ hD1) hS1)
/-- a final field, in its own class's constructor -/
theorem JN.putF {q0 ci N index b : Nat} {fs : List Value} {C ref : String} {T : u_T} {v : Value} {ws' : va_W} {ty : FieldType} (hm : OKX X M → (xmeth X).name = "<init>") (tys : Nat → FieldType) (hty : ∀ k, k < N → parseFieldDescriptor (T k).2.2.1 = some (tys k)) (hnm : ∀ a, a < N → ∀ b, b < N → a ≠ b → (T a).2.1 ≠ (T b).2.1) (hc : vwCl[ci]? = some (C, T, N)) (hin : ∀ w ∈ u_ws C T N, w ∈ TT) (he : ws[q0]? = some (b, .inr (ci, fs))) (k : Nat) (hk : decide (k < N) = true) (w : Cond.fieldLink M.2.2.1 index ref (T k).2.1 (T k).2.2.1 ∈ TT) (hs : (T k).1 = ref) (hf : (T k).2.2.2 = true) (hdecl : (T k).1 = M.2.2.1) (hd : parseFieldDescriptor (T k).2.2.1 = some ty) (hn : narrow ty v = v) (hfit : fits ty v = true) (hl2 : k < fs.length) (hw : ws.set q0 (b, .inr (ci, fs.set k v)) = ws') (d : decode M.1 pc = .ok (.putfield index, 3)) (kk : JN X M MC MS Q kc ks (pc + 3) lv st ws') : JN X M MC MS Q kc ks pc lv (v :: .ref b :: st) ws :=
  fun ok ls H locs hl hP hD hS => va_putF ok.1.1 ok.1.2.1 ok.1.hts hin tys hty hnm ok.1.2.2.2.1 ok.1.hK hP hD hS q0 he hc k (of_decide_eq_true hk) (ok.1.hts _ w) (fun x q => by rw [← hs]; exact q) hf (hm ok.1) hdecl hd hn hfit hl2 d (fun H1 locs1 hP1 hD1 hS1 => kk ok ls H1 locs1 hl (hw ▸ hP1) (hw ▸ hD1) hS1)
theorem JN.iast {q0 n b : Nat} {f : Nat → Int32} {i x : Int32} {ws' : va_W} (he : ws[q0]? = some (b, .inl ((xZ X).1, n, .inl f))) (hi : inB i n = true) (hw : ws.set q0 (b, .inl ((xZ X).1, n, .inl (upd f (ix i) x))) = ws') (d : decode M.1 pc = .ok (.iastore, 1)) (kk : JN X M MC MS Q kc ks (pc + 1) lv st ws') : JN X M MC MS Q kc ks pc lv (.int x :: .int i :: .ref b :: st) ws :=
  fun ok ls H locs hl hP hD hS => va_iast ok.1.1 ok.1.2.1 ok.1.hK hP hD hS q0 0 he rfl (inB_in hi) d (fun H1 locs1 hP1 hD1 hS1 => kk ok ls H1 locs1 hl (hw ▸ hP1) (hw ▸ hD1) hS1)
theorem JN.aastH {q0 qk n b v : Nat} {vs : List Value} {f : Nat → Option Nat} {i : Int32} {ws' : va_W} (he : ws[q0]? = some (b, .inl ((xZ X).2.2.1, n, .inr (.inr (.inr (.inr f)))))) (hv : ws[qk]? = some (v, .inr (4, vs))) (hi : inB i n = true) (hw : ws.set q0 (b, .inl ((xZ X).2.2.1, n, .inr (.inr (.inr (.inr (va_up f (ix i) (some v))))))) = ws') (d : decode M.1 pc = .ok (.aastore, 1)) (kk : JN X M MC MS Q kc ks (pc + 1) lv st ws') : JN X M MC MS Q kc ks pc lv (.ref v :: .int i :: .ref b :: st) ws :=
  fun ok ls H locs hl hP hD hS => va_astq (r := (RX6, TX6, 8)) ok.1.1 ok.1.2.1 ok.1.hK hP hD hS q0 2 qk 4 he rfl hv rfl (inB_in hi) d (fun H1 locs1 hP1 hD1 hS1 => kk ok ls H1 locs1 hl (hw ▸ hP1) (hw ▸ hD1) hS1)
theorem asgC (ok : OKX X M) : ∀ comp c0 : ClassId, (xs X).vm.findClass "CommitPrefixes$Site" = some comp → (xs X).vm.findClass RX1 = some c0 → (xs X).vm.assignable c0 comp = true := by
  intro comp c0 h1 h2
  obtain ⟨c3, t3, w1, w2, w3⟩ := Cond.castable_spec ok.nw.2.2.2.2.2.2.2.1
  cases h2.symm.trans w1; cases h1.symm.trans w2; exact w3
theorem asgA (ok : OKX X M) : ∀ comp c0 : ClassId, (xs X).vm.findClass "CommitPrefixes$Site" = some comp → (xs X).vm.findClass RX3 = some c0 → (xs X).vm.assignable c0 comp = true := by
  intro comp c0 h1 h2
  obtain ⟨c3, t3, w1, w2, w3⟩ := Cond.castable_spec ok.nw.2.2.2.2.2.2.2.2.1
  cases h2.symm.trans w1; cases h1.symm.trans w2; exact w3
theorem JN.aastC {q0 qk n b v : Nat} {vs : List Value} {f : Nat → Option Nat} {i : Int32} {ws' : va_W} (he : ws[q0]? = some (b, .inl ((xZ X).2.2.2.1, n, .inr (.inr (.inr (.inr f)))))) (hv : ws[qk]? = some (v, .inr (0, vs))) (hi : inB i n = true) (hw : ws.set q0 (b, .inl ((xZ X).2.2.2.1, n, .inr (.inr (.inr (.inr (va_up f (ix i) (some v))))))) = ws') (d : decode M.1 pc = .ok (.aastore, 1)) (kk : JN X M MC MS Q kc ks (pc + 1) lv st ws') : JN X M MC MS Q kc ks pc lv (.ref v :: .int i :: .ref b :: st) ws :=
  fun ok ls H locs hl hP hD hS => va_astqM (E := "CommitPrefixes$Site") ok.1.1 ok.1.2.1 ok.1.hK hP hD hS q0 3 he rfl (va_rAny (r := (RX1, TX1, 7)) ok.1.hK hP hv rfl (asgC ok.1)) (inB_in hi) d (fun H1 locs1 hP1 hD1 hS1 => kk ok ls H1 locs1 hl (hw ▸ hP1) (hw ▸ hD1) hS1)
theorem JN.aastA {q0 qk n b v : Nat} {vs : List Value} {f : Nat → Option Nat} {i : Int32} {ws' : va_W} (he : ws[q0]? = some (b, .inl ((xZ X).2.2.2.1, n, .inr (.inr (.inr (.inr f)))))) (hv : ws[qk]? = some (v, .inr (1, vs))) (hi : inB i n = true) (hw : ws.set q0 (b, .inl ((xZ X).2.2.2.1, n, .inr (.inr (.inr (.inr (va_up f (ix i) (some v))))))) = ws') (d : decode M.1 pc = .ok (.aastore, 1)) (kk : JN X M MC MS Q kc ks (pc + 1) lv st ws') : JN X M MC MS Q kc ks pc lv (.ref v :: .int i :: .ref b :: st) ws :=
  fun ok ls H locs hl hP hD hS => va_astqM (E := "CommitPrefixes$Site") ok.1.1 ok.1.2.1 ok.1.hK hP hD hS q0 3 he rfl (va_rAny (r := (RX3, TX3, 6)) ok.1.hK hP hv rfl (asgA ok.1)) (inB_in hi) d (fun H1 locs1 hP1 hD1 hS1 => kk ok ls H1 locs1 hl (hw ▸ hP1) (hw ▸ hD1) hS1)
/-- what is made -/
theorem JN.newI {n : Int32} (N' : Nat) (hn : ¬ n < 0) (hN : n.toNatClampNeg = N') (hb : N' * 4 ≤ 536870912) (hc : kc + 1 ≤ MC) (hs : ks + N' ≤ MS) (d : decode M.1 pc = .ok (.newarray .int, 2)) (kk : ∀ q, JN X M MC MS Q (kc + 1) (ks + N') (pc + 2) lv (.ref q :: st) (ws ++ [(q, .inl ((xZ X).1, N', .inl (fun _ => 0)))])) : JN X M MC MS Q kc ks pc lv (.int n :: st) ws := by
  intro ok ls H locs hl hP hD hS
  refine va_newa (atype := .int) (a0 := (N', .inl (fun _ => 0))) ok.1.1 ok.1.2.1 (ok.1.hts _ k1_79) (ty := .int) rfl ok.1.hK hP hD hS ok.1.2.2.2.2.2.2.2.2.2.2.1 (fun cA => rfl) hn hN hb (Nat.le_trans hc ok.2.1) (Nat.le_trans hs ok.2.2) d (fun q cA H1 hK1 hP1 hD1 hS1 => ?_)
  have e1 : (xs X).vm.findClass "[I" = some cA := (hK1.2 4 (cA, .int) rfl).2
  have e2 : (xs X).vm.findClass "[I" = some (xZ X).1 := (ok.1.hK.2 0 _ rfl).2
  cases e1.symm.trans e2
  exact kk q ok ls H1 locs hl hP1 hD1 hS1
theorem JN.newL {n : Int32} (N' : Nat) (hn : ¬ n < 0) (hN : n.toNatClampNeg = N') (hb : N' * 8 ≤ 536870912) (hc : kc + 1 ≤ MC) (hs : ks + N' ≤ MS) (d : decode M.1 pc = .ok (.newarray .long, 2)) (kk : ∀ q, JN X M MC MS Q (kc + 1) (ks + N') (pc + 2) lv (.ref q :: st) (ws ++ [(q, .inl ((xZ X).2.1, N', .inr (.inl (fun _ => 0))))])) : JN X M MC MS Q kc ks pc lv (.int n :: st) ws := by
  intro ok ls H locs hl hP hD hS
  refine va_newa (atype := .long) (a0 := (N', .inr (.inl (fun _ => 0)))) ok.1.1 ok.1.2.1 (ok.1.hts _ k2_38) (ty := .long) rfl ok.1.hK hP hD hS ok.1.2.2.2.2.2.2.2.2.2.2.1 (fun cA => rfl) hn hN hb (Nat.le_trans hc ok.2.1) (Nat.le_trans hs ok.2.2) d (fun q cA H1 hK1 hP1 hD1 hS1 => ?_)
  have e1 : (xs X).vm.findClass "[J" = some cA := (hK1.2 4 (cA, .long) rfl).2
  have e2 : (xs X).vm.findClass "[J" = some (xZ X).2.1 := (ok.1.hK.2 1 _ rfl).2
  cases e1.symm.trans e2
  exact kk q ok ls H1 locs hl hP1 hD1 hS1
theorem JN.newH {n : Int32} {index : Nat} (N' : Nat) (w : Cond.classLink M.2.2.1 index "CommitPrefixes$Shelf" ∈ TT) (hn : ¬ n < 0) (hN : n.toNatClampNeg = N') (hb : N' * 4 ≤ 536870912) (hc : kc + 1 ≤ MC) (hs : ks + N' ≤ MS) (d : decode M.1 pc = .ok (.anewarray index, 3)) (kk : ∀ q, JN X M MC MS Q (kc + 1) (ks + N') (pc + 3) lv (.ref q :: st) (ws ++ [(q, .inl ((xZ X).2.2.1, N', .inr (.inr (.inr (.inr (fun _ => none))))))])) : JN X M MC MS Q kc ks pc lv (.int n :: st) ws := by
  intro ok ls H locs hl hP hD hS
  refine va_newq ok.1.1 ok.1.2.1 ok.1.2.2.2.1 (ok.1.hts _ w) ok.1.nw.2.2.2.2.2.2.2.2.2.1 ok.1.hK hP hD hS ok.1.2.2.2.2.2.2.2.2.2.2.1 hn hN hb (Nat.le_trans hc ok.2.1) (Nat.le_trans hs ok.2.2) d (fun q cA H1 hK1 hP1 hD1 hS1 => ?_)
  obtain ⟨_, _, -, -, -, e1⟩ := (hK1.2 4 (cA, .object "CommitPrefixes$Shelf") rfl).2
  obtain ⟨_, _, -, -, -, e2⟩ := (ok.1.hK.2 2 _ rfl).2
  cases e1.symm.trans e2
  exact kk q ok ls H1 locs hl hP1 hD1 hS1
theorem JN.newT {n : Int32} {index : Nat} (N' : Nat) (w : Cond.classLink M.2.2.1 index "CommitPrefixes$Site" ∈ TT) (hn : ¬ n < 0) (hN : n.toNatClampNeg = N') (hb : N' * 4 ≤ 536870912) (hc : kc + 1 ≤ MC) (hs : ks + N' ≤ MS) (d : decode M.1 pc = .ok (.anewarray index, 3)) (kk : ∀ q, JN X M MC MS Q (kc + 1) (ks + N') (pc + 3) lv (.ref q :: st) (ws ++ [(q, .inl ((xZ X).2.2.2.1, N', .inr (.inr (.inr (.inr (fun _ => none))))))])) : JN X M MC MS Q kc ks pc lv (.int n :: st) ws := by
  intro ok ls H locs hl hP hD hS
  refine va_newq ok.1.1 ok.1.2.1 ok.1.2.2.2.1 (ok.1.hts _ w) ok.1.nw.2.2.2.2.2.2.2.2.2.2 ok.1.hK hP hD hS ok.1.2.2.2.2.2.2.2.2.2.2.1 hn hN hb (Nat.le_trans hc ok.2.1) (Nat.le_trans hs ok.2.2) d (fun q cA H1 hK1 hP1 hD1 hS1 => ?_)
  obtain ⟨_, _, -, -, -, e1⟩ := (hK1.2 4 (cA, .object "CommitPrefixes$Site") rfl).2
  obtain ⟨_, _, -, -, -, e2⟩ := (ok.1.hK.2 3 _ rfl).2
  cases e1.symm.trans e2
  exact kk q ok ls H1 locs hl hP1 hD1 hS1
theorem JN.new {index ci N : Nat} {C : String} {T : u_T} {fs : List Value} (ty : Nat → FieldType) (hty : ∀ k, k < N → parseFieldDescriptor (T k).2.2.1 = some (ty k)) (hin : ∀ w ∈ u_ws C T N, w ∈ TT) (w1 : Cond.classLink M.2.2.1 index C ∈ TT) (w2 : Cond.instantiable C N ∈ TT) (w3 : Cond.initialized C ∈ TT) (hcl : vwCl[ci]? = some (C, T, N)) (hfs : ((List.range N).map (fun j => defaultValue (ty j))) = fs) (hc : kc + 1 ≤ MC) (hs : ks + N ≤ MS) (d : decode M.1 pc = .ok (.new index, 3)) (kk : ∀ q, JN X M MC MS Q (kc + 1) (ks + N) (pc + 3) lv (.ref q :: st) (ws ++ [(q, .inr (ci, fs))])) : JN X M MC MS Q kc ks pc lv st ws := by
  intro ok ls H locs hl hP hD hS
  refine va_new (fs := fs) ok.1.1 ok.1.2.1 ok.1.hts hin ty hty ok.1.2.2.2.1 (ok.1.hts _ w1) (ok.1.hts _ w2) (ok.1.hts _ w3) ok.1.hK hP hD hS ok.1.2.2.2.2.2.2.2.2.2.2.1 hcl (fun j hj => ?_) (Nat.le_trans hc ok.2.1) (Nat.le_trans hs ok.2.2) d (fun q H1 hP1 hD1 hS1 => kk q ok ls H1 locs hl hP1 hD1 hS1)
  rw [← hfs]; simp [vp_V, hj]
theorem JN.obj {index a : Nat} (w : Cond.methodLink M.2.2.1 index objectInit ∈ TT) (hr : (decide (1 ≤ M.2.2.2.2.1) && decide ((st.map fun v => v.category).sum + 12 ≤ M.2.2.2.2.2)) = true) (d : decode M.1 pc = .ok (.invokespecial index, 3)) (kk : JN X M MC MS Q kc ks (pc + 3) lv st ws) : JN X M MC MS Q kc ks pc lv (.ref a :: st) ws := by
  intro ok ls H locs hl hP hD hS
  simp only [Bool.and_eq_true, decide_eq_true_eq] at hr
  exact W.objInit ok.1.1 ok.1.2.1 ok.1.2.2.2.1 (ok.1.hts _ w) (ok.1.hts _ k1_27) (ok.1.hts _ k1_28) rfl (hl.1.trans ok.1.2.2.1.symm) rfl d (Nat.le_trans hr.1 ok.1.2.2.2.2.2.1) (Nat.le_trans (by show 2 * 0 + _ + 12 ≤ _; omega) ok.1.2.2.2.2.2.2.1) (kk ok ls H locs hl hP hD hS)
end JNR
