theorem nat_in : Cond.native arraycopyName ∈ TT := tt_mem n2_140 rfl
/-- what a call of an inherited or overriding method asks of the callee -/
def Ku (C owner : String) (x y : MethodName) (M' : JM) (n : Nat) : Prop := Cond.sameMethod x.cls owner x.name x.desc ∈ TT ∧ Cond.selects C x y ∈ TT ∧ Cond.instanceMethod y ∈ TT ∧ Cond.initialized y.cls ∈ TT ∧ Cond.code y M'.1 M'.2.1 M'.2.2.2.1 ∈ TT ∧ (owner ≠ "java/lang/invoke/MethodHandle" ∧ owner ≠ "java/lang/invoke/VarHandle" ∧ (parseMethodDescriptor x.desc).map (fun d => d.parameters.length) = some n)
/-- the receiver's class is known -/
def Rcv (X : JX) (M : JM) (ws : va_W) (b0 : Nat) (C : String) : Prop := ∀ (H : Heap) (locs : List Loc), OKX X M → va_P (xD X) vwCl ws H → va_S (xA X) (xs X).heap H locs → ∃ cell : Cell, H[b0]? = some cell ∧ cell.vm.isStatics = false ∧ (xs X).vm.findClass C = some cell.cls
section JC
variable {α β : Type} {X : JX} {M M' : JM} {Qf : α → State → Prop} {pc : Nat} {lv : List (Option Value)} {st rest : List Value} {ws : va_W} {o' : Option β} {y : MethodName} {enc : β → Option Value} {wo : β → va_W} {As : List Value} {o : Option α}
theorem JO.callG {index b0 n : Nat} {C : String} {kk : β → Option α} (hc : CO y M' enc (xZ X) wo (.ref b0 :: As) ws o') (hrv : Rcv X M ws b0 C) (K : Kv y M' C n) (w1 : Cond.methodLink M.2.2.1 index y ∈ TT)
    (hn : As.length = n) (hst : st = As.reverse ++ .ref b0 :: rest) (hroom : roomOk M M' = true) (hcat : (rest.map fun v => v.category).sum ≤ 8)
    (hsame : ∀ b, (wo b).map Prod.fst = ws.map Prod.fst) (d : decode M.1 pc = .ok (.invokevirtual index, 3)) (k : ∀ b, JO X M Qf (pc + 3) lv ((enc b).toList ++ rest) (wo b) (kk b)) : JO X M Qf pc lv st ws (o'.bind kk) := by
  intro a h ok ls H locs hl hP hD hS
  obtain ⟨b, hb, hk⟩ := Option.bind_eq_some_iff.mp h
  have hM := hc b hb (xl X) (xD X) H.size
  have hpre := JO.pre hc hb ok hP hD hS
  simp only [roomOk, Bool.and_eq_true, decide_eq_true_eq] at hroom
  have hts := ok.hts
  obtain ⟨hC, w2, w3, w4, w5, hd⟩ := K
  have hB : CallB (xR X) (xs X) (xargs X) M.2.2.1 index y M'.1 M'.2.1 M'.2.2.2.1 _ _ 0 0 n := callB_of (rm := { frames := M'.2.2.2.2.1, cells := 0, slots := 0, locals := M'.2.2.2.2.2 }) n hts (goodTT w5) rfl rfl rfl (by rw [hC]; exact hts _ w4) (hts _ w1) hd ⟨Nat.le_trans hroom.1 ok.2.2.2.2.2.1, Nat.le_trans hroom.2 ok.2.2.2.2.2.2.1⟩
  have hr := va_runV (As := As) (rest := rest) (g := F0 (xm X) pc ls st) (locs := locs) (cells := (xk X).1) (slots := (xk X).2) (e := xe X) (below := xbelow X) (meth := xmeth X) (b := b0) ⟨ok.1, ok.2.1, ok.2.2.1, ok.2.2.2.1, hts⟩ hM ⟨hB, hts _ w2, hts _ w3⟩ ⟨hpre.1, hrv H locs ok hP hS, hpre.2⟩ rfl hn hl.1 hst (lv_room hcat) d ok.2.2.2.2.2.2.2.2.2.2.2.2
  exact JO.back ok hl hP hD hS hsame k hk hr
theorem JO.callU {index b0 n : Nat} {C owner : String} {x : MethodName} {kk : β → Option α} (hc : CO y M' enc (xZ X) wo (.ref b0 :: As) ws o') (hrv : Rcv X M ws b0 C) (K : Ku C owner x y M' n) (hdecl : OKX X M → va_Decl (xs X) ⟨owner, x.name, x.desc⟩) (w1 : Cond.methodLink M.2.2.1 index x ∈ TT)
    (hn : As.length = n) (hst : st = As.reverse ++ .ref b0 :: rest) (hroom : roomOk M M' = true) (hcat : (rest.map fun v => v.category).sum ≤ 8)
    (hsame : ∀ b, (wo b).map Prod.fst = ws.map Prod.fst) (d : decode M.1 pc = .ok (.invokevirtual index, 3)) (k : ∀ b, JO X M Qf (pc + 3) lv ((enc b).toList ++ rest) (wo b) (kk b)) : JO X M Qf pc lv st ws (o'.bind kk) := by
  intro a h ok ls H locs hl hP hD hS
  obtain ⟨b, hb, hk⟩ := Option.bind_eq_some_iff.mp h
  have hM := hc b hb (xl X) (xD X) H.size
  have hpre := JO.pre hc hb ok hP hD hS
  simp only [roomOk, Bool.and_eq_true, decide_eq_true_eq] at hroom
  have hts := ok.hts
  obtain ⟨w2, w3, w4, w5, w6, hd1, hd2, hd3⟩ := K
  have hU : va_CU (xR X) (xs X) (xargs X) M.2.2.1 C owner index x y M'.1 M'.2.1 M'.2.2.2.1 (Cond.code y M'.1 M'.2.1 M'.2.2.2.1 :: TT) { frames := M'.2.2.2.2.1, cells := 0, slots := 0, locals := M'.2.2.2.2.2 } 0 0 n :=
    ⟨⟨rfl, rfl, Nat.le_trans hroom.1 ok.2.2.2.2.2.1, Nat.le_trans hroom.2 ok.2.2.2.2.2.2.1, pay_in hts (goodTT w6), List.mem_cons_self⟩, hts _ w6, hts _ w5, ⟨hd1, hd2⟩, fun sig h => by rw [h] at hd3; exact (Option.some.inj hd3).symm, hts _ w1, hts _ w2, hdecl ok, hts _ w3, hts _ w4⟩
  have hr := va_runU (As := As) (rest := rest) (g := F0 (xm X) pc ls st) (locs := locs) (cells := (xk X).1) (slots := (xk X).2) (e := xe X) (below := xbelow X) (meth := xmeth X) (b := b0) ⟨ok.1, ok.2.1, ok.2.2.1, ok.2.2.2.1, hts⟩ hM hU ⟨hpre.1, hrv H locs ok hP hS, hpre.2⟩ rfl hn hl.1 hst (lv_room hcat) d ok.2.2.2.2.2.2.2.2.2.2.2.2
  exact JO.back ok hl hP hD hS hsame k hk hr
/-- a nest mate's static method -/
theorem JO.callSN {index n : Nat} {host : String} {kk : β → Option α} (hc : CO y M' enc (xZ X) wo As ws o') (K : Ks y M' n) (w1 : OKX X M → va_Nw (.methodLinkNest M.2.2.1 index y host) (xs X))
    (hn : As.length = n) (hst : st = As.reverse ++ rest) (hroom : roomOk M M' = true) (hcat : (rest.map fun v => v.category).sum ≤ 8)
    (hsame : ∀ b, (wo b).map Prod.fst = ws.map Prod.fst) (d : decode M.1 pc = .ok (.invokestatic index, 3)) (k : ∀ b, JO X M Qf (pc + 3) lv ((enc b).toList ++ rest) (wo b) (kk b)) : JO X M Qf pc lv st ws (o'.bind kk) := by
  intro a h ok ls H locs hl hP hD hS
  obtain ⟨b, hb, hk⟩ := Option.bind_eq_some_iff.mp h
  have hM := hc b hb (xl X) (xD X) H.size
  have hpre := JO.pre hc hb ok hP hD hS
  simp only [roomOk, Bool.and_eq_true, decide_eq_true_eq] at hroom
  have hts := ok.hts
  obtain ⟨w2, w3, w4, hd⟩ := K
  have hB : va_CN (xR X) (xs X) (xargs X) M.2.2.1 index y host M'.1 M'.2.1 M'.2.2.2.1 _ _ 0 0 n := va_cnB (rm := { frames := M'.2.2.2.2.1, cells := 0, slots := 0, locals := M'.2.2.2.2.2 }) n hts (goodTT w4) rfl rfl rfl (w1 ok) (hts _ w3) hd ⟨Nat.le_trans hroom.1 ok.2.2.2.2.2.1, Nat.le_trans hroom.2 ok.2.2.2.2.2.2.1⟩
  have hr := va_runSN (As := As) (rest := rest) (g := F0 (xm X) pc ls st) (locs := locs) (cells := (xk X).1) (slots := (xk X).2) (e := xe X) (below := xbelow X) (meth := xmeth X) ⟨ok.1, ok.2.1, ok.2.2.1, ok.2.2.2.1, hts⟩ hM ⟨hB, hts _ w2, trivial⟩ hpre rfl hn hl.1 hst (lv_room hcat) d ok.2.2.2.2.2.2.2.2.2.2.2.2
  exact JO.back ok hl hP hD hS hsame k hk hr
theorem JO.null (d : decode M.1 pc = .ok (.aconst_null, 1)) (k : JO X M Qf (pc + 1) lv (.null :: st) ws o) : JO X M Qf pc lv st ws o :=
  fun a h ok ls H locs hl hP hD hS => lv_null ok.1 ok.2.1 d (k a h ok ls H locs hl hP hD hS)
theorem JO.aloadnN {i : Fin 4} (d : decode M.1 pc = .ok (.aload_n i, 1)) (hx : lv[(i : Nat)]? = some (some .null)) (k : JO X M Qf (pc + 1) lv (.null :: st) ws o) : JO X M Qf pc lv st ws o :=
  fun a h ok ls H locs hl hP hD hS => lv_aload_nN ok.1 ok.2.1 d rfl (hl.2.2 _ _ hx) (k a h ok ls H locs hl hP hD hS)
theorem JO.astorenN {i : Fin 4} (d : decode M.1 pc = .ok (.astore_n i, 1)) (hi : decide ((i : Nat) < M.2.1) = true) (hk : lvOk lv i = true) (k : JO X M Qf (pc + 1) (lv.set i (some .null)) st ws o) : JO X M Qf pc lv (.null :: st) ws o :=
  fun a h ok ls H locs hl hP hD hS => lv_astore_nN ok.1 ok.2.1 d rfl hl.has (of_decide_eq_true hi) rfl (fun ls' hl' => k a h ok ls' H locs (lvD.set1 hk hl') hP hD hS)
theorem JO.ifnn {x : Nat} {off : Int} (tgt : Nat) (d : decode M.1 pc = .ok (.ifnonnull off, 3)) (ht : (pc : Int) + off = (tgt : Int)) (k : JO X M Qf tgt lv st ws o) : JO X M Qf pc lv (.ref x :: st) ws o :=
  fun a h ok ls H locs hl hP hD hS => lv_ifnonnull ok.1 ok.2.1 d ht (k a h ok ls H locs hl hP hD hS)
theorem JO.ifnnN {off : Int} (d : decode M.1 pc = .ok (.ifnonnull off, 3)) (k : JO X M Qf (pc + 3) lv st ws o) : JO X M Qf pc lv (.null :: st) ws o :=
  fun a h ok ls H locs hl hP hD hS => lv_ifnonnullN ok.1 ok.2.1 d (k a h ok ls H locs hl hP hD hS)
/-- two items compared -/
theorem JO.itne {i j : Nat} {off : Int} {o1 o2 : Option α} (tgt : Nat) (hi : i < 11) (hj : j < 11) (d : decode M.1 pc = .ok (.if_acmp .ne off, 3)) (ht : (pc : Int) + off = (tgt : Int)) (kt : JO X M Qf tgt lv st ws o1) (kf : JO X M Qf (pc + 3) lv st ws o2) : JO X M Qf pc lv (.ref (kz (xZ X) 1 j) :: .ref (kz (xZ X) 1 i) :: st) ws (if i = j then o2 else o1) := by
  intro a h ok ls H locs hl hP hD hS
  refine lv_acmp_ne (rx := some (kz (xZ X) 1 i)) (ry := some (kz (xZ X) 1 j)) ok.1 ok.2.1 d ht (fun c => ?_) (fun c => ?_)
  · have hn : ¬ i = j := fun e => c (by rw [e])
    rw [if_neg hn] at h
    exact kt a h ok ls H locs hl hP hD hS
  · have he : i = j := ok.cw.2.1.2 i j hi hj (Option.some.inj c)
    rw [if_pos he] at h
    exact kf a h ok ls H locs hl hP hD hS
/-- an item or null, told apart -/
theorem JO.opt {r : Option Nat} {o1 : Option α} {o2 : Nat → Option α} (h1 : JO X M Qf pc lv (.null :: st) ws o1) (h2 : ∀ i, i < 11 → JO X M Qf pc lv (.ref (kz (xZ X) 1 i) :: st) ws (o2 i)) : JO X M Qf pc lv (va_re (kz (xZ X) 1) r :: st) ws (r.elim o1 (fun i => if i < 11 then o2 i else none)) := by
  cases r with
  | none => exact h1
  | some i =>
    by_cases hi : i < 11
    · have := h2 i hi
      show JO X M Qf pc lv _ ws (if i < 11 then o2 i else none)
      rw [if_pos hi]; exact this
    · show JO X M Qf pc lv _ ws (if i < 11 then o2 i else none)
      rw [if_neg hi]; exact JO.nil
end JC
section CC
variable {α : Type} {X : JX} {M M' : JM} {Qf : α → State → Prop} {pc n index c ci : Nat} {lv : List (Option Value)} {st rest As : List Value} {ad : Nat → Nat} {σ : CS} {y x : MethodName} {C owner : String} {T : u_T} {N : Nat} {f : (Nat → Nat) → CL → List Value} {o : Option α}
/-- a receiver among the cells -/
theorem rcv (h : isO c ci f) (hcl : vwCl[ci]? = some (C, T, N)) : Rcv X M (wsC ad (xZ X) σ) (ad c) C := fun _ _ ok hP _ => va_recv ok.hK hP hcl (cC_he h)
theorem rcvP : Rcv X M (wsC ad (xZ X) σ) (ad 0) RX9 := rcv o_P rfl
theorem rcvQ : Rcv X M (wsC ad (xZ X) σ) (ad 9) RX8 := rcv o_Q rfl
theorem rcvS {q : Nat} (h : isS q) : Rcv X M (wsC ad (xZ X) σ) (ad q) RX5 := rcv (o_S h) rfl
theorem rcvR {b : Nat} (h : isR b) : Rcv X M (wsC ad (xZ X) σ) (ad b) RX4 := rcv (o_R h) rfl
theorem rcvH {i : Nat} (h : i < 8) : Rcv X M (wsC ad (xZ X) σ) (ad (58 + i)) RX6 := rcv (o_H h) rfl
theorem rcvT0 {b : Nat} (h : isR b) : Rcv X M (wsC ad (xZ X) σ) (ad (b + 2)) RX1 := rcv (o_T0 h) rfl
theorem rcvT {b j : Nat} (h : isR b) (h0 : 0 < j) (hj : j < 6) : Rcv X M (wsC ad (xZ X) σ) (ad (b + 2 + j)) RX3 := rcv (o_T h h0 hj) rfl
theorem rcvI {i : Nat} (h : i < 11) : Rcv X M (wsC ad (xZ X) σ) (kz (xZ X) 1 i) "CommitPrefixes$Item" := fun _ _ ok _ hS => va_recvE ok.cw.2.1 h hS
theorem rcvK {i : Nat} (h : i < 11) : Rcv X M (wsC ad (xZ X) σ) (kz (xZ X) 4 i) "java/lang/String" := fun _ _ ok _ hS => vk_recv ok.cw.2.2.2.2.2.1 h hS
theorem decl_of {b : ByteArray} {m : Nat} {r : Option FieldType} (h1 : Cond.instanceMethod x ∈ TT) (h2 : Cond.code x b m r ∈ TT) (ok : OKX X M) : va_Decl (xs X) x := va_Decl.of (ok.hts _ h1) (ok.hts _ h2)
theorem JO.copyI {b c n : Nat} {sp dp k : Int32} (hi : isIA b n) (hj : isIA c n) (w1 : Cond.methodLink M.2.2.1 index arraycopyName ∈ TT) (w2 : Cond.static arraycopyName ∈ TT) (w3 : Cond.initialized "java/lang/System" ∈ TT) (hroom : (decide (1 ≤ M.2.2.2.2.1) && decide ((rest.map fun v => v.category).sum + 40 ≤ M.2.2.2.2.2)) = true) (d : decode M.1 pc = .ok (.invokestatic index, 3))
    (kk : JO X M Qf (pc + 3) lv rest (wsC ad (xZ X) (tAr σ c (va_cpy (cA σ b) (cA σ c) (ix sp) (ix dp) (ix k)))) o) : JO X M Qf pc lv (.int k :: .int dp :: .ref (ad c) :: .int sp :: .ref (ad b) :: rest) (wsC ad (xZ X) σ) (if (0 ≤ sp ∧ 0 ≤ dp ∧ 0 ≤ k) ∧ ix sp + ix k ≤ n ∧ ix dp + ix k ≤ n then o else none) := by
  intro a h ok ls H locs hl hP hD hS
  by_cases hc : (0 ≤ sp ∧ 0 ≤ dp ∧ 0 ≤ k) ∧ ix sp + ix k ≤ n ∧ ix dp + ix k ≤ n
  · rw [if_pos hc] at h
    obtain ⟨⟨h1, h2, h3⟩, h4, h5⟩ := hc
    simp only [Bool.and_eq_true, decide_eq_true_eq] at hroom
    have e1 : (wsC ad (xZ X) σ)[b]? = some (ad b, .inl ((xZ X).1, n, .inl (cA σ b))) := by rw [wsC_at hi.1, hi.2]; rfl
    have e2 : (wsC ad (xZ X) σ)[c]? = some (ad c, .inl ((xZ X).1, n, .inl (cA σ c))) := by rw [wsC_at hj.1, hj.2]; rfl
    have hw : ∀ g, (wsC ad (xZ X) σ).set c (ad c, .inl ((xZ X).1, n, .inl g)) = wsC ad (xZ X) (tAr σ c g) := fun g => wsC_set hj.1 (by rw [hj.2, tAr_s]; rfl) tAr_o
    refine va_copyi ok.1 ok.2.1 (ok.2.2.1.trans hl.1.symm) ok.2.2.2.1 (ok.hts _ w1) (ok.hts _ nat_in) (ok.hts _ w2) (ok.hts _ w3) ok.hK hP hD hS b c 0 0 e1 e2 rfl rfl rfl (Int32.not_lt.mpr h1) (Int32.not_lt.mpr h2) (Int32.not_lt.mpr h3) h4 h5 (fun _ _ => rfl) (Nat.le_trans hroom.1 ok.2.2.2.2.2.1) (Nat.le_trans (Nat.add_le_add_left (by decide) _) (Nat.le_trans hroom.2 ok.2.2.2.2.2.2.1)) d (fun H1 locs1 hP1 hD1 hS1 => ?_)
    rw [hw] at hP1 hD1
    exact kk a h ok ls H1 locs1 hl hP1 hD1 hS1
  · rw [if_neg hc] at h; cases h
theorem JO.copyL {b c n : Nat} {sp dp k : Int32} (hi : isLA b n) (hj : isLA c n) (w1 : Cond.methodLink M.2.2.1 index arraycopyName ∈ TT) (w2 : Cond.static arraycopyName ∈ TT) (w3 : Cond.initialized "java/lang/System" ∈ TT) (hroom : (decide (1 ≤ M.2.2.2.2.1) && decide ((rest.map fun v => v.category).sum + 40 ≤ M.2.2.2.2.2)) = true) (d : decode M.1 pc = .ok (.invokestatic index, 3))
    (kk : JO X M Qf (pc + 3) lv rest (wsC ad (xZ X) (tBr σ c (va_cpy (cB σ b) (cB σ c) (ix sp) (ix dp) (ix k)))) o) : JO X M Qf pc lv (.int k :: .int dp :: .ref (ad c) :: .int sp :: .ref (ad b) :: rest) (wsC ad (xZ X) σ) (if (0 ≤ sp ∧ 0 ≤ dp ∧ 0 ≤ k) ∧ ix sp + ix k ≤ n ∧ ix dp + ix k ≤ n then o else none) := by
  intro a h ok ls H locs hl hP hD hS
  by_cases hc : (0 ≤ sp ∧ 0 ≤ dp ∧ 0 ≤ k) ∧ ix sp + ix k ≤ n ∧ ix dp + ix k ≤ n
  · rw [if_pos hc] at h
    obtain ⟨⟨h1, h2, h3⟩, h4, h5⟩ := hc
    simp only [Bool.and_eq_true, decide_eq_true_eq] at hroom
    have e1 : (wsC ad (xZ X) σ)[b]? = some (ad b, .inl ((xZ X).2.1, n, .inr (.inl (cB σ b)))) := by rw [wsC_at hi.1, hi.2]; rfl
    have e2 : (wsC ad (xZ X) σ)[c]? = some (ad c, .inl ((xZ X).2.1, n, .inr (.inl (cB σ c)))) := by rw [wsC_at hj.1, hj.2]; rfl
    have hw : ∀ g, (wsC ad (xZ X) σ).set c (ad c, .inl ((xZ X).2.1, n, .inr (.inl g))) = wsC ad (xZ X) (tBr σ c g) := fun g => wsC_set hj.1 (by rw [hj.2, tBr_s]; rfl) tBr_o
    refine va_copyl ok.1 ok.2.1 (ok.2.2.1.trans hl.1.symm) ok.2.2.2.1 (ok.hts _ w1) (ok.hts _ nat_in) (ok.hts _ w2) (ok.hts _ w3) ok.hK hP hD hS b c 1 1 e1 e2 rfl rfl rfl (Int32.not_lt.mpr h1) (Int32.not_lt.mpr h2) (Int32.not_lt.mpr h3) h4 h5 (fun _ _ => rfl) (Nat.le_trans hroom.1 ok.2.2.2.2.2.1) (Nat.le_trans (Nat.add_le_add_left (by decide) _) (Nat.le_trans hroom.2 ok.2.2.2.2.2.2.1)) d (fun H1 locs1 hP1 hD1 hS1 => ?_)
    rw [hw] at hP1 hD1
    exact kk a h ok ls H1 locs1 hl hP1 hD1 hS1
  · rw [if_neg hc] at h; cases h
theorem JO.cvi {b0 : Nat} {o' : Option (Int32 × CS)} {kk : Int32 × CS → Option α} (hc : CO y M' eI (xZ X) (wC ad (xZ X)) (.ref b0 :: As) (wsC ad (xZ X) σ) o') (hrv : Rcv X M (wsC ad (xZ X) σ) b0 C) (K : Kv y M' C n) (w1 : Cond.methodLink M.2.2.1 index y ∈ TT) (hn : As.length = n) (hst : st = As.reverse ++ .ref b0 :: rest) (hroom : roomOk M M' = true) (hcat : (rest.map fun v => v.category).sum ≤ 8) (d : decode M.1 pc = .ok (.invokevirtual index, 3)) (k : ∀ b : Int32 × CS, JO X M Qf (pc + 3) lv (.int b.1 :: rest) (wsC ad (xZ X) b.2) (kk b)) : JO X M Qf pc lv st (wsC ad (xZ X) σ) (o'.bind kk) :=
  JO.callG hc hrv K w1 hn hst hroom hcat (fun _ => wsC_fst) d k
theorem JO.cui {b0 : Nat} {o' : Option (Int32 × CS)} {kk : Int32 × CS → Option α} (hc : CO y M' eI (xZ X) (wC ad (xZ X)) (.ref b0 :: As) (wsC ad (xZ X) σ) o') (hrv : Rcv X M (wsC ad (xZ X) σ) b0 C) (K : Ku C owner x y M' n) (hdecl : OKX X M → va_Decl (xs X) ⟨owner, x.name, x.desc⟩) (w1 : Cond.methodLink M.2.2.1 index x ∈ TT) (hn : As.length = n) (hst : st = As.reverse ++ .ref b0 :: rest) (hroom : roomOk M M' = true) (hcat : (rest.map fun v => v.category).sum ≤ 8) (d : decode M.1 pc = .ok (.invokevirtual index, 3)) (k : ∀ b : Int32 × CS, JO X M Qf (pc + 3) lv (.int b.1 :: rest) (wsC ad (xZ X) b.2) (kk b)) : JO X M Qf pc lv st (wsC ad (xZ X) σ) (o'.bind kk) :=
  JO.callU hc hrv K hdecl w1 hn hst hroom hcat (fun _ => wsC_fst) d k
theorem JO.csi {o' : Option (Int32 × CS)} {kk : Int32 × CS → Option α} (hc : CO y M' eI (xZ X) (wC ad (xZ X)) As (wsC ad (xZ X) σ) o') (K : Ks y M' n) (w1 : Cond.methodLink M.2.2.1 index y ∈ TT) (hn : As.length = n) (hst : st = As.reverse ++ rest) (hroom : roomOk M M' = true) (hcat : (rest.map fun v => v.category).sum ≤ 8) (d : decode M.1 pc = .ok (.invokestatic index, 3)) (k : ∀ b : Int32 × CS, JO X M Qf (pc + 3) lv (.int b.1 :: rest) (wsC ad (xZ X) b.2) (kk b)) : JO X M Qf pc lv st (wsC ad (xZ X) σ) (o'.bind kk) :=
  JO.callS hc w1 K.1 K.2.1 K.2.2.1 K.2.2.2 hn hst hroom hcat (fun _ => wsC_fst) d k
theorem JO.cvz {b0 : Nat} {o' : Option (Bool × CS)} {kk : Bool × CS → Option α} (hc : CO y M' eZ (xZ X) (wC ad (xZ X)) (.ref b0 :: As) (wsC ad (xZ X) σ) o') (hrv : Rcv X M (wsC ad (xZ X) σ) b0 C) (K : Kv y M' C n) (w1 : Cond.methodLink M.2.2.1 index y ∈ TT) (hn : As.length = n) (hst : st = As.reverse ++ .ref b0 :: rest) (hroom : roomOk M M' = true) (hcat : (rest.map fun v => v.category).sum ≤ 8) (d : decode M.1 pc = .ok (.invokevirtual index, 3)) (k : ∀ b : Bool × CS, JO X M Qf (pc + 3) lv (.int (bI b.1) :: rest) (wsC ad (xZ X) b.2) (kk b)) : JO X M Qf pc lv st (wsC ad (xZ X) σ) (o'.bind kk) :=
  JO.callG hc hrv K w1 hn hst hroom hcat (fun _ => wsC_fst) d k
theorem JO.cuz {b0 : Nat} {o' : Option (Bool × CS)} {kk : Bool × CS → Option α} (hc : CO y M' eZ (xZ X) (wC ad (xZ X)) (.ref b0 :: As) (wsC ad (xZ X) σ) o') (hrv : Rcv X M (wsC ad (xZ X) σ) b0 C) (K : Ku C owner x y M' n) (hdecl : OKX X M → va_Decl (xs X) ⟨owner, x.name, x.desc⟩) (w1 : Cond.methodLink M.2.2.1 index x ∈ TT) (hn : As.length = n) (hst : st = As.reverse ++ .ref b0 :: rest) (hroom : roomOk M M' = true) (hcat : (rest.map fun v => v.category).sum ≤ 8) (d : decode M.1 pc = .ok (.invokevirtual index, 3)) (k : ∀ b : Bool × CS, JO X M Qf (pc + 3) lv (.int (bI b.1) :: rest) (wsC ad (xZ X) b.2) (kk b)) : JO X M Qf pc lv st (wsC ad (xZ X) σ) (o'.bind kk) :=
  JO.callU hc hrv K hdecl w1 hn hst hroom hcat (fun _ => wsC_fst) d k
theorem JO.csz {o' : Option (Bool × CS)} {kk : Bool × CS → Option α} (hc : CO y M' eZ (xZ X) (wC ad (xZ X)) As (wsC ad (xZ X) σ) o') (K : Ks y M' n) (w1 : Cond.methodLink M.2.2.1 index y ∈ TT) (hn : As.length = n) (hst : st = As.reverse ++ rest) (hroom : roomOk M M' = true) (hcat : (rest.map fun v => v.category).sum ≤ 8) (d : decode M.1 pc = .ok (.invokestatic index, 3)) (k : ∀ b : Bool × CS, JO X M Qf (pc + 3) lv (.int (bI b.1) :: rest) (wsC ad (xZ X) b.2) (kk b)) : JO X M Qf pc lv st (wsC ad (xZ X) σ) (o'.bind kk) :=
  JO.callS hc w1 K.1 K.2.1 K.2.2.1 K.2.2.2 hn hst hroom hcat (fun _ => wsC_fst) d k
theorem JO.cvl {b0 : Nat} {o' : Option (Int64 × CS)} {kk : Int64 × CS → Option α} (hc : CO y M' eL (xZ X) (wC ad (xZ X)) (.ref b0 :: As) (wsC ad (xZ X) σ) o') (hrv : Rcv X M (wsC ad (xZ X) σ) b0 C) (K : Kv y M' C n) (w1 : Cond.methodLink M.2.2.1 index y ∈ TT) (hn : As.length = n) (hst : st = As.reverse ++ .ref b0 :: rest) (hroom : roomOk M M' = true) (hcat : (rest.map fun v => v.category).sum ≤ 8) (d : decode M.1 pc = .ok (.invokevirtual index, 3)) (k : ∀ b : Int64 × CS, JO X M Qf (pc + 3) lv (.long b.1 :: rest) (wsC ad (xZ X) b.2) (kk b)) : JO X M Qf pc lv st (wsC ad (xZ X) σ) (o'.bind kk) :=
  JO.callG hc hrv K w1 hn hst hroom hcat (fun _ => wsC_fst) d k
theorem JO.cul {b0 : Nat} {o' : Option (Int64 × CS)} {kk : Int64 × CS → Option α} (hc : CO y M' eL (xZ X) (wC ad (xZ X)) (.ref b0 :: As) (wsC ad (xZ X) σ) o') (hrv : Rcv X M (wsC ad (xZ X) σ) b0 C) (K : Ku C owner x y M' n) (hdecl : OKX X M → va_Decl (xs X) ⟨owner, x.name, x.desc⟩) (w1 : Cond.methodLink M.2.2.1 index x ∈ TT) (hn : As.length = n) (hst : st = As.reverse ++ .ref b0 :: rest) (hroom : roomOk M M' = true) (hcat : (rest.map fun v => v.category).sum ≤ 8) (d : decode M.1 pc = .ok (.invokevirtual index, 3)) (k : ∀ b : Int64 × CS, JO X M Qf (pc + 3) lv (.long b.1 :: rest) (wsC ad (xZ X) b.2) (kk b)) : JO X M Qf pc lv st (wsC ad (xZ X) σ) (o'.bind kk) :=
  JO.callU hc hrv K hdecl w1 hn hst hroom hcat (fun _ => wsC_fst) d k
theorem JO.csl {o' : Option (Int64 × CS)} {kk : Int64 × CS → Option α} (hc : CO y M' eL (xZ X) (wC ad (xZ X)) As (wsC ad (xZ X) σ) o') (K : Ks y M' n) (w1 : Cond.methodLink M.2.2.1 index y ∈ TT) (hn : As.length = n) (hst : st = As.reverse ++ rest) (hroom : roomOk M M' = true) (hcat : (rest.map fun v => v.category).sum ≤ 8) (d : decode M.1 pc = .ok (.invokestatic index, 3)) (k : ∀ b : Int64 × CS, JO X M Qf (pc + 3) lv (.long b.1 :: rest) (wsC ad (xZ X) b.2) (kk b)) : JO X M Qf pc lv st (wsC ad (xZ X) σ) (o'.bind kk) :=
  JO.callS hc w1 K.1 K.2.1 K.2.2.1 K.2.2.2 hn hst hroom hcat (fun _ => wsC_fst) d k
theorem JO.cvv {b0 : Nat} {o' : Option (Unit × CS)} {kk : Unit × CS → Option α} (hc : CO y M' eV (xZ X) (wC ad (xZ X)) (.ref b0 :: As) (wsC ad (xZ X) σ) o') (hrv : Rcv X M (wsC ad (xZ X) σ) b0 C) (K : Kv y M' C n) (w1 : Cond.methodLink M.2.2.1 index y ∈ TT) (hn : As.length = n) (hst : st = As.reverse ++ .ref b0 :: rest) (hroom : roomOk M M' = true) (hcat : (rest.map fun v => v.category).sum ≤ 8) (d : decode M.1 pc = .ok (.invokevirtual index, 3)) (k : ∀ b : Unit × CS, JO X M Qf (pc + 3) lv (rest) (wsC ad (xZ X) b.2) (kk b)) : JO X M Qf pc lv st (wsC ad (xZ X) σ) (o'.bind kk) :=
  JO.callG hc hrv K w1 hn hst hroom hcat (fun _ => wsC_fst) d k
theorem JO.cuv {b0 : Nat} {o' : Option (Unit × CS)} {kk : Unit × CS → Option α} (hc : CO y M' eV (xZ X) (wC ad (xZ X)) (.ref b0 :: As) (wsC ad (xZ X) σ) o') (hrv : Rcv X M (wsC ad (xZ X) σ) b0 C) (K : Ku C owner x y M' n) (hdecl : OKX X M → va_Decl (xs X) ⟨owner, x.name, x.desc⟩) (w1 : Cond.methodLink M.2.2.1 index x ∈ TT) (hn : As.length = n) (hst : st = As.reverse ++ .ref b0 :: rest) (hroom : roomOk M M' = true) (hcat : (rest.map fun v => v.category).sum ≤ 8) (d : decode M.1 pc = .ok (.invokevirtual index, 3)) (k : ∀ b : Unit × CS, JO X M Qf (pc + 3) lv (rest) (wsC ad (xZ X) b.2) (kk b)) : JO X M Qf pc lv st (wsC ad (xZ X) σ) (o'.bind kk) :=
  JO.callU hc hrv K hdecl w1 hn hst hroom hcat (fun _ => wsC_fst) d k
theorem JO.csv {o' : Option (Unit × CS)} {kk : Unit × CS → Option α} (hc : CO y M' eV (xZ X) (wC ad (xZ X)) As (wsC ad (xZ X) σ) o') (K : Ks y M' n) (w1 : Cond.methodLink M.2.2.1 index y ∈ TT) (hn : As.length = n) (hst : st = As.reverse ++ rest) (hroom : roomOk M M' = true) (hcat : (rest.map fun v => v.category).sum ≤ 8) (d : decode M.1 pc = .ok (.invokestatic index, 3)) (k : ∀ b : Unit × CS, JO X M Qf (pc + 3) lv (rest) (wsC ad (xZ X) b.2) (kk b)) : JO X M Qf pc lv st (wsC ad (xZ X) σ) (o'.bind kk) :=
  JO.callS hc w1 K.1 K.2.1 K.2.2.1 K.2.2.2 hn hst hroom hcat (fun _ => wsC_fst) d k
theorem JO.csnz {o' : Option (Bool × CS)} {kk : Bool × CS → Option α} (hc : CO y M' eZ (xZ X) (wC ad (xZ X)) As (wsC ad (xZ X) σ) o') (K : Ks y M' n) {host : String} (w1 : OKX X M → va_Nw (.methodLinkNest M.2.2.1 index y host) (xs X)) (hn : As.length = n) (hst : st = As.reverse ++ rest) (hroom : roomOk M M' = true) (hcat : (rest.map fun v => v.category).sum ≤ 8) (d : decode M.1 pc = .ok (.invokestatic index, 3)) (k : ∀ b : Bool × CS, JO X M Qf (pc + 3) lv (.int (bI b.1) :: rest) (wsC ad (xZ X) b.2) (kk b)) : JO X M Qf pc lv st (wsC ad (xZ X) σ) (o'.bind kk) :=
  JO.callSN hc K w1 hn hst hroom hcat (fun _ => wsC_fst) d k
/-- a run that comes back: its place -/
abbrev eR (ad : Nat → Nat) {S : Type} : Nat × S → Option Value := fun a => some (.ref (ad a.1))
abbrev eO (Z : ZT) {S : Type} : Option Nat × S → Option Value := fun a => some (va_re (kz Z 1) a.1)
theorem JO.cvo {b0 : Nat} {o' : Option (Option Nat × CS)} {kk : Option Nat × CS → Option α} (hc : CO y M' (eO (xZ X)) (xZ X) (wC ad (xZ X)) (.ref b0 :: As) (wsC ad (xZ X) σ) o') (hrv : Rcv X M (wsC ad (xZ X) σ) b0 C) (K : Kv y M' C n) (w1 : Cond.methodLink M.2.2.1 index y ∈ TT) (hn : As.length = n) (hst : st = As.reverse ++ .ref b0 :: rest) (hroom : roomOk M M' = true) (hcat : (rest.map fun v => v.category).sum ≤ 8) (d : decode M.1 pc = .ok (.invokevirtual index, 3)) (k : ∀ b : Option Nat × CS, JO X M Qf (pc + 3) lv (va_re (kz (xZ X) 1) b.1 :: rest) (wsC ad (xZ X) b.2) (kk b)) : JO X M Qf pc lv st (wsC ad (xZ X) σ) (o'.bind kk) :=
  JO.callG hc hrv K w1 hn hst hroom hcat (fun _ => wsC_fst) d k
/-- the run that stands (14) -/
abbrev eN (ad : Nat → Nat) {S : Type} : Unit × S → Option Value := fun _ => some (.ref (ad 14))
theorem JO.cvn {b0 : Nat} {o' : Option (Unit × CS)} {kk : Unit × CS → Option α} (hc : CO y M' (eN ad) (xZ X) (wC ad (xZ X)) (.ref b0 :: As) (wsC ad (xZ X) σ) o') (hrv : Rcv X M (wsC ad (xZ X) σ) b0 C) (K : Kv y M' C n) (w1 : Cond.methodLink M.2.2.1 index y ∈ TT) (hn : As.length = n) (hst : st = As.reverse ++ .ref b0 :: rest) (hroom : roomOk M M' = true) (hcat : (rest.map fun v => v.category).sum ≤ 8) (d : decode M.1 pc = .ok (.invokevirtual index, 3)) (k : ∀ b : Unit × CS, JO X M Qf (pc + 3) lv (.ref (ad 14) :: rest) (wsC ad (xZ X) b.2) (kk b)) : JO X M Qf pc lv st (wsC ad (xZ X) σ) (o'.bind kk) :=
  JO.callG hc hrv K w1 hn hst hroom hcat (fun _ => wsC_fst) d k
end CC
