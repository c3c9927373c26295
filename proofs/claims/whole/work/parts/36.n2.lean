/-- a constructor's contract: from the cells ws (the new object, blank) it comes to the cells wout as, as: the addresses of what it made -/
def CN (y : MethodName) (M : JM) (mc ms : Nat) (Z : ZT) (As : List Value) (ws : va_W) (wout : (Nat → Nat) → va_W) : Prop :=
  ∀ (l : Launch) (D : va_G) (sz : Nat), Met l y (Cond.code y M.1 M.2.1 M.2.2.2.1 :: TT) { frames := M.2.2.2.2.1, cells := mc, slots := ms, locals := M.2.2.2.2.2 }
    (va_Pc As (fun U => U.heap.size = sz ∧ va_P D vwCl ws U.heap ∧ va_K D vwCl (tyl Z) U ∧ va_D (fun _ => True) ws ∧ CW Z (va_A ws sz) U U.heap))
    (fun _ st oc t => (oc = .returned none ∧ ∃ as : Nat → Nat, va_P D vwCl (wout as) t.heap ∧ va_K D vwCl (tyl Z) t ∧ va_D (va_A ws sz) (wout as)) ∧ va_F (va_A ws sz) st t)
    mc ms (va_A ws sz)
def QN (X : JX) (mc ms : Nat) (wout : (Nat → Nat) → va_W) : State → Prop :=
  MQ (xbelow X) (fun _ st oc t => (oc = .returned none ∧ ∃ as : Nat → Nat, va_P (xD X) vwCl (wout as) t.heap ∧ va_K (xD X) vwCl (xtys X) t ∧ va_D (xA X) (wout as)) ∧ va_F (xA X) st t) (xargs X) (xs X) mc ms (xA X)
theorem CN.of {y : MethodName} {M : JM} {mc ms : Nat} {Z : ZT} {As : List Value} {ws : va_W} {wout : (Nat → Nat) → va_W} (hy : plainName y.cls = true) (hown : M.2.2.1 = y.cls) (hl : (lg_sl As).length ≤ M.2.1) (n : Nat)
    (k : ∀ X : JX, xZ X = Z → (y.name = "<init>" → (xmeth X).name = "<init>") → JN X M mc ms (QN X mc ms wout) 0 0 0 (lvA As ++ List.replicate n Option.none) [] ws) : CN y M mc ms Z As ws wout := by
  intro l D sz
  refine Met.ofW (cc := M.1) (maxL := M.2.1) (ret := M.2.2.2.1) hy rfl ?_
  intro p e s m args below meth c s₁ B hml hv
  obtain ⟨rfl, hsz, hP, hK, hD0, hC⟩ := hv
  subst hsz
  have hts := atoms_spec (ws := Cond.code y M.1 M.2.1 M.2.2.2.1 :: TT) B.pre
  have hD := hD0.self (sz := s.heap.size)
  rw [lg_entry_eq]
  have hl2 := lv_entry As (n := M.2.1) hl
  refine k (p, l, e, (headSpec (Cond.code y M.1 M.2.1 M.2.2.2.1 :: TT) { frames := M.2.2.2.2.1, cells := mc, slots := ms, locals := M.2.2.2.2.2 }).room, s, m, As.toArray, below, meth, c, D, va_A ws s.heap.size, Z, 0, 0) rfl (fun e => (name_of_methodNamed B.named B.method).1.trans e) ⟨⟨B.exec, B.bytes, hml, ?_, B.returns, Nat.le_refl _, Nat.le_refl _, fun w hw => hts w (List.mem_cons_of_mem _ hw), B.notSynchronized, hK, fun q h => Or.inr h, hC, Nat.zero_le _, Nat.zero_le _⟩, Nat.le_refl _, Nat.le_refl _⟩ _ s.heap [] ⟨hl2.1, hl2.2.1, fun i v hi => ?_⟩ hP hD va_S.rf
  · rw [hown]; exact findClass_of_methodNamed B.named
  · have hi2 : (lvA As)[i]? = some (some v) := by
      by_cases hlt : i < (lvA As).length
      · rw [List.getElem?_append_left hlt] at hi; exact hi
      · rw [List.getElem?_append_right (by omega)] at hi
        have := List.eq_of_mem_replicate (List.mem_of_getElem? hi)
        cases this
    have := lvA_mem As 0 i v hi2
    rw [Nat.zero_add] at this
    exact hl2.2.2 (i, v) this
section JNC
variable {X : JX} {M M' : JM} {MC MS mc ms : Nat} {Q : State → Prop} {kc ks pc n index : Nat} {lv : List (Option Value)} {st rest As : List Value} {ws wc wr : va_W} {y : MethodName} {wout : (Nat → Nat) → va_W}
theorem JN.vret (as : Nat → Nat) (is : List Nat) (h1 : is.filterMap (fun i => ws[i]?) = wout as) (hn : va_nd is = true) (h2 : is.map (fun i => ws[i]?) = (wout as).map some) (hc : kc ≤ MC) (hs : ks ≤ MS) (hr : M.2.2.2.1 = Option.none) (d : decode M.1 pc = .ok (.return_, 1)) : JN X M MC MS (QN X MC MS wout) kc ks pc lv [] ws := by
  intro ok ls H locs hl hP hD hS
  have hP9 := hP.sub is h1
  have hD9 := hD.sub is hn h2
  refine W.widen (k := MC) (n := MS) hc hs ?_
  exact W.vret ok.1.1 ok.1.2.1 (ok.1.2.2.2.2.1.trans hr) (fun t ht hW => ⟨⟨rfl, as, by rw [ht]; exact hP9, va_K.moved hW.alike ok.1.hK, hD9⟩, hS.F ht⟩) hS.2.2 d (hlocks := ok.1.2.2.2.2.2.2.2.2.1)
theorem JN.alen {q0 b N : Nat} {f : Nat → Int32} (he : ws[q0]? = some (b, .inl ((xZ X).1, N, .inl f))) (v : Int32) (hv : Int32.ofNat N = v) (d : decode M.1 pc = .ok (.arraylength, 1)) (kk : JN X M MC MS Q kc ks (pc + 1) lv (.int v :: st) ws) : JN X M MC MS Q kc ks pc lv (.ref b :: st) ws :=
  fun ok ls H locs hl hP hD hS => va_alen ok.1.1 ok.1.2.1 ok.1.hK hP q0 0 he (ty := .int) rfl hv d (kk ok ls H locs hl hP hD hS)
/-- what is behind a call in a constructor -/
theorem JN.back (isC isR : List Nat) (hC : isC.map (fun i => ws[i]?) = wc.map some) (hR : isR.map (fun i => ws[i]?) = wr.map some) (hnd : va_nd isR = true) (hdis : ∀ i ∈ isR, i ∉ isC) (ok : OKN X M MC MS) {ls : Array Slot} {H : Heap} {locs : List Loc} (hl : lvD ls M.2.1 lv) (hP : va_P (xD X) vwCl ws H) (hD : va_D (xA X) ws) (hS : va_S (xA X) (xs X).heap H locs)
    (k : ∀ as, JN X M MC MS Q (kc + mc) (ks + ms) (pc + 3) lv rest (wr ++ wout as))
    (hr : va_Run (xp X) (xl X) (xe X) (xR X) (xs X) (xm X) (xargs X) (xbelow X) (xmeth X) (xc X) H locs kc ks mc ms (F0 (xm X) pc ls st) rest (fun (st0 : State) (oc : Outcome) (t : State) => (oc = .returned none ∧ ∃ as : Nat → Nat, va_P (xD X) vwCl (wout as) t.heap ∧ va_K (xD X) vwCl (xtys X) t ∧ va_D (va_A wc H.size) (wout as)) ∧ va_F (va_A wc H.size) st0 t) (va_A wc H.size)) :
    W (xp X) (xl X) (xe X) (xR X) (xs X) (xm X) (xargs X) (xbelow X) (xmeth X) (xc X) H locs kc ks Q (F0 (xm X) pc ls st) := by
  have hFc := va_free (wc := wc) hD hS ok.1.2.2.2.2.2.2.2.2.2.2.1 isC hC
  intro T hT Xs
  obtain ⟨v, st₀, t, T', L, h0, X', hL, e1, e2, ⟨⟨hv, as, hPb, hKb, hDb⟩, hz, hk1⟩, stp⟩ := hr T hT Xs
  have hv2 : v = none := by simpa using hv
  subst hv2
  rw [h0] at hz hk1
  obtain ⟨hP2, hD2⟩ := va_join (wr := wr) (w1 := wout as) hP hD isC isR hC hR hnd hdis hk1 hFc hPb hDb
  obtain ⟨t2, a1, b1⟩ := k as ok ls T'.heap (locs ++ L) hl (by rw [e1]; exact hP2) hD2 ⟨Nat.le_trans hS.1 (by rw [e1]; exact hz), fun q h1 h2 => by rw [e1, hk1 q (Nat.lt_of_lt_of_le h1 hS.1) (fun z => h2 (hFc q z))]; exact hS.2.1 q h1 h2, fun q hq => by
      rcases List.mem_append.mp hq with h | h
      · exact hS.2.2 q h
      · exact hFc _ (hL q h)⟩ T' rfl X'
  exact ⟨t2, stp t2 a1, b1⟩
theorem JN.pre (isC : List Nat) (hC : isC.map (fun i => ws[i]?) = wc.map some) (hC2 : isC.filterMap (fun i => ws[i]?) = wc) (hndC : va_nd isC = true) (ok : OKN X M MC MS) {H : Heap} {locs : List Loc} (hP : va_P (xD X) vwCl ws H) (hD : va_D (xA X) ws) (hS : va_S (xA X) (xs X).heap H locs) :
    FrameBlind (va_Pc As (fun U => U.heap.size = H.size ∧ va_P (xD X) vwCl wc U.heap ∧ va_K (xD X) vwCl (xtys X) U ∧ va_D (fun _ => True) wc ∧ CW (xZ X) (va_A wc H.size) U U.heap)) ∧ ∀ U : State, U.heap = H → (xs X).WarmedH U.vm → va_Pc As (fun U => U.heap.size = H.size ∧ va_P (xD X) vwCl wc U.heap ∧ va_K (xD X) vwCl (xtys X) U ∧ va_D (fun _ => True) wc ∧ CW (xZ X) (va_A wc H.size) U U.heap) As.toArray U := by
  have hFc := va_free (wc := wc) hD hS ok.1.2.2.2.2.2.2.2.2.2.2.1 isC hC
  have hPc := hP.sub isC hC2
  have hDc := hD.sub isC hndC hC
  refine ⟨fun a U g mk q => ?_, fun U hU hW => ⟨rfl, by rw [hU], by rw [hU]; exact hPc, va_K.moved hW.alike ok.1.hK, hDc.weaken (fun _ _ _ _ => trivial), CW.call ok.1.2.2.2.2.2.2.2.2.2.2.2.1 hS hFc hU hW⟩⟩
  obtain ⟨q0, q1, qP, qK, qD, qC⟩ := q
  exact ⟨q0, q1, qP, va_K.moved (u := U) (U := U.calling g mk a) (Vm.Alike.refl U.vm) qK, qD, CW.blind qC⟩
def Ki (y : MethodName) (M' : JM) (n : Nat) : Prop := y.name = "<init>" ∧ Cond.instanceMethod y ∈ TT ∧ Cond.initialized y.cls ∈ TT ∧ Cond.code y M'.1 M'.2.1 M'.2.2.2.1 ∈ TT ∧ (y.cls ≠ "java/lang/invoke/MethodHandle" ∧ y.cls ≠ "java/lang/invoke/VarHandle" ∧ (parseMethodDescriptor y.desc).map (fun d => d.parameters.length) = some n)
theorem JN.callI {b0 : Nat} (wr : va_W) (isC isR : List Nat) (hc : CN y M' mc ms (xZ X) (.ref b0 :: As) wc wout) (K : Ki y M' n) (w1 : Cond.methodLink M.2.2.1 index y ∈ TT) (hret : M'.2.2.2.1 = Option.none) (hC : isC.map (fun i => ws[i]?) = wc.map some) (hC2 : isC.filterMap (fun i => ws[i]?) = wc) (hndC : va_nd isC = true) (hR : isR.map (fun i => ws[i]?) = wr.map some) (hnd : va_nd isR = true) (hdis : ∀ i ∈ isR, i ∉ isC)
    (hn : As.length = n) (hst : st = As.reverse ++ .ref b0 :: rest) (hroom : roomOk M M' = true) (hcat : (rest.map fun v => v.category).sum ≤ 8) (hcc : kc + mc ≤ MC) (hss : ks + ms ≤ MS) (d : decode M.1 pc = .ok (.invokespecial index, 3)) (k : ∀ as, JN X M MC MS Q (kc + mc) (ks + ms) (pc + 3) lv rest (wr ++ wout as)) : JN X M MC MS Q kc ks pc lv st ws := by
  intro ok ls H locs hl hP hD hS
  have hM := hc (xl X) (xD X) H.size
  have hpre := JN.pre (As := .ref b0 :: As) isC hC hC2 hndC ok hP hD hS
  simp only [roomOk, Bool.and_eq_true, decide_eq_true_eq] at hroom
  have hts := ok.1.hts
  obtain ⟨hy, w2, w4, w5, hd⟩ := K
  have hB : CallB (xR X) (xs X) (xargs X) M.2.2.1 index y M'.1 M'.2.1 M'.2.2.2.1 _ _ mc ms n := callB_of (rm := { frames := M'.2.2.2.2.1, cells := mc, slots := ms, locals := M'.2.2.2.2.2 }) n hts (goodTT w5) rfl rfl rfl (hts _ w4) (hts _ w1) hd ⟨Nat.le_trans hroom.1 ok.1.2.2.2.2.2.1, Nat.le_trans hroom.2 ok.1.2.2.2.2.2.2.1⟩
  rw [hret] at hB hM
  have hr := va_runI (As := As) (rest := rest) (g := F0 (xm X) pc ls st) (locs := locs) (cells := kc) (slots := ks) (e := xe X) (below := xbelow X) (meth := xmeth X) (b := b0) ⟨ok.1.1, ok.1.2.1, ok.1.2.2.1, ok.1.2.2.2.1, hts⟩ hM ⟨hB, hy, hts _ w2⟩ hpre rfl hn hl.1 hst (lv_room hcat) d ⟨Nat.le_trans hcc ok.2.1, Nat.le_trans hss ok.2.2⟩
  exact JN.back isC isR hC hR hnd hdis ok hl hP hD hS k hr
/-- a nest mate's private constructor -/
theorem JN.callIN {b0 : Nat} {host : String} (wr : va_W) (isC isR : List Nat) (hc : CN y M' mc ms (xZ X) (.ref b0 :: As) wc wout) (K : Ki y M' n) (w1 : OKX X M → va_Nw (.methodLinkNest M.2.2.1 index y host) (xs X)) (hret : M'.2.2.2.1 = Option.none) (hC : isC.map (fun i => ws[i]?) = wc.map some) (hC2 : isC.filterMap (fun i => ws[i]?) = wc) (hndC : va_nd isC = true) (hR : isR.map (fun i => ws[i]?) = wr.map some) (hnd : va_nd isR = true) (hdis : ∀ i ∈ isR, i ∉ isC)
    (hn : As.length = n) (hst : st = As.reverse ++ .ref b0 :: rest) (hroom : roomOk M M' = true) (hcat : (rest.map fun v => v.category).sum ≤ 8) (hcc : kc + mc ≤ MC) (hss : ks + ms ≤ MS) (d : decode M.1 pc = .ok (.invokespecial index, 3)) (k : ∀ as, JN X M MC MS Q (kc + mc) (ks + ms) (pc + 3) lv rest (wr ++ wout as)) : JN X M MC MS Q kc ks pc lv st ws := by
  intro ok ls H locs hl hP hD hS
  have hM := hc (xl X) (xD X) H.size
  have hpre := JN.pre (As := .ref b0 :: As) isC hC hC2 hndC ok hP hD hS
  simp only [roomOk, Bool.and_eq_true, decide_eq_true_eq] at hroom
  have hts := ok.1.hts
  obtain ⟨hy, w2, w4, w5, hd⟩ := K
  have hB : va_CN (xR X) (xs X) (xargs X) M.2.2.1 index y host M'.1 M'.2.1 M'.2.2.2.1 _ _ mc ms n := va_cnB (rm := { frames := M'.2.2.2.2.1, cells := mc, slots := ms, locals := M'.2.2.2.2.2 }) n hts (goodTT w5) rfl rfl rfl (w1 ok.1) (hts _ w4) hd ⟨Nat.le_trans hroom.1 ok.1.2.2.2.2.2.1, Nat.le_trans hroom.2 ok.1.2.2.2.2.2.2.1⟩
  rw [hret] at hB hM
  have hr := va_runIN (As := As) (rest := rest) (g := F0 (xm X) pc ls st) (locs := locs) (cells := kc) (slots := ks) (e := xe X) (below := xbelow X) (meth := xmeth X) (b := b0) ⟨ok.1.1, ok.1.2.1, ok.1.2.2.1, ok.1.2.2.2.1, hts⟩ hM ⟨hB, hy, hts _ w2⟩ hpre rfl hn hl.1 hst (lv_room hcat) d ⟨Nat.le_trans hcc ok.2.1, Nat.le_trans hss ok.2.2⟩
  exact JN.back isC isR hC hR hnd hdis ok hl hP hD hS k hr
/-- a static method on some of the cells -/
theorem JN.callS (wr : va_W) (isC isR : List Nat) (hc : CN y M' mc ms (xZ X) As wc wout) (K : Ks y M' n) (w1 : Cond.methodLink M.2.2.1 index y ∈ TT) (hC : isC.map (fun i => ws[i]?) = wc.map some) (hC2 : isC.filterMap (fun i => ws[i]?) = wc) (hndC : va_nd isC = true) (hR : isR.map (fun i => ws[i]?) = wr.map some) (hnd : va_nd isR = true) (hdis : ∀ i ∈ isR, i ∉ isC)
    (hn : As.length = n) (hst : st = As.reverse ++ rest) (hroom : roomOk M M' = true) (hcat : (rest.map fun v => v.category).sum ≤ 8) (hcc : kc + mc ≤ MC) (hss : ks + ms ≤ MS) (d : decode M.1 pc = .ok (.invokestatic index, 3)) (k : ∀ as, JN X M MC MS Q (kc + mc) (ks + ms) (pc + 3) lv rest (wr ++ wout as)) : JN X M MC MS Q kc ks pc lv st ws := by
  intro ok ls H locs hl hP hD hS
  have hM := hc (xl X) (xD X) H.size
  have hpre := JN.pre (As := As) isC hC hC2 hndC ok hP hD hS
  simp only [roomOk, Bool.and_eq_true, decide_eq_true_eq] at hroom
  have hts := ok.1.hts
  obtain ⟨w2, w4, w5, hd⟩ := K
  have hB : CallB (xR X) (xs X) (xargs X) M.2.2.1 index y M'.1 M'.2.1 M'.2.2.2.1 _ _ mc ms n := callB_of (rm := { frames := M'.2.2.2.2.1, cells := mc, slots := ms, locals := M'.2.2.2.2.2 }) n hts (goodTT w5) rfl rfl rfl (hts _ w4) (hts _ w1) hd ⟨Nat.le_trans hroom.1 ok.1.2.2.2.2.2.1, Nat.le_trans hroom.2 ok.1.2.2.2.2.2.2.1⟩
  have hr := va_runS (As := As) (rest := rest) (g := F0 (xm X) pc ls st) (locs := locs) (cells := kc) (slots := ks) (e := xe X) (below := xbelow X) (meth := xmeth X) ⟨ok.1.1, ok.1.2.1, ok.1.2.2.1, ok.1.2.2.2.1, hts⟩ hM ⟨hB, hts _ w2⟩ hpre rfl hn hl.1 hst (lv_room hcat) d ⟨Nat.le_trans hcc ok.2.1, Nat.le_trans hss ok.2.2⟩
  exact JN.back isC isR hC hR hnd hdis ok hl hP hD hS k hr
end JNC
