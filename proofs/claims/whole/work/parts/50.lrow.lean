/-! THE LAW'S ROWS: the script, two worlds side by side -/
def SX (X : JX) (b L : Nat) (sc : Nat → Int32) : Prop := va_X b L sc (xs X) (xs X).heap ∧ b < (xs X).heap.size ∧ ¬ xA X b
theorem pl_at {w1 w2 : va_W} {D : va_G} {H : Heap} (h : va_P D vwCl (w1 ++ w2) H) : va_P D vwCl w1 H ∧ va_P D vwCl w2 H := by
  refine ⟨fun k q hk => h k q ?_, fun k q hk => h (w1.length + k) q ?_⟩
  · rw [List.getElem?_append_left (List.getElem?_eq_some_iff.mp hk).1]; exact hk
  · rw [List.getElem?_append_right (by omega), Nat.add_sub_cancel_left]; exact hk
theorem pl_D {w1 w2 : va_W} {A : Nat → Prop} (h : va_D A (w1 ++ w2)) : va_D A w1 ∧ va_D A w2 ∧ ∀ (i j : Nat) (p q : Nat × va_E), w1[i]? = some p → w2[j]? = some q → p.1 ≠ q.1 := by
  have hl : ∀ {k : Nat} {q : Nat × va_E}, w1[k]? = some q → (w1 ++ w2)[k]? = some q := fun hk => by rw [List.getElem?_append_left (List.getElem?_eq_some_iff.mp hk).1]; exact hk
  have hr : ∀ {k : Nat} {q : Nat × va_E}, w2[k]? = some q → (w1 ++ w2)[w1.length + k]? = some q := fun hk => by rw [List.getElem?_append_right (by omega), Nat.add_sub_cancel_left]; exact hk
  refine ⟨⟨fun i j p q hp hq e => h.1 i j p q (hl hp) (hl hq) e, fun k q hk => h.2 k q (hl hk)⟩, ⟨fun i j p q hp hq e => ?_, fun k q hk => h.2 _ q (hr hk)⟩, fun i j p q hp hq e => ?_⟩
  · have := h.1 _ _ p q (hr hp) (hr hq) e; omega
  · have := h.1 _ _ p q (hl hp) (hr hq) e
    have := (List.getElem?_eq_some_iff.mp hp).1
    omega
section LR
variable {X : JX} {M M' : JM} {MC MS : Nat} {Q : State → Prop} {kc ks pc n index : Nat} {lv : List (Option Value)} {st rest As : List Value} {ws wl wr : va_W} {y : MethodName}
theorem JN.slen {b L : Nat} {sc : Nat → Int32} (h : SX X b L sc) (d : decode M.1 pc = .ok (.arraylength, 1)) (k : JN X M MC MS Q kc ks (pc + 1) lv (.int (Int32.ofNat L) :: st) ws) : JN X M MC MS Q kc ks pc lv (.ref b :: st) ws :=
  fun ok ls H locs hl hP hD hS => va_slen ok.1.1 ok.1.2.1 h.1 h.2.1 h.2.2 hS d (k ok ls H locs hl hP hD hS)
theorem JN.sld {b L : Nat} {sc : Nat → Int32} {i : Int32} (h : SX X b L sc) (hi : inB i L = true) (d : decode M.1 pc = .ok (.iaload, 1)) (k : JN X M MC MS Q kc ks (pc + 1) lv (.int (sc (ix i)) :: st) ws) : JN X M MC MS Q kc ks pc lv (.int i :: .ref b :: st) ws :=
  fun ok ls H locs hl hP hD hS => va_sld ok.1.1 ok.1.2.1 h.1 h.2.1 h.2.2 hS (inB_in hi) d (k ok ls H locs hl hP hD hS)
theorem JN.iadd {x y : Int32} (d : decode M.1 pc = .ok (.iadd, 1)) (k : JN X M MC MS Q kc ks (pc + 1) lv (.int (x + y) :: st) ws) : JN X M MC MS Q kc ks pc lv (.int y :: .int x :: st) ws :=
  fun ok ls H locs hl hP hD hS => lv_iadd ok.1.1 ok.1.2.1 d (k ok ls H locs hl hP hD hS)
theorem JN.isub {x y : Int32} (d : decode M.1 pc = .ok (.isub, 1)) (k : JN X M MC MS Q kc ks (pc + 1) lv (.int (x - y) :: st) ws) : JN X M MC MS Q kc ks pc lv (.int y :: .int x :: st) ws :=
  fun ok ls H locs hl hP hD hS => lv_isub ok.1.1 ok.1.2.1 d (k ok ls H locs hl hP hD hS)
theorem JN.iand {x y : Int32} (d : decode M.1 pc = .ok (.iand, 1)) (k : JN X M MC MS Q kc ks (pc + 1) lv (.int (x &&& y) :: st) ws) : JN X M MC MS Q kc ks pc lv (.int y :: .int x :: st) ws :=
  fun ok ls H locs hl hP hD hS => lv_iand ok.1.1 ok.1.2.1 d (k ok ls H locs hl hP hD hS)
theorem JN.i2l {x : Int32} (d : decode M.1 pc = .ok (.i2l, 1)) (k : JN X M MC MS Q kc ks (pc + 1) lv (.long x.toInt64 :: st) ws) : JN X M MC MS Q kc ks pc lv (.int x :: st) ws :=
  fun ok ls H locs hl hP hD hS => lv_i2l ok.1.1 ok.1.2.1 d rfl (k ok ls H locs hl hP hD hS)
theorem JN.lshl {x : Int64} {y : Int32} (d : decode M.1 pc = .ok (.lshl, 1)) (k : JN X M MC MS Q kc ks (pc + 1) lv (.long (x <<< (y.toInt64 &&& 63)) :: st) ws) : JN X M MC MS Q kc ks pc lv (.int y :: .long x :: st) ws :=
  fun ok ls H locs hl hP hD hS => lv_lshl ok.1.1 ok.1.2.1 d rfl (k ok ls H locs hl hP hD hS)
theorem JN.land {x y : Int64} (d : decode M.1 pc = .ok (.land, 1)) (k : JN X M MC MS Q kc ks (pc + 1) lv (.long (x &&& y) :: st) ws) : JN X M MC MS Q kc ks pc lv (.long y :: .long x :: st) ws :=
  fun ok ls H locs hl hP hD hS => lv_land ok.1.1 ok.1.2.1 d (k ok ls H locs hl hP hD hS)
theorem JN.lor {x y : Int64} (d : decode M.1 pc = .ok (.lor, 1)) (k : JN X M MC MS Q kc ks (pc + 1) lv (.long (x ||| y) :: st) ws) : JN X M MC MS Q kc ks pc lv (.long y :: .long x :: st) ws :=
  fun ok ls H locs hl hP hD hS => lv_lor ok.1.1 ok.1.2.1 d (k ok ls H locs hl hP hD hS)
theorem JN.ldc2 {v : Int64} (w : Cond.constantLong M.2.2.1 index v ∈ TT) (d : decode M.1 pc = .ok (.ldc2_w index, 3)) (k : JN X M MC MS Q kc ks (pc + 3) lv (.long v :: st) ws) : JN X M MC MS Q kc ks pc lv st ws :=
  fun ok ls H locs hl hP hD hS => lv_ldc2 ok.1.1 ok.1.2.1 ok.1.2.2.2.1 (ok.1.hts _ w) d (k ok ls H locs hl hP hD hS)
theorem JN.astoren {i : Fin 4} {x : Nat} {lv' : List (Option Value)} (d : decode M.1 pc = .ok (.astore_n i, 1)) (hi : decide ((i : Nat) < M.2.1) = true) (hk : lvOk lv i = true) (hw : lv.set i (some (.ref x)) = lv') (k : JN X M MC MS Q kc ks (pc + 1) lv' st ws) : JN X M MC MS Q kc ks pc lv (.ref x :: st) ws :=
  fun ok ls H locs hl hP hD hS => lv_astore_n ok.1.1 ok.1.2.1 d rfl hl.has (of_decide_eq_true hi) rfl (fun ls' hl' => k ok ls' H locs (hw ▸ lvD.set1 hk hl') hP hD hS)
/-- two answers that are one -/
theorem JN.eqT {x : Int32} {off : Int} (tgt : Nat) (d : decode M.1 pc = .ok (.if_icmp .eq off, 3)) (ht : (pc : Int) + off = (tgt : Int)) (k : JN X M MC MS Q kc ks tgt lv st ws) : JN X M MC MS Q kc ks pc lv (.int x :: .int x :: st) ws :=
  fun ok ls H locs hl hP hD hS => lv_icmp_eq ok.1.1 ok.1.2.1 d ht (fun _ => k ok ls H locs hl hP hD hS) (fun c => absurd rfl c)
theorem JN.leqT {x : Int64} {off : Int} (tgt : Nat) (d1 : decode M.1 pc = .ok (.lcmp, 1)) (d : decode M.1 (pc + 1) = .ok (.ifCond .eq off, 3)) (ht : ((pc + 1 : Nat) : Int) + off = (tgt : Int)) (k : JN X M MC MS Q kc ks tgt lv st ws) : JN X M MC MS Q kc ks pc lv (.long x :: .long x :: st) ws :=
  fun ok ls H locs hl hP hD hS => W.lcmp ok.1.1 ok.1.2.1 d1 (lv_if_eq ok.1.1 ok.1.2.1 d ht (fun _ => k ok ls H locs hl hP hD hS) (fun c => absurd (by simp [lg_cmp]) c))
theorem JN.gt {x y : Int32} {off : Int} (tgt : Nat) (d : decode M.1 pc = .ok (.if_icmp .gt off, 3)) (ht : (pc : Int) + off = (tgt : Int)) (kt : y < x → JN X M MC MS Q kc ks tgt lv st ws) (kf : ¬ y < x → JN X M MC MS Q kc ks (pc + 3) lv st ws) : JN X M MC MS Q kc ks pc lv (.int y :: .int x :: st) ws :=
  fun ok ls H locs hl hP hD hS => lv_icmp_gt ok.1.1 ok.1.2.1 d ht (fun c => kt c ok ls H locs hl hP hD hS) (fun c => kf c ok ls H locs hl hP hD hS)
/-- a number told apart from 0, as a truth value: two places that meet at one -/
theorem JN.nz {x : Int32} {o1 o2 : Int} {p2 p3 : Nat} (b : Bool) (hb : b = decide (x ≠ 0)) (d0 : decode M.1 pc = .ok (.ifCond .eq o1, 3)) (h0 : (pc : Int) + o1 = (p2 : Int)) (d1 : decode M.1 (pc + 3) = .ok (.iconst 1, 1)) (d2 : decode M.1 (pc + 4) = .ok (.goto o2, 3)) (h2 : ((pc + 4 : Nat) : Int) + o2 = (p3 : Int)) (d3 : decode M.1 p2 = .ok (.iconst 0, 1)) (h3 : p2 + 1 = p3)
    (k : JN X M MC MS Q kc ks p3 lv (.int (bI b) :: st) ws) : JN X M MC MS Q kc ks pc lv (.int x :: st) ws := by
  intro ok ls H locs hl hP hD hS
  refine lv_if_eq ok.1.1 ok.1.2.1 d0 h0 (fun c => ?_) (fun c => ?_)
  · have : b = false := by rw [hb]; simp [c]
    subst this
    refine lv_iconst (v := 0) ok.1.1 ok.1.2.1 d3 (by decide) ?_
    rw [h3]
    exact k ok ls H locs hl hP hD hS
  · have : b = true := by rw [hb]; simp [c]
    subst this
    refine lv_iconst (v := 1) ok.1.1 ok.1.2.1 d1 (by decide) ?_
    exact lv_goto ok.1.1 ok.1.2.1 d2 h2 (k ok ls H locs hl hP hD hS)
/-- a call on a part of the cells whose answer is known -/
theorem JN.callF {β : Type} {b0 : Nat} {C : String} {enc : β → Option Value} {wo : β → va_W} {o' : Option β} {b : β} {T : u_T} {ci N q0 : Nat} {fs : List Value} (left : Bool) (hc : CO y M' enc (xZ X) wo (.ref b0 :: As) wl o') (hb : o' = some b) (hcl : vwCl[ci]? = some (C, T, N)) (he : wl[q0]? = some (b0, .inr (ci, fs))) (K : Kv y M' C n) (w1 : Cond.methodLink M.2.2.1 index y ∈ TT)
    (hws : ws = if left then wl ++ wr else wr ++ wl) (hn : As.length = n) (hst : st = As.reverse ++ .ref b0 :: rest) (hroom : roomOk M M' = true) (hcat : (rest.map fun v => v.category).sum ≤ 8) (hkc : kc ≤ MC) (hks : ks ≤ MS)
    (hsame : (wo b).map Prod.fst = wl.map Prod.fst) (d : decode M.1 pc = .ok (.invokevirtual index, 3)) (k : JN X M MC MS Q kc ks (pc + 3) lv ((enc b).toList ++ rest) (if left then wo b ++ wr else wr ++ wo b)) : JN X M MC MS Q kc ks pc lv st ws := by
  intro ok ls H locs hl hP hD hS
  have hPl : va_P (xD X) vwCl wl H := by cases left <;> subst hws; exact (pl_at hP).2; exact (pl_at hP).1
  have hPr : va_P (xD X) vwCl wr H := by cases left <;> subst hws; exact (pl_at hP).1; exact (pl_at hP).2
  have hDl : va_D (xA X) wl := by cases left <;> subst hws; exact (pl_D hD).2.1; exact (pl_D hD).1
  have hx : ∀ (i j : Nat) (p q : Nat × va_E), wl[i]? = some p → wr[j]? = some q → p.1 ≠ q.1 := by
    cases left <;> subst hws
    · exact fun i j p q h1 h2 e => (pl_D hD).2.2 j i q p h2 h1 e.symm
    · exact (pl_D hD).2.2
  have hA : ∀ q, va_A wl H.size q → xA X q := by
    rintro q (⟨k, e, hq⟩ | hq)
    · exact hDl.2 k _ hq
    · exact ok.1.2.2.2.2.2.2.2.2.2.2.1 q (Nat.le_trans hS.1 hq)
  have hM := hc b hb (xl X) (xD X) H.size
  have hpre := JO.pre hc hb ok.1 hPl hDl hS
  simp only [roomOk, Bool.and_eq_true, decide_eq_true_eq] at hroom
  have hts := ok.1.hts
  obtain ⟨hC, w2, w3, w4, w5, hd⟩ := K
  have hB : CallB (xR X) (xs X) (xargs X) M.2.2.1 index y M'.1 M'.2.1 M'.2.2.2.1 _ _ 0 0 n := callB_of (rm := { frames := M'.2.2.2.2.1, cells := 0, slots := 0, locals := M'.2.2.2.2.2 }) n hts (goodTT w5) rfl rfl rfl (by rw [hC]; exact hts _ w4) (hts _ w1) hd ⟨Nat.le_trans hroom.1 ok.1.2.2.2.2.2.1, Nat.le_trans hroom.2 ok.1.2.2.2.2.2.2.1⟩
  have hr := va_runV (As := As) (rest := rest) (g := F0 (xm X) pc ls st) (locs := locs) (cells := kc) (slots := ks) (e := xe X) (below := xbelow X) (meth := xmeth X) (b := b0) ⟨ok.1.1, ok.1.2.1, ok.1.2.2.1, ok.1.2.2.2.1, hts⟩ hM ⟨hB, hts _ w2, hts _ w3⟩ ⟨hpre.1, va_recv ok.1.hK hPl hcl he, hpre.2⟩ rfl hn hl.1 hst (lv_room hcat) d ⟨Nat.le_trans hkc ok.2.1, Nat.le_trans hks ok.2.2⟩
  intro T1 hT Xs
  obtain ⟨v, st₀, t, T', L, h0, X', hL, e1, e2, ⟨⟨hv, hPb, hKb⟩, hz, hk1⟩, stp⟩ := hr T1 hT Xs
  have hv2 : v = enc b := by simpa using hv
  subst hv2
  rw [h0] at hz hk1
  have hPr2 : va_P (xD X) vwCl wr t.heap := hPr.kept (fun k q hk => hk1 q.1 (hPr k q hk).lt (by
    rintro (⟨i, e, hi⟩ | hi)
    · exact hx i k (q.1, e) q hi hk rfl
    · exact absurd hi (Nat.not_le.mpr (hPr k q hk).lt)))
  obtain ⟨t2, a1, b1⟩ := k ok ls T'.heap (locs ++ L) hl (by
      rw [e1]
      cases left
      · exact hPr2.app hPb
      · exact hPb.app hPr2) (by
      refine va_D_same hD ?_
      subst hws
      cases left <;> simp [hsame]) ⟨Nat.le_trans hS.1 (by rw [e1]; exact hz), fun q h1 h2 => by rw [e1, hk1 q (Nat.lt_of_lt_of_le h1 hS.1) (fun z => h2 (hA q z))]; exact hS.2.1 q h1 h2, fun q hq => by
      rcases List.mem_append.mp hq with h | h
      · exact hS.2.2 q h
      · exact hA _ (hL q h)⟩ T' rfl X'
  exact ⟨t2, stp t2 a1, b1⟩
end LR
