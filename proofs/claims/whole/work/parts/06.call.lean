/-! CONTRACTS AND CALLS in the judgement's words -/
/-- the locals with which a method begins -/
def lvA : List Value → List (Option Value)
  | [] => []
  | v :: vs => match v with
    | .long x => some (.long x) :: none :: lvA vs
    | .double x => some (.double x) :: none :: lvA vs
    | w => some w :: lvA vs
theorem lvA_long (x : Int64) (vs : List Value) : lvA (.long x :: vs) = some (.long x) :: none :: lvA vs := rfl
theorem lvA_mem : ∀ (vs : List Value) (p i : Nat) (v : Value), (lvA vs)[i]? = some (some v) → (p + i, v) ∈ lv_args p vs
  | [], p, i, v, h => by simp [lvA] at h
  | u :: us, p, i, v, h => by
    by_cases hc : u.category = 2
    · have e : lvA (u :: us) = some u :: none :: lvA us := by cases u <;> simp [Value.category] at hc <;> rfl
      rw [e] at h
      unfold lv_args
      rw [if_pos hc]
      match i, h with
      | 0, h => simp at h; subst h; exact List.mem_cons_self
      | 1, h => simp at h
      | i + 2, h =>
        have := lvA_mem us (p + 2) i v (by simpa using h)
        exact List.mem_cons_of_mem _ (by rw [show p + (i + 2) = p + 2 + i by omega]; exact this)
    · have e : lvA (u :: us) = some u :: lvA us := by cases u <;> simp [Value.category] at hc <;> rfl
      rw [e] at h
      unfold lv_args
      rw [if_neg hc]
      match i, h with
      | 0, h => simp at h; subst h; exact List.mem_cons_self
      | i + 1, h =>
        have := lvA_mem us (p + 1) i v (by simpa using h)
        exact List.mem_cons_of_mem _ (by rw [show p + (i + 1) = p + 1 + i by omega]; exact this)
/-- y's contract: from the cells ws, with the arguments As, it comes back with the answer and the cells of a, if o is some a -/
def CO {α : Type} (y : MethodName) (M : JM) (enc : α → Option Value) (Z : ZT) (wo : α → va_W) (As : List Value) (ws : va_W) (o : Option α) : Prop :=
  ∀ a, o = some a → ∀ (l : Launch) (D : va_G) (sz : Nat), Met l y (Cond.code y M.1 M.2.1 M.2.2.2.1 :: TT) { frames := M.2.2.2.2.1, cells := 0, slots := 0, locals := M.2.2.2.2.2 }
    (va_Pc As (fun U => U.heap.size = sz ∧ va_P D vwCl ws U.heap ∧ va_K D vwCl (tyl Z) U ∧ va_D (fun _ => True) ws ∧ CW Z (va_A ws sz) U U.heap))
    (fun _ st oc t => (oc = .returned (enc a) ∧ va_P D vwCl (wo a) t.heap ∧ va_K D vwCl (tyl Z) t) ∧ va_F (va_A ws sz) st t)
    0 0 (va_A ws sz)
theorem CO.of {α : Type} {y : MethodName} {M : JM} {enc : α → Option Value} {Z : ZT} {wo : α → va_W} {As : List Value} {ws : va_W} {o : Option α} (hy : plainName y.cls = true) (hown : M.2.2.1 = y.cls) (hl : (lg_sl As).length ≤ M.2.1) (n : Nat)
    (k : ∀ X : JX, xZ X = Z → JO X M (QF X enc wo) 0 (lvA As ++ List.replicate n Option.none) [] ws o) : CO y M enc Z wo As ws o := by
  intro a ho l D sz
  refine Met.ofW (cc := M.1) (maxL := M.2.1) (ret := M.2.2.2.1) hy rfl ?_
  intro p e s m args below meth c s₁ B hml hv
  obtain ⟨rfl, hsz, hP, hK, hD0, hC⟩ := hv
  subst hsz
  have hts := atoms_spec (ws := Cond.code y M.1 M.2.1 M.2.2.2.1 :: TT) B.pre
  have hD := hD0.self (sz := s.heap.size)
  rw [lg_entry_eq]
  have hl2 := lv_entry As (n := M.2.1) hl
  refine k (p, l, e, (headSpec (Cond.code y M.1 M.2.1 M.2.2.2.1 :: TT) { frames := M.2.2.2.2.1, cells := 0, slots := 0, locals := M.2.2.2.2.2 }).room, s, m, As.toArray, below, meth, c, D, va_A ws s.heap.size, Z, 0, 0) rfl a ho ⟨B.exec, B.bytes, hml, ?_, B.returns, Nat.le_refl _, Nat.le_refl _, fun w hw => hts w (List.mem_cons_of_mem _ hw), B.notSynchronized, hK, fun q h => Or.inr h, hC, Nat.zero_le _, Nat.zero_le _⟩ _ s.heap [] ⟨hl2.1, hl2.2.1, fun i v hi => ?_⟩ hP hD va_S.rf
  · rw [hown]; exact findClass_of_methodNamed B.named
  · have hi2 : (lvA As)[i]? = some (some v) := by
      by_cases hlt : i < (lvA As).length
      · rw [List.getElem?_append_left hlt] at hi; exact hi
      · rw [List.getElem?_append_right (by omega)] at hi
        have := List.eq_of_mem_replicate (List.mem_of_getElem? hi)
        cases this
    have := lvA_mem As 0 i v hi2
    rw [Nat.zero_add] at this
    exact hl2.2.2 (i, v) this
theorem va_D_same {A : Nat → Prop} {ws ws' : va_W} (h : va_D A ws) (e : ws'.map Prod.fst = ws.map Prod.fst) : va_D A ws' := by
  have key : ∀ (i : Nat) (p : Nat × va_E), ws'[i]? = some p → ∃ p', ws[i]? = some p' ∧ p'.1 = p.1 := by
    intro i p hp
    have h1 : (ws'.map Prod.fst)[i]? = some p.1 := by rw [List.getElem?_map, hp]; rfl
    rw [e, List.getElem?_map] at h1
    cases h2 : ws[i]? with
    | none => rw [h2] at h1; cases h1
    | some p' => rw [h2] at h1; exact ⟨p', rfl, by simpa using h1⟩
  refine ⟨fun i j p q hp hq hpq => ?_, fun i p hp => ?_⟩
  · obtain ⟨p', h1, h2⟩ := key i p hp
    obtain ⟨q', h3, h4⟩ := key j q hq
    exact h.1 i j p' q' h1 h3 (by rw [h2, h4]; exact hpq)
  · obtain ⟨p', h1, h2⟩ := key i p hp
    rw [← h2]
    exact h.2 i p' h1
theorem goodTT {y : MethodName} {M : JM} (h : Cond.code y M.1 M.2.1 M.2.2.2.1 ∈ TT) : GoodIn TT (Cond.code y M.1 M.2.1 M.2.2.2.1 :: TT) := fun w hw => by
  rcases List.mem_cons.mp hw with rfl | hw
  · exact ⟨h, good_of_word (tt_good h)⟩
  · exact ⟨hw, good_of_word (tt_good hw)⟩
/-- the callee's room is in the caller's -/
def roomOk (M M' : JM) : Bool := decide (M'.2.2.2.2.1 + 1 ≤ M.2.2.2.2.1) && decide (8 + (M'.2.1 + 11) + M'.2.2.2.2.2 ≤ M.2.2.2.2.2)
section JC
variable {α β : Type} {X : JX} {M M' : JM} {Qf : α → State → Prop} {pc : Nat} {lv : List (Option Value)} {st rest : List Value} {ws : va_W} {o' : Option β} {y : MethodName} {enc : β → Option Value} {wo : β → va_W} {As : List Value}
/-- what is behind a call, out of the run -/
theorem JO.back {kk : β → Option α} {a : α} {b : β} (ok : OKX X M) {ls : Array Slot} {H : Heap} {locs : List Loc} (hl : lvD ls M.2.1 lv) (hP : va_P (xD X) vwCl ws H) (hD : va_D (xA X) ws) (hS : va_S (xA X) (xs X).heap H locs)
    (hsame : ∀ b, (wo b).map Prod.fst = ws.map Prod.fst) (k : ∀ b, JO X M Qf (pc + 3) lv ((enc b).toList ++ rest) (wo b) (kk b)) (hk : kk b = some a)
    (hr : va_Run (xp X) (xl X) (xe X) (xR X) (xs X) (xm X) (xargs X) (xbelow X) (xmeth X) (xc X) H locs (xk X).1 (xk X).2 0 0 (F0 (xm X) pc ls st) rest (fun (st0 : State) (oc : Outcome) (t : State) => (oc = .returned (enc b) ∧ va_P (xD X) vwCl (wo b) t.heap ∧ va_K (xD X) vwCl (xtys X) t) ∧ va_F (va_A ws H.size) st0 t) (va_A ws H.size)) :
    W (xp X) (xl X) (xe X) (xR X) (xs X) (xm X) (xargs X) (xbelow X) (xmeth X) (xc X) H locs (xk X).1 (xk X).2 (Qf a) (F0 (xm X) pc ls st) := by
  have hA : ∀ q, va_A ws H.size q → xA X q := by
    rintro q (⟨k, e, hq⟩ | hq)
    · exact hD.2 k _ hq
    · exact ok.2.2.2.2.2.2.2.2.2.2.1 q (Nat.le_trans hS.1 hq)
  intro T hT Xs
  obtain ⟨v, st₀, t, T', L, h0, X', hL, e1, e2, ⟨⟨hv, hPb, hKb⟩, hz, hk1⟩, stp⟩ := hr T hT Xs
  have hv2 : v = enc b := by simpa using hv
  subst hv2
  rw [h0] at hz hk1
  obtain ⟨t2, a1, b1⟩ := k b a hk ok ls T'.heap (locs ++ L) hl (by rw [e1]; exact hPb) (va_D_same hD (hsame b)) ⟨Nat.le_trans hS.1 (by rw [e1]; exact hz), fun q h1 h2 => by rw [e1, hk1 q (Nat.lt_of_lt_of_le h1 hS.1) (fun z => h2 (hA q z))]; exact hS.2.1 q h1 h2, fun q hq => by
      rcases List.mem_append.mp hq with h | h
      · exact hS.2.2 q h
      · exact hA _ (hL q h)⟩ T' rfl X'
  exact ⟨t2, stp t2 a1, b1⟩
theorem JO.pre {b : β} (hc : CO y M' enc (xZ X) wo As ws o') (hb : o' = some b) (ok : OKX X M) {H : Heap} {locs : List Loc} (hP : va_P (xD X) vwCl ws H) (hD : va_D (xA X) ws) (hS : va_S (xA X) (xs X).heap H locs) :
    FrameBlind (va_Pc As (fun U => U.heap.size = H.size ∧ va_P (xD X) vwCl ws U.heap ∧ va_K (xD X) vwCl (xtys X) U ∧ va_D (fun _ => True) ws ∧ CW (xZ X) (va_A ws H.size) U U.heap)) ∧ ∀ U : State, U.heap = H → (xs X).WarmedH U.vm → va_Pc As (fun U => U.heap.size = H.size ∧ va_P (xD X) vwCl ws U.heap ∧ va_K (xD X) vwCl (xtys X) U ∧ va_D (fun _ => True) ws ∧ CW (xZ X) (va_A ws H.size) U U.heap) As.toArray U := by
  have hA : ∀ q, va_A ws H.size q → xA X q := by
    rintro q (⟨k, e, hq⟩ | hq)
    · exact hD.2 k _ hq
    · exact ok.2.2.2.2.2.2.2.2.2.2.1 q (Nat.le_trans hS.1 hq)
  refine ⟨fun a U g mk q => ?_, fun U hU hW => ⟨rfl, by rw [hU], by rw [hU]; exact hP, va_K.moved hW.alike ok.2.2.2.2.2.2.2.2.2.1, hD.weaken (fun _ _ _ _ => trivial), CW.call ok.2.2.2.2.2.2.2.2.2.2.2.1 hS hA hU hW⟩⟩
  obtain ⟨q0, q1, qP, qK, qD, qC⟩ := q
  exact ⟨q0, q1, qP, va_K.moved (u := U) (U := U.calling g mk a) (Vm.Alike.refl U.vm) qK, qD, CW.blind qC⟩
/-- a method of the receiver's own class -/
theorem JO.callV {index q0 ci N b0 n : Nat} {C : String} {T : u_T} {fs : List Value} {kk : β → Option α} (hc : CO y M' enc (xZ X) wo (.ref b0 :: As) ws o') (hcl : vwCl[ci]? = some (C, T, N)) (he : ws[q0]? = some (b0, .inr (ci, fs))) (hC : y.cls = C)
    (w1 : Cond.methodLink M.2.2.1 index y ∈ TT) (w2 : Cond.instanceMethod y ∈ TT) (w3 : Cond.selects C y y ∈ TT) (w4 : Cond.initialized C ∈ TT) (w5 : Cond.code y M'.1 M'.2.1 M'.2.2.2.1 ∈ TT)
    (hd : y.cls ≠ "java/lang/invoke/MethodHandle" ∧ y.cls ≠ "java/lang/invoke/VarHandle" ∧ (parseMethodDescriptor y.desc).map (fun d => d.parameters.length) = some n) (hn : As.length = n) (hst : st = As.reverse ++ .ref b0 :: rest) (hroom : roomOk M M' = true) (hcat : (rest.map fun v => v.category).sum ≤ 8)
    (hsame : ∀ b, (wo b).map Prod.fst = ws.map Prod.fst) (d : decode M.1 pc = .ok (.invokevirtual index, 3)) (k : ∀ b, JO X M Qf (pc + 3) lv ((enc b).toList ++ rest) (wo b) (kk b)) : JO X M Qf pc lv st ws (o'.bind kk) := by
  intro a h ok ls H locs hl hP hD hS
  obtain ⟨b, hb, hk⟩ := Option.bind_eq_some_iff.mp h
  have hM := hc b hb (xl X) (xD X) H.size
  have hpre := JO.pre hc hb ok hP hD hS
  simp only [roomOk, Bool.and_eq_true, decide_eq_true_eq] at hroom
  have hts := ok.2.2.2.2.2.2.2.1
  have hB : CallB (xR X) (xs X) (xargs X) M.2.2.1 index y M'.1 M'.2.1 M'.2.2.2.1 _ _ 0 0 n := callB_of (rm := { frames := M'.2.2.2.2.1, cells := 0, slots := 0, locals := M'.2.2.2.2.2 }) n hts (goodTT w5) rfl rfl rfl (by rw [hC]; exact hts _ w4) (hts _ w1) hd ⟨Nat.le_trans hroom.1 ok.2.2.2.2.2.1, Nat.le_trans hroom.2 ok.2.2.2.2.2.2.1⟩
  have hr := va_runV (As := As) (rest := rest) (g := F0 (xm X) pc ls st) (locs := locs) (cells := (xk X).1) (slots := (xk X).2) (e := xe X) (below := xbelow X) (meth := xmeth X) (b := b0) ⟨ok.1, ok.2.1, ok.2.2.1, ok.2.2.2.1, hts⟩ hM ⟨hB, hts _ w2, hts _ w3⟩ ⟨hpre.1, va_recv ok.2.2.2.2.2.2.2.2.2.1 hP hcl he, hpre.2⟩ rfl hn hl.1 hst (lv_room hcat) d ok.2.2.2.2.2.2.2.2.2.2.2.2
  exact JO.back ok hl hP hD hS hsame k hk hr
/-- a static method -/
theorem JO.callS {index n : Nat} {kk : β → Option α} (hc : CO y M' enc (xZ X) wo As ws o')
    (w1 : Cond.methodLink M.2.2.1 index y ∈ TT) (w2 : Cond.static y ∈ TT) (w4 : Cond.initialized y.cls ∈ TT) (w5 : Cond.code y M'.1 M'.2.1 M'.2.2.2.1 ∈ TT)
    (hd : y.cls ≠ "java/lang/invoke/MethodHandle" ∧ y.cls ≠ "java/lang/invoke/VarHandle" ∧ (parseMethodDescriptor y.desc).map (fun d => d.parameters.length) = some n) (hn : As.length = n) (hst : st = As.reverse ++ rest) (hroom : roomOk M M' = true) (hcat : (rest.map fun v => v.category).sum ≤ 8)
    (hsame : ∀ b, (wo b).map Prod.fst = ws.map Prod.fst) (d : decode M.1 pc = .ok (.invokestatic index, 3)) (k : ∀ b, JO X M Qf (pc + 3) lv ((enc b).toList ++ rest) (wo b) (kk b)) : JO X M Qf pc lv st ws (o'.bind kk) := by
  intro a h ok ls H locs hl hP hD hS
  obtain ⟨b, hb, hk⟩ := Option.bind_eq_some_iff.mp h
  have hM := hc b hb (xl X) (xD X) H.size
  have hpre := JO.pre hc hb ok hP hD hS
  simp only [roomOk, Bool.and_eq_true, decide_eq_true_eq] at hroom
  have hts := ok.2.2.2.2.2.2.2.1
  have hB : CallB (xR X) (xs X) (xargs X) M.2.2.1 index y M'.1 M'.2.1 M'.2.2.2.1 _ _ 0 0 n := callB_of (rm := { frames := M'.2.2.2.2.1, cells := 0, slots := 0, locals := M'.2.2.2.2.2 }) n hts (goodTT w5) rfl rfl rfl (hts _ w4) (hts _ w1) hd ⟨Nat.le_trans hroom.1 ok.2.2.2.2.2.1, Nat.le_trans hroom.2 ok.2.2.2.2.2.2.1⟩
  have hr := va_runS (As := As) (rest := rest) (g := F0 (xm X) pc ls st) (locs := locs) (cells := (xk X).1) (slots := (xk X).2) (e := xe X) (below := xbelow X) (meth := xmeth X) ⟨ok.1, ok.2.1, ok.2.2.1, ok.2.2.2.1, hts⟩ hM ⟨hB, hts _ w2⟩ hpre rfl hn hl.1 hst (lv_room hcat) d ok.2.2.2.2.2.2.2.2.2.2.2.2
  exact JO.back ok hl hP hD hS hsame k hk hr
end JC
/-- how answers stand on the stack -/
abbrev eI {S : Type} : Int32 × S → Option Value := fun a => some (.int a.1)
abbrev eZ {S : Type} : Bool × S → Option Value := fun a => some (.int (bI a.1))
abbrev eL {S : Type} : Int64 × S → Option Value := fun a => some (.long a.1)
abbrev eV {S : Type} : Unit × S → Option Value := fun _ => none
