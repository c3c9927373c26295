/-! THE WALK'S JUDGEMENT. One tuple X holds all that stays the same while a method runs; JO says: from this place, with these locals, this stack and these cells,
the method comes to its end as the pure expression o says (o = none: nothing is claimed). A row an instruction; every row peels o where the instruction needs a test. -/
abbrev JX : Type := Program × Launch × Env × Room × State × MethodId × Array Value × List Frame × Method × Code × va_G × (Nat → Prop) × (ClassId × ClassId × ClassId × ClassId × (Nat → Nat → Nat)) × Nat × Nat
abbrev xp (X : JX) : Program := X.1
abbrev xl (X : JX) : Launch := X.2.1
abbrev xe (X : JX) : Env := X.2.2.1
abbrev xR (X : JX) : Room := X.2.2.2.1
abbrev xs (X : JX) : State := X.2.2.2.2.1
abbrev xm (X : JX) : MethodId := X.2.2.2.2.2.1
abbrev xargs (X : JX) : Array Value := X.2.2.2.2.2.2.1
abbrev xbelow (X : JX) : List Frame := X.2.2.2.2.2.2.2.1
abbrev xmeth (X : JX) : Method := X.2.2.2.2.2.2.2.2.1
abbrev xc (X : JX) : Code := X.2.2.2.2.2.2.2.2.2.1
abbrev xD (X : JX) : va_G := X.2.2.2.2.2.2.2.2.2.2.1
abbrev xA (X : JX) : Nat → Prop := X.2.2.2.2.2.2.2.2.2.2.2.1
/-- the classes of the rows: of ints, of longs, of shelves, of sites -/
abbrev ZT : Type := ClassId × ClassId × ClassId × ClassId × (Nat → Nat → Nat)
abbrev xZ (X : JX) : ZT := X.2.2.2.2.2.2.2.2.2.2.2.2.1
/-- cells and slots made so far -/
abbrev xk (X : JX) : Nat × Nat := X.2.2.2.2.2.2.2.2.2.2.2.2.2
abbrev tyl (Z : ZT) : List (ClassId × FieldType) := [(Z.1, .int), (Z.2.1, .long), (Z.2.2.1, .object "CommitPrefixes$Shelf"), (Z.2.2.2.1, .object "CommitPrefixes$Site")]
abbrev xtys (X : JX) : List (ClassId × FieldType) := tyl (xZ X)
/-- what is fixed of a method: bytes, locals, class, answer's type, frames, words of locals -/
abbrev JM : Type := ByteArray × Nat × String × Option FieldType × Nat × Nat
/-- the locals, by their places -/
def lvD (ls : Array Slot) (nL : Nat) (lv : List (Option Value)) : Prop := ls.size = nL ∧ lv_wf ls ∧ ∀ (i : Nat) (v : Value), lv[i]? = some (some v) → ls[i]? = some (.val v)
def lvP (lv : List (Option Value)) : List (Nat × Value) := (List.range lv.length).filterMap (fun i => (lv[i]?.join).map (fun v => (i, v)))
theorem lvP_mem {lv : List (Option Value)} {q : Nat × Value} : q ∈ lvP lv ↔ lv[q.1]? = some (some q.2) := by
  obtain ⟨i, v⟩ := q
  unfold lvP
  rw [List.mem_filterMap]
  constructor
  · rintro ⟨j, hj, h⟩
    cases e : lv[j]? with
    | none => simp [e] at h
    | some w =>
      cases w with
      | none => simp [e] at h
      | some u => simp [e] at h; obtain ⟨rfl, rfl⟩ := h; exact e
  · intro h
    refine ⟨i, List.mem_range.mpr (List.getElem?_eq_some_iff.mp h).1, ?_⟩
    simp only at h
    simp [h]
theorem lvD.has {ls : Array Slot} {nL : Nat} {lv : List (Option Value)} (h : lvD ls nL lv) : lv_has ls nL (lvP lv) := ⟨h.1, h.2.1, fun q hq => h.2.2 q.1 q.2 (lvP_mem.mp hq)⟩
/-- a value of one slot may be stored at i: no long stands across -/
def lvOk (lv : List (Option Value)) (i : Nat) : Bool := match i with
  | 0 => true
  | j + 1 => match lv[j]? with
    | some (some v) => v.category == 1
    | _ => true
theorem lvD.set1 {ls' : Array Slot} {nL i : Nat} {v : Value} {lv : List (Option Value)} (ok : lvOk lv i = true) (h : lv_has ls' nL ((i, v) :: (lvP lv).filter (fun q => !(q.1 == i) && !(q.1 + 1 == i && q.2.category == 2)))) : lvD ls' nL (lv.set i (some v)) := by
  refine ⟨h.1, h.2.1, fun j w hj => ?_⟩
  by_cases e : j = i
  · subst e
    have hl : j < lv.length := by
      have := (List.getElem?_eq_some_iff.mp hj).1
      simpa using this
    rw [List.getElem?_set_self hl] at hj
    cases hj
    exact h.2.2 (j, v) List.mem_cons_self
  · rw [List.getElem?_set_ne (fun q => e q.symm)] at hj
    refine h.2.2 (j, w) (List.mem_cons_of_mem _ (List.mem_filter.mpr ⟨lvP_mem.mpr hj, ?_⟩))
    have h1 : (j == i) = false := by simp [e]
    by_cases e2 : j + 1 = i
    · subst e2
      simp only [lvOk, hj] at ok
      have : w.category = 1 := by simpa using ok
      simp [this]
    · simp [e, e2]
theorem lvD.set2 {ls' : Array Slot} {nL i : Nat} {v : Value} {lv : List (Option Value)} (ok : lvOk lv i = true) (h : lv_has ls' nL ((i, v) :: (lvP lv).filter (fun q => !(q.1 == i) && (!(q.1 == i + 1) && !(q.1 + 1 == i && q.2.category == 2))))) : lvD ls' nL ((lv.set i (some v)).set (i + 1) none) := by
  refine ⟨h.1, h.2.1, fun j w hj => ?_⟩
  by_cases e0 : j = i + 1
  · subst e0
    exfalso
    have hl := (List.getElem?_eq_some_iff.mp hj).1
    rw [List.getElem?_set_self (by simpa using hl)] at hj
    cases hj
  · rw [List.getElem?_set_ne (fun q => e0 q.symm)] at hj
    by_cases e : j = i
    · subst e
      have hl : j < lv.length := by
        have := (List.getElem?_eq_some_iff.mp hj).1
        simpa using this
      rw [List.getElem?_set_self hl] at hj
      cases hj
      exact h.2.2 (j, v) List.mem_cons_self
    · rw [List.getElem?_set_ne (fun q => e q.symm)] at hj
      refine h.2.2 (j, w) (List.mem_cons_of_mem _ (List.mem_filter.mpr ⟨lvP_mem.mpr hj, ?_⟩))
      by_cases e2 : j + 1 = i
      · subst e2
        simp only [lvOk, hj] at ok
        have : w.category = 1 := by simpa using ok
        simp [this]
        omega
      · simp [e, e0, e2]
/-- fewer locals are claimed -/
theorem lvD.sub {ls : Array Slot} {nL : Nat} {lv lv' : List (Option Value)} (h : lvD ls nL lv) (hs : ∀ (i : Nat) (v : Value), lv'[i]? = some (some v) → lv[i]? = some (some v)) : lvD ls nL lv' := ⟨h.1, h.2.1, fun i v q => h.2.2 i v (hs i v q)⟩
/-! the constants of the launch, read off the Statement: the reference's words; the items, their names, numbers, bounds and letters -/
abbrev itemNames : List String := ["SITES", "PHASES", "WAIT", "YES", "NO", "LOSE", "KEEP", "DOWN", "UP", "PRESUME", "PLAIN"]
abbrev itemNum : List Int32 := [1, 1, 1, 1, 1, 1, 1, 3, 1, 0, 0]
abbrev itemLow : List Int32 := [1, 2, 2, 1, 1, 0, 0, 0, 0, 0, 0]
abbrev itemHigh : List Int32 := [5, 3, 9, 5, 5, 59, 59, 5, 5, 0, 0]
abbrev itemInts : List (String × String × String × List Int32) := [("java/lang/Enum", "ordinal", "I", [0, 1, 2, 3, 4, 5, 6, 7, 8, 9, 10]), ("CommitPrefixes$Item", "numbers", "I", itemNum), ("CommitPrefixes$Item", "low", "I", itemLow), ("CommitPrefixes$Item", "high", "I", itemHigh)]
abbrev itemEnt : List Nat := [71, 77, 80, 83, 86, 89, 92, 95, 98, 101, 104]
abbrev itemLens : List Nat := [5, 6, 4, 3, 2, 4, 4, 4, 2, 7, 5]
abbrev itemBytes : List (List Int32) := [[115, 105, 116, 101, 115], [112, 104, 97, 115, 101, 115], [119, 97, 105, 116], [121, 101, 115], [110, 111], [108, 111, 115, 101], [107, 101, 101, 112], [100, 111, 119, 110], [117, 112], [112, 114, 101, 115, 117, 109, 101], [112, 108, 97, 105, 110]]
abbrev wordsL : List Int32 := [115, 105, 116, 101, 115, 0, 0, 0, 112, 104, 97, 115, 101, 115, 0, 0, 119, 97, 105, 116, 0, 0, 0, 0, 121, 101, 115, 0, 0, 0, 0, 0, 110, 111, 0, 0, 0, 0, 0, 0, 108, 111, 115, 101, 0, 0, 0, 0, 107, 101, 101, 112, 0, 0, 0, 0, 100, 111, 119, 110, 0, 0, 0, 0, 117, 112, 0, 0, 0, 0, 0, 0, 112, 114, 101, 115, 117, 109, 101, 0, 112, 108, 97, 105, 110, 0, 0, 0]
/-- where they lie: family, place (0 the reference's words, 1 the items, 2 their row, 3 the switch's row, 4 the texts, 5 the texts' bytes) -/
abbrev kz (Z : ZT) : Nat → Nat → Nat := Z.2.2.2.2
/-- a static that holds a reference or null, nobody asks which -/
def fmV (Z : ZT) : Value := if kz Z 6 0 = 0 then .null else .ref (kz Z 6 1)
theorem fmV_or (Z : ZT) : fmV Z = .null ∨ fmV Z = .ref (kz Z 6 1) := by unfold fmV; split; exact Or.inl rfl; exact Or.inr rfl
/-- what holds of them, as long as nothing in A but they is written -/
def CWh (Z : ZT) (A : Nat → Prop) (U : State) (H : Heap) : Prop :=
  (va_Z "CommitPrefixesModel" "WORDS" "[I" (.ref (kz Z 0 0)) A U H ∧ va_T .int (kz Z 0 0) 88 (fun j => .int (wordsL.getD j 0)) A U H) ∧
  va_En "CommitPrefixes$Item" "LCommitPrefixes$Item;" itemNames itemInts (kz Z 1) A U H ∧
  va_Ef 11 "CommitPrefixes$Item" "letters" "Ljava/lang/String;" (fun i => .ref (kz Z 4 i)) (kz Z 1) A U H ∧
  (va_Z "CommitPrefixes" "ITEMS" "[LCommitPrefixes$Item;" (.ref (kz Z 2 0)) A U H ∧ va_T (.object "CommitPrefixes$Item") (kz Z 2 0) 11 (fun j => .ref (kz Z 1 j)) A U H) ∧
  (va_Z "CommitPrefixes$1" "$SwitchMap$CommitPrefixes$Item" "[I" (.ref (kz Z 3 0)) A U H ∧ va_T .int (kz Z 3 0) 11 (fun j => .int (Int32.ofNat (j + 1))) A U H) ∧
  vk_S 11 itemLens itemBytes (kz Z 4) (kz Z 5) A U H ∧
  va_Z "java/lang/String" "COMPACT_STRINGS" "Z" (.int 1) A U H ∧ va_Z "jdk/internal/util/Preconditions" "SIOOBE_FORMATTER" "Ljava/util/function/BiFunction;" (fmV Z) A U H
theorem CWh.kept {Z : ZT} {A : Nat → Prop} {U : State} {H H1 : Heap} (h : CWh Z A U H) (hq : ∀ a : Nat, a < H.size → ¬ A a → H1[a]? = H[a]?) : CWh Z A U H1 :=
  ⟨⟨h.1.1.kept hq, h.1.2.kept hq⟩, h.2.1.kept hq, h.2.2.1.kept hq, ⟨h.2.2.2.1.1.kept hq, h.2.2.2.1.2.kept hq⟩, ⟨h.2.2.2.2.1.1.kept hq, h.2.2.2.2.1.2.kept hq⟩, h.2.2.2.2.2.1.kept hq, h.2.2.2.2.2.2.1.kept hq, h.2.2.2.2.2.2.2.kept hq⟩
theorem CWh.narrow {Z : ZT} {A B : Nat → Prop} {U : State} {H : Heap} (h : CWh Z A U H) (hAB : ∀ q, B q → A q) : CWh Z B U H :=
  ⟨⟨h.1.1.narrow hAB, h.1.2.narrow hAB⟩, h.2.1.narrow hAB, h.2.2.1.narrow hAB, ⟨h.2.2.2.1.1.narrow hAB, h.2.2.2.1.2.narrow hAB⟩, ⟨h.2.2.2.2.1.1.narrow hAB, h.2.2.2.2.1.2.narrow hAB⟩, h.2.2.2.2.2.1.narrow hAB, h.2.2.2.2.2.2.1.narrow hAB, h.2.2.2.2.2.2.2.narrow hAB⟩
theorem CWh.moved {Z : ZT} {A : Nat → Prop} {u U : State} {H : Heap} (m : u.vm.Alike U.vm) (h : CWh Z A u H) : CWh Z A U H :=
  ⟨⟨h.1.1.moved m, h.1.2.moved m⟩, h.2.1.moved m, h.2.2.1.moved m, ⟨h.2.2.2.1.1.moved m, h.2.2.2.1.2.moved m⟩, ⟨h.2.2.2.2.1.1.moved m, h.2.2.2.2.1.2.moved m⟩, h.2.2.2.2.2.1.moved m, h.2.2.2.2.2.2.1.moved m, h.2.2.2.2.2.2.2.moved m⟩
/-- the words that a contract can't carry in its list: nest mates, abstract methods, the native copy -/
abbrev nwF : Cond := .fieldLinkNest "CommitPrefixes$TextReader" 71 "CommitPrefixes" "ITEMS" "[LCommitPrefixes$Item;" "CommitPrefixes"
abbrev nwM : Cond := .methodLinkNest "CommitPrefixes$Run" 126 ⟨"CommitPrefixes", "isIn", "(JI)Z"⟩ "CommitPrefixes"
abbrev nwT : Cond := .methodLinkNest "CommitPrefixes" 35 ⟨"CommitPrefixes$TextReader", "<init>", "()V"⟩ "CommitPrefixes"
abbrev nwS : Cond := .methodLinkNest "CommitPrefixes" 69 ⟨"CommitPrefixes$Shelf", "<init>", "()V"⟩ "CommitPrefixes"
abbrev yRec : MethodName := ⟨"CommitPrefixes$Site", "recover", "(LCommitPrefixes$Run;)V"⟩
abbrev yRcv : MethodName := ⟨"CommitPrefixes$Site", "receive", "(LCommitPrefixes$Run;II)V"⟩
abbrev yTmo : MethodName := ⟨"CommitPrefixes$Site", "timeOut", "(LCommitPrefixes$Run;)V"⟩
def NWs (U : State) : Prop := va_Nw nwF U ∧ va_Nw nwM U ∧ va_Nw nwT U ∧ va_Nw nwS U ∧ va_Nw (.declares yRec) U ∧ va_Nw (.declares yRcv) U ∧ va_Nw (.declares yTmo) U ∧ va_Nw (.castable "CommitPrefixes$Coordinator" "CommitPrefixes$Site") U ∧ va_Nw (.castable "CommitPrefixes$Participant" "CommitPrefixes$Site") U ∧ va_AO "CommitPrefixes$Shelf" U ∧ va_AO "CommitPrefixes$Site" U
theorem NWs.warm {s U : State} (hW : s.WarmedH U.vm) (h : NWs s) : NWs U :=
  ⟨va_Nw.warmF hW h.1, va_Nw.warmM hW h.2.1, va_Nw.warmM hW h.2.2.1, va_Nw.warmM hW h.2.2.2.1, va_Nw.warmD hW h.2.2.2.2.1, va_Nw.warmD hW h.2.2.2.2.2.1, va_Nw.warmD hW h.2.2.2.2.2.2.1, va_Nw.warmC hW h.2.2.2.2.2.2.2.1, va_Nw.warmC hW h.2.2.2.2.2.2.2.2.1, va_AO.moved hW.alike h.2.2.2.2.2.2.2.2.2.1, va_AO.moved hW.alike h.2.2.2.2.2.2.2.2.2.2⟩
theorem NWs.same {u U : State} (e : u.vm = U.vm) (h : NWs u) : NWs U :=
  ⟨va_Nw.same rfl e h.1, va_Nw.same rfl e h.2.1, va_Nw.same rfl e h.2.2.1, va_Nw.same rfl e h.2.2.2.1, va_Nw.same rfl e h.2.2.2.2.1, va_Nw.same rfl e h.2.2.2.2.2.1, va_Nw.same rfl e h.2.2.2.2.2.2.1, va_Nw.same rfl e h.2.2.2.2.2.2.2.1, va_Nw.same rfl e h.2.2.2.2.2.2.2.2.1, va_AO.moved (e ▸ Vm.Alike.refl u.vm) h.2.2.2.2.2.2.2.2.2.1, va_AO.moved (e ▸ Vm.Alike.refl u.vm) h.2.2.2.2.2.2.2.2.2.2⟩
def CW (Z : ZT) (A : Nat → Prop) (U : State) (H : Heap) : Prop := CWh Z A U H ∧ NWs U
theorem CW.call {Z : ZT} {A A1 : Nat → Prop} {s U : State} {H : Heap} {locs : List Loc} (h : CW Z A s s.heap) (hS : va_S A s.heap H locs) (hA : ∀ q, A1 q → A q) (hU : U.heap = H) (hW : s.WarmedH U.vm) : CW Z A1 U U.heap :=
  ⟨((h.1.kept (H1 := U.heap) (fun a h1 h2 => by rw [hU]; exact hS.2.1 a h1 h2)).narrow hA).moved hW.alike, h.2.warm hW⟩
theorem CW.blind {Z : ZT} {A : Nat → Prop} {U : State} {g : JFrame} {mk : MethodId} {a : Array Value} (h : CW Z A U U.heap) : CW Z A (U.calling g mk a) (U.calling g mk a).heap := ⟨CWh.moved (u := U) (U := U.calling g mk a) (Vm.Alike.refl U.vm) h.1, NWs.same (u := U) (U := U.calling g mk a) rfl h.2⟩
def OKX (X : JX) (M : JM) : Prop := (xp X).tables.exec = Jvm.exec ∧ (xc X).code = M.1 ∧ (xc X).maxLocals = M.2.1 ∧ (xs X).vm.findClass M.2.2.1 = some (xm X).cls ∧ (xmeth X).sig.returnType = M.2.2.2.1 ∧ M.2.2.2.2.1 ≤ (xR X).frames ∧ M.2.2.2.2.2 ≤ (xR X).locals ∧ (∀ w ∈ TT, w.before (xargs X) (xs X) = true) ∧ (xmeth X).locks = false ∧ va_K (xD X) vwCl (xtys X) (xs X) ∧ (∀ q, (xs X).heap.size ≤ q → xA X q) ∧ CW (xZ X) (xA X) (xs X) (xs X).heap ∧ (xk X).1 ≤ (xR X).cells ∧ (xk X).2 ≤ (xR X).slots
def JO {α : Type} (X : JX) (M : JM) (Qf : α → State → Prop) (pc : Nat) (lv : List (Option Value)) (st : List Value) (ws : va_W) (o : Option α) : Prop :=
  ∀ a, o = some a → OKX X M → ∀ (ls : Array Slot) (H : Heap) (locs : List Loc), lvD ls M.2.1 lv → va_P (xD X) vwCl ws H → va_D (xA X) ws → va_S (xA X) (xs X).heap H locs →
    W (xp X) (xl X) (xe X) (xR X) (xs X) (xm X) (xargs X) (xbelow X) (xmeth X) (xc X) H locs (xk X).1 (xk X).2 (Qf a) (F0 (xm X) pc ls st)
def inB (i : Int32) (n : Nat) : Bool := decide (0 ≤ i) && decide (i.toNatClampNeg < n)
theorem inB_in {i : Int32} {n : Nat} (h : inB i n = true) : vp_in i n := by
  simp only [inB, Bool.and_eq_true, decide_eq_true_eq] at h
  rintro (h1 | h1)
  · exact absurd h.1 (Int32.not_le.mpr h1)
  · omega
/-- an element's place -/
abbrev ix (i : Int32) : Nat := i.toNatClampNeg
def bI (b : Bool) : Int32 := bif b then 1 else 0
section JR
variable {α : Type} {X : JX} {M : JM} {Qf : α → State → Prop} {pc : Nat} {lv : List (Option Value)} {st : List Value} {ws : va_W} {o : Option α}
theorem JO.nil : JO X M Qf pc lv st ws (none : Option α) := fun a h => by cases h
theorem JO.sub {lv' : List (Option Value)} (k : JO X M Qf pc lv' st ws o) (hs : ∀ (i : Nat) (v : Value), lv'[i]? = some (some v) → lv[i]? = some (some v)) : JO X M Qf pc lv st ws o :=
  fun a h ok ls H locs hl hP hD hS => k a h ok ls H locs (hl.sub hs) hP hD hS
theorem JO.iconst {n : Int} (d : decode M.1 pc = .ok (.iconst n, 1)) (k : JO X M Qf (pc + 1) lv (.int (Int32.ofInt n) :: st) ws o) : JO X M Qf pc lv st ws o :=
  fun a h ok ls H locs hl hP hD hS => lv_iconst ok.1 ok.2.1 d rfl (k a h ok ls H locs hl hP hD hS)
/-- a constant, as the reader wants it -/
theorem JO.ic {n : Int} (v : Int32) (d : decode M.1 pc = .ok (.iconst n, 1)) (hv : Int32.ofInt n = v) (k : JO X M Qf (pc + 1) lv (.int v :: st) ws o) : JO X M Qf pc lv st ws o :=
  fun a h ok ls H locs hl hP hD hS => lv_iconst ok.1 ok.2.1 d hv (k a h ok ls H locs hl hP hD hS)
theorem JO.bip {n : Int} (v : Int32) (d : decode M.1 pc = .ok (.bipush n, 2)) (hv : (Int8.ofInt n).toInt32 = v) (k : JO X M Qf (pc + 2) lv (.int v :: st) ws o) : JO X M Qf pc lv st ws o :=
  fun a h ok ls H locs hl hP hD hS => lv_bipush ok.1 ok.2.1 d hv (k a h ok ls H locs hl hP hD hS)
theorem JO.sip {n : Int} (v : Int32) (d : decode M.1 pc = .ok (.sipush n, 3)) (hv : (Int16.ofInt n).toInt32 = v) (k : JO X M Qf (pc + 3) lv (.int v :: st) ws o) : JO X M Qf pc lv st ws o :=
  fun a h ok ls H locs hl hP hD hS => lv_sipush ok.1 ok.2.1 d hv (k a h ok ls H locs hl hP hD hS)
theorem JO.lc {n : Fin 2} (v : Int64) (d : decode M.1 pc = .ok (.lconst n, 1)) (hv : Int64.ofNat (n : Nat) = v) (k : JO X M Qf (pc + 1) lv (.long v :: st) ws o) : JO X M Qf pc lv st ws o :=
  fun a h ok ls H locs hl hP hD hS => lv_lconst ok.1 ok.2.1 d hv (k a h ok ls H locs hl hP hD hS)
theorem JO.ldc {index : Nat} {v : Int32} (w : Cond.constant M.2.2.1 index v ∈ TT) (d : decode M.1 pc = .ok (.ldc index, 2)) (k : JO X M Qf (pc + 2) lv (.int v :: st) ws o) : JO X M Qf pc lv st ws o :=
  fun a h ok ls H locs hl hP hD hS => lv_ldc ok.1 ok.2.1 ok.2.2.2.1 (ok.2.2.2.2.2.2.2.1 _ w) d (k a h ok ls H locs hl hP hD hS)
theorem JO.ldc2 {index : Nat} {v : Int64} (w : Cond.constantLong M.2.2.1 index v ∈ TT) (d : decode M.1 pc = .ok (.ldc2_w index, 3)) (k : JO X M Qf (pc + 3) lv (.long v :: st) ws o) : JO X M Qf pc lv st ws o :=
  fun a h ok ls H locs hl hP hD hS => lv_ldc2 ok.1 ok.2.1 ok.2.2.2.1 (ok.2.2.2.2.2.2.2.1 _ w) d (k a h ok ls H locs hl hP hD hS)
theorem JO.iloadn {i : Fin 4} {x : Int32} (d : decode M.1 pc = .ok (.iload_n i, 1)) (hx : lv[(i : Nat)]? = some (some (.int x))) (k : JO X M Qf (pc + 1) lv (.int x :: st) ws o) : JO X M Qf pc lv st ws o :=
  fun a h ok ls H locs hl hP hD hS => lv_iload_n ok.1 ok.2.1 d rfl (hl.2.2 _ _ hx) (k a h ok ls H locs hl hP hD hS)
theorem JO.iload {i : Nat} {x : Int32} (d : decode M.1 pc = .ok (.iload i, 2)) (hx : lv[i]? = some (some (.int x))) (k : JO X M Qf (pc + 2) lv (.int x :: st) ws o) : JO X M Qf pc lv st ws o :=
  fun a h ok ls H locs hl hP hD hS => lv_iload ok.1 ok.2.1 d (hl.2.2 _ _ hx) (k a h ok ls H locs hl hP hD hS)
theorem JO.lloadn {i : Fin 4} {x : Int64} (d : decode M.1 pc = .ok (.lload_n i, 1)) (hx : lv[(i : Nat)]? = some (some (.long x))) (k : JO X M Qf (pc + 1) lv (.long x :: st) ws o) : JO X M Qf pc lv st ws o :=
  fun a h ok ls H locs hl hP hD hS => lv_lload_n ok.1 ok.2.1 d rfl (hl.2.2 _ _ hx) (k a h ok ls H locs hl hP hD hS)
theorem JO.lload {i : Nat} {x : Int64} (d : decode M.1 pc = .ok (.lload i, 2)) (hx : lv[i]? = some (some (.long x))) (k : JO X M Qf (pc + 2) lv (.long x :: st) ws o) : JO X M Qf pc lv st ws o :=
  fun a h ok ls H locs hl hP hD hS => lv_lload ok.1 ok.2.1 d (hl.2.2 _ _ hx) (k a h ok ls H locs hl hP hD hS)
theorem JO.aloadn {i : Fin 4} {x : Nat} (d : decode M.1 pc = .ok (.aload_n i, 1)) (hx : lv[(i : Nat)]? = some (some (.ref x))) (k : JO X M Qf (pc + 1) lv (.ref x :: st) ws o) : JO X M Qf pc lv st ws o :=
  fun a h ok ls H locs hl hP hD hS => lv_aload_n ok.1 ok.2.1 d rfl (hl.2.2 _ _ hx) (k a h ok ls H locs hl hP hD hS)
theorem JO.aload {i : Nat} {x : Nat} (d : decode M.1 pc = .ok (.aload i, 2)) (hx : lv[i]? = some (some (.ref x))) (k : JO X M Qf (pc + 2) lv (.ref x :: st) ws o) : JO X M Qf pc lv st ws o :=
  fun a h ok ls H locs hl hP hD hS => lv_aload ok.1 ok.2.1 d (hl.2.2 _ _ hx) (k a h ok ls H locs hl hP hD hS)
theorem JO.istoren {i : Fin 4} {x : Int32} (d : decode M.1 pc = .ok (.istore_n i, 1)) (hi : decide ((i : Nat) < M.2.1) = true) (hk : lvOk lv i = true) (k : JO X M Qf (pc + 1) (lv.set i (some (.int x))) st ws o) : JO X M Qf pc lv (.int x :: st) ws o :=
  fun a h ok ls H locs hl hP hD hS => lv_istore_n ok.1 ok.2.1 d rfl hl.has (of_decide_eq_true hi) rfl (fun ls' hl' => k a h ok ls' H locs (lvD.set1 hk hl') hP hD hS)
theorem JO.istore {i : Nat} {x : Int32} (d : decode M.1 pc = .ok (.istore i, 2)) (hi : decide (i < M.2.1) = true) (hk : lvOk lv i = true) (k : JO X M Qf (pc + 2) (lv.set i (some (.int x))) st ws o) : JO X M Qf pc lv (.int x :: st) ws o :=
  fun a h ok ls H locs hl hP hD hS => lv_istore ok.1 ok.2.1 d hl.has (of_decide_eq_true hi) rfl (fun ls' hl' => k a h ok ls' H locs (lvD.set1 hk hl') hP hD hS)
theorem JO.astoren {i : Fin 4} {x : Nat} (d : decode M.1 pc = .ok (.astore_n i, 1)) (hi : decide ((i : Nat) < M.2.1) = true) (hk : lvOk lv i = true) (k : JO X M Qf (pc + 1) (lv.set i (some (.ref x))) st ws o) : JO X M Qf pc lv (.ref x :: st) ws o :=
  fun a h ok ls H locs hl hP hD hS => lv_astore_n ok.1 ok.2.1 d rfl hl.has (of_decide_eq_true hi) rfl (fun ls' hl' => k a h ok ls' H locs (lvD.set1 hk hl') hP hD hS)
theorem JO.astore {i : Nat} {x : Nat} (d : decode M.1 pc = .ok (.astore i, 2)) (hi : decide (i < M.2.1) = true) (hk : lvOk lv i = true) (k : JO X M Qf (pc + 2) (lv.set i (some (.ref x))) st ws o) : JO X M Qf pc lv (.ref x :: st) ws o :=
  fun a h ok ls H locs hl hP hD hS => lv_astore ok.1 ok.2.1 d hl.has (of_decide_eq_true hi) rfl (fun ls' hl' => k a h ok ls' H locs (lvD.set1 hk hl') hP hD hS)
theorem JO.lstoren {i : Fin 4} {x : Int64} (d : decode M.1 pc = .ok (.lstore_n i, 1)) (hi : decide ((i : Nat) + 1 < M.2.1) = true) (hk : lvOk lv i = true) (k : JO X M Qf (pc + 1) ((lv.set i (some (.long x))).set (i + 1) Option.none) st ws o) : JO X M Qf pc lv (.long x :: st) ws o :=
  fun a h ok ls H locs hl hP hD hS => lv_lstore_n ok.1 ok.2.1 d rfl hl.has (of_decide_eq_true hi) rfl (fun ls' hl' => k a h ok ls' H locs (lvD.set2 hk hl') hP hD hS)
theorem JO.lstore {i : Nat} {x : Int64} (d : decode M.1 pc = .ok (.lstore i, 2)) (hi : decide (i + 1 < M.2.1) = true) (hk : lvOk lv i = true) (k : JO X M Qf (pc + 2) ((lv.set i (some (.long x))).set (i + 1) Option.none) st ws o) : JO X M Qf pc lv (.long x :: st) ws o :=
  fun a h ok ls H locs hl hP hD hS => lv_lstore ok.1 ok.2.1 d hl.has (of_decide_eq_true hi) rfl (fun ls' hl' => k a h ok ls' H locs (lvD.set2 hk hl') hP hD hS)
theorem JO.iinc {i : Nat} {n : Int} {x : Int32} (d : decode M.1 pc = .ok (.iinc i n, 3)) (hx : lv[i]? = some (some (.int x))) (v : Int32) (hv : Int32.ofInt n = v) (hi : decide (i < M.2.1) = true) (hk : lvOk lv i = true) (k : JO X M Qf (pc + 3) (lv.set i (some (.int (x + v)))) st ws o) : JO X M Qf pc lv st ws o :=
  fun a h ok ls H locs hl hP hD hS => by
    obtain ⟨j, hj⟩ := List.getElem?_of_mem ((lvP_mem (lv := lv) (q := (i, .int x))).mpr hx)
    exact lv_iinc ok.1 ok.2.1 d hl.has hj (by rw [hv]) (of_decide_eq_true hi) rfl (fun ls' hl' => k a h ok ls' H locs (lvD.set1 hk hl') hP hD hS)
end JR
