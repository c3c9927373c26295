/-! WHAT BOTH SIDES HAVE IN COMMON BETWEEN TWO CALLS -/
def LosF (g : Int64) (l : Nat → Bool) : Prop := ∀ m, m < 64 → g.toBitVec.getLsbD m = (decide (m < 60) && l m)
theorem LosF.b {g : Int64} {l : Nat → Bool} (h : LosF g l) : LosB g l := fun m hm => by
  rw [lbit_get g (by omega), h m (by omega), decide_eq_true hm, Bool.true_and]
def SetF (q : Nat) (P : ZP) (sd : Int32) (σ : CS) : Prop := SetR q P σ ∧ cZ σ q 3 = pz P ∧ LosF (cG σ q 5) (pl P) ∧ cI σ q 8 = sd
def KeptM (P : ZP) (sd : Int32) (τ : MS) : Prop := (∀ p, 1 ≤ p → p ≤ 5 → mA τ 39 p = bI (pv P p)) ∧ (∀ m, m < 60 → mA τ 39 (6 + m) = bI (pl P m)) ∧
  (∀ s, s < 6 → (pd P s = none → mA τ 39 (66 + s) = -1) ∧ ∀ d u, pd P s = some (d, u) → mA τ 39 (66 + s) = nI d ∧ mA τ 39 (72 + s) = nI u) ∧
  mA τ 39 78 = nI (pn P) ∧ mA τ 39 79 = pp P ∧ mA τ 39 80 = nI (pw P) ∧ mA τ 39 81 = bI (pz P) ∧ mA τ 39 82 = sd
def Img (σ : CS) (τ : MS) : Prop := cZ σ 0 4 = mZ τ 40 ∧ (cZ σ 0 4 = true → ∃ P sd, PW P ∧ SetF 6 P sd σ ∧ KeptM P sd τ)
/-- one more loss -/
def xLose (P : ZP) (m : Nat) : ZP := (pn P, pp P, pw P, pz P, pv P, va_up (pl P) m true, pd P)
noncomputable def hbit (P : ZP) (m : Nat) : Bool := decide (m < zn (xRun P 60).1) && !pl P m && !xAlike (xLose P m) 60
noncomputable def kbit (P : ZP) (m : Nat) : Bool := decide (m < zn (xRun P 60).1) && !pl P m && !decide (xBlk (xLose P m) = 0)
def TriC (P : ZP) (σ : CS) : Prop := ∀ m, m < 60 → (cG σ 0 11).toBitVec.getLsbD m = hbit P m ∧ (cG σ 0 12).toBitVec.getLsbD m = kbit P m
def RelP (P : ZP) (sd : Int32) (σ : CS) (τ : MS) : Prop :=
  PW P ∧ SH σ τ ∧ RF σ τ ∧ SetF 3 P sd σ ∧ SetM P τ ∧ mI τ 9 = sd ∧ Img σ τ ∧ cI σ 0 6 = mI τ 36 ∧ (cZ σ 0 8 = true → ResC 14 P σ) ∧ (cZ σ 0 10 = true → TriC P σ)
def Rel (σ : CS) (τ : MS) : Prop := ∃ P sd, RelP P sd σ τ
theorem sl_Z {σ σ' : CS} {c : Nat} (h : sl σ' c = sl σ c) (k : Nat) : cZ σ' c k = cZ σ c k := congrArg (fun d : CL => d.2.1 k) h
theorem sl_G {σ σ' : CS} {c : Nat} (h : sl σ' c = sl σ c) (k : Nat) : cG σ' c k = cG σ c k := congrArg (fun d : CL => d.2.2.1 k) h
theorem sl_A {σ σ' : CS} {c : Nat} (h : sl σ' c = sl σ c) : cA σ' c = cA σ c := congrArg (fun d : CL => d.2.2.2.1) h
theorem SetF.cong {q : Nat} {P : ZP} {sd : Int32} {σ σ' : CS} (h : SetF q P sd σ) (h0 : sl σ' q = sl σ q) (h1 : sl σ' (q + 1) = sl σ (q + 1)) (h2 : sl σ' (q + 2) = sl σ (q + 2)) : SetF q P sd σ' := by
  unfold SetF SetR
  rw [sl_I h0 0, sl_I h0 1, sl_I h0 2, sl_I h0 4, sl_I h0 8, sl_Z h0 3, sl_G h0 5, sl_A h1, sl_A h2]
  exact h
theorem ResC.cong {b : Nat} {P : ZP} {σ σ' : CS} (h : ResC b P σ) (hs : ∀ c, b ≤ c → c < b + 22 → sl σ' c = sl σ c) : ResC b P σ' := by
  obtain ⟨T, hT, h7, he, hM, h3, hS, m1, m2, m3⟩ := h
  have hb := hs b (by omega) (by omega)
  refine ⟨T, hT, (sl_I hb 7).trans h7, he, ?_, (sl_Z hb 3).trans h3, fun s hs' => ?_, m1, (sl_I hb 8).trans m2, ?_⟩
  · unfold MomC
    rw [sl_A (hs (b + 19) (by omega) (by omega)), sl_A (hs (b + 20) (by omega) (by omega)), sl_A (hs (b + 21) (by omega) (by omega))]
    exact hM
  · have q := hs (b + 2 + s) (by omega) (by omega)
    unfold SiteC
    rw [sl_Z q 3, sl_I q 2, sl_A (hs (b + 8 + s) (by omega) (by omega))]
    exact hS s hs'
  · rw [sl_A (hs (b + 14) (by omega) (by omega)), sl_A (hs (b + 15) (by omega) (by omega)), sl_A (hs (b + 16) (by omega) (by omega)), sl_A (hs (b + 17) (by omega) (by omega)), sl_A (hs (b + 18) (by omega) (by omega))]
    exact m3
theorem SH.cells {σ σ' : CS} {τ : MS} (h : SH σ τ) (hs : ∀ c, 58 ≤ c → sl σ' c = sl σ c) : SH σ' τ := fun i hi => by
  have q := hs (58 + i) (by omega)
  have q2 := sl_B (hs (66 + i) (by omega))
  unfold SHi
  rw [sl_I q 0, sl_I q 1, sl_I q 2, sl_I q 4, sl_I q 5, sl_I q 6, sl_I q 7, q2]
  exact h i hi
theorem SH.rows {σ : CS} {τ τ' : MS} (h : SH σ τ) (h1 : mA τ' 28 = mA τ 28) (h2 : mA τ' 29 = mA τ 29) (h3 : mE τ' = mE τ) : SH σ τ' := fun i hi => by
  unfold SHi
  rw [h1, h2, h3]; exact h i hi
section Rl
variable {P : ZP} {sd : Int32} {σ σ' : CS} {τ τ' : MS}
theorem RelP.cells (h : RelP P sd σ τ) (hs : ∀ c, c ≠ 0 → c < 14 ∨ 58 ≤ c → sl σ' c = sl σ c) (hI : cI σ' 0 6 = cI σ 0 6) (hZ : cZ σ' 0 4 = cZ σ 0 4) (hR : cZ σ' 0 8 = true → ResC 14 P σ') (hT : cZ σ' 0 10 = true → TriC P σ') : RelP P sd σ' τ := by
  obtain ⟨hw, hSH, hRF, hF, hM, h9, ⟨i1, i2⟩, h6, h8, h10⟩ := h
  refine ⟨hw, hSH.cells (fun c hc => hs c (by omega) (by omega)), ?_, hF.cong (hs 3 (by omega) (by omega)) (hs 4 (by omega) (by omega)) (hs 5 (by omega) (by omega)), hM, h9, ⟨hZ.trans i1, fun q => ?_⟩, hI.trans h6, hR, hT⟩
  · unfold RF
    rw [sl_A (hs 2 (by omega) (by omega))]; exact hRF
  · rw [hZ] at q
    obtain ⟨P', sd', a1, a2, a3⟩ := i2 q
    exact ⟨P', sd', a1, a2.cong (hs 6 (by omega) (by omega)) (hs 7 (by omega) (by omega)) (hs 8 (by omega) (by omega)), a3⟩
theorem RelP.sm (h : RelP P sd σ τ) (k : Sm σ τ σ' τ') : RelP P sd σ' τ' := by
  obtain ⟨hw, hSH, hRF, hF, hM, h9, ⟨i1, i2⟩, h6, h8, h10⟩ := h
  obtain ⟨k1, k2, hs, t1, t2, t3⟩ := k
  have m : ∀ j, mI τ' j = mI τ j := fun j => congrFun t1 j
  have z : ∀ j, mZ τ' j = mZ τ j := fun j => congrFun t2 j
  have q0 := hs 0 (by omega) (by omega)
  refine ⟨hw, k1, k2, hF.cong (hs 3 (by omega) (by omega)) (hs 4 (by omega) (by omega)) (hs 5 (by omega) (by omega)), ?_, (m 9).trans h9, ⟨?_, fun q => ?_⟩, ?_, fun q => ?_, fun q => ?_⟩
  · unfold SetM
    rw [m 5, m 6, m 7, m 8, show mA τ' 1 = mA τ 1 from t3 1 (by omega) (by omega) (by omega), show mA τ' 2 = mA τ 2 from t3 2 (by omega) (by omega) (by omega), show mA τ' 3 = mA τ 3 from t3 3 (by omega) (by omega) (by omega), show mA τ' 4 = mA τ 4 from t3 4 (by omega) (by omega) (by omega)]
    exact hM
  · rw [sl_Z q0 4, z 40]; exact i1
  · rw [sl_Z q0 4] at q
    obtain ⟨P', sd', a1, a2, a3⟩ := i2 q
    refine ⟨P', sd', a1, a2.cong (hs 6 (by omega) (by omega)) (hs 7 (by omega) (by omega)) (hs 8 (by omega) (by omega)), ?_⟩
    unfold KeptM
    rw [show mA τ' 39 = mA τ 39 from t3 39 (by omega) (by omega) (by omega)]; exact a3
  · rw [sl_I q0 6, m 36]; exact h6
  · rw [sl_Z q0 8] at q
    exact (h8 q).cong (fun c h1 h2 => hs c (by omega) (by omega))
  · rw [sl_Z q0 10] at q
    unfold TriC
    rw [sl_G q0 11, sl_G q0 12]; exact h10 q
theorem RelP.fr (h : RelP P sd σ τ) (k : FrR τ τ') : RelP P sd σ τ' := by
  obtain ⟨hw, hSH, hRF, hF, hM, h9, ⟨i1, i2⟩, h6, h8, h10⟩ := h
  obtain ⟨k1, k2, k3, k4⟩ := k
  have A : ∀ j, j < 10 ∨ 27 < j → mA τ' j = mA τ j := fun j hj => k4 j (by omega) (by omega) (by omega) (by omega)
  refine ⟨hw, hSH.rows (A 28 (by omega)) (A 29 (by omega)) k2, ?_, hF, ?_, (k3 9 (by omega)).trans h9, ⟨i1.trans (congrFun k1 40).symm, fun q => ?_⟩, h6.trans (k3 36 (by omega)).symm, h8, h10⟩
  · unfold RF
    rw [A 0 (by omega)]; exact hRF
  · unfold SetM
    rw [k3 5 (by omega), k3 6 (by omega), k3 7 (by omega), k3 8 (by omega), A 1 (by omega), A 2 (by omega), A 3 (by omega), A 4 (by omega)]
    exact hM
  · obtain ⟨P', sd', a1, a2, a3⟩ := i2 q
    refine ⟨P', sd', a1, a2, ?_⟩
    unfold KeptM
    rw [A 39 (by omega)]; exact a3
/-- the run as things stand, on both sides -/
theorem RelP.cur (h : RelP P sd σ τ) : ∃ σ', cP_current σ = some ((), σ') ∧ RelP P sd σ' τ ∧ QC 14 P σ' ∧ cZ σ' 0 8 = true ∧ (∀ c, c ≠ 0 → c < 14 ∨ 36 ≤ c → sl σ' c = sl σ c) ∧ cZ σ' 0 10 = cZ σ 0 10 ∧ ∀ k, cG σ' 0 k = cG σ 0 k := by
  have h' := h
  obtain ⟨hw, hSH, hRF, hF, hM, h9, hI, h6, h8, h10⟩ := h'
  unfold cP_current
  by_cases e : cZ σ 0 8 = true
  · rw [if_pos e]
    exact ⟨σ, rfl, h, ⟨h8 e, hF.1.1⟩, e, fun _ _ _ => rfl, rfl, fun _ => rfl⟩
  · rw [if_neg e]
    obtain ⟨σ1, a1, a2, a3⟩ := play_C (b := 14) hw (by omega) hF.1 hF.2.2.1.b hF.2.1
    rw [a1]
    have s0 := a3 0 (by omega)
    have hs : ∀ c, c ≠ 0 → c < 14 ∨ 36 ≤ c → sl (tZ σ1 0 8 true) c = sl σ c := fun c h1 h2 => (tZ_o c h1).trans (a3 c (by omega))
    have hR : ResC 14 P (tZ σ1 0 8 true) := a2.cong (fun c h1 _ => tZ_o c (by omega))
    have z10 : cZ (tZ σ1 0 8 true) 0 10 = cZ σ 0 10 := (cZ_k (by decide)).trans (sl_Z s0 10)
    have zG : ∀ k, cG (tZ σ1 0 8 true) 0 k = cG σ 0 k := fun k => sl_G s0 k
    refine ⟨tZ σ1 0 8 true, rfl, ?_, ⟨hR, ?_⟩, cZ_s, hs, z10, zG⟩
    · refine h.cells (fun c h1 h2 => hs c h1 (by omega)) (sl_I s0 6) ((cZ_k (by decide)).trans (sl_Z s0 4)) (fun _ => hR) (fun q => ?_)
      rw [z10] at q
      unfold TriC
      rw [zG 11, zG 12]; exact h10 q
    · exact (sl_I (hs 3 (by omega) (by omega)) 0).trans hF.1.1
theorem RelP.runs (h : RelP P sd σ τ) : ∃ τ', m_runs τ = some ((), τ') ∧ RelP P sd σ τ' ∧ ResM P τ' ∧ FrR τ τ' := by
  obtain ⟨τ', a1, a2, a3⟩ := runs_M h.1 h.2.2.2.2.1
  exact ⟨τ', a1, h.fr a3, a2, a3⟩
end Rl
/-- calls that touch shelves and refusals alone -/
theorem Rel_sm {f : CS → Option (Int32 × CS)} {g : MS → Option (Int32 × MS)} (hf : ∀ σ τ, SH σ τ → RF σ τ → SmI σ τ (f σ) (g τ)) : SimI Rel f g := by
  rintro σ τ ⟨P, sd, h⟩
  obtain ⟨r, σ', τ', a1, a2, a3⟩ := hf σ τ h.2.1 h.2.2.1
  exact ⟨r, σ', τ', a1, a2, P, sd, h.sm a3⟩
theorem Rel_sml {f : CS → Option (Int64 × CS)} {g : MS → Option (Int64 × MS)} (hf : ∀ σ τ, SH σ τ → RF σ τ → SmL σ τ (f σ) (g τ)) : SimL Rel f g := by
  rintro σ τ ⟨P, sd, h⟩
  obtain ⟨r, σ', τ', a1, a2, a3⟩ := hf σ τ h.2.1 h.2.2.1
  exact ⟨r, σ', τ', a1, a2, P, sd, h.sm a3⟩
theorem st0 : St0 Rel := fun p1 p2 p3 => Rel_sm (fun _ _ h r => row_sim h r p1 p2 p3)
theorem st1 : St1 Rel := fun p1 p2 p3 => Rel_sm (fun _ _ h r => set_sim h r p1 p2 p3)
theorem st2 : St2 Rel := fun p1 p2 p3 p4 p5 => Rel_sm (fun _ _ h r => copy_sim h r p1 p2 p3 p4 p5)
theorem st3 : St3 Rel := fun p1 p2 => Rel_sml (fun _ _ h r => element_sim h r p1 p2)
theorem st5 : St5 Rel := fun p1 => Rel_sm (fun _ _ h r => holds_sim h r p1)
theorem st6 : St6 Rel := fun p1 p2 => Rel_sm (fun _ _ h r => says_sim h r p1 p2)
theorem st8 : St8 Rel := fun σ τ ⟨P, sd, h⟩ => ⟨cI σ 0 6, σ, τ, rfl, by rw [h.2.2.2.2.2.2.2.1]; rfl, P, sd, h⟩
