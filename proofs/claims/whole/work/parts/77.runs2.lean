/-! THE REFERENCE KEEPS THE TOLD RUN: what stood behind each tick; the whole run -/
def MomM (P : ZP) (τ : MS) (T : Nat) : Prop := ∀ t, t < T → (∀ s, s ≤ pn P → mA τ 25 (6 * t + s) = xSee (xRun P t).1 s ∧ mA τ 26 (6 * t + s) = nI (zg (xRun P t).1 s).length) ∧ mA τ 27 t = nI (zn (xRun P t).1)
/-- what a whole run leaves alone -/
def FrR (τ0 τ : MS) : Prop := τ.2.1 = τ0.2.1 ∧ τ.2.2.2 = τ0.2.2.2 ∧ (∀ k, k < 21 ∨ 24 < k → mI τ k = mI τ0 k) ∧ (∀ k, k < 10 ∨ 20 < k → k ≠ 25 → k ≠ 26 → k ≠ 27 → mA τ k = mA τ0 k)
theorem FrR.of {a b : MS} (h : FrM a b) : FrR a b := ⟨h.1, h.2.1, h.2.2.1, fun k hk _ _ _ => h.2.2.2 k hk⟩
theorem FrR.rf {a : MS} : FrR a a := FrR.of FrM.rf
theorem FrR.tr {a b c : MS} (h : FrR a b) (k : FrR b c) : FrR a c := ⟨k.1.trans h.1, k.2.1.trans h.2.1, fun i hi => (k.2.2.1 i hi).trans (h.2.2.1 i hi), fun i hi h1 h2 h3 => (k.2.2.2 i hi h1 h2 h3).trans (h.2.2.2 i hi h1 h2 h3)⟩
section Mom
variable {P : ZP} {t f : Nat} {τ0 : MS} {S : ZS} {k : MS → Option (Unit × MS)}
theorem mom_M (hn : pn P ≤ 5) (ht : t ≤ 60) : ∀ (r a fu : Nat) (τ0 τ : MS), RM P t f τ0 S τ → a + r = pn P + 1 → r < fu → ∃ τ', m_runs_l99 k fu (nI a) τ = m_runs_b168 k τ' ∧ τ'.1 = τ.1 ∧ τ'.2.1 = τ.2.1 ∧ τ'.2.2.2 = τ.2.2.2 ∧ (∀ j, j ≠ 25 → j ≠ 26 → mA τ' j = mA τ j) ∧
    (∀ s, a ≤ s → s ≤ pn P → mA τ' 25 (6 * t + s) = xSee S s ∧ mA τ' 26 (6 * t + s) = nI (zg S s).length) ∧ (∀ j, j < 6 * t + a → mA τ' 25 j = mA τ 25 j ∧ mA τ' 26 j = mA τ 26 j)
  | r, a, 0, τ0, τ, _, _, h3 => by omega
  | 0, a, fu + 1, τ0, τ, h, h2, _ => by
    refine ⟨τ, ?_, rfl, rfl, rfl, fun _ _ _ => rfl, fun s h1 h2 => by omega, fun _ _ => ⟨rfl, rfl⟩⟩
    rw [m_runs_l99, h.n, if_pos ((P_lt (by omega) (by omega)).mpr (by omega))]
  | r + 1, a, fu + 1, τ0, τ, h, h2, h3 => by
    have ha : a < 6 := by omega
    have e7 : (6 * nI t) + nI a = nI (6 * t + a) := by rw [show (6 : Int32) = nI 6 from rfl, pk_mul, nI_add]
    have hs := h.s ha
    have hu : mA τ 11 a = bI (zu S a) := h.2.2.1 a ha
    have hl := (h.2.2.2.2.2.2.1 a ha).1
    have hv : m_runs_l99 k (fu + 1) (nI a) τ = m_runs_l99 k fu (nI (a + 1)) (sA (sA τ 25 (6 * t + a) (xSee S a)) 26 (6 * t + a) (nI (zg S a).length)) := by
      rw [m_runs_l99, h.n, if_neg (fun q => absurd ((P_lt (by omega) (by omega)).mp q) (by omega)), P_in ha (by decide), P_ix (show a < 2 ^ 31 by omega), hu, hs, show mI τ 22 = nI t from h.2.1.1, e7]
      unfold m_runs_b141
      simp only [if_true]
      rw [P_in (show 6 * t + a < 366 by omega) (by decide), P_in ha (by decide), show mI τ 22 = nI t from h.2.1.1, e7, P_in (show 6 * t + a < 366 by omega) (by decide), P_ix (show 6 * t + a < 2 ^ 31 by omega), P_ix (show a < 2 ^ 31 by omega), hl, nI_1]
      unfold xSee
      simp only [if_true]
      cases zu S a
      · rw [if_neg (show ¬ bI false = 1 by decide), if_neg (by decide)]
      · rw [if_pos (show bI true = 1 from rfl), if_pos rfl]
    have hr : RM P t f (sA (sA τ 25 (6 * t + a) (xSee S a)) 26 (6 * t + a) (nI (zg S a).length)) S (sA (sA τ 25 (6 * t + a) (xSee S a)) 26 (6 * t + a) (nI (zg S a).length)) := by
      obtain ⟨hS, hi, hU, hs', ht', hc, hg, hm, hF⟩ := h
      exact ⟨hS, hi, hU, hs', ht', hc, hg, hm, FrM.rf⟩
    obtain ⟨τ', g1, g2, g3, g4, g5, g6, g7⟩ := mom_M hn ht r (a + 1) fu _ _ hr (by omega) (by omega)
    refine ⟨τ', hv.trans g1, g2, g3, g4, fun j h1 h2 => (g5 j h1 h2).trans ((va_up_n _ _ h2).trans (va_up_n _ _ h1)), fun s h1 h2 => ?_, fun j hj => ?_⟩
    · by_cases e : s = a
      · subst e
        obtain ⟨q1, q2⟩ := g7 (6 * t + s) (by omega)
        exact ⟨q1.trans pk_us, q2.trans pk_us⟩
      · exact g6 s (by omega) h2
    · obtain ⟨q1, q2⟩ := g7 j (by omega)
      exact ⟨q1.trans (pk_un (by omega)), q2.trans (pk_un (by omega))⟩
theorem RM.frM {τ : MS} (h : RM P t f τ0 S τ) : FrM τ0 τ := h.2.2.2.2.2.2.2.2
theorem runs_L (hw : PW P) : ∀ (r t fu : Nat) (τ : MS), RM P t (xPrev P t).2 τ (xPrev P t).1 τ → MomM P τ t → t + r = 61 → r < fu → ∃ τ', m_runs_l84 fu τ = some ((), τ') ∧ RM P 61 (xPrev P 61).2 τ' (xPrev P 61).1 τ' ∧ MomM P τ' 61 ∧ FrR τ τ'
  | r, t, 0, τ, _, _, _, h3 => by omega
  | 0, t, fu + 1, τ, h, hM, h2, _ => by
    have e : t = 61 := by omega
    subst e
    refine ⟨τ, ?_, h, hM, FrR.rf⟩
    rw [m_runs_l84, show mI τ 22 = nI 61 from h.2.1.1, if_pos (by decide)]
  | r + 1, t, fu + 1, τ, h, hM, h2, h3 => by
    have hn := hw.2.1
    obtain ⟨hi1, hi2⟩ := Inv.prev hw t (by omega)
    obtain ⟨τ1, g1, g2⟩ := RM.tick hw (by omega) h hi1 hi2 (fun e => by subst e; exact xFirst hw)
    have hrun : (xTick P t ((xPrev P t).1, (xPrev P t).2)).1 = (xRun P t).1 := by rw [xRun_prev]
    rw [hrun] at g2
    have hsnd : zn (xPrev P t).1 = (xRun P t).2 := by rw [xRun_prev]; rfl
    rw [hsnd] at g2
    have e0 : m_runs_l84 (fu + 1) τ = m_runs_l99 (fun σ => m_runs_l84 fu σ) 4096 0 τ1 := by
      rw [m_runs_l84, show mI τ 22 = nI t from h.2.1.1, if_neg (show ¬ (61 : Int32) ≤ nI t from fun q => absurd ((P_le (a := 61) (by omega) (by omega)).mp q) (by omega)), g1]
      rfl
    obtain ⟨τ2, k1, k2, k3, k4, k5, k6, k7⟩ := mom_M (k := fun σ => m_runs_l84 fu σ) hn (show t ≤ 60 by omega) (pn P + 1) 0 4096 _ τ1 g2 (by omega) (by omega)
    have h22 : mI τ2 22 = nI t := (congrFun k2 22).trans g2.2.1.1
    have h21 : mI τ2 21 = nI (zn (xRun P t).1) := (congrFun k2 21).trans g2.2.1.2.2.2
    have e1 : m_runs_b168 (fun σ => m_runs_l84 fu σ) τ2 = m_runs_l84 fu (sI (sA τ2 27 t (nI (zn (xRun P t).1))) 22 (nI (t + 1))) := by
      unfold m_runs_b168
      rw [h22, h21, P_in (show t < 61 by omega) (by decide), if_pos rfl, P_ix (show t < 2 ^ 31 by omega), nI_1]
    have hr : RM P (t + 1) (xPrev P (t + 1)).2 (sI (sA τ2 27 t (nI (zn (xRun P t).1))) 22 (nI (t + 1))) (xPrev P (t + 1)).1 (sI (sA τ2 27 t (nI (zn (xRun P t).1))) 22 (nI (t + 1))) := by
      obtain ⟨hS, ⟨i1, i2, i3, i4⟩, hU, hs', ht', hc, hg, hm, hF⟩ := g2
      have r1 : ∀ j, j ≠ 25 → j ≠ 26 → j ≠ 27 → mA (sI (sA τ2 27 t (nI (zn (xRun P t).1))) 22 (nI (t + 1))) j = mA τ1 j := fun j q1 q2 q3 => (va_up_n _ _ q3).trans (k5 j q1 q2)
      have r2 : ∀ j, j ≠ 22 → mI (sI (sA τ2 27 t (nI (zn (xRun P t).1))) 22 (nI (t + 1))) j = mI τ1 j := fun j q => (va_up_n _ _ q).trans (congrFun k2 j)
      refine ⟨?_, ⟨rfl, (r2 23 (by decide)).trans i2, (r2 24 (by decide)).trans i3, (r2 21 (by decide)).trans i4⟩, ?_, ?_, ?_, ?_, ?_, ?_, FrM.rf⟩
      · unfold SetM
        rw [r2 5 (by decide), r2 6 (by decide), r2 7 (by decide), r2 8 (by decide), r1 1 (by decide) (by decide) (by decide), r1 2 (by decide) (by decide) (by decide), r1 3 (by decide) (by decide) (by decide), r1 4 (by decide) (by decide) (by decide)]
        exact hS
      · rw [r1 11 (by decide) (by decide) (by decide)]; exact hU
      · rw [r1 10 (by decide) (by decide) (by decide)]; exact hs'
      · rw [r1 12 (by decide) (by decide) (by decide)]; exact ht'
      · rw [r1 15 (by decide) (by decide) (by decide)]; exact hc
      · rw [r1 14 (by decide) (by decide) (by decide), r1 13 (by decide) (by decide) (by decide)]; exact hg
      · rw [r1 16 (by decide) (by decide) (by decide), r1 17 (by decide) (by decide) (by decide), r1 18 (by decide) (by decide) (by decide), r1 19 (by decide) (by decide) (by decide), r1 20 (by decide) (by decide) (by decide)]; exact hm
    have hM' : MomM P (sI (sA τ2 27 t (nI (zn (xRun P t).1))) 22 (nI (t + 1))) (t + 1) := by
      intro t' ht'
      have f25 : mA τ1 25 = mA τ 25 := g2.frM.2.2.2 25 (by omega)
      have f26 : mA τ1 26 = mA τ 26 := g2.frM.2.2.2 26 (by omega)
      have f27 : mA τ2 27 = mA τ 27 := (k5 27 (by decide) (by decide)).trans (g2.frM.2.2.2 27 (by omega))
      show (∀ s, s ≤ pn P → mA τ2 25 (6 * t' + s) = _ ∧ mA τ2 26 (6 * t' + s) = _) ∧ upd (mA τ2 27) t (nI (zn (xRun P t).1)) t' = _
      by_cases e : t' = t
      · subst e
        exact ⟨fun s hs => k6 s (Nat.zero_le s) hs, pk_us⟩
      · obtain ⟨m1, m2⟩ := hM t' (by omega)
        refine ⟨fun s hs => ?_, ?_⟩
        · obtain ⟨q1, q2⟩ := k7 (6 * t' + s) (by omega)
          rw [q1, q2, f25, f26]; exact m1 s hs
        · rw [pk_un e, f27]; exact m2
    obtain ⟨τ', z1, z2, z3, z4⟩ := runs_L hw r (t + 1) fu _ hr hM' (by omega) (by omega)
    refine ⟨τ', ?_, z2, z3, FrR.tr ?_ z4⟩
    · rw [e0, show m_runs_l99 (fun σ => m_runs_l84 fu σ) 4096 0 τ1 = _ from k1, e1, z1]
    · have a1 := FrR.of g2.frM
      refine ⟨k3.trans a1.1, k4.trans a1.2.1, fun j hj => (va_up_n _ _ (by omega)).trans ((congrFun k2 j).trans (a1.2.2.1 j hj)), fun j hj h1 h2 h3 => (va_up_n _ _ h3).trans ((k5 j h1 h2).trans (a1.2.2.2 j hj h1 h2 h3))⟩
/-- after a run -/
def ResM (P : ZP) (τ : MS) : Prop := MomM P τ 61 ∧ RM P 61 (xRun P 60).2 τ (xRun P 60).1 τ
theorem runs_M (hw : PW P) {τ : MS} (h : SetM P τ) : ∃ τ', m_runs τ = some ((), τ') ∧ ResM P τ' ∧ FrR τ τ' := by
  have e1 : ∀ n σ, m_runs_l17 (n + 4) 0 σ = m_runs_l37 4096 0 (sA (sA (sA σ 15 0 0) 15 1 0) 15 2 0) := fun n σ => by
    rw [m_runs_l17, if_neg (show ¬ (3 : Int32) ≤ 0 by decide), if_pos (show inB 0 3 = true from rfl), m_runs_l17, if_neg (show ¬ (3 : Int32) ≤ 0 + 1 by decide), if_pos (show inB (0 + 1) 3 = true from rfl), m_runs_l17, if_neg (show ¬ (3 : Int32) ≤ 0 + 1 + 1 by decide), if_pos (show inB (0 + 1 + 1) 3 = true from rfl), m_runs_l17, if_pos (show (3 : Int32) ≤ 0 + 1 + 1 + 1 by decide)]
    rfl
  have e2 : ∀ n σ, m_runs_l37 (n + 7) 0 σ = m_runs_l84 4096 (sI (sA (sA (sA (sA (sA (sA (sA (sA (sA (sA (sA (sA (sA (sA (sA (sA (sA (sA (sA (sA (sA (sA (sA (sA σ 10 0 0) 11 0 1) 12 0 1000) 14 0 0) 10 1 0) 11 1 1) 12 1 1000) 14 1 0) 10 2 0) 11 2 1) 12 2 1000) 14 2 0) 10 3 0) 11 3 1) 12 3 1000) 14 3 0) 10 4 0) 11 4 1) 12 4 1000) 14 4 0) 10 5 0) 11 5 1) 12 5 1000) 14 5 0) 22 0) := fun n σ => by
    rw [m_runs_l37, if_neg (show ¬ (6 : Int32) ≤ 0 by decide), if_pos (show inB (0) 6 = true from rfl), if_pos (show inB (0) 6 = true from rfl), if_pos (show inB (0) 6 = true from rfl), if_pos (show inB (0) 6 = true from rfl), m_runs_l37, if_neg (show ¬ (6 : Int32) ≤ 0 + 1 by decide), if_pos (show inB (0 + 1) 6 = true from rfl), if_pos (show inB (0 + 1) 6 = true from rfl), if_pos (show inB (0 + 1) 6 = true from rfl), if_pos (show inB (0 + 1) 6 = true from rfl), m_runs_l37, if_neg (show ¬ (6 : Int32) ≤ 0 + 1 + 1 by decide), if_pos (show inB (0 + 1 + 1) 6 = true from rfl), if_pos (show inB (0 + 1 + 1) 6 = true from rfl), if_pos (show inB (0 + 1 + 1) 6 = true from rfl), if_pos (show inB (0 + 1 + 1) 6 = true from rfl), m_runs_l37, if_neg (show ¬ (6 : Int32) ≤ 0 + 1 + 1 + 1 by decide), if_pos (show inB (0 + 1 + 1 + 1) 6 = true from rfl), if_pos (show inB (0 + 1 + 1 + 1) 6 = true from rfl), if_pos (show inB (0 + 1 + 1 + 1) 6 = true from rfl), if_pos (show inB (0 + 1 + 1 + 1) 6 = true from rfl), m_runs_l37, if_neg (show ¬ (6 : Int32) ≤ 0 + 1 + 1 + 1 + 1 by decide), if_pos (show inB (0 + 1 + 1 + 1 + 1) 6 = true from rfl), if_pos (show inB (0 + 1 + 1 + 1 + 1) 6 = true from rfl), if_pos (show inB (0 + 1 + 1 + 1 + 1) 6 = true from rfl), if_pos (show inB (0 + 1 + 1 + 1 + 1) 6 = true from rfl), m_runs_l37, if_neg (show ¬ (6 : Int32) ≤ 0 + 1 + 1 + 1 + 1 + 1 by decide), if_pos (show inB (0 + 1 + 1 + 1 + 1 + 1) 6 = true from rfl), if_pos (show inB (0 + 1 + 1 + 1 + 1 + 1) 6 = true from rfl), if_pos (show inB (0 + 1 + 1 + 1 + 1 + 1) 6 = true from rfl), if_pos (show inB (0 + 1 + 1 + 1 + 1 + 1) 6 = true from rfl), m_runs_l37, if_pos (show (6 : Int32) ≤ 0 + 1 + 1 + 1 + 1 + 1 + 1 by decide)]
    rfl
  unfold m_runs
  rw [show m_runs_l17 4096 0 (sI (sI (sI τ 21 0) 23 0) 24 0) = _ from e1 4092 _, show m_runs_l37 4096 0 (sA (sA (sA (sI (sI (sI τ 21 0) 23 0) 24 0) 15 0 0) 15 1 0) 15 2 0) = _ from e2 4089 _]
  refine Exists.elim (runs_L (P := P) hw 61 0 4096 (sI (sA (sA (sA (sA (sA (sA (sA (sA (sA (sA (sA (sA (sA (sA (sA (sA (sA (sA (sA (sA (sA (sA (sA (sA (sA (sA (sA (sI (sI (sI τ 21 0) 23 0) 24 0) 15 0 0) 15 1 0) 15 2 0) 10 0 0) 11 0 1) 12 0 1000) 14 0 0) 10 1 0) 11 1 1) 12 1 1000) 14 1 0) 10 2 0) 11 2 1) 12 2 1000) 14 2 0) 10 3 0) 11 3 1) 12 3 1000) 14 3 0) 10 4 0) 11 4 1) 12 4 1000) 14 4 0) 10 5 0) 11 5 1) 12 5 1000) 14 5 0) 22 0) ?_ (fun t ht => absurd ht (Nat.not_lt_zero t)) (by omega) (by omega)) ?_
  · refine ⟨h, ⟨rfl, rfl, rfl, rfl⟩, fun s hs => ?_, fun s hs => ?_, fun s hs => ?_, fun s hs => ?_, fun s hs => ⟨?_, Nat.zero_le _, fun i hi => absurd hi (Nat.not_lt_zero i)⟩, ⟨show (0 : Nat) ≤ 200 by decide, fun i hi => absurd hi (Nat.not_lt_zero i)⟩, FrM.rf⟩
    · rcases lt6 hs with rfl | rfl | rfl | rfl | rfl | rfl <;> rfl
    · rcases lt6 hs with rfl | rfl | rfl | rfl | rfl | rfl <;> rfl
    · rcases lt6 hs with rfl | rfl | rfl | rfl | rfl | rfl <;> rfl
    · have : s = 0 ∨ s = 1 ∨ s = 2 := by omega
      rcases this with rfl | rfl | rfl <;> rfl
    · rcases lt6 hs with rfl | rfl | rfl | rfl | rfl | rfl <;> rfl
  · rintro τ' ⟨z1, z2, z3, z4⟩
    refine ⟨τ', z1, ⟨z3, z2⟩, FrR.tr ?_ z4⟩
    refine FrR.of ?_
    refine FrM.sI ?_ _ (by omega) (by omega)
    iterate 27 (refine FrM.sA ?_ _ _ (by omega) (by omega))
    iterate 3 (refine FrM.sI ?_ _ (by omega) (by omega))
    exact FrM.rf
end Mom
