/-! THE CLASS KEEPS THE TOLD RUN: the whole run -/
section Play3
variable {b : Nat} {P : ZP}
theorem FrP.tr {σ1 σ2 σ3 : CS} (h : FrP b σ1 σ2) (k : FrP b σ2 σ3) : FrP b σ1 σ3 := fun c hc => (k c hc).trans (h c hc)
theorem RC.res (hw : PW P) {t : Nat} (ht : t ≤ 60) {σ : CS} (h : RC b P t 6 σ (xRun P t).1 σ) (hM : MomC b P σ (t + 1)) (h7 : cI σ b 7 = nI t) (he : ∀ t', t ≤ t' → t' ≤ 60 → (xRun P t').1 = (xRun P t).1) : ResC b P σ := by
  refine ⟨t, ht, h7, he, hM, h.1.1, ?_, ?_⟩
  · rw [he 60 ht (Nat.le_refl 60)]; exact h.2.2.1
  · rw [he 60 ht (Nat.le_refl 60)]; exact h.2.2.2.2.2.1
theorem play_done {fu : Nat} {x4 : Int32} {v : Bool} {t : Nat} {σ : CS} (h : v = true ∨ t = 61) (ht : t ≤ 61) : cR_play_l61 b (fu + 1) x4 v (nI t) σ = some ((), σ) := by
  rw [cR_play_l61]
  by_cases e : t = 61
  · rw [if_pos (by rw [e]; decide)]
  · rcases h with h | h
    · rw [if_neg (show ¬ 60 < nI t from fun q => absurd ((P_lt (a := 60) (by omega) (by omega)).mp q) (by omega)), if_pos h]
    · exact absurd h e
theorem tick_C (hw : PW P) (hb : 14 ≤ b) {t : Nat} (ht : t ≤ 60) {σ : CS} (h : RC b P t 6 (tI σ b 6 (nI t)) (xPrev P t).1 (tI σ b 6 (nI t))) (hM : MomC b P σ t) :
    ∃ σ1 σ2 σ3 σ4 σ5, cR_comeUp b (tI σ b 6 (nI t)) = some ((), σ1) ∧ cR_goDown b σ1 = some ((), σ2) ∧ cR_deliver b (nI (xPrev P t).2) (nI (zn (xPrev P t).1)) σ2 = some ((), σ3) ∧ cR_endWaits b σ3 = some ((), σ4) ∧ cR_keepMoment b (tI σ4 b 7 (nI t)) = some ((), σ5) ∧
      RC b P t 6 σ5 (xRun P t).1 σ5 ∧ MomC b P σ5 (t + 1) ∧ cI σ5 b 7 = nI t ∧ FrP b σ σ5 := by
  have hn := hw.2.1
  obtain ⟨hi1, hi2⟩ := Inv.prev hw t (by omega)
  obtain ⟨σ1, g1, h1⟩ := RC.comesL hw ht (pn P + 1) 0 4096 _ _ h hi1 (by omega) (by omega)
  obtain ⟨σ2, g2, h2⟩ := RC.goesL hw ht (pn P + 1) 0 4096 _ _ h1 (by omega) (by omega)
  have his : Inv P t (xSites P t (xPrev P t).1) := hi1.sites hw ht
  have hzn := xSites_n (P := P) (t := t) (xPrev P t).1
  have h200 := hi1.1.1
  obtain ⟨σ3, g3, h3⟩ := RC.arrL hw ht (m := zn (xPrev P t).1) (zn (xPrev P t).1 - (xPrev P t).2) (xPrev P t).2 4096 _ _ h2 his (by omega) hzn (by omega)
  have hia : Inv P t (xUp (xArr P t) (zn (xPrev P t).1 - (xPrev P t).2) (xPrev P t).2 (xSites P t (xPrev P t).1)) := his.arrs hw ht (by omega)
  obtain ⟨σ4, g4, h4⟩ := RC.waits hw ht h3 hia (fun e => by subst e; exact xFirst hw)
  have hrun : (xRun P t).1 = xUp (xWait P t) (pn P + 1) 0 (xStart P t (xUp (xArr P t) (zn (xPrev P t).1 - (xPrev P t).2) (xPrev P t).2 (xSites P t (xPrev P t).1))) := by rw [xRun_prev]; rfl
  have h4' : RC b P t 6 (tI σ b 6 (nI t)) (xRun P t).1 σ4 := by rw [hrun]; exact h4
  have h5 : RC b P t 6 (tI σ4 b 7 (nI t)) (xRun P t).1 (tI σ4 b 7 (nI t)) := h4'.next (tI σ4 b 7 (nI t)) (fun c hc _ _ _ => tI_o c hc) (fun k _ hk => cI_k hk) ((cI_k (by decide)).trans h4'.1.2.2.2) rfl rfl
  obtain ⟨σ5, g5, k1, k2, k3⟩ := mom_C hn ht (pn P + 1) 0 4096 _ _ h5 (by omega) (by omega)
  have hA : ∀ c, c ≠ b + 21 → cA (tA σ5 (b + 21) t (nI (zn (xRun P t).1))) c = cA σ5 c := fun c hc => cA_c hc
  have hsl : ∀ c, c ≠ b + 19 → c ≠ b + 20 → c ≠ b + 21 → sl (tA σ5 (b + 21) t (nI (zn (xRun P t).1))) c = sl (tI σ4 b 7 (nI t)) c := fun c q1 q2 q3 => (qA_o c q3).trans (k1 c q1 q2)
  have hbb := hsl b (by omega) (by omega) (by omega)
  have fr4 : ∀ c, b + 19 ≤ c → cA (tI σ4 b 7 (nI t)) c = cA σ c := fun c hc => congrArg (fun d : CL => d.2.2.2.1) (((tI_o c (by omega)).trans (h4'.2.2.2.2.2.2.1.1 c (Or.inr hc))).trans (tI_o c (by omega)))
  refine ⟨σ1, σ2, σ3, σ4, tA σ5 (b + 21) t (nI (zn (xRun P t).1)), g1, g2, g3, g4, ?_, ?_, ?_, ?_⟩
  · unfold cR_keepMoment
    rw [show cI (tI σ4 b 7 (nI t)) b 6 = nI t from h5.1.2.2.2, show nI t * 6 = nI (6 * t) from by rw [show (6 : Int32) = nI 6 from rfl, pk_mul, Nat.mul_comm]]
    exact g5
  · exact h5.next _ (fun c q1 q2 q3 q4 => hsl c q2 q3 q4) (fun k _ _ => sl_I hbb k) ((sl_I hbb 6).trans h5.1.2.2.2) (congrArg (fun d : CL => d.2.1 3) hbb) (congrArg (fun d : CL => d.2.2.1 4) hbb)
  · intro t' ht'
    rw [hA (b + 19) (by omega), hA (b + 20) (by omega), cA_s]
    have c21 : cA σ5 (b + 21) = cA σ (b + 21) := (congrArg (fun d : CL => d.2.2.2.1) (k1 (b + 21) (by omega) (by omega))).trans (fr4 (b + 21) (by omega))
    by_cases e : t' = t
    · subst e
      exact ⟨fun s hs => k2 s (Nat.zero_le s) hs, pk_us⟩
    · obtain ⟨m1, m2⟩ := hM t' (by omega)
      refine ⟨fun s hs => ?_, ?_⟩
      · obtain ⟨z1, z2⟩ := k3 (6 * t' + s) (by omega)
        rw [z1, z2, fr4 (b + 19) (by omega), fr4 (b + 20) (by omega)]
        exact m1 s hs
      · rw [pk_un e, c21]; exact m2
  · refine ⟨?_, fun c hc => ?_⟩
    · exact (sl_I hbb 7).trans cI_s
    · exact (hsl c (by omega) (by omega) (by omega)).trans ((tI_o c (by omega)).trans ((h4'.2.2.2.2.2.2.1.1 c (by omega)).trans (tI_o c (by omega))))
theorem play_L (hw : PW P) (hb : 14 ≤ b) : ∀ (r t fu : Nat) (σ : CS), RC b P t 6 (tI σ b 6 (nI t)) (xPrev P t).1 (tI σ b 6 (nI t)) → MomC b P σ t → t + r = 60 → r + 1 < fu → ∃ σ', cR_play_l61 b fu (nI (xPrev P t).2) false (nI t) σ = some ((), σ') ∧ ResC b P σ' ∧ FrP b σ σ'
  | r, t, 0, σ, _, _, _, h3 => by omega
  | r, t, 1, σ, _, _, _, h3 => by omega
  | r, t, fu + 2, σ, h, hM, h2, h3 => by
    have ht : t ≤ 60 := by omega
    obtain ⟨hi1, hi2⟩ := Inv.prev hw t (by omega)
    have h200 := hi1.1.1
    obtain ⟨σ1, σ2, σ3, σ4, σ5, g1, g2, g3, g4, g5, k1, k2, k3, k4⟩ := tick_C hw hb ht h hM
    have hir := Inv.run (P := P) hw ht
    have hr200 := hir.1.1
    have hx : (xRun P t).2 = zn (xPrev P t).1 := by rw [xRun_prev]; rfl
    have hcnt : cI (tI σ b 6 (nI t)) b 8 = nI (zn (xPrev P t).1) := h.2.2.2.2.2.1.2.1
    have e0 : cR_play_l61 b (fu + 2) (nI (xPrev P t).2) false (nI t) σ = if nI (zn (xRun P t).1) = nI (zn (xPrev P t).1) then (cR_isAnythingAhead b σ5).bind (fun a6 => if a6.1 = true then cR_play_l61 b (fu + 1) (nI (zn (xPrev P t).1)) false (nI (t + 1)) a6.2 else cR_play_l61 b (fu + 1) (nI (zn (xPrev P t).1)) true (nI (t + 1)) a6.2) else cR_play_l61 b (fu + 1) (nI (zn (xPrev P t).1)) false (nI (t + 1)) σ5 := by
      rw [cR_play_l61, if_neg (show ¬ 60 < nI t from fun q => absurd ((P_lt (a := 60) (by omega) (by omega)).mp q) (by omega)), if_neg (by decide), g1]
      simp only [Option.bind_some]
      rw [g2]
      simp only [Option.bind_some]
      rw [hcnt, g3]
      simp only [Option.bind_some]
      rw [g4]
      simp only [Option.bind_some]
      rw [g5]
      simp only [Option.bind_some]
      rw [show cI σ5 b 8 = nI (zn (xRun P t).1) from k1.2.2.2.2.2.1.2.1, nI_1]
    have goOn : ∃ σ', cR_play_l61 b (fu + 1) (nI (zn (xPrev P t).1)) false (nI (t + 1)) σ5 = some ((), σ') ∧ ResC b P σ' ∧ FrP b σ5 σ' := by
      by_cases e : t = 60
      · refine ⟨σ5, play_done (Or.inr (by omega)) (by omega), k1.res hw ht k2 k3 (fun t' q1 q2 => ?_), fun _ _ => rfl⟩
        rw [show t' = t by omega]
      · have hr : RC b P (t + 1) 6 (tI σ5 b 6 (nI (t + 1))) (xPrev P (t + 1)).1 (tI σ5 b 6 (nI (t + 1))) := k1.next _ (fun c hc _ _ _ => tI_o c hc) (fun k hk _ => cI_k hk) cI_s rfl rfl
        have q := play_L hw hb (r - 1) (t + 1) (fu + 1) σ5 hr k2 (by omega) (by omega)
        rw [show (xPrev P (t + 1)).2 = zn (xPrev P t).1 from hx] at q
        exact q
    rw [e0]
    by_cases e : zn (xRun P t).1 = zn (xPrev P t).1
    · rw [if_pos (by rw [e])]
      obtain ⟨v, a1, a2⟩ := ahead_C hw ht k1 (pn P + 1) 0 4096 (by omega) (by have := hw.2.1; omega)
      rw [show cR_isAnythingAhead b σ5 = some (v, σ5) from a1]
      simp only [Option.bind_some]
      cases v
      · rw [if_neg (by decide)]
        have hq : Still P t (xRun P t).1 := k1.still hw ht hir (a2 rfl)
        refine ⟨σ5, play_done (Or.inl rfl) (by omega), k1.res hw ht k2 k3 (fun t' q1 q2 => ?_), k4⟩
        have := Still.run hw hq (hx.trans e.symm) (t' - t) (by omega)
        rw [show t + (t' - t) = t' by omega] at this
        rw [this]
      · rw [if_pos rfl]
        obtain ⟨σ', z1, z2, z3⟩ := goOn
        exact ⟨σ', z1, z2, k4.tr z3⟩
    · rw [if_neg (P_ne (by omega) (by omega) e)]
      obtain ⟨σ', z1, z2, z3⟩ := goOn
      exact ⟨σ', z1, z2, k4.tr z3⟩
theorem anew_C : ∀ (r a fu : Nat) (σ : CS), a + r = 6 → r < fu → ∃ σ', cR_play_l29 b fu (nI a) σ = cR_play_l61 b 4096 0 false 0 σ' ∧ (∀ c, c < b + 2 + a ∨ b + 8 ≤ c → sl σ' c = sl σ c) ∧ (∀ s, a ≤ s → s < 6 → cZ σ' (b + 2 + s) 3 = true ∧ cI σ' (b + 2 + s) 2 = 0 ∧ cI σ' (b + 2 + s) 4 = 0 ∧ cI σ' (b + 2 + s) 5 = 160)
  | r, a, 0, σ, _, h3 => by omega
  | 0, a, fu + 1, σ, h2, _ => by
    refine ⟨σ, ?_, fun _ _ => rfl, fun s h1 h2 => by omega⟩
    rw [cR_play_l29, if_pos (show 6 ≤ nI a from (P_le (a := 6) (by omega) (by omega)).mpr (by omega))]
  | r + 1, a, fu + 1, σ, h2, h3 => by
    obtain ⟨σ', g1, g2, g3⟩ := anew_C r (a + 1) fu (tI (tI (tZ (tI σ (b + 2 + a) 2 0) (b + 2 + a) 3 true) (b + 2 + a) 4 0) (b + 2 + a) 5 160) (by omega) (by omega)
    refine ⟨σ', ?_, fun c hc => (g2 c (by omega)).trans ((tI_o c (by omega)).trans ((tI_o c (by omega)).trans ((tZ_o c (by omega)).trans (tI_o c (by omega))))), fun s h1 h2 => ?_⟩
    · rw [cR_play_l29, if_neg (show ¬ 6 ≤ nI a from fun q => absurd ((P_le (a := 6) (by omega) (by omega)).mp q) (by omega)), P_in (show a < 6 by omega) (by decide), if_pos rfl, P_ix (show a < 2 ^ 31 by omega), nI_1]
      exact g1
    · by_cases e : s = a
      · subst e
        have hs := g2 (b + 2 + s) (by omega)
        rw [show cZ σ' (b + 2 + s) 3 = _ from congrArg (fun d : CL => d.2.1 3) hs, sl_I hs 2, sl_I hs 4, sl_I hs 5]
        refine ⟨cZ_s (σ := tI σ (b + 2 + s) 2 0), ?_, ?_, cI_s⟩
        · exact (cI_k (by decide)).trans ((cI_k (by decide)).trans (cI_s (σ := σ)))
        · exact (cI_k (by decide)).trans cI_s
      · exact g3 s (by omega) h2
theorem play_C (hw : PW P) (hb : 14 ≤ b) {σ : CS} (hS : SetR 3 P σ) {g : Int64} {z : Bool} (hl : LosB g (pl P)) (hz : z = pz P) : ∃ σ', cR_play b g z σ = some ((), σ') ∧ ResC b P σ' ∧ FrP b σ σ' := by
  have hn := hw.2.1
  have hs3 : ∀ c, c ≠ b → sl (tI (tI (tZ (tG σ b 4 g) b 3 z) b 5 (((2 : Int32) <<< (cI (tZ (tG σ b 4 g) b 3 z) 3 0 &&& 31)) - 2)) b 8 0) c = sl σ c := fun c hc => (tI_o c hc).trans ((tI_o c hc).trans ((tZ_o c hc).trans (tG_o c hc)))
  obtain ⟨σ1, a1, a2, a3⟩ := anew_C (b := b) 6 0 4096 (tI (tI (tZ (tG σ b 4 g) b 3 z) b 5 (((2 : Int32) <<< (cI (tZ (tG σ b 4 g) b 3 z) 3 0 &&& 31)) - 2)) b 8 0) (by omega) (by omega)
  have z00 : nI 0 = 0 := rfl
  rw [z00] at a1
  have hp : cR_play b g z σ = cR_play_l61 b 4096 0 false 0 σ1 := by
    rw [← a1]
    unfold cR_play cS_everyone
    rw [Option.bind_some]
  have hb1 := a2 b (by omega)
  have s3 := (a2 3 (by omega)).trans (hs3 3 (by omega))
  have s4 := (a2 4 (by omega)).trans (hs3 4 (by omega))
  have s5 := (a2 5 (by omega)).trans (hs3 5 (by omega))
  have k6 : ∀ k, k ≠ 6 → cI (tI σ1 b 6 (nI 0)) b k = cI σ1 b k := fun k hk => cI_k hk
  have kc : ∀ c k, c ≠ b → cI (tI σ1 b 6 (nI 0)) c k = cI σ1 c k := fun c k hc => cI_c hc
  have hR : RC b P 0 6 (tI σ1 b 6 (nI 0)) (xPrev P 0).1 (tI σ1 b 6 (nI 0)) := by
    refine ⟨⟨?_, ?_, ?_, cI_s⟩, ?_, fun s hs => ?_, fun s hs _ => ?_, fun _ _ => ⟨fun q => absurd q (by show ¬ (0 : Int32) = 1; decide), fun q => absurd q (by show ¬ (0 : Int32) = 2; decide), fun q => absurd q (by show ¬ ((0 : Int32) = 3 ∨ (0 : Int32) = 4); decide)⟩, ⟨show (0 : Nat) ≤ 200 by decide, ?_, fun i hi => absurd hi (Nat.not_lt_zero i)⟩, ⟨fun _ _ => rfl, rfl⟩, hb⟩
    · rw [show cZ (tI σ1 b 6 (nI 0)) b 3 = _ from congrArg (fun d : CL => d.2.1 3) hb1, ← hz]
      exact cZ_s (σ := tG σ b 4 g)
    · have hg : cG (tI σ1 b 6 (nI 0)) b 4 = g := (congrArg (fun d : CL => d.2.2.1 4) hb1).trans ((congrFun (va_up_s _ _ _) 4).trans (va_up_s _ _ _))
      rw [hg]; exact hl
    · rw [k6 5 (by decide), sl_I hb1 5, cI_k (show (5 : Nat) ≠ 8 by decide), cI_s, show cI (tZ (tG σ b 4 g) b 3 z) 3 0 = nI (pn P) from hS.1]
      exact ev_two (pn P) (by omega)
    · unfold SetR
      rw [kc 3 0 (by omega), kc 3 1 (by omega), kc 3 2 (by omega), kc 3 4 (by omega), sl_I s3 0, sl_I s3 1, sl_I s3 2, sl_I s3 4, show cA (tI σ1 b 6 (nI 0)) (3 + 1) = cA σ (3 + 1) from congrArg (fun d : CL => d.2.2.2.1) s4, show cA (tI σ1 b 6 (nI 0)) (3 + 2) = cA σ (3 + 2) from congrArg (fun d : CL => d.2.2.2.1) s5]
      exact hS
    · obtain ⟨q1, q2, q3, q4⟩ := a3 s (Nat.zero_le s) hs
      exact ⟨q1, (kc _ _ (by omega)).trans q2, Nat.zero_le _, fun i hi => absurd hi (Nat.not_lt_zero i)⟩
    · obtain ⟨q1, q2, q3, q4⟩ := a3 s (Nat.zero_le s) hs
      exact ⟨fun _ => ⟨(kc _ _ (by omega)).trans q3, (kc _ _ (by omega)).trans q4⟩, fun q => by cases (show true = false from q)⟩
    · rw [k6 8 (by decide), sl_I hb1 8]; exact cI_s
  obtain ⟨σ', z1, z2, z3⟩ := play_L hw hb 60 0 4096 σ1 hR (fun t ht => absurd ht (Nat.not_lt_zero t)) (by omega) (by omega)
  have z0 : (xPrev P 0).2 = 0 := rfl
  rw [z0, z00] at z1
  refine ⟨σ', hp.trans z1, z2, fun c hc => (z3 c hc).trans ((a2 c (by omega)).trans (hs3 c (by omega)))⟩
end Play3
