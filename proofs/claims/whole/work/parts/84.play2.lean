/-! THE CLASS KEEPS THE TOLD RUN: what stood behind each tick; when nothing is ahead; the whole run -/
def MomC (b : Nat) (P : ZP) (σ : CS) (T : Nat) : Prop := ∀ t, t < T → (∀ s, s ≤ pn P → cA σ (b + 19) (6 * t + s) = xSee (xRun P t).1 s ∧ cA σ (b + 20) (6 * t + s) = nI (zg (xRun P t).1 s).length) ∧ cA σ (b + 21) t = nI (zn (xRun P t).1)
section Play2
variable {b : Nat} {P : ZP} {t : Nat} {S : ZS}
theorem mom_C (hn : pn P ≤ 5) (ht : t ≤ 60) : ∀ (r a fu : Nat) (σ0 σ : CS), RC b P t 6 σ0 S σ → a + r = pn P + 1 → r < fu → ∃ σ', cR_keepMoment_l10 b fu (nI (6 * t)) (nI a) σ = some ((), tA σ' (b + 21) t (nI (zn S))) ∧ (∀ c, c ≠ b + 19 → c ≠ b + 20 → sl σ' c = sl σ c) ∧
    (∀ s, a ≤ s → s ≤ pn P → cA σ' (b + 19) (6 * t + s) = xSee S s ∧ cA σ' (b + 20) (6 * t + s) = nI (zg S s).length) ∧ (∀ j, j < 6 * t + a → cA σ' (b + 19) j = cA σ (b + 19) j ∧ cA σ' (b + 20) j = cA σ (b + 20) j)
  | r, a, 0, σ0, σ, _, _, h3 => by omega
  | 0, a, fu + 1, σ0, σ, h, h2, _ => by
    refine ⟨σ, ?_, fun _ _ _ => rfl, fun s h1 h2 => by omega, fun _ _ => ⟨rfl, rfl⟩⟩
    rw [cR_keepMoment_l10, h.n, if_pos ((P_lt (by omega) (by omega)).mpr (by omega)), show cI σ b 6 = nI t from h.1.2.2.2, P_in (show t < 61 by omega) (by decide), if_pos rfl, P_ix (show t < 2 ^ 31 by omega), show cI σ b 8 = nI (zn S) from h.2.2.2.2.2.1.2.1]
  | r + 1, a, fu + 1, σ0, σ, h, h2, h3 => by
    have ha : a < 6 := by omega
    have e7 : nI (6 * t) + nI a = nI (6 * t + a) := nI_add _ _
    obtain ⟨q1, q2, q3, q4⟩ := h.2.2.1 a ha
    have hv : cR_keepMoment_l10 b (fu + 1) (nI (6 * t)) (nI a) σ = cR_keepMoment_l10 b fu (nI (6 * t)) (nI (a + 1)) (tA (tA σ (b + 19) (6 * t + a) (xSee S a)) (b + 20) (6 * t + a) (nI (zg S a).length)) := by
      rw [cR_keepMoment_l10, h.n, if_neg (fun q => absurd ((P_lt (by omega) (by omega)).mp q) (by omega)), P_in ha (by decide), P_ix (show a < 2 ^ 31 by omega), q1, e7]
      unfold cR_keepMoment_b54
      simp only [if_true]
      rw [P_in (show 6 * t + a < 366 by omega) (by decide), P_in ha (by decide), e7, P_in (show 6 * t + a < 366 by omega) (by decide), P_ix (show 6 * t + a < 2 ^ 31 by omega), P_ix (show a < 2 ^ 31 by omega), q2, nI_1]
      unfold xSee
      simp only [if_true]
      cases hu : zu S a
      · rw [if_neg (by decide), if_neg (by decide)]
      · rw [if_pos rfl, if_pos rfl, h.st ha hu]
    have hsl : ∀ c, c ≠ b + 19 → c ≠ b + 20 → sl (tA (tA σ (b + 19) (6 * t + a) (xSee S a)) (b + 20) (6 * t + a) (nI (zg S a).length)) c = sl σ c := fun c h1 h2 => (qA_o c h2).trans (qA_o c h1)
    have hr : RC b P t 6 (tA (tA σ (b + 19) (6 * t + a) (xSee S a)) (b + 20) (6 * t + a) (nI (zg S a).length)) S (tA (tA σ (b + 19) (6 * t + a) (xSee S a)) (b + 20) (6 * t + a) (nI (zg S a).length)) := by
      obtain ⟨hH, hS, hT, hV, hC, ⟨m1, m2, m3⟩, hF, hb⟩ := h
      have kA : ∀ c, c ≠ b + 19 → c ≠ b + 20 → cA (tA (tA σ (b + 19) (6 * t + a) (xSee S a)) (b + 20) (6 * t + a) (nI (zg S a).length)) c = cA σ c := fun c h1 h2 => (cA_c h2).trans (cA_c h1)
      refine ⟨hH, (hS.at qA_o (show 14 ≤ b + 19 by omega)).at qA_o (show 14 ≤ b + 20 by omega), fun j hj => ?_, hV, hC, ⟨m1, m2, ?_⟩, ⟨fun _ _ => rfl, rfl⟩, hb⟩
      · unfold SiteC
        rw [kA (b + 8 + j) (by omega) (by omega)]; exact hT j hj
      · rw [kA (b + 14) (by omega) (by omega), kA (b + 15) (by omega) (by omega), kA (b + 16) (by omega) (by omega), kA (b + 17) (by omega) (by omega), kA (b + 18) (by omega) (by omega)]; exact m3
    obtain ⟨σ', g1, g2, g3, g4⟩ := mom_C hn ht r (a + 1) fu _ _ hr (by omega) (by omega)
    have k19 : cA (tA (tA σ (b + 19) (6 * t + a) (xSee S a)) (b + 20) (6 * t + a) (nI (zg S a).length)) (b + 19) = upd (cA σ (b + 19)) (6 * t + a) (xSee S a) := (cA_c (by omega)).trans cA_s
    have k20 : cA (tA (tA σ (b + 19) (6 * t + a) (xSee S a)) (b + 20) (6 * t + a) (nI (zg S a).length)) (b + 20) = upd (cA σ (b + 20)) (6 * t + a) (nI (zg S a).length) := cA_s.trans (by rw [cA_c (by omega)])
    refine ⟨σ', hv.trans g1, fun c h1 h2 => (g2 c h1 h2).trans (hsl c h1 h2), fun s h1 h2 => ?_, fun j hj => ?_⟩
    · by_cases e : s = a
      · subst e
        obtain ⟨z1, z2⟩ := g4 (6 * t + s) (by omega)
        rw [z1, z2, k19, k20]; exact ⟨pk_us, pk_us⟩
      · exact g3 s (by omega) h2
    · obtain ⟨z1, z2⟩ := g4 j (by omega)
      rw [z1, z2, k19, k20]; exact ⟨pk_un (by omega), pk_un (by omega)⟩
theorem ahead_C (hw : PW P) (ht : t ≤ 60) {σ0 σ : CS} (h : RC b P t 6 σ0 S σ) : ∀ (r a fu : Nat), a + r = pn P + 1 → r < fu → ∃ v, cR_isAnythingAhead_l2 b fu (nI a) σ = some (v, σ) ∧ (v = false → ∀ s, a ≤ s → s ≤ pn P → cI σ (b + 2 + s) 5 = 160 ∧ cA σ (3 + 2) s ≤ nI t)
  | r, a, 0, _, h3 => by omega
  | 0, a, fu + 1, h2, _ => by
    have hn := hw.2.1
    refine ⟨false, ?_, fun _ s h1 h2 => by omega⟩
    rw [cR_isAnythingAhead_l2, h.n, if_pos ((P_lt (by omega) (by omega)).mpr (by omega))]
  | r + 1, a, fu + 1, h2, h3 => by
    have hn := hw.2.1
    have ha : a < 6 := by omega
    have hv : cR_isAnythingAhead_l2 b (fu + 1) (nI a) σ = if cI σ (b + 2 + a) 5 = 160 then (if cA σ (3 + 2) a ≤ nI t then cR_isAnythingAhead_l2 b fu (nI (a + 1)) σ else some (true, σ)) else some (true, σ) := by
      rw [cR_isAnythingAhead_l2, h.n, if_neg (fun q => absurd ((P_lt (by omega) (by omega)).mp q) (by omega)), P_in ha (by decide), P_ix (show a < 2 ^ 31 by omega), show cI σ b 6 = nI t from h.1.2.2.2, nI_1]
      simp only [if_true]
    rw [hv]
    by_cases e1 : cI σ (b + 2 + a) 5 = 160
    · rw [if_pos e1]
      by_cases e2 : cA σ (3 + 2) a ≤ nI t
      · rw [if_pos e2]
        obtain ⟨v, g1, g2⟩ := ahead_C hw ht h r (a + 1) fu (by omega) (by omega)
        refine ⟨v, g1, fun hv s h1 h2 => ?_⟩
        by_cases e : s = a
        · subst e; exact ⟨e1, e2⟩
        · exact g2 hv s (by omega) h2
      · rw [if_neg e2]; exact ⟨true, rfl, fun q => by cases q⟩
    · rw [if_neg e1]; exact ⟨true, rfl, fun q => by cases q⟩
/-- nothing is ahead -/
def Still (P : ZP) (t : Nat) (S : ZS) : Prop := ∀ s, s ≤ pn P → (zu S s = true → zt S s = 1000) ∧ ∀ d u, pd P s = some (d, u) → u ≤ t
theorem xUp_id {f : Nat → ZS → ZS} : ∀ (r a : Nat) (S : ZS), (∀ j, a ≤ j → j < a + r → f j S = S) → xUp f r a S = S
  | 0, _, _, _ => rfl
  | r + 1, a, S, h => by
    show xUp f r (a + 1) (f a S) = S
    rw [h a (Nat.le_refl a) (by omega)]
    exact xUp_id r (a + 1) S (fun j h1 h2 => h j (by omega) (by omega))
theorem Still.tick (hw : PW P) (h : Still P t S) {t' : Nat} (h1 : t < t') (h2 : t' ≤ 60) : xTick P t' (S, zn S) = (S, zn S) := by
  have e1 : xUp (xComes P t') (pn P + 1) 0 S = S := xUp_id _ _ _ (fun j _ hj => by
    cases e : pd P j with
    | none => exact xComes_no e
    | some q => rw [xComes_is (d := q.1) (u := q.2) e, if_neg]; have := (h j (by omega)).2 q.1 q.2 e; omega)
  have e2 : xUp (xGoes P t') (pn P + 1) 0 S = S := xUp_id _ _ _ (fun j _ hj => by
    cases e : pd P j with
    | none => exact xGoes_no e
    | some q =>
      rw [xGoes_is (d := q.1) (u := q.2) e, if_neg]
      have := (h j (by omega)).2 q.1 q.2 e
      have := hw.2.2.2.2.2 j q.1 q.2 e
      omega)
  have e3 : xUp (xWait P t') (pn P + 1) 0 S = S := xUp_id _ _ _ (fun j _ hj => by
    unfold xWait
    rw [if_neg]
    rintro ⟨q1, q2⟩
    rw [(h j (by omega)).1 q1] at q2
    exact absurd ((P_le (a := 1000) (by omega) (by omega)).mp q2) (by omega))
  unfold xTick xSites
  show (xUp (xWait P t') (pn P + 1) 0 (xStart P t' (xUp (xArr P t') (zn S - zn S) (zn S) (xUp (xGoes P t') (pn P + 1) 0 (xUp (xComes P t') (pn P + 1) 0 S)))), zn S) = (S, zn S)
  rw [e1, e2, Nat.sub_self]
  show (xUp (xWait P t') (pn P + 1) 0 (xStart P t' S), zn S) = (S, zn S)
  rw [show xStart P t' S = S from by unfold xStart; rw [if_neg (fun q => by omega)], e3]
theorem Still.run (hw : PW P) (h : Still P t (xRun P t).1) (he : (xRun P t).2 = zn (xRun P t).1) : ∀ k, t + k ≤ 60 → xRun P (t + k) = xRun P t
  | 0, _ => rfl
  | k + 1, hk => by
    have ih := Still.run hw h he k (by omega)
    show xTick P (t + k + 1) (xRun P (t + k)) = xRun P t
    rw [ih]
    have e : xRun P t = ((xRun P t).1, zn (xRun P t).1) := by rw [← he]
    rw [e]
    exact Still.tick hw h (by omega) (by omega)
def ResC (b : Nat) (P : ZP) (σ : CS) : Prop := ∃ T, T ≤ 60 ∧ cI σ b 7 = nI T ∧ (∀ t, T ≤ t → t ≤ 60 → (xRun P t).1 = (xRun P T).1) ∧ MomC b P σ (T + 1) ∧ cZ σ b 3 = pz P ∧ (∀ s, s < 6 → SiteC b s (xRun P 60).1 σ) ∧ MsgC b (xRun P 60).1 σ
/-- what a whole run leaves alone -/
def FrP (b : Nat) (σ0 σ : CS) : Prop := ∀ c, c < b ∨ b + 22 ≤ c → sl σ c = sl σ0 c
theorem tmC_160 {v : Int32} (hv : TimI v) (h : tmC v = 160) : v = 1000 := by
  unfold tmC at h
  rcases hv with rfl | ⟨k, hk, rfl⟩
  · rfl
  · rw [if_neg (show ¬ nI k = 1000 from P_ne (b := 1000) (by omega) (by omega) (by omega))] at h
    exact absurd ((P_eq (b := 160) (by omega) (by omega)).mp h) (by omega)
theorem RC.still (hw : PW P) (ht : t ≤ 60) {σ0 σ : CS} (h : RC b P t 6 σ0 S σ) (hi : Inv P t S) (hq : ∀ s, 0 ≤ s → s ≤ pn P → cI σ (b + 2 + s) 5 = 160 ∧ cA σ (3 + 2) s ≤ nI t) : Still P t S := by
  intro s hs
  have hs6 : s < 6 := by have := hw.2.1; omega
  obtain ⟨q1, q2⟩ := hq s (Nat.zero_le s) hs
  refine ⟨fun hu => ?_, fun d u e => ?_⟩
  · rw [((h.2.2.2.1 s hs6 (by omega)).1 hu).2] at q1
    exact tmC_160 (hi.2.1 s hs6) q1
  · have hd := hw.2.2.2.2.2 s d u e
    rw [((h.2.1.2.2.2.2 s hs6).2 d u e).2] at q2
    exact (P_le (by omega) (by omega)).mp q2
/-- from one tick to the next: the tick's number, and where it stands still -/
theorem RC.next {σ0 σ : CS} {t' : Nat} (h : RC b P t 6 σ0 S σ) (σ' : CS) (hs : ∀ c, c ≠ b → c ≠ b + 19 → c ≠ b + 20 → c ≠ b + 21 → sl σ' c = sl σ c) (hb1 : ∀ k, k ≠ 6 → k ≠ 7 → cI σ' b k = cI σ b k) (hb2 : cI σ' b 6 = nI t') (hb3 : cZ σ' b 3 = cZ σ b 3) (hb4 : cG σ' b 4 = cG σ b 4) : RC b P t' 6 σ' S σ' := by
  obtain ⟨⟨d1, d2, d3, d4⟩, hS, hT, hV, hC, ⟨m1, m2, m3⟩, hF, hb⟩ := h
  have kA : ∀ c, c ≠ b → c ≠ b + 19 → c ≠ b + 20 → c ≠ b + 21 → cA σ' c = cA σ c := fun c h1 h2 h3 h4 => congrArg (fun d : CL => d.2.2.2.1) (hs c h1 h2 h3 h4)
  have kI : ∀ c k, c ≠ b → c < b + 19 → cI σ' c k = cI σ c k := fun c k h1 h2 => sl_I (hs c h1 (by omega) (by omega) (by omega)) k
  refine ⟨⟨hb3.trans d1, by rw [hb4]; exact d2, (hb1 5 (by decide) (by decide)).trans d3, hb2⟩, ?_, fun j hj => ?_, fun j hj hjx => ?_, fun hx => ?_, ⟨m1, (hb1 8 (by decide) (by decide)).trans m2, ?_⟩, ⟨fun _ _ => rfl, rfl⟩, hb⟩
  · unfold SetR
    rw [kI 3 0 (by omega) (by omega), kI 3 1 (by omega) (by omega), kI 3 2 (by omega) (by omega), kI 3 4 (by omega) (by omega), kA (3 + 1) (by omega) (by omega) (by omega) (by omega), kA (3 + 2) (by omega) (by omega) (by omega) (by omega)]
    exact hS
  · unfold SiteC
    rw [show cZ σ' (b + 2 + j) 3 = cZ σ (b + 2 + j) 3 from congrArg (fun d : CL => d.2.1 3) (hs _ (by omega) (by omega) (by omega) (by omega)), kI _ 2 (by omega) (by omega), kA _ (by omega) (by omega) (by omega) (by omega)]
    exact hT j hj
  · unfold LiveC
    rw [kI _ 4 (by omega) (by omega), kI _ 5 (by omega) (by omega)]
    exact hV j hj hjx
  · unfold CntC
    rw [kI _ 6 (by omega) (by omega)]
    exact hC hx
  · rw [kA (b + 14) (by omega) (by omega) (by omega) (by omega), kA (b + 15) (by omega) (by omega) (by omega) (by omega), kA (b + 16) (by omega) (by omega) (by omega) (by omega), kA (b + 17) (by omega) (by omega) (by omega) (by omega), kA (b + 18) (by omega) (by omega) (by omega) (by omega)]
    exact m3
end Play2
