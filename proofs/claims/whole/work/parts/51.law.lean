/-! THE LAW, over a relation that every pair of calls keeps -/
def SimI (Rel : CS → MS → Prop) (f : CS → Option (Int32 × CS)) (g : MS → Option (Int32 × MS)) : Prop := ∀ σ τ, Rel σ τ → ∃ r σ' τ', f σ = some (r, σ') ∧ g τ = some (r, τ') ∧ Rel σ' τ'
def SimL (Rel : CS → MS → Prop) (f : CS → Option (Int64 × CS)) (g : MS → Option (Int64 × MS)) : Prop := ∀ σ τ, Rel σ τ → ∃ r σ' τ', f σ = some (r, σ') ∧ g τ = some (r, τ') ∧ Rel σ' τ'
def St0 (Rel : CS → MS → Prop) : Prop := (∀ (p1 : Int32) (p2 : Int32) (p3 : Int32), SimI Rel (cP_row p1 p2 p3) (m_row p1 p2 p3))
def St1 (Rel : CS → MS → Prop) : Prop := (∀ (p1 : Int32) (p2 : Int32) (p3 : Int64), SimI Rel (cP_set p1 p2 p3) (m_set p1 p2 p3))
def St2 (Rel : CS → MS → Prop) : Prop := (∀ (p1 : Int32) (p2 : Int32) (p3 : Int32) (p4 : Int32) (p5 : Int32), SimI Rel (cP_copy p1 p2 p3 p4 p5) (m_copy p1 p2 p3 p4 p5))
def St3 (Rel : CS → MS → Prop) : Prop := (∀ (p1 : Int32) (p2 : Int32), SimL Rel (cP_element p1 p2) (m_element p1 p2))
def St4 (Rel : CS → MS → Prop) : Prop := (∀ (p1 : Int32) (p2 : Int32), SimI Rel (cP_show p1 p2) (m_show p1 p2))
def St5 (Rel : CS → MS → Prop) : Prop := (∀ (p1 : Int32), SimI Rel (cP_holds p1) (m_holds p1))
def St6 (Rel : CS → MS → Prop) : Prop := (∀ (p1 : Int32) (p2 : Int32), SimI Rel (cP_says p1 p2) (m_says p1 p2))
def St7 (Rel : CS → MS → Prop) : Prop := (∀ (p1 : Int32), SimI Rel (cP_read p1) (m_read p1))
def St8 (Rel : CS → MS → Prop) : Prop := SimI Rel cP_fault m_fault
def St9 (Rel : CS → MS → Prop) : Prop := (∀ (p1 : Int32) (p2 : Int32), SimI Rel (cP_put p1 p2) (m_put p1 p2))
def St10 (Rel : CS → MS → Prop) : Prop := (∀ (p1 : Int32) (p2 : Bool), SimI Rel (cP_vote p1 p2) (m_vote p1 p2))
def St11 (Rel : CS → MS → Prop) : Prop := (∀ (p1 : Int32) (p2 : Bool), SimI Rel (cP_lose p1 p2) (m_lose p1 p2))
def St12 (Rel : CS → MS → Prop) : Prop := (∀ (p1 : Int32) (p2 : Int32) (p3 : Int32), SimI Rel (cP_down p1 p2 p3) (m_down p1 p2 p3))
def St13 (Rel : CS → MS → Prop) : Prop := (∀ (p1 : Int32), SimI Rel (cP_told p1) (m_told p1))
def St14 (Rel : CS → MS → Prop) : Prop := (∀ (p1 : Int32) (p2 : Int32), SimI Rel (cP_state p1 p2) (m_state p1 p2))
def St15 (Rel : CS → MS → Prop) : Prop := (∀ (p1 : Int32) (p2 : Int32), SimI Rel (cP_decided p1 p2) (m_decided p1 p2))
def St16 (Rel : CS → MS → Prop) : Prop := (∀ (p1 : Int32) (p2 : Int32), SimI Rel (cP_records p1 p2) (m_records p1 p2))
def St17 (Rel : CS → MS → Prop) : Prop := (∀ (p1 : Int32) (p2 : Int32), SimI Rel (cP_record p1 p2) (m_record p1 p2))
def St18 (Rel : CS → MS → Prop) : Prop := (∀ (p1 : Int32), SimI Rel (cP_sent p1) (m_sent p1))
def St19 (Rel : CS → MS → Prop) : Prop := (∀ (p1 : Int32) (p2 : Int32), SimI Rel (cP_message p1 p2) (m_message p1 p2))
def St20 (Rel : CS → MS → Prop) : Prop := (∀ (p1 : Int32), SimI Rel (cP_alike p1) (m_alike p1))
def St21 (Rel : CS → MS → Prop) : Prop := SimI Rel cP_blocked m_blocked
def St22 (Rel : CS → MS → Prop) : Prop := SimI Rel cP_quiet m_quiet
def St23 (Rel : CS → MS → Prop) : Prop := (∀ (p1 : Int32), SimI Rel (cP_harm p1) (m_harm p1))
def St24 (Rel : CS → MS → Prop) : Prop := (∀ (p1 : Int32), SimI Rel (cP_block p1) (m_block p1))
def St25 (Rel : CS → MS → Prop) : Prop := (∀ (p1 : Int32) (p2 : Int32), SimI Rel (cP_recovery p1 p2) (m_recovery p1 p2))
def St26 (Rel : CS → MS → Prop) : Prop := SimI Rel cP_spared m_spared
def St27 (Rel : CS → MS → Prop) : Prop := (∀ (p1 : Int32) (p2 : Int32) (p3 : Int32), SimI Rel (cP_judge p1 p2 p3) (m_judge p1 p2 p3))
def St28 (Rel : CS → MS → Prop) : Prop := (∀ (p1 : Int32), SimI Rel (cP_drawn p1) (m_drawn p1))
def St29 (Rel : CS → MS → Prop) : Prop := (∀ (p1 : Int32), SimI Rel (cP_seed p1) (m_seed p1))
def St30 (Rel : CS → MS → Prop) : Prop := SimI Rel cP_image m_image
def St31 (Rel : CS → MS → Prop) : Prop := SimI Rel cP_restore m_restore
def St32 (Rel : CS → MS → Prop) : Prop := (∀ (p1 : Int32), SimI Rel (cP_status p1) (m_status p1))
def Steps (Rel : CS → MS → Prop) : Prop := St0 Rel ∧ St1 Rel ∧ St2 Rel ∧ St3 Rel ∧ St4 Rel ∧ St5 Rel ∧ St6 Rel ∧ St7 Rel ∧ St8 Rel ∧ St9 Rel ∧ St10 Rel ∧ St11 Rel ∧ St12 Rel ∧ St13 Rel ∧ St14 Rel ∧ St15 Rel ∧ St16 Rel ∧ St17 Rel ∧ St18 Rel ∧ St19 Rel ∧ St20 Rel ∧ St21 Rel ∧ St22 Rel ∧ St23 Rel ∧ St24 Rel ∧ St25 Rel ∧ St26 Rel ∧ St27 Rel ∧ St28 Rel ∧ St29 Rel ∧ St30 Rel ∧ St31 Rel ∧ St32 Rel
abbrev M_law : JM := (code, 4, RL, ret, 12, 452)
section LL
variable {X : JX} {M M' : JM} {nC nS : Nat} {Q : State → Prop} {kc ks pc n index : Nat} {lv : List (Option Value)} {st rest As : List Value} {y : MethodName} {adC adM : Nat → Nat} {σ σ' : CS} {τ τ' : MS}
theorem JN.lci {o' : Option (Int32 × CS)} {r : Int32} (hc : CO y M' eI (xZ X) (wC adC (xZ X)) (.ref (adC 0) :: As) (wsC adC (xZ X) σ) o') (hb : o' = some (r, σ')) (K : Kv y M' RX9 n) (w1 : Cond.methodLink M.2.2.1 index y ∈ TT) (hn : As.length = n) (hst : st = As.reverse ++ .ref (adC 0) :: rest) (hroom : roomOk M M' = true) (hcat : (rest.map fun v => v.category).sum ≤ 8) (hkc : kc ≤ nC) (hks : ks ≤ nS) (d : decode M.1 pc = .ok (.invokevirtual index, 3)) (k : JN X M nC nS Q kc ks (pc + 3) lv (.int r :: rest) (wsC adC (xZ X) σ' ++ wsM adM (xZ X) τ)) : JN X M nC nS Q kc ks pc lv st (wsC adC (xZ X) σ ++ wsM adM (xZ X) τ) :=
  JN.callF true (ci := 6) hc hb rfl (cC_he o_P) K w1 rfl hn hst hroom hcat hkc hks wsC_fst d k
theorem JN.lmi {o' : Option (Int32 × MS)} {r : Int32} (hc : CO y M' eI (xZ X) (wM adM (xZ X)) (.ref (adM 0) :: As) (wsM adM (xZ X) τ) o') (hb : o' = some (r, τ')) (K : Kv y M' RX10 n) (w1 : Cond.methodLink M.2.2.1 index y ∈ TT) (hn : As.length = n) (hst : st = As.reverse ++ .ref (adM 0) :: rest) (hroom : roomOk M M' = true) (hcat : (rest.map fun v => v.category).sum ≤ 8) (hkc : kc ≤ nC) (hks : ks ≤ nS) (d : decode M.1 pc = .ok (.invokevirtual index, 3)) (k : JN X M nC nS Q kc ks (pc + 3) lv (.int r :: rest) (wsC adC (xZ X) σ ++ wsM adM (xZ X) τ')) : JN X M nC nS Q kc ks pc lv st (wsC adC (xZ X) σ ++ wsM adM (xZ X) τ) :=
  JN.callF false (ci := 7) (q0 := 0) (fs := fM adM τ) hc hb rfl rfl K w1 rfl hn hst hroom hcat hkc hks rfl d k
theorem JN.lcl {o' : Option (Int64 × CS)} {r : Int64} (hc : CO y M' eL (xZ X) (wC adC (xZ X)) (.ref (adC 0) :: As) (wsC adC (xZ X) σ) o') (hb : o' = some (r, σ')) (K : Kv y M' RX9 n) (w1 : Cond.methodLink M.2.2.1 index y ∈ TT) (hn : As.length = n) (hst : st = As.reverse ++ .ref (adC 0) :: rest) (hroom : roomOk M M' = true) (hcat : (rest.map fun v => v.category).sum ≤ 8) (hkc : kc ≤ nC) (hks : ks ≤ nS) (d : decode M.1 pc = .ok (.invokevirtual index, 3)) (k : JN X M nC nS Q kc ks (pc + 3) lv (.long r :: rest) (wsC adC (xZ X) σ' ++ wsM adM (xZ X) τ)) : JN X M nC nS Q kc ks pc lv st (wsC adC (xZ X) σ ++ wsM adM (xZ X) τ) :=
  JN.callF true (ci := 6) hc hb rfl (cC_he o_P) K w1 rfl hn hst hroom hcat hkc hks wsC_fst d k
theorem JN.lml {o' : Option (Int64 × MS)} {r : Int64} (hc : CO y M' eL (xZ X) (wM adM (xZ X)) (.ref (adM 0) :: As) (wsM adM (xZ X) τ) o') (hb : o' = some (r, τ')) (K : Kv y M' RX10 n) (w1 : Cond.methodLink M.2.2.1 index y ∈ TT) (hn : As.length = n) (hst : st = As.reverse ++ .ref (adM 0) :: rest) (hroom : roomOk M M' = true) (hcat : (rest.map fun v => v.category).sum ≤ 8) (hkc : kc ≤ nC) (hks : ks ≤ nS) (d : decode M.1 pc = .ok (.invokevirtual index, 3)) (k : JN X M nC nS Q kc ks (pc + 3) lv (.long r :: rest) (wsC adC (xZ X) σ ++ wsM adM (xZ X) τ')) : JN X M nC nS Q kc ks pc lv st (wsC adC (xZ X) σ ++ wsM adM (xZ X) τ) :=
  JN.callF false (ci := 7) (q0 := 0) (fs := fM adM τ) hc hb rfl rfl K w1 rfl hn hst hroom hcat hkc hks rfl d k
theorem JN.tswAll {dflt lo hi : Int} {offs : Array Int} {len : Nat} {x : Int32} {ws : va_W} (tg : List Nat) (td : Nat) (d : decode M.1 pc = .ok (.tableswitch dflt lo hi offs, len)) (htd : (pc : Int) + dflt = td) (hR : ((List.range (hi - lo + 1).toNat).all fun i => tg.any fun t => offs[i]? == some ((t : Int) - pc)) = true) (k : ∀ t ∈ tg, JN X M nC nS Q kc ks t lv st ws) (kd : JN X M nC nS Q kc ks td lv st ws) : JN X M nC nS Q kc ks pc lv (.int x :: st) ws := by
  intro ok ls H locs hl hP hD hS
  by_cases hb : x.toInt < lo ∨ hi < x.toInt
  · exact lv_tableOut ok.1.1 ok.1.2.1 d hb htd (kd ok ls H locs hl hP hD hS)
  · have hlt : (x.toInt - lo).toNat < (hi - lo + 1).toNat := by omega
    obtain ⟨t, ht, hx⟩ := List.any_eq_true.mp (List.all_eq_true.mp hR _ (List.mem_range.mpr hlt))
    exact lv_tableIn ok.1.1 ok.1.2.1 d (by omega) (by omega) (by simpa using hx) (tgt := t) (by omega) (k t ht ok ls H locs hl hP hD hS)
end LL
theorem law_c0 {X : JX} {nC nS : Nat} {Q : State → Prop} {kc ks : Nat} {adC adM : Nat → Nat} {b L : Nat} {sc : Nat → Int32} {x3 : Int32} {Rel : CS → MS → Prop} (hkc : kc ≤ nC) (hks : ks ≤ nS) (hS : SX X b L sc) (h1 : inB (x3 + 1) L = true) (h2 : inB (x3 + 2) L = true) (h3 : inB (x3 + 3) L = true) (h4 : inB (x3 + 4) L = true) (h5 : inB (x3 + 5) L = true) (hs : St0 Rel) {σ : CS} {τ : MS} (hR : Rel σ τ) (kk : ∀ σ' τ', Rel σ' τ' → JN X M_law nC nS Q kc ks 1182 [some (.ref b), some (.ref (adC 0)), some (.ref (adM 0)), some (.int x3)] [] (wsC adC (xZ X) σ' ++ wsM adM (xZ X) τ')) : JN X M_law nC nS Q kc ks 180 [some (.ref b), some (.ref (adC 0)), some (.ref (adM 0)), some (.int x3)] [] (wsC adC (xZ X) σ ++ wsM adM (xZ X) τ) := by
  obtain ⟨r, σ', τ', e1, e2, hR2⟩ := hs (sc (ix (x3 + 1))) (sc (ix (x3 + 2))) (sc (ix (x3 + 3))) σ τ hR
  refine JN.aloadn dL_law_180 rfl ?_
  refine JN.aloadn dL_law_181 rfl ?_
  refine JN.iloadn dL_law_182 rfl ?_
  refine JN.ic 1 dL_law_183 (by decide) ?_
  refine JN.iadd dL_law_184 ?_
  refine JN.sld hS h1 dL_law_185 ?_
  refine JN.aloadn dL_law_186 rfl ?_
  refine JN.iloadn dL_law_187 rfl ?_
  refine JN.ic 2 dL_law_188 (by decide) ?_
  refine JN.iadd dL_law_189 ?_
  refine JN.sld hS h2 dL_law_190 ?_
  refine JN.aloadn dL_law_191 rfl ?_
  refine JN.iloadn dL_law_192 rfl ?_
  refine JN.ic 3 dL_law_193 (by decide) ?_
  refine JN.iadd dL_law_194 ?_
  refine JN.sld hS h3 dL_law_195 ?_
  refine JN.lci (C_cP_row _ _ _ _) e1 K_cP_row k2_79 rfl rfl rfl (Nat.le_of_ble_eq_true rfl) hkc hks dL_law_196 ?_
  refine JN.aloadn dL_law_199 rfl ?_
  refine JN.aloadn dL_law_200 rfl ?_
  refine JN.iloadn dL_law_201 rfl ?_
  refine JN.ic 1 dL_law_202 (by decide) ?_
  refine JN.iadd dL_law_203 ?_
  refine JN.sld hS h1 dL_law_204 ?_
  refine JN.aloadn dL_law_205 rfl ?_
  refine JN.iloadn dL_law_206 rfl ?_
  refine JN.ic 2 dL_law_207 (by decide) ?_
  refine JN.iadd dL_law_208 ?_
  refine JN.sld hS h2 dL_law_209 ?_
  refine JN.aloadn dL_law_210 rfl ?_
  refine JN.iloadn dL_law_211 rfl ?_
  refine JN.ic 3 dL_law_212 (by decide) ?_
  refine JN.iadd dL_law_213 ?_
  refine JN.sld hS h3 dL_law_214 ?_
  refine JN.lmi (C_m_row _ _ _ _) e2 K_m_row k5_127 rfl rfl rfl (Nat.le_of_ble_eq_true rfl) hkc hks dL_law_215 ?_
  refine JN.eqT 1182 dL_law_218 rfl ?_
  exact kk σ' τ' hR2
theorem law_c1 {X : JX} {nC nS : Nat} {Q : State → Prop} {kc ks : Nat} {adC adM : Nat → Nat} {b L : Nat} {sc : Nat → Int32} {x3 : Int32} {Rel : CS → MS → Prop} (hkc : kc ≤ nC) (hks : ks ≤ nS) (hS : SX X b L sc) (h1 : inB (x3 + 1) L = true) (h2 : inB (x3 + 2) L = true) (h3 : inB (x3 + 3) L = true) (h4 : inB (x3 + 4) L = true) (h5 : inB (x3 + 5) L = true) (hs : St1 Rel) {σ : CS} {τ : MS} (hR : Rel σ τ) (kk : ∀ σ' τ', Rel σ' τ' → JN X M_law nC nS Q kc ks 1182 [some (.ref b), some (.ref (adC 0)), some (.ref (adM 0)), some (.int x3)] [] (wsC adC (xZ X) σ' ++ wsM adM (xZ X) τ')) : JN X M_law nC nS Q kc ks 223 [some (.ref b), some (.ref (adC 0)), some (.ref (adM 0)), some (.int x3)] [] (wsC adC (xZ X) σ ++ wsM adM (xZ X) τ) := by
  obtain ⟨r, σ', τ', e1, e2, hR2⟩ := hs (sc (ix (x3 + 1))) (sc (ix (x3 + 2))) ((((sc (ix (x3 + 3))).toInt64 <<< ((32 : Int32).toInt64 &&& 63)) ||| ((sc (ix (x3 + 4))).toInt64 &&& 4294967295))) σ τ hR
  refine JN.aloadn dL_law_223 rfl ?_
  refine JN.aloadn dL_law_224 rfl ?_
  refine JN.iloadn dL_law_225 rfl ?_
  refine JN.ic 1 dL_law_226 (by decide) ?_
  refine JN.iadd dL_law_227 ?_
  refine JN.sld hS h1 dL_law_228 ?_
  refine JN.aloadn dL_law_229 rfl ?_
  refine JN.iloadn dL_law_230 rfl ?_
  refine JN.ic 2 dL_law_231 (by decide) ?_
  refine JN.iadd dL_law_232 ?_
  refine JN.sld hS h2 dL_law_233 ?_
  refine JN.aloadn dL_law_234 rfl ?_
  refine JN.iloadn dL_law_235 rfl ?_
  refine JN.ic 3 dL_law_236 (by decide) ?_
  refine JN.iadd dL_law_237 ?_
  refine JN.sld hS h3 dL_law_238 ?_
  refine JN.i2l dL_law_239 ?_
  refine JN.bip 32 dL_law_240 (by decide) ?_
  refine JN.lshl dL_law_242 ?_
  refine JN.aloadn dL_law_243 rfl ?_
  refine JN.iloadn dL_law_244 rfl ?_
  refine JN.ic 4 dL_law_245 (by decide) ?_
  refine JN.iadd dL_law_246 ?_
  refine JN.sld hS h4 dL_law_247 ?_
  refine JN.i2l dL_law_248 ?_
  refine JN.ldc2 (v := 4294967295) k7_39 dL_law_249 ?_
  refine JN.land dL_law_252 ?_
  refine JN.lor dL_law_253 ?_
  refine JN.lci (C_cP_set _ _ _ _) e1 K_cP_set k2_97 rfl rfl rfl (Nat.le_of_ble_eq_true rfl) hkc hks dL_law_254 ?_
  refine JN.aloadn dL_law_257 rfl ?_
  refine JN.aloadn dL_law_258 rfl ?_
  refine JN.iloadn dL_law_259 rfl ?_
  refine JN.ic 1 dL_law_260 (by decide) ?_
  refine JN.iadd dL_law_261 ?_
  refine JN.sld hS h1 dL_law_262 ?_
  refine JN.aloadn dL_law_263 rfl ?_
  refine JN.iloadn dL_law_264 rfl ?_
  refine JN.ic 2 dL_law_265 (by decide) ?_
  refine JN.iadd dL_law_266 ?_
  refine JN.sld hS h2 dL_law_267 ?_
  refine JN.aloadn dL_law_268 rfl ?_
  refine JN.iloadn dL_law_269 rfl ?_
  refine JN.ic 3 dL_law_270 (by decide) ?_
  refine JN.iadd dL_law_271 ?_
  refine JN.sld hS h3 dL_law_272 ?_
  refine JN.i2l dL_law_273 ?_
  refine JN.bip 32 dL_law_274 (by decide) ?_
  refine JN.lshl dL_law_276 ?_
  refine JN.aloadn dL_law_277 rfl ?_
  refine JN.iloadn dL_law_278 rfl ?_
  refine JN.ic 4 dL_law_279 (by decide) ?_
  refine JN.iadd dL_law_280 ?_
  refine JN.sld hS h4 dL_law_281 ?_
  refine JN.i2l dL_law_282 ?_
  refine JN.ldc2 (v := 4294967295) k7_39 dL_law_283 ?_
  refine JN.land dL_law_286 ?_
  refine JN.lor dL_law_287 ?_
  refine JN.lmi (C_m_set _ _ _ _) e2 K_m_set k5_141 rfl rfl rfl (Nat.le_of_ble_eq_true rfl) hkc hks dL_law_288 ?_
  refine JN.eqT 1182 dL_law_291 rfl ?_
  exact kk σ' τ' hR2
theorem law_c2 {X : JX} {nC nS : Nat} {Q : State → Prop} {kc ks : Nat} {adC adM : Nat → Nat} {b L : Nat} {sc : Nat → Int32} {x3 : Int32} {Rel : CS → MS → Prop} (hkc : kc ≤ nC) (hks : ks ≤ nS) (hS : SX X b L sc) (h1 : inB (x3 + 1) L = true) (h2 : inB (x3 + 2) L = true) (h3 : inB (x3 + 3) L = true) (h4 : inB (x3 + 4) L = true) (h5 : inB (x3 + 5) L = true) (hs : St2 Rel) {σ : CS} {τ : MS} (hR : Rel σ τ) (kk : ∀ σ' τ', Rel σ' τ' → JN X M_law nC nS Q kc ks 1182 [some (.ref b), some (.ref (adC 0)), some (.ref (adM 0)), some (.int x3)] [] (wsC adC (xZ X) σ' ++ wsM adM (xZ X) τ')) : JN X M_law nC nS Q kc ks 296 [some (.ref b), some (.ref (adC 0)), some (.ref (adM 0)), some (.int x3)] [] (wsC adC (xZ X) σ ++ wsM adM (xZ X) τ) := by
  obtain ⟨r, σ', τ', e1, e2, hR2⟩ := hs (sc (ix (x3 + 1))) (sc (ix (x3 + 2))) (sc (ix (x3 + 3))) (sc (ix (x3 + 4))) (sc (ix (x3 + 5))) σ τ hR
  refine JN.aloadn dL_law_296 rfl ?_
  refine JN.aloadn dL_law_297 rfl ?_
  refine JN.iloadn dL_law_298 rfl ?_
  refine JN.ic 1 dL_law_299 (by decide) ?_
  refine JN.iadd dL_law_300 ?_
  refine JN.sld hS h1 dL_law_301 ?_
  refine JN.aloadn dL_law_302 rfl ?_
  refine JN.iloadn dL_law_303 rfl ?_
  refine JN.ic 2 dL_law_304 (by decide) ?_
  refine JN.iadd dL_law_305 ?_
  refine JN.sld hS h2 dL_law_306 ?_
  refine JN.aloadn dL_law_307 rfl ?_
  refine JN.iloadn dL_law_308 rfl ?_
  refine JN.ic 3 dL_law_309 (by decide) ?_
  refine JN.iadd dL_law_310 ?_
  refine JN.sld hS h3 dL_law_311 ?_
  refine JN.aloadn dL_law_312 rfl ?_
  refine JN.iloadn dL_law_313 rfl ?_
  refine JN.ic 4 dL_law_314 (by decide) ?_
  refine JN.iadd dL_law_315 ?_
  refine JN.sld hS h4 dL_law_316 ?_
  refine JN.aloadn dL_law_317 rfl ?_
  refine JN.iloadn dL_law_318 rfl ?_
  refine JN.ic 5 dL_law_319 (by decide) ?_
  refine JN.iadd dL_law_320 ?_
  refine JN.sld hS h5 dL_law_321 ?_
  refine JN.lci (C_cP_copy _ _ _ _ _ _) e1 K_cP_copy k2_126 rfl rfl rfl (Nat.le_of_ble_eq_true rfl) hkc hks dL_law_322 ?_
  refine JN.aloadn dL_law_325 rfl ?_
  refine JN.aloadn dL_law_326 rfl ?_
  refine JN.iloadn dL_law_327 rfl ?_
  refine JN.ic 1 dL_law_328 (by decide) ?_
  refine JN.iadd dL_law_329 ?_
  refine JN.sld hS h1 dL_law_330 ?_
  refine JN.aloadn dL_law_331 rfl ?_
  refine JN.iloadn dL_law_332 rfl ?_
  refine JN.ic 2 dL_law_333 (by decide) ?_
  refine JN.iadd dL_law_334 ?_
  refine JN.sld hS h2 dL_law_335 ?_
  refine JN.aloadn dL_law_336 rfl ?_
  refine JN.iloadn dL_law_337 rfl ?_
  refine JN.ic 3 dL_law_338 (by decide) ?_
  refine JN.iadd dL_law_339 ?_
  refine JN.sld hS h3 dL_law_340 ?_
  refine JN.aloadn dL_law_341 rfl ?_
  refine JN.iloadn dL_law_342 rfl ?_
  refine JN.ic 4 dL_law_343 (by decide) ?_
  refine JN.iadd dL_law_344 ?_
  refine JN.sld hS h4 dL_law_345 ?_
  refine JN.aloadn dL_law_346 rfl ?_
  refine JN.iloadn dL_law_347 rfl ?_
  refine JN.ic 5 dL_law_348 (by decide) ?_
  refine JN.iadd dL_law_349 ?_
  refine JN.sld hS h5 dL_law_350 ?_
  refine JN.lmi (C_m_copy _ _ _ _ _ _) e2 K_m_copy k5_152 rfl rfl rfl (Nat.le_of_ble_eq_true rfl) hkc hks dL_law_351 ?_
  refine JN.eqT 1182 dL_law_354 rfl ?_
  exact kk σ' τ' hR2
theorem law_c3 {X : JX} {nC nS : Nat} {Q : State → Prop} {kc ks : Nat} {adC adM : Nat → Nat} {b L : Nat} {sc : Nat → Int32} {x3 : Int32} {Rel : CS → MS → Prop} (hkc : kc ≤ nC) (hks : ks ≤ nS) (hS : SX X b L sc) (h1 : inB (x3 + 1) L = true) (h2 : inB (x3 + 2) L = true) (h3 : inB (x3 + 3) L = true) (h4 : inB (x3 + 4) L = true) (h5 : inB (x3 + 5) L = true) (hs : St3 Rel) {σ : CS} {τ : MS} (hR : Rel σ τ) (kk : ∀ σ' τ', Rel σ' τ' → JN X M_law nC nS Q kc ks 1182 [some (.ref b), some (.ref (adC 0)), some (.ref (adM 0)), some (.int x3)] [] (wsC adC (xZ X) σ' ++ wsM adM (xZ X) τ')) : JN X M_law nC nS Q kc ks 359 [some (.ref b), some (.ref (adC 0)), some (.ref (adM 0)), some (.int x3)] [] (wsC adC (xZ X) σ ++ wsM adM (xZ X) τ) := by
  obtain ⟨r, σ', τ', e1, e2, hR2⟩ := hs (sc (ix (x3 + 1))) (sc (ix (x3 + 2))) σ τ hR
  refine JN.aloadn dL_law_359 rfl ?_
  refine JN.aloadn dL_law_360 rfl ?_
  refine JN.iloadn dL_law_361 rfl ?_
  refine JN.ic 1 dL_law_362 (by decide) ?_
  refine JN.iadd dL_law_363 ?_
  refine JN.sld hS h1 dL_law_364 ?_
  refine JN.aloadn dL_law_365 rfl ?_
  refine JN.iloadn dL_law_366 rfl ?_
  refine JN.ic 2 dL_law_367 (by decide) ?_
  refine JN.iadd dL_law_368 ?_
  refine JN.sld hS h2 dL_law_369 ?_
  refine JN.lcl (C_cP_element _ _ _) e1 K_cP_element k2_141 rfl rfl rfl (Nat.le_of_ble_eq_true rfl) hkc hks dL_law_370 ?_
  refine JN.aloadn dL_law_373 rfl ?_
  refine JN.aloadn dL_law_374 rfl ?_
  refine JN.iloadn dL_law_375 rfl ?_
  refine JN.ic 1 dL_law_376 (by decide) ?_
  refine JN.iadd dL_law_377 ?_
  refine JN.sld hS h1 dL_law_378 ?_
  refine JN.aloadn dL_law_379 rfl ?_
  refine JN.iloadn dL_law_380 rfl ?_
  refine JN.ic 2 dL_law_381 (by decide) ?_
  refine JN.iadd dL_law_382 ?_
  refine JN.sld hS h2 dL_law_383 ?_
  refine JN.lml (C_m_element _ _ _) e2 K_m_element k5_160 rfl rfl rfl (Nat.le_of_ble_eq_true rfl) hkc hks dL_law_384 ?_
  refine JN.leqT 1182 dL_law_387 dL_law_388 rfl ?_
  exact kk σ' τ' hR2
theorem law_c4 {X : JX} {nC nS : Nat} {Q : State → Prop} {kc ks : Nat} {adC adM : Nat → Nat} {b L : Nat} {sc : Nat → Int32} {x3 : Int32} {Rel : CS → MS → Prop} (hkc : kc ≤ nC) (hks : ks ≤ nS) (hS : SX X b L sc) (h1 : inB (x3 + 1) L = true) (h2 : inB (x3 + 2) L = true) (h3 : inB (x3 + 3) L = true) (h4 : inB (x3 + 4) L = true) (h5 : inB (x3 + 5) L = true) (hs : St4 Rel) {σ : CS} {τ : MS} (hR : Rel σ τ) (kk : ∀ σ' τ', Rel σ' τ' → JN X M_law nC nS Q kc ks 1182 [some (.ref b), some (.ref (adC 0)), some (.ref (adM 0)), some (.int x3)] [] (wsC adC (xZ X) σ' ++ wsM adM (xZ X) τ')) : JN X M_law nC nS Q kc ks 393 [some (.ref b), some (.ref (adC 0)), some (.ref (adM 0)), some (.int x3)] [] (wsC adC (xZ X) σ ++ wsM adM (xZ X) τ) := by
  obtain ⟨r, σ', τ', e1, e2, hR2⟩ := hs (sc (ix (x3 + 1))) (sc (ix (x3 + 2))) σ τ hR
  refine JN.aloadn dL_law_393 rfl ?_
  refine JN.aloadn dL_law_394 rfl ?_
  refine JN.iloadn dL_law_395 rfl ?_
  refine JN.ic 1 dL_law_396 (by decide) ?_
  refine JN.iadd dL_law_397 ?_
  refine JN.sld hS h1 dL_law_398 ?_
  refine JN.aloadn dL_law_399 rfl ?_
  refine JN.iloadn dL_law_400 rfl ?_
  refine JN.ic 2 dL_law_401 (by decide) ?_
  refine JN.iadd dL_law_402 ?_
  refine JN.sld hS h2 dL_law_403 ?_
  refine JN.lci (C_cP_show _ _ _) e1 K_cP_show k2_145 rfl rfl rfl (Nat.le_of_ble_eq_true rfl) hkc hks dL_law_404 ?_
  refine JN.aloadn dL_law_407 rfl ?_
  refine JN.aloadn dL_law_408 rfl ?_
  refine JN.iloadn dL_law_409 rfl ?_
  refine JN.ic 1 dL_law_410 (by decide) ?_
  refine JN.iadd dL_law_411 ?_
  refine JN.sld hS h1 dL_law_412 ?_
  refine JN.aloadn dL_law_413 rfl ?_
  refine JN.iloadn dL_law_414 rfl ?_
  refine JN.ic 2 dL_law_415 (by decide) ?_
  refine JN.iadd dL_law_416 ?_
  refine JN.sld hS h2 dL_law_417 ?_
  refine JN.lmi (C_m_show _ _ _) e2 K_m_show k5_168 rfl rfl rfl (Nat.le_of_ble_eq_true rfl) hkc hks dL_law_418 ?_
  refine JN.eqT 1182 dL_law_421 rfl ?_
  exact kk σ' τ' hR2
theorem law_c5 {X : JX} {nC nS : Nat} {Q : State → Prop} {kc ks : Nat} {adC adM : Nat → Nat} {b L : Nat} {sc : Nat → Int32} {x3 : Int32} {Rel : CS → MS → Prop} (hkc : kc ≤ nC) (hks : ks ≤ nS) (hS : SX X b L sc) (h1 : inB (x3 + 1) L = true) (h2 : inB (x3 + 2) L = true) (h3 : inB (x3 + 3) L = true) (h4 : inB (x3 + 4) L = true) (h5 : inB (x3 + 5) L = true) (hs : St5 Rel) {σ : CS} {τ : MS} (hR : Rel σ τ) (kk : ∀ σ' τ', Rel σ' τ' → JN X M_law nC nS Q kc ks 1182 [some (.ref b), some (.ref (adC 0)), some (.ref (adM 0)), some (.int x3)] [] (wsC adC (xZ X) σ' ++ wsM adM (xZ X) τ')) : JN X M_law nC nS Q kc ks 426 [some (.ref b), some (.ref (adC 0)), some (.ref (adM 0)), some (.int x3)] [] (wsC adC (xZ X) σ ++ wsM adM (xZ X) τ) := by
  obtain ⟨r, σ', τ', e1, e2, hR2⟩ := hs (sc (ix (x3 + 1))) σ τ hR
  refine JN.aloadn dL_law_426 rfl ?_
  refine JN.aloadn dL_law_427 rfl ?_
  refine JN.iloadn dL_law_428 rfl ?_
  refine JN.ic 1 dL_law_429 (by decide) ?_
  refine JN.iadd dL_law_430 ?_
  refine JN.sld hS h1 dL_law_431 ?_
  refine JN.lci (C_cP_holds _ _) e1 K_cP_holds k3_99 rfl rfl rfl (Nat.le_of_ble_eq_true rfl) hkc hks dL_law_432 ?_
  refine JN.aloadn dL_law_435 rfl ?_
  refine JN.aloadn dL_law_436 rfl ?_
  refine JN.iloadn dL_law_437 rfl ?_
  refine JN.ic 1 dL_law_438 (by decide) ?_
  refine JN.iadd dL_law_439 ?_
  refine JN.sld hS h1 dL_law_440 ?_
  refine JN.lmi (C_m_holds _ _) e2 K_m_holds k6_48 rfl rfl rfl (Nat.le_of_ble_eq_true rfl) hkc hks dL_law_441 ?_
  refine JN.eqT 1182 dL_law_444 rfl ?_
  exact kk σ' τ' hR2
theorem law_c6 {X : JX} {nC nS : Nat} {Q : State → Prop} {kc ks : Nat} {adC adM : Nat → Nat} {b L : Nat} {sc : Nat → Int32} {x3 : Int32} {Rel : CS → MS → Prop} (hkc : kc ≤ nC) (hks : ks ≤ nS) (hS : SX X b L sc) (h1 : inB (x3 + 1) L = true) (h2 : inB (x3 + 2) L = true) (h3 : inB (x3 + 3) L = true) (h4 : inB (x3 + 4) L = true) (h5 : inB (x3 + 5) L = true) (hs : St6 Rel) {σ : CS} {τ : MS} (hR : Rel σ τ) (kk : ∀ σ' τ', Rel σ' τ' → JN X M_law nC nS Q kc ks 1182 [some (.ref b), some (.ref (adC 0)), some (.ref (adM 0)), some (.int x3)] [] (wsC adC (xZ X) σ' ++ wsM adM (xZ X) τ')) : JN X M_law nC nS Q kc ks 449 [some (.ref b), some (.ref (adC 0)), some (.ref (adM 0)), some (.int x3)] [] (wsC adC (xZ X) σ ++ wsM adM (xZ X) τ) := by
  obtain ⟨r, σ', τ', e1, e2, hR2⟩ := hs (sc (ix (x3 + 1))) (sc (ix (x3 + 2))) σ τ hR
  refine JN.aloadn dL_law_449 rfl ?_
  refine JN.aloadn dL_law_450 rfl ?_
  refine JN.iloadn dL_law_451 rfl ?_
  refine JN.ic 1 dL_law_452 (by decide) ?_
  refine JN.iadd dL_law_453 ?_
  refine JN.sld hS h1 dL_law_454 ?_
  refine JN.aloadn dL_law_455 rfl ?_
  refine JN.iloadn dL_law_456 rfl ?_
  refine JN.ic 2 dL_law_457 (by decide) ?_
  refine JN.iadd dL_law_458 ?_
  refine JN.sld hS h2 dL_law_459 ?_
  refine JN.lci (C_cP_says _ _ _) e1 K_cP_says k3_107 rfl rfl rfl (Nat.le_of_ble_eq_true rfl) hkc hks dL_law_460 ?_
  refine JN.aloadn dL_law_463 rfl ?_
  refine JN.aloadn dL_law_464 rfl ?_
  refine JN.iloadn dL_law_465 rfl ?_
  refine JN.ic 1 dL_law_466 (by decide) ?_
  refine JN.iadd dL_law_467 ?_
  refine JN.sld hS h1 dL_law_468 ?_
  refine JN.aloadn dL_law_469 rfl ?_
  refine JN.iloadn dL_law_470 rfl ?_
  refine JN.ic 2 dL_law_471 (by decide) ?_
  refine JN.iadd dL_law_472 ?_
  refine JN.sld hS h2 dL_law_473 ?_
  refine JN.lmi (C_m_says _ _ _) e2 K_m_says k6_52 rfl rfl rfl (Nat.le_of_ble_eq_true rfl) hkc hks dL_law_474 ?_
  refine JN.eqT 1182 dL_law_477 rfl ?_
  exact kk σ' τ' hR2
theorem law_c7 {X : JX} {nC nS : Nat} {Q : State → Prop} {kc ks : Nat} {adC adM : Nat → Nat} {b L : Nat} {sc : Nat → Int32} {x3 : Int32} {Rel : CS → MS → Prop} (hkc : kc ≤ nC) (hks : ks ≤ nS) (hS : SX X b L sc) (h1 : inB (x3 + 1) L = true) (h2 : inB (x3 + 2) L = true) (h3 : inB (x3 + 3) L = true) (h4 : inB (x3 + 4) L = true) (h5 : inB (x3 + 5) L = true) (hs : St7 Rel) {σ : CS} {τ : MS} (hR : Rel σ τ) (kk : ∀ σ' τ', Rel σ' τ' → JN X M_law nC nS Q kc ks 1182 [some (.ref b), some (.ref (adC 0)), some (.ref (adM 0)), some (.int x3)] [] (wsC adC (xZ X) σ' ++ wsM adM (xZ X) τ')) : JN X M_law nC nS Q kc ks 482 [some (.ref b), some (.ref (adC 0)), some (.ref (adM 0)), some (.int x3)] [] (wsC adC (xZ X) σ ++ wsM adM (xZ X) τ) := by
  obtain ⟨r, σ', τ', e1, e2, hR2⟩ := hs (sc (ix (x3 + 1))) σ τ hR
  refine JN.aloadn dL_law_482 rfl ?_
  refine JN.aloadn dL_law_483 rfl ?_
  refine JN.iloadn dL_law_484 rfl ?_
  refine JN.ic 1 dL_law_485 (by decide) ?_
  refine JN.iadd dL_law_486 ?_
  refine JN.sld hS h1 dL_law_487 ?_
  refine JN.lci (C_cP_read _ _) e1 K_cP_read k3_119 rfl rfl rfl (Nat.le_of_ble_eq_true rfl) hkc hks dL_law_488 ?_
  refine JN.aloadn dL_law_491 rfl ?_
  refine JN.aloadn dL_law_492 rfl ?_
  refine JN.iloadn dL_law_493 rfl ?_
  refine JN.ic 1 dL_law_494 (by decide) ?_
  refine JN.iadd dL_law_495 ?_
  refine JN.sld hS h1 dL_law_496 ?_
  refine JN.lmi (C_m_read _ _) e2 K_m_read k6_59 rfl rfl rfl (Nat.le_of_ble_eq_true rfl) hkc hks dL_law_497 ?_
  refine JN.eqT 1182 dL_law_500 rfl ?_
  exact kk σ' τ' hR2
theorem law_c8 {X : JX} {nC nS : Nat} {Q : State → Prop} {kc ks : Nat} {adC adM : Nat → Nat} {b L : Nat} {sc : Nat → Int32} {x3 : Int32} {Rel : CS → MS → Prop} (hkc : kc ≤ nC) (hks : ks ≤ nS) (hS : SX X b L sc) (h1 : inB (x3 + 1) L = true) (h2 : inB (x3 + 2) L = true) (h3 : inB (x3 + 3) L = true) (h4 : inB (x3 + 4) L = true) (h5 : inB (x3 + 5) L = true) (hs : St8 Rel) {σ : CS} {τ : MS} (hR : Rel σ τ) (kk : ∀ σ' τ', Rel σ' τ' → JN X M_law nC nS Q kc ks 1182 [some (.ref b), some (.ref (adC 0)), some (.ref (adM 0)), some (.int x3)] [] (wsC adC (xZ X) σ' ++ wsM adM (xZ X) τ')) : JN X M_law nC nS Q kc ks 505 [some (.ref b), some (.ref (adC 0)), some (.ref (adM 0)), some (.int x3)] [] (wsC adC (xZ X) σ ++ wsM adM (xZ X) τ) := by
  obtain ⟨r, σ', τ', e1, e2, hR2⟩ := hs σ τ hR
  refine JN.aloadn dL_law_505 rfl ?_
  refine JN.lci (C_cP_fault _) e1 K_cP_fault k4_21 rfl rfl rfl (Nat.le_of_ble_eq_true rfl) hkc hks dL_law_506 ?_
  refine JN.aloadn dL_law_509 rfl ?_
  refine JN.lmi (C_m_fault _) e2 K_m_fault k6_107 rfl rfl rfl (Nat.le_of_ble_eq_true rfl) hkc hks dL_law_510 ?_
  refine JN.eqT 1182 dL_law_513 rfl ?_
  exact kk σ' τ' hR2
theorem law_c9 {X : JX} {nC nS : Nat} {Q : State → Prop} {kc ks : Nat} {adC adM : Nat → Nat} {b L : Nat} {sc : Nat → Int32} {x3 : Int32} {Rel : CS → MS → Prop} (hkc : kc ≤ nC) (hks : ks ≤ nS) (hS : SX X b L sc) (h1 : inB (x3 + 1) L = true) (h2 : inB (x3 + 2) L = true) (h3 : inB (x3 + 3) L = true) (h4 : inB (x3 + 4) L = true) (h5 : inB (x3 + 5) L = true) (hs : St9 Rel) {σ : CS} {τ : MS} (hR : Rel σ τ) (kk : ∀ σ' τ', Rel σ' τ' → JN X M_law nC nS Q kc ks 1182 [some (.ref b), some (.ref (adC 0)), some (.ref (adM 0)), some (.int x3)] [] (wsC adC (xZ X) σ' ++ wsM adM (xZ X) τ')) : JN X M_law nC nS Q kc ks 518 [some (.ref b), some (.ref (adC 0)), some (.ref (adM 0)), some (.int x3)] [] (wsC adC (xZ X) σ ++ wsM adM (xZ X) τ) := by
  obtain ⟨r, σ', τ', e1, e2, hR2⟩ := hs (sc (ix (x3 + 1))) (sc (ix (x3 + 2))) σ τ hR
  refine JN.aloadn dL_law_518 rfl ?_
  refine JN.aloadn dL_law_519 rfl ?_
  refine JN.iloadn dL_law_520 rfl ?_
  refine JN.ic 1 dL_law_521 (by decide) ?_
  refine JN.iadd dL_law_522 ?_
  refine JN.sld hS h1 dL_law_523 ?_
  refine JN.aloadn dL_law_524 rfl ?_
  refine JN.iloadn dL_law_525 rfl ?_
  refine JN.ic 2 dL_law_526 (by decide) ?_
  refine JN.iadd dL_law_527 ?_
  refine JN.sld hS h2 dL_law_528 ?_
  refine JN.lci (C_cP_put _ _ _) e1 K_cP_put k4_25 rfl rfl rfl (Nat.le_of_ble_eq_true rfl) hkc hks dL_law_529 ?_
  refine JN.aloadn dL_law_532 rfl ?_
  refine JN.aloadn dL_law_533 rfl ?_
  refine JN.iloadn dL_law_534 rfl ?_
  refine JN.ic 1 dL_law_535 (by decide) ?_
  refine JN.iadd dL_law_536 ?_
  refine JN.sld hS h1 dL_law_537 ?_
  refine JN.aloadn dL_law_538 rfl ?_
  refine JN.iloadn dL_law_539 rfl ?_
  refine JN.ic 2 dL_law_540 (by decide) ?_
  refine JN.iadd dL_law_541 ?_
  refine JN.sld hS h2 dL_law_542 ?_
  refine JN.lmi (C_m_put _ _ _) e2 K_m_put k6_111 rfl rfl rfl (Nat.le_of_ble_eq_true rfl) hkc hks dL_law_543 ?_
  refine JN.eqT 1182 dL_law_546 rfl ?_
  exact kk σ' τ' hR2
theorem law_c10 {X : JX} {nC nS : Nat} {Q : State → Prop} {kc ks : Nat} {adC adM : Nat → Nat} {b L : Nat} {sc : Nat → Int32} {x3 : Int32} {Rel : CS → MS → Prop} (hkc : kc ≤ nC) (hks : ks ≤ nS) (hS : SX X b L sc) (h1 : inB (x3 + 1) L = true) (h2 : inB (x3 + 2) L = true) (h3 : inB (x3 + 3) L = true) (h4 : inB (x3 + 4) L = true) (h5 : inB (x3 + 5) L = true) (hs : St10 Rel) {σ : CS} {τ : MS} (hR : Rel σ τ) (kk : ∀ σ' τ', Rel σ' τ' → JN X M_law nC nS Q kc ks 1182 [some (.ref b), some (.ref (adC 0)), some (.ref (adM 0)), some (.int x3)] [] (wsC adC (xZ X) σ' ++ wsM adM (xZ X) τ')) : JN X M_law nC nS Q kc ks 551 [some (.ref b), some (.ref (adC 0)), some (.ref (adM 0)), some (.int x3)] [] (wsC adC (xZ X) σ ++ wsM adM (xZ X) τ) := by
  obtain ⟨r, σ', τ', e1, e2, hR2⟩ := hs (sc (ix (x3 + 1))) ((decide (sc (ix (x3 + 2)) ≠ 0))) σ τ hR
  refine JN.aloadn dL_law_551 rfl ?_
  refine JN.aloadn dL_law_552 rfl ?_
  refine JN.iloadn dL_law_553 rfl ?_
  refine JN.ic 1 dL_law_554 (by decide) ?_
  refine JN.iadd dL_law_555 ?_
  refine JN.sld hS h1 dL_law_556 ?_
  refine JN.aloadn dL_law_557 rfl ?_
  refine JN.iloadn dL_law_558 rfl ?_
  refine JN.ic 2 dL_law_559 (by decide) ?_
  refine JN.iadd dL_law_560 ?_
  refine JN.sld hS h2 dL_law_561 ?_
  refine JN.nz (decide (sc (ix (x3 + 2)) ≠ 0)) rfl dL_law_562 rfl dL_law_565 dL_law_566 rfl dL_law_569 rfl ?_
  refine JN.lci (C_cP_vote _ (decide (sc (ix (x3 + 2)) ≠ 0)) _) e1 K_cP_vote k4_46 rfl rfl rfl (Nat.le_of_ble_eq_true rfl) hkc hks dL_law_570 ?_
  refine JN.aloadn dL_law_573 rfl ?_
  refine JN.aloadn dL_law_574 rfl ?_
  refine JN.iloadn dL_law_575 rfl ?_
  refine JN.ic 1 dL_law_576 (by decide) ?_
  refine JN.iadd dL_law_577 ?_
  refine JN.sld hS h1 dL_law_578 ?_
  refine JN.aloadn dL_law_579 rfl ?_
  refine JN.iloadn dL_law_580 rfl ?_
  refine JN.ic 2 dL_law_581 (by decide) ?_
  refine JN.iadd dL_law_582 ?_
  refine JN.sld hS h2 dL_law_583 ?_
  refine JN.nz (decide (sc (ix (x3 + 2)) ≠ 0)) rfl dL_law_584 rfl dL_law_587 dL_law_588 rfl dL_law_591 rfl ?_
  refine JN.lmi (C_m_vote _ (decide (sc (ix (x3 + 2)) ≠ 0)) _) e2 K_m_vote k6_127 rfl rfl rfl (Nat.le_of_ble_eq_true rfl) hkc hks dL_law_592 ?_
  refine JN.eqT 1182 dL_law_595 rfl ?_
  exact kk σ' τ' hR2
theorem law_c11 {X : JX} {nC nS : Nat} {Q : State → Prop} {kc ks : Nat} {adC adM : Nat → Nat} {b L : Nat} {sc : Nat → Int32} {x3 : Int32} {Rel : CS → MS → Prop} (hkc : kc ≤ nC) (hks : ks ≤ nS) (hS : SX X b L sc) (h1 : inB (x3 + 1) L = true) (h2 : inB (x3 + 2) L = true) (h3 : inB (x3 + 3) L = true) (h4 : inB (x3 + 4) L = true) (h5 : inB (x3 + 5) L = true) (hs : St11 Rel) {σ : CS} {τ : MS} (hR : Rel σ τ) (kk : ∀ σ' τ', Rel σ' τ' → JN X M_law nC nS Q kc ks 1182 [some (.ref b), some (.ref (adC 0)), some (.ref (adM 0)), some (.int x3)] [] (wsC adC (xZ X) σ' ++ wsM adM (xZ X) τ')) : JN X M_law nC nS Q kc ks 600 [some (.ref b), some (.ref (adC 0)), some (.ref (adM 0)), some (.int x3)] [] (wsC adC (xZ X) σ ++ wsM adM (xZ X) τ) := by
  obtain ⟨r, σ', τ', e1, e2, hR2⟩ := hs (sc (ix (x3 + 1))) ((decide (sc (ix (x3 + 2)) ≠ 0))) σ τ hR
  refine JN.aloadn dL_law_600 rfl ?_
  refine JN.aloadn dL_law_601 rfl ?_
  refine JN.iloadn dL_law_602 rfl ?_
  refine JN.ic 1 dL_law_603 (by decide) ?_
  refine JN.iadd dL_law_604 ?_
  refine JN.sld hS h1 dL_law_605 ?_
  refine JN.aloadn dL_law_606 rfl ?_
  refine JN.iloadn dL_law_607 rfl ?_
  refine JN.ic 2 dL_law_608 (by decide) ?_
  refine JN.iadd dL_law_609 ?_
  refine JN.sld hS h2 dL_law_610 ?_
  refine JN.nz (decide (sc (ix (x3 + 2)) ≠ 0)) rfl dL_law_611 rfl dL_law_614 dL_law_615 rfl dL_law_618 rfl ?_
  refine JN.lci (C_cP_lose _ (decide (sc (ix (x3 + 2)) ≠ 0)) _) e1 K_cP_lose k4_52 rfl rfl rfl (Nat.le_of_ble_eq_true rfl) hkc hks dL_law_619 ?_
  refine JN.aloadn dL_law_622 rfl ?_
  refine JN.aloadn dL_law_623 rfl ?_
  refine JN.iloadn dL_law_624 rfl ?_
  refine JN.ic 1 dL_law_625 (by decide) ?_
  refine JN.iadd dL_law_626 ?_
  refine JN.sld hS h1 dL_law_627 ?_
  refine JN.aloadn dL_law_628 rfl ?_
  refine JN.iloadn dL_law_629 rfl ?_
  refine JN.ic 2 dL_law_630 (by decide) ?_
  refine JN.iadd dL_law_631 ?_
  refine JN.sld hS h2 dL_law_632 ?_
  refine JN.nz (decide (sc (ix (x3 + 2)) ≠ 0)) rfl dL_law_633 rfl dL_law_636 dL_law_637 rfl dL_law_640 rfl ?_
  refine JN.lmi (C_m_lose _ (decide (sc (ix (x3 + 2)) ≠ 0)) _) e2 K_m_lose k6_131 rfl rfl rfl (Nat.le_of_ble_eq_true rfl) hkc hks dL_law_641 ?_
  refine JN.eqT 1182 dL_law_644 rfl ?_
  exact kk σ' τ' hR2
theorem law_c12 {X : JX} {nC nS : Nat} {Q : State → Prop} {kc ks : Nat} {adC adM : Nat → Nat} {b L : Nat} {sc : Nat → Int32} {x3 : Int32} {Rel : CS → MS → Prop} (hkc : kc ≤ nC) (hks : ks ≤ nS) (hS : SX X b L sc) (h1 : inB (x3 + 1) L = true) (h2 : inB (x3 + 2) L = true) (h3 : inB (x3 + 3) L = true) (h4 : inB (x3 + 4) L = true) (h5 : inB (x3 + 5) L = true) (hs : St12 Rel) {σ : CS} {τ : MS} (hR : Rel σ τ) (kk : ∀ σ' τ', Rel σ' τ' → JN X M_law nC nS Q kc ks 1182 [some (.ref b), some (.ref (adC 0)), some (.ref (adM 0)), some (.int x3)] [] (wsC adC (xZ X) σ' ++ wsM adM (xZ X) τ')) : JN X M_law nC nS Q kc ks 649 [some (.ref b), some (.ref (adC 0)), some (.ref (adM 0)), some (.int x3)] [] (wsC adC (xZ X) σ ++ wsM adM (xZ X) τ) := by
  obtain ⟨r, σ', τ', e1, e2, hR2⟩ := hs (sc (ix (x3 + 1))) (sc (ix (x3 + 2))) (sc (ix (x3 + 3))) σ τ hR
  refine JN.aloadn dL_law_649 rfl ?_
  refine JN.aloadn dL_law_650 rfl ?_
  refine JN.iloadn dL_law_651 rfl ?_
  refine JN.ic 1 dL_law_652 (by decide) ?_
  refine JN.iadd dL_law_653 ?_
  refine JN.sld hS h1 dL_law_654 ?_
  refine JN.aloadn dL_law_655 rfl ?_
  refine JN.iloadn dL_law_656 rfl ?_
  refine JN.ic 2 dL_law_657 (by decide) ?_
  refine JN.iadd dL_law_658 ?_
  refine JN.sld hS h2 dL_law_659 ?_
  refine JN.aloadn dL_law_660 rfl ?_
  refine JN.iloadn dL_law_661 rfl ?_
  refine JN.ic 3 dL_law_662 (by decide) ?_
  refine JN.iadd dL_law_663 ?_
  refine JN.sld hS h3 dL_law_664 ?_
  refine JN.lci (C_cP_down _ _ _ _) e1 K_cP_down k4_58 rfl rfl rfl (Nat.le_of_ble_eq_true rfl) hkc hks dL_law_665 ?_
  refine JN.aloadn dL_law_668 rfl ?_
  refine JN.aloadn dL_law_669 rfl ?_
  refine JN.iloadn dL_law_670 rfl ?_
  refine JN.ic 1 dL_law_671 (by decide) ?_
  refine JN.iadd dL_law_672 ?_
  refine JN.sld hS h1 dL_law_673 ?_
  refine JN.aloadn dL_law_674 rfl ?_
  refine JN.iloadn dL_law_675 rfl ?_
  refine JN.ic 2 dL_law_676 (by decide) ?_
  refine JN.iadd dL_law_677 ?_
  refine JN.sld hS h2 dL_law_678 ?_
  refine JN.aloadn dL_law_679 rfl ?_
  refine JN.iloadn dL_law_680 rfl ?_
  refine JN.ic 3 dL_law_681 (by decide) ?_
  refine JN.iadd dL_law_682 ?_
  refine JN.sld hS h3 dL_law_683 ?_
  refine JN.lmi (C_m_down _ _ _ _) e2 K_m_down k6_135 rfl rfl rfl (Nat.le_of_ble_eq_true rfl) hkc hks dL_law_684 ?_
  refine JN.eqT 1182 dL_law_687 rfl ?_
  exact kk σ' τ' hR2
theorem law_c13 {X : JX} {nC nS : Nat} {Q : State → Prop} {kc ks : Nat} {adC adM : Nat → Nat} {b L : Nat} {sc : Nat → Int32} {x3 : Int32} {Rel : CS → MS → Prop} (hkc : kc ≤ nC) (hks : ks ≤ nS) (hS : SX X b L sc) (h1 : inB (x3 + 1) L = true) (h2 : inB (x3 + 2) L = true) (h3 : inB (x3 + 3) L = true) (h4 : inB (x3 + 4) L = true) (h5 : inB (x3 + 5) L = true) (hs : St13 Rel) {σ : CS} {τ : MS} (hR : Rel σ τ) (kk : ∀ σ' τ', Rel σ' τ' → JN X M_law nC nS Q kc ks 1182 [some (.ref b), some (.ref (adC 0)), some (.ref (adM 0)), some (.int x3)] [] (wsC adC (xZ X) σ' ++ wsM adM (xZ X) τ')) : JN X M_law nC nS Q kc ks 692 [some (.ref b), some (.ref (adC 0)), some (.ref (adM 0)), some (.int x3)] [] (wsC adC (xZ X) σ ++ wsM adM (xZ X) τ) := by
  obtain ⟨r, σ', τ', e1, e2, hR2⟩ := hs (sc (ix (x3 + 1))) σ τ hR
  refine JN.aloadn dL_law_692 rfl ?_
  refine JN.aloadn dL_law_693 rfl ?_
  refine JN.iloadn dL_law_694 rfl ?_
  refine JN.ic 1 dL_law_695 (by decide) ?_
  refine JN.iadd dL_law_696 ?_
  refine JN.sld hS h1 dL_law_697 ?_
  refine JN.lci (C_cP_told _ _) e1 K_cP_told k4_66 rfl rfl rfl (Nat.le_of_ble_eq_true rfl) hkc hks dL_law_698 ?_
  refine JN.aloadn dL_law_701 rfl ?_
  refine JN.aloadn dL_law_702 rfl ?_
  refine JN.iloadn dL_law_703 rfl ?_
  refine JN.ic 1 dL_law_704 (by decide) ?_
  refine JN.iadd dL_law_705 ?_
  refine JN.sld hS h1 dL_law_706 ?_
  refine JN.lmi (C_m_told _ _) e2 K_m_told k6_142 rfl rfl rfl (Nat.le_of_ble_eq_true rfl) hkc hks dL_law_707 ?_
  refine JN.eqT 1182 dL_law_710 rfl ?_
  exact kk σ' τ' hR2
theorem law_c14 {X : JX} {nC nS : Nat} {Q : State → Prop} {kc ks : Nat} {adC adM : Nat → Nat} {b L : Nat} {sc : Nat → Int32} {x3 : Int32} {Rel : CS → MS → Prop} (hkc : kc ≤ nC) (hks : ks ≤ nS) (hS : SX X b L sc) (h1 : inB (x3 + 1) L = true) (h2 : inB (x3 + 2) L = true) (h3 : inB (x3 + 3) L = true) (h4 : inB (x3 + 4) L = true) (h5 : inB (x3 + 5) L = true) (hs : St14 Rel) {σ : CS} {τ : MS} (hR : Rel σ τ) (kk : ∀ σ' τ', Rel σ' τ' → JN X M_law nC nS Q kc ks 1182 [some (.ref b), some (.ref (adC 0)), some (.ref (adM 0)), some (.int x3)] [] (wsC adC (xZ X) σ' ++ wsM adM (xZ X) τ')) : JN X M_law nC nS Q kc ks 715 [some (.ref b), some (.ref (adC 0)), some (.ref (adM 0)), some (.int x3)] [] (wsC adC (xZ X) σ ++ wsM adM (xZ X) τ) := by
  obtain ⟨r, σ', τ', e1, e2, hR2⟩ := hs (sc (ix (x3 + 1))) (sc (ix (x3 + 2))) σ τ hR
  refine JN.aloadn dL_law_715 rfl ?_
  refine JN.aloadn dL_law_716 rfl ?_
  refine JN.iloadn dL_law_717 rfl ?_
  refine JN.ic 1 dL_law_718 (by decide) ?_
  refine JN.iadd dL_law_719 ?_
  refine JN.sld hS h1 dL_law_720 ?_
  refine JN.aloadn dL_law_721 rfl ?_
  refine JN.iloadn dL_law_722 rfl ?_
  refine JN.ic 2 dL_law_723 (by decide) ?_
  refine JN.iadd dL_law_724 ?_
  refine JN.sld hS h2 dL_law_725 ?_
  refine JN.lci (C_cP_state _ _ _) e1 K_cP_state k4_102 rfl rfl rfl (Nat.le_of_ble_eq_true rfl) hkc hks dL_law_726 ?_
  refine JN.aloadn dL_law_729 rfl ?_
  refine JN.aloadn dL_law_730 rfl ?_
  refine JN.iloadn dL_law_731 rfl ?_
  refine JN.ic 1 dL_law_732 (by decide) ?_
  refine JN.iadd dL_law_733 ?_
  refine JN.sld hS h1 dL_law_734 ?_
  refine JN.aloadn dL_law_735 rfl ?_
  refine JN.iloadn dL_law_736 rfl ?_
  refine JN.ic 2 dL_law_737 (by decide) ?_
  refine JN.iadd dL_law_738 ?_
  refine JN.sld hS h2 dL_law_739 ?_
  refine JN.lmi (C_m_state _ _ _) e2 K_m_state k6_143 rfl rfl rfl (Nat.le_of_ble_eq_true rfl) hkc hks dL_law_740 ?_
  refine JN.eqT 1182 dL_law_743 rfl ?_
  exact kk σ' τ' hR2
theorem law_c15 {X : JX} {nC nS : Nat} {Q : State → Prop} {kc ks : Nat} {adC adM : Nat → Nat} {b L : Nat} {sc : Nat → Int32} {x3 : Int32} {Rel : CS → MS → Prop} (hkc : kc ≤ nC) (hks : ks ≤ nS) (hS : SX X b L sc) (h1 : inB (x3 + 1) L = true) (h2 : inB (x3 + 2) L = true) (h3 : inB (x3 + 3) L = true) (h4 : inB (x3 + 4) L = true) (h5 : inB (x3 + 5) L = true) (hs : St15 Rel) {σ : CS} {τ : MS} (hR : Rel σ τ) (kk : ∀ σ' τ', Rel σ' τ' → JN X M_law nC nS Q kc ks 1182 [some (.ref b), some (.ref (adC 0)), some (.ref (adM 0)), some (.int x3)] [] (wsC adC (xZ X) σ' ++ wsM adM (xZ X) τ')) : JN X M_law nC nS Q kc ks 748 [some (.ref b), some (.ref (adC 0)), some (.ref (adM 0)), some (.int x3)] [] (wsC adC (xZ X) σ ++ wsM adM (xZ X) τ) := by
  obtain ⟨r, σ', τ', e1, e2, hR2⟩ := hs (sc (ix (x3 + 1))) (sc (ix (x3 + 2))) σ τ hR
  refine JN.aloadn dL_law_748 rfl ?_
  refine JN.aloadn dL_law_749 rfl ?_
  refine JN.iloadn dL_law_750 rfl ?_
  refine JN.ic 1 dL_law_751 (by decide) ?_
  refine JN.iadd dL_law_752 ?_
  refine JN.sld hS h1 dL_law_753 ?_
  refine JN.aloadn dL_law_754 rfl ?_
  refine JN.iloadn dL_law_755 rfl ?_
  refine JN.ic 2 dL_law_756 (by decide) ?_
  refine JN.iadd dL_law_757 ?_
  refine JN.sld hS h2 dL_law_758 ?_
  refine JN.lci (C_cP_decided _ _ _) e1 K_cP_decided k4_125 rfl rfl rfl (Nat.le_of_ble_eq_true rfl) hkc hks dL_law_759 ?_
  refine JN.aloadn dL_law_762 rfl ?_
  refine JN.aloadn dL_law_763 rfl ?_
  refine JN.iloadn dL_law_764 rfl ?_
  refine JN.ic 1 dL_law_765 (by decide) ?_
  refine JN.iadd dL_law_766 ?_
  refine JN.sld hS h1 dL_law_767 ?_
  refine JN.aloadn dL_law_768 rfl ?_
  refine JN.iloadn dL_law_769 rfl ?_
  refine JN.ic 2 dL_law_770 (by decide) ?_
  refine JN.iadd dL_law_771 ?_
  refine JN.sld hS h2 dL_law_772 ?_
  refine JN.lmi (C_m_decided _ _ _) e2 K_m_decided k6_158 rfl rfl rfl (Nat.le_of_ble_eq_true rfl) hkc hks dL_law_773 ?_
  refine JN.eqT 1182 dL_law_776 rfl ?_
  exact kk σ' τ' hR2
theorem law_c16 {X : JX} {nC nS : Nat} {Q : State → Prop} {kc ks : Nat} {adC adM : Nat → Nat} {b L : Nat} {sc : Nat → Int32} {x3 : Int32} {Rel : CS → MS → Prop} (hkc : kc ≤ nC) (hks : ks ≤ nS) (hS : SX X b L sc) (h1 : inB (x3 + 1) L = true) (h2 : inB (x3 + 2) L = true) (h3 : inB (x3 + 3) L = true) (h4 : inB (x3 + 4) L = true) (h5 : inB (x3 + 5) L = true) (hs : St16 Rel) {σ : CS} {τ : MS} (hR : Rel σ τ) (kk : ∀ σ' τ', Rel σ' τ' → JN X M_law nC nS Q kc ks 1182 [some (.ref b), some (.ref (adC 0)), some (.ref (adM 0)), some (.int x3)] [] (wsC adC (xZ X) σ' ++ wsM adM (xZ X) τ')) : JN X M_law nC nS Q kc ks 781 [some (.ref b), some (.ref (adC 0)), some (.ref (adM 0)), some (.int x3)] [] (wsC adC (xZ X) σ ++ wsM adM (xZ X) τ) := by
  obtain ⟨r, σ', τ', e1, e2, hR2⟩ := hs (sc (ix (x3 + 1))) (sc (ix (x3 + 2))) σ τ hR
  refine JN.aloadn dL_law_781 rfl ?_
  refine JN.aloadn dL_law_782 rfl ?_
  refine JN.iloadn dL_law_783 rfl ?_
  refine JN.ic 1 dL_law_784 (by decide) ?_
  refine JN.iadd dL_law_785 ?_
  refine JN.sld hS h1 dL_law_786 ?_
  refine JN.aloadn dL_law_787 rfl ?_
  refine JN.iloadn dL_law_788 rfl ?_
  refine JN.ic 2 dL_law_789 (by decide) ?_
  refine JN.iadd dL_law_790 ?_
  refine JN.sld hS h2 dL_law_791 ?_
  refine JN.lci (C_cP_records _ _ _) e1 K_cP_records k4_139 rfl rfl rfl (Nat.le_of_ble_eq_true rfl) hkc hks dL_law_792 ?_
  refine JN.aloadn dL_law_795 rfl ?_
  refine JN.aloadn dL_law_796 rfl ?_
  refine JN.iloadn dL_law_797 rfl ?_
  refine JN.ic 1 dL_law_798 (by decide) ?_
  refine JN.iadd dL_law_799 ?_
  refine JN.sld hS h1 dL_law_800 ?_
  refine JN.aloadn dL_law_801 rfl ?_
  refine JN.iloadn dL_law_802 rfl ?_
  refine JN.ic 2 dL_law_803 (by decide) ?_
  refine JN.iadd dL_law_804 ?_
  refine JN.sld hS h2 dL_law_805 ?_
  refine JN.lmi (C_m_records _ _ _) e2 K_m_records k6_170 rfl rfl rfl (Nat.le_of_ble_eq_true rfl) hkc hks dL_law_806 ?_
  refine JN.eqT 1182 dL_law_809 rfl ?_
  exact kk σ' τ' hR2
theorem law_c17 {X : JX} {nC nS : Nat} {Q : State → Prop} {kc ks : Nat} {adC adM : Nat → Nat} {b L : Nat} {sc : Nat → Int32} {x3 : Int32} {Rel : CS → MS → Prop} (hkc : kc ≤ nC) (hks : ks ≤ nS) (hS : SX X b L sc) (h1 : inB (x3 + 1) L = true) (h2 : inB (x3 + 2) L = true) (h3 : inB (x3 + 3) L = true) (h4 : inB (x3 + 4) L = true) (h5 : inB (x3 + 5) L = true) (hs : St17 Rel) {σ : CS} {τ : MS} (hR : Rel σ τ) (kk : ∀ σ' τ', Rel σ' τ' → JN X M_law nC nS Q kc ks 1182 [some (.ref b), some (.ref (adC 0)), some (.ref (adM 0)), some (.int x3)] [] (wsC adC (xZ X) σ' ++ wsM adM (xZ X) τ')) : JN X M_law nC nS Q kc ks 814 [some (.ref b), some (.ref (adC 0)), some (.ref (adM 0)), some (.int x3)] [] (wsC adC (xZ X) σ ++ wsM adM (xZ X) τ) := by
  obtain ⟨r, σ', τ', e1, e2, hR2⟩ := hs (sc (ix (x3 + 1))) (sc (ix (x3 + 2))) σ τ hR
  refine JN.aloadn dL_law_814 rfl ?_
  refine JN.aloadn dL_law_815 rfl ?_
  refine JN.iloadn dL_law_816 rfl ?_
  refine JN.ic 1 dL_law_817 (by decide) ?_
  refine JN.iadd dL_law_818 ?_
  refine JN.sld hS h1 dL_law_819 ?_
  refine JN.aloadn dL_law_820 rfl ?_
  refine JN.iloadn dL_law_821 rfl ?_
  refine JN.ic 2 dL_law_822 (by decide) ?_
  refine JN.iadd dL_law_823 ?_
  refine JN.sld hS h2 dL_law_824 ?_
  refine JN.lci (C_cP_record _ _ _) e1 K_cP_record k4_144 rfl rfl rfl (Nat.le_of_ble_eq_true rfl) hkc hks dL_law_825 ?_
  refine JN.aloadn dL_law_828 rfl ?_
  refine JN.aloadn dL_law_829 rfl ?_
  refine JN.iloadn dL_law_830 rfl ?_
  refine JN.ic 1 dL_law_831 (by decide) ?_
  refine JN.iadd dL_law_832 ?_
  refine JN.sld hS h1 dL_law_833 ?_
  refine JN.aloadn dL_law_834 rfl ?_
  refine JN.iloadn dL_law_835 rfl ?_
  refine JN.ic 2 dL_law_836 (by decide) ?_
  refine JN.iadd dL_law_837 ?_
  refine JN.sld hS h2 dL_law_838 ?_
  refine JN.lmi (C_m_record _ _ _) e2 K_m_record k6_174 rfl rfl rfl (Nat.le_of_ble_eq_true rfl) hkc hks dL_law_839 ?_
  refine JN.eqT 1182 dL_law_842 rfl ?_
  exact kk σ' τ' hR2
theorem law_c18 {X : JX} {nC nS : Nat} {Q : State → Prop} {kc ks : Nat} {adC adM : Nat → Nat} {b L : Nat} {sc : Nat → Int32} {x3 : Int32} {Rel : CS → MS → Prop} (hkc : kc ≤ nC) (hks : ks ≤ nS) (hS : SX X b L sc) (h1 : inB (x3 + 1) L = true) (h2 : inB (x3 + 2) L = true) (h3 : inB (x3 + 3) L = true) (h4 : inB (x3 + 4) L = true) (h5 : inB (x3 + 5) L = true) (hs : St18 Rel) {σ : CS} {τ : MS} (hR : Rel σ τ) (kk : ∀ σ' τ', Rel σ' τ' → JN X M_law nC nS Q kc ks 1182 [some (.ref b), some (.ref (adC 0)), some (.ref (adM 0)), some (.int x3)] [] (wsC adC (xZ X) σ' ++ wsM adM (xZ X) τ')) : JN X M_law nC nS Q kc ks 847 [some (.ref b), some (.ref (adC 0)), some (.ref (adM 0)), some (.int x3)] [] (wsC adC (xZ X) σ ++ wsM adM (xZ X) τ) := by
  obtain ⟨r, σ', τ', e1, e2, hR2⟩ := hs (sc (ix (x3 + 1))) σ τ hR
  refine JN.aloadn dL_law_847 rfl ?_
  refine JN.aloadn dL_law_848 rfl ?_
  refine JN.iloadn dL_law_849 rfl ?_
  refine JN.ic 1 dL_law_850 (by decide) ?_
  refine JN.iadd dL_law_851 ?_
  refine JN.sld hS h1 dL_law_852 ?_
  refine JN.lci (C_cP_sent _ _) e1 K_cP_sent k4_148 rfl rfl rfl (Nat.le_of_ble_eq_true rfl) hkc hks dL_law_853 ?_
  refine JN.aloadn dL_law_856 rfl ?_
  refine JN.aloadn dL_law_857 rfl ?_
  refine JN.iloadn dL_law_858 rfl ?_
  refine JN.ic 1 dL_law_859 (by decide) ?_
  refine JN.iadd dL_law_860 ?_
  refine JN.sld hS h1 dL_law_861 ?_
  refine JN.lmi (C_m_sent _ _) e2 K_m_sent k6_178 rfl rfl rfl (Nat.le_of_ble_eq_true rfl) hkc hks dL_law_862 ?_
  refine JN.eqT 1182 dL_law_865 rfl ?_
  exact kk σ' τ' hR2
theorem law_c19 {X : JX} {nC nS : Nat} {Q : State → Prop} {kc ks : Nat} {adC adM : Nat → Nat} {b L : Nat} {sc : Nat → Int32} {x3 : Int32} {Rel : CS → MS → Prop} (hkc : kc ≤ nC) (hks : ks ≤ nS) (hS : SX X b L sc) (h1 : inB (x3 + 1) L = true) (h2 : inB (x3 + 2) L = true) (h3 : inB (x3 + 3) L = true) (h4 : inB (x3 + 4) L = true) (h5 : inB (x3 + 5) L = true) (hs : St19 Rel) {σ : CS} {τ : MS} (hR : Rel σ τ) (kk : ∀ σ' τ', Rel σ' τ' → JN X M_law nC nS Q kc ks 1182 [some (.ref b), some (.ref (adC 0)), some (.ref (adM 0)), some (.int x3)] [] (wsC adC (xZ X) σ' ++ wsM adM (xZ X) τ')) : JN X M_law nC nS Q kc ks 870 [some (.ref b), some (.ref (adC 0)), some (.ref (adM 0)), some (.int x3)] [] (wsC adC (xZ X) σ ++ wsM adM (xZ X) τ) := by
  obtain ⟨r, σ', τ', e1, e2, hR2⟩ := hs (sc (ix (x3 + 1))) (sc (ix (x3 + 2))) σ τ hR
  refine JN.aloadn dL_law_870 rfl ?_
  refine JN.aloadn dL_law_871 rfl ?_
  refine JN.iloadn dL_law_872 rfl ?_
  refine JN.ic 1 dL_law_873 (by decide) ?_
  refine JN.iadd dL_law_874 ?_
  refine JN.sld hS h1 dL_law_875 ?_
  refine JN.aloadn dL_law_876 rfl ?_
  refine JN.iloadn dL_law_877 rfl ?_
  refine JN.ic 2 dL_law_878 (by decide) ?_
  refine JN.iadd dL_law_879 ?_
  refine JN.sld hS h2 dL_law_880 ?_
  refine JN.lci (C_cP_message _ _ _) e1 K_cP_message k4_156 rfl rfl rfl (Nat.le_of_ble_eq_true rfl) hkc hks dL_law_881 ?_
  refine JN.aloadn dL_law_884 rfl ?_
  refine JN.aloadn dL_law_885 rfl ?_
  refine JN.iloadn dL_law_886 rfl ?_
  refine JN.ic 1 dL_law_887 (by decide) ?_
  refine JN.iadd dL_law_888 ?_
  refine JN.sld hS h1 dL_law_889 ?_
  refine JN.aloadn dL_law_890 rfl ?_
  refine JN.iloadn dL_law_891 rfl ?_
  refine JN.ic 2 dL_law_892 (by decide) ?_
  refine JN.iadd dL_law_893 ?_
  refine JN.sld hS h2 dL_law_894 ?_
  refine JN.lmi (C_m_message _ _ _) e2 K_m_message k6_182 rfl rfl rfl (Nat.le_of_ble_eq_true rfl) hkc hks dL_law_895 ?_
  refine JN.eqT 1182 dL_law_898 rfl ?_
  exact kk σ' τ' hR2
theorem law_c20 {X : JX} {nC nS : Nat} {Q : State → Prop} {kc ks : Nat} {adC adM : Nat → Nat} {b L : Nat} {sc : Nat → Int32} {x3 : Int32} {Rel : CS → MS → Prop} (hkc : kc ≤ nC) (hks : ks ≤ nS) (hS : SX X b L sc) (h1 : inB (x3 + 1) L = true) (h2 : inB (x3 + 2) L = true) (h3 : inB (x3 + 3) L = true) (h4 : inB (x3 + 4) L = true) (h5 : inB (x3 + 5) L = true) (hs : St20 Rel) {σ : CS} {τ : MS} (hR : Rel σ τ) (kk : ∀ σ' τ', Rel σ' τ' → JN X M_law nC nS Q kc ks 1182 [some (.ref b), some (.ref (adC 0)), some (.ref (adM 0)), some (.int x3)] [] (wsC adC (xZ X) σ' ++ wsM adM (xZ X) τ')) : JN X M_law nC nS Q kc ks 903 [some (.ref b), some (.ref (adC 0)), some (.ref (adM 0)), some (.int x3)] [] (wsC adC (xZ X) σ ++ wsM adM (xZ X) τ) := by
  obtain ⟨r, σ', τ', e1, e2, hR2⟩ := hs (sc (ix (x3 + 1))) σ τ hR
  refine JN.aloadn dL_law_903 rfl ?_
  refine JN.aloadn dL_law_904 rfl ?_
  refine JN.iloadn dL_law_905 rfl ?_
  refine JN.ic 1 dL_law_906 (by decide) ?_
  refine JN.iadd dL_law_907 ?_
  refine JN.sld hS h1 dL_law_908 ?_
  refine JN.lci (C_cP_alike _ _) e1 K_cP_alike k4_160 rfl rfl rfl (Nat.le_of_ble_eq_true rfl) hkc hks dL_law_909 ?_
  refine JN.aloadn dL_law_912 rfl ?_
  refine JN.aloadn dL_law_913 rfl ?_
  refine JN.iloadn dL_law_914 rfl ?_
  refine JN.ic 1 dL_law_915 (by decide) ?_
  refine JN.iadd dL_law_916 ?_
  refine JN.sld hS h1 dL_law_917 ?_
  refine JN.lmi (C_m_alike _ _) e2 K_m_alike k6_186 rfl rfl rfl (Nat.le_of_ble_eq_true rfl) hkc hks dL_law_918 ?_
  refine JN.eqT 1182 dL_law_921 rfl ?_
  exact kk σ' τ' hR2
theorem law_c21 {X : JX} {nC nS : Nat} {Q : State → Prop} {kc ks : Nat} {adC adM : Nat → Nat} {b L : Nat} {sc : Nat → Int32} {x3 : Int32} {Rel : CS → MS → Prop} (hkc : kc ≤ nC) (hks : ks ≤ nS) (hS : SX X b L sc) (h1 : inB (x3 + 1) L = true) (h2 : inB (x3 + 2) L = true) (h3 : inB (x3 + 3) L = true) (h4 : inB (x3 + 4) L = true) (h5 : inB (x3 + 5) L = true) (hs : St21 Rel) {σ : CS} {τ : MS} (hR : Rel σ τ) (kk : ∀ σ' τ', Rel σ' τ' → JN X M_law nC nS Q kc ks 1182 [some (.ref b), some (.ref (adC 0)), some (.ref (adM 0)), some (.int x3)] [] (wsC adC (xZ X) σ' ++ wsM adM (xZ X) τ')) : JN X M_law nC nS Q kc ks 926 [some (.ref b), some (.ref (adC 0)), some (.ref (adM 0)), some (.int x3)] [] (wsC adC (xZ X) σ ++ wsM adM (xZ X) τ) := by
  obtain ⟨r, σ', τ', e1, e2, hR2⟩ := hs σ τ hR
  refine JN.aloadn dL_law_926 rfl ?_
  refine JN.lci (C_cP_blocked _) e1 K_cP_blocked k4_169 rfl rfl rfl (Nat.le_of_ble_eq_true rfl) hkc hks dL_law_927 ?_
  refine JN.aloadn dL_law_930 rfl ?_
  refine JN.lmi (C_m_blocked _) e2 K_m_blocked k6_194 rfl rfl rfl (Nat.le_of_ble_eq_true rfl) hkc hks dL_law_931 ?_
  refine JN.eqT 1182 dL_law_934 rfl ?_
  exact kk σ' τ' hR2
theorem law_c22 {X : JX} {nC nS : Nat} {Q : State → Prop} {kc ks : Nat} {adC adM : Nat → Nat} {b L : Nat} {sc : Nat → Int32} {x3 : Int32} {Rel : CS → MS → Prop} (hkc : kc ≤ nC) (hks : ks ≤ nS) (hS : SX X b L sc) (h1 : inB (x3 + 1) L = true) (h2 : inB (x3 + 2) L = true) (h3 : inB (x3 + 3) L = true) (h4 : inB (x3 + 4) L = true) (h5 : inB (x3 + 5) L = true) (hs : St22 Rel) {σ : CS} {τ : MS} (hR : Rel σ τ) (kk : ∀ σ' τ', Rel σ' τ' → JN X M_law nC nS Q kc ks 1182 [some (.ref b), some (.ref (adC 0)), some (.ref (adM 0)), some (.int x3)] [] (wsC adC (xZ X) σ' ++ wsM adM (xZ X) τ')) : JN X M_law nC nS Q kc ks 939 [some (.ref b), some (.ref (adC 0)), some (.ref (adM 0)), some (.int x3)] [] (wsC adC (xZ X) σ ++ wsM adM (xZ X) τ) := by
  obtain ⟨r, σ', τ', e1, e2, hR2⟩ := hs σ τ hR
  refine JN.aloadn dL_law_939 rfl ?_
  refine JN.lci (C_cP_quiet _) e1 K_cP_quiet k4_177 rfl rfl rfl (Nat.le_of_ble_eq_true rfl) hkc hks dL_law_940 ?_
  refine JN.aloadn dL_law_943 rfl ?_
  refine JN.lmi (C_m_quiet _) e2 K_m_quiet k6_202 rfl rfl rfl (Nat.le_of_ble_eq_true rfl) hkc hks dL_law_944 ?_
  refine JN.eqT 1182 dL_law_947 rfl ?_
  exact kk σ' τ' hR2
theorem law_c23 {X : JX} {nC nS : Nat} {Q : State → Prop} {kc ks : Nat} {adC adM : Nat → Nat} {b L : Nat} {sc : Nat → Int32} {x3 : Int32} {Rel : CS → MS → Prop} (hkc : kc ≤ nC) (hks : ks ≤ nS) (hS : SX X b L sc) (h1 : inB (x3 + 1) L = true) (h2 : inB (x3 + 2) L = true) (h3 : inB (x3 + 3) L = true) (h4 : inB (x3 + 4) L = true) (h5 : inB (x3 + 5) L = true) (hs : St23 Rel) {σ : CS} {τ : MS} (hR : Rel σ τ) (kk : ∀ σ' τ', Rel σ' τ' → JN X M_law nC nS Q kc ks 1182 [some (.ref b), some (.ref (adC 0)), some (.ref (adM 0)), some (.int x3)] [] (wsC adC (xZ X) σ' ++ wsM adM (xZ X) τ')) : JN X M_law nC nS Q kc ks 952 [some (.ref b), some (.ref (adC 0)), some (.ref (adM 0)), some (.int x3)] [] (wsC adC (xZ X) σ ++ wsM adM (xZ X) τ) := by
  obtain ⟨r, σ', τ', e1, e2, hR2⟩ := hs (sc (ix (x3 + 1))) σ τ hR
  refine JN.aloadn dL_law_952 rfl ?_
  refine JN.aloadn dL_law_953 rfl ?_
  refine JN.iloadn dL_law_954 rfl ?_
  refine JN.ic 1 dL_law_955 (by decide) ?_
  refine JN.iadd dL_law_956 ?_
  refine JN.sld hS h1 dL_law_957 ?_
  refine JN.lci (C_cP_harm _ _) e1 K_cP_harm k4_189 rfl rfl rfl (Nat.le_of_ble_eq_true rfl) hkc hks dL_law_958 ?_
  refine JN.aloadn dL_law_961 rfl ?_
  refine JN.aloadn dL_law_962 rfl ?_
  refine JN.iloadn dL_law_963 rfl ?_
  refine JN.ic 1 dL_law_964 (by decide) ?_
  refine JN.iadd dL_law_965 ?_
  refine JN.sld hS h1 dL_law_966 ?_
  refine JN.lmi (C_m_harm _ _) e2 K_m_harm k6_210 rfl rfl rfl (Nat.le_of_ble_eq_true rfl) hkc hks dL_law_967 ?_
  refine JN.eqT 1182 dL_law_970 rfl ?_
  exact kk σ' τ' hR2
theorem law_c24 {X : JX} {nC nS : Nat} {Q : State → Prop} {kc ks : Nat} {adC adM : Nat → Nat} {b L : Nat} {sc : Nat → Int32} {x3 : Int32} {Rel : CS → MS → Prop} (hkc : kc ≤ nC) (hks : ks ≤ nS) (hS : SX X b L sc) (h1 : inB (x3 + 1) L = true) (h2 : inB (x3 + 2) L = true) (h3 : inB (x3 + 3) L = true) (h4 : inB (x3 + 4) L = true) (h5 : inB (x3 + 5) L = true) (hs : St24 Rel) {σ : CS} {τ : MS} (hR : Rel σ τ) (kk : ∀ σ' τ', Rel σ' τ' → JN X M_law nC nS Q kc ks 1182 [some (.ref b), some (.ref (adC 0)), some (.ref (adM 0)), some (.int x3)] [] (wsC adC (xZ X) σ' ++ wsM adM (xZ X) τ')) : JN X M_law nC nS Q kc ks 975 [some (.ref b), some (.ref (adC 0)), some (.ref (adM 0)), some (.int x3)] [] (wsC adC (xZ X) σ ++ wsM adM (xZ X) τ) := by
  obtain ⟨r, σ', τ', e1, e2, hR2⟩ := hs (sc (ix (x3 + 1))) σ τ hR
  refine JN.aloadn dL_law_975 rfl ?_
  refine JN.aloadn dL_law_976 rfl ?_
  refine JN.iloadn dL_law_977 rfl ?_
  refine JN.ic 1 dL_law_978 (by decide) ?_
  refine JN.iadd dL_law_979 ?_
  refine JN.sld hS h1 dL_law_980 ?_
  refine JN.lci (C_cP_block _ _) e1 K_cP_block k4_202 rfl rfl rfl (Nat.le_of_ble_eq_true rfl) hkc hks dL_law_981 ?_
  refine JN.aloadn dL_law_984 rfl ?_
  refine JN.aloadn dL_law_985 rfl ?_
  refine JN.iloadn dL_law_986 rfl ?_
  refine JN.ic 1 dL_law_987 (by decide) ?_
  refine JN.iadd dL_law_988 ?_
  refine JN.sld hS h1 dL_law_989 ?_
  refine JN.lmi (C_m_block _ _) e2 K_m_block k6_218 rfl rfl rfl (Nat.le_of_ble_eq_true rfl) hkc hks dL_law_990 ?_
  refine JN.eqT 1182 dL_law_993 rfl ?_
  exact kk σ' τ' hR2
theorem law_c25 {X : JX} {nC nS : Nat} {Q : State → Prop} {kc ks : Nat} {adC adM : Nat → Nat} {b L : Nat} {sc : Nat → Int32} {x3 : Int32} {Rel : CS → MS → Prop} (hkc : kc ≤ nC) (hks : ks ≤ nS) (hS : SX X b L sc) (h1 : inB (x3 + 1) L = true) (h2 : inB (x3 + 2) L = true) (h3 : inB (x3 + 3) L = true) (h4 : inB (x3 + 4) L = true) (h5 : inB (x3 + 5) L = true) (hs : St25 Rel) {σ : CS} {τ : MS} (hR : Rel σ τ) (kk : ∀ σ' τ', Rel σ' τ' → JN X M_law nC nS Q kc ks 1182 [some (.ref b), some (.ref (adC 0)), some (.ref (adM 0)), some (.int x3)] [] (wsC adC (xZ X) σ' ++ wsM adM (xZ X) τ')) : JN X M_law nC nS Q kc ks 998 [some (.ref b), some (.ref (adC 0)), some (.ref (adM 0)), some (.int x3)] [] (wsC adC (xZ X) σ ++ wsM adM (xZ X) τ) := by
  obtain ⟨r, σ', τ', e1, e2, hR2⟩ := hs (sc (ix (x3 + 1))) (sc (ix (x3 + 2))) σ τ hR
  refine JN.aloadn dL_law_998 rfl ?_
  refine JN.aloadn dL_law_999 rfl ?_
  refine JN.iloadn dL_law_1000 rfl ?_
  refine JN.ic 1 dL_law_1001 (by decide) ?_
  refine JN.iadd dL_law_1002 ?_
  refine JN.sld hS h1 dL_law_1003 ?_
  refine JN.aloadn dL_law_1004 rfl ?_
  refine JN.iloadn dL_law_1005 rfl ?_
  refine JN.ic 2 dL_law_1006 (by decide) ?_
  refine JN.iadd dL_law_1007 ?_
  refine JN.sld hS h2 dL_law_1008 ?_
  refine JN.lci (C_cP_recovery _ _ _) e1 K_cP_recovery k4_206 rfl rfl rfl (Nat.le_of_ble_eq_true rfl) hkc hks dL_law_1009 ?_
  refine JN.aloadn dL_law_1012 rfl ?_
  refine JN.aloadn dL_law_1013 rfl ?_
  refine JN.iloadn dL_law_1014 rfl ?_
  refine JN.ic 1 dL_law_1015 (by decide) ?_
  refine JN.iadd dL_law_1016 ?_
  refine JN.sld hS h1 dL_law_1017 ?_
  refine JN.aloadn dL_law_1018 rfl ?_
  refine JN.iloadn dL_law_1019 rfl ?_
  refine JN.ic 2 dL_law_1020 (by decide) ?_
  refine JN.iadd dL_law_1021 ?_
  refine JN.sld hS h2 dL_law_1022 ?_
  refine JN.lmi (C_m_recovery _ _ _) e2 K_m_recovery k6_222 rfl rfl rfl (Nat.le_of_ble_eq_true rfl) hkc hks dL_law_1023 ?_
  refine JN.eqT 1182 dL_law_1026 rfl ?_
  exact kk σ' τ' hR2
theorem law_c26 {X : JX} {nC nS : Nat} {Q : State → Prop} {kc ks : Nat} {adC adM : Nat → Nat} {b L : Nat} {sc : Nat → Int32} {x3 : Int32} {Rel : CS → MS → Prop} (hkc : kc ≤ nC) (hks : ks ≤ nS) (hS : SX X b L sc) (h1 : inB (x3 + 1) L = true) (h2 : inB (x3 + 2) L = true) (h3 : inB (x3 + 3) L = true) (h4 : inB (x3 + 4) L = true) (h5 : inB (x3 + 5) L = true) (hs : St26 Rel) {σ : CS} {τ : MS} (hR : Rel σ τ) (kk : ∀ σ' τ', Rel σ' τ' → JN X M_law nC nS Q kc ks 1182 [some (.ref b), some (.ref (adC 0)), some (.ref (adM 0)), some (.int x3)] [] (wsC adC (xZ X) σ' ++ wsM adM (xZ X) τ')) : JN X M_law nC nS Q kc ks 1031 [some (.ref b), some (.ref (adC 0)), some (.ref (adM 0)), some (.int x3)] [] (wsC adC (xZ X) σ ++ wsM adM (xZ X) τ) := by
  obtain ⟨r, σ', τ', e1, e2, hR2⟩ := hs σ τ hR
  refine JN.aloadn dL_law_1031 rfl ?_
  refine JN.lci (C_cP_spared _) e1 K_cP_spared k4_214 rfl rfl rfl (Nat.le_of_ble_eq_true rfl) hkc hks dL_law_1032 ?_
  refine JN.aloadn dL_law_1035 rfl ?_
  refine JN.lmi (C_m_spared _) e2 K_m_spared k6_230 rfl rfl rfl (Nat.le_of_ble_eq_true rfl) hkc hks dL_law_1036 ?_
  refine JN.eqT 1182 dL_law_1039 rfl ?_
  exact kk σ' τ' hR2
theorem law_c27 {X : JX} {nC nS : Nat} {Q : State → Prop} {kc ks : Nat} {adC adM : Nat → Nat} {b L : Nat} {sc : Nat → Int32} {x3 : Int32} {Rel : CS → MS → Prop} (hkc : kc ≤ nC) (hks : ks ≤ nS) (hS : SX X b L sc) (h1 : inB (x3 + 1) L = true) (h2 : inB (x3 + 2) L = true) (h3 : inB (x3 + 3) L = true) (h4 : inB (x3 + 4) L = true) (h5 : inB (x3 + 5) L = true) (hs : St27 Rel) {σ : CS} {τ : MS} (hR : Rel σ τ) (kk : ∀ σ' τ', Rel σ' τ' → JN X M_law nC nS Q kc ks 1182 [some (.ref b), some (.ref (adC 0)), some (.ref (adM 0)), some (.int x3)] [] (wsC adC (xZ X) σ' ++ wsM adM (xZ X) τ')) : JN X M_law nC nS Q kc ks 1044 [some (.ref b), some (.ref (adC 0)), some (.ref (adM 0)), some (.int x3)] [] (wsC adC (xZ X) σ ++ wsM adM (xZ X) τ) := by
  obtain ⟨r, σ', τ', e1, e2, hR2⟩ := hs (sc (ix (x3 + 1))) (sc (ix (x3 + 2))) (sc (ix (x3 + 3))) σ τ hR
  refine JN.aloadn dL_law_1044 rfl ?_
  refine JN.aloadn dL_law_1045 rfl ?_
  refine JN.iloadn dL_law_1046 rfl ?_
  refine JN.ic 1 dL_law_1047 (by decide) ?_
  refine JN.iadd dL_law_1048 ?_
  refine JN.sld hS h1 dL_law_1049 ?_
  refine JN.aloadn dL_law_1050 rfl ?_
  refine JN.iloadn dL_law_1051 rfl ?_
  refine JN.ic 2 dL_law_1052 (by decide) ?_
  refine JN.iadd dL_law_1053 ?_
  refine JN.sld hS h2 dL_law_1054 ?_
  refine JN.aloadn dL_law_1055 rfl ?_
  refine JN.iloadn dL_law_1056 rfl ?_
  refine JN.ic 3 dL_law_1057 (by decide) ?_
  refine JN.iadd dL_law_1058 ?_
  refine JN.sld hS h3 dL_law_1059 ?_
  refine JN.lci (C_cP_judge _ _ _ _) e1 K_cP_judge k4_218 rfl rfl rfl (Nat.le_of_ble_eq_true rfl) hkc hks dL_law_1060 ?_
  refine JN.aloadn dL_law_1063 rfl ?_
  refine JN.aloadn dL_law_1064 rfl ?_
  refine JN.iloadn dL_law_1065 rfl ?_
  refine JN.ic 1 dL_law_1066 (by decide) ?_
  refine JN.iadd dL_law_1067 ?_
  refine JN.sld hS h1 dL_law_1068 ?_
  refine JN.aloadn dL_law_1069 rfl ?_
  refine JN.iloadn dL_law_1070 rfl ?_
  refine JN.ic 2 dL_law_1071 (by decide) ?_
  refine JN.iadd dL_law_1072 ?_
  refine JN.sld hS h2 dL_law_1073 ?_
  refine JN.aloadn dL_law_1074 rfl ?_
  refine JN.iloadn dL_law_1075 rfl ?_
  refine JN.ic 3 dL_law_1076 (by decide) ?_
  refine JN.iadd dL_law_1077 ?_
  refine JN.sld hS h3 dL_law_1078 ?_
  refine JN.lmi (C_m_judge _ _ _ _) e2 K_m_judge k6_234 rfl rfl rfl (Nat.le_of_ble_eq_true rfl) hkc hks dL_law_1079 ?_
  refine JN.eqT 1182 dL_law_1082 rfl ?_
  exact kk σ' τ' hR2
theorem law_c28 {X : JX} {nC nS : Nat} {Q : State → Prop} {kc ks : Nat} {adC adM : Nat → Nat} {b L : Nat} {sc : Nat → Int32} {x3 : Int32} {Rel : CS → MS → Prop} (hkc : kc ≤ nC) (hks : ks ≤ nS) (hS : SX X b L sc) (h1 : inB (x3 + 1) L = true) (h2 : inB (x3 + 2) L = true) (h3 : inB (x3 + 3) L = true) (h4 : inB (x3 + 4) L = true) (h5 : inB (x3 + 5) L = true) (hs : St28 Rel) {σ : CS} {τ : MS} (hR : Rel σ τ) (kk : ∀ σ' τ', Rel σ' τ' → JN X M_law nC nS Q kc ks 1182 [some (.ref b), some (.ref (adC 0)), some (.ref (adM 0)), some (.int x3)] [] (wsC adC (xZ X) σ' ++ wsM adM (xZ X) τ')) : JN X M_law nC nS Q kc ks 1087 [some (.ref b), some (.ref (adC 0)), some (.ref (adM 0)), some (.int x3)] [] (wsC adC (xZ X) σ ++ wsM adM (xZ X) τ) := by
  obtain ⟨r, σ', τ', e1, e2, hR2⟩ := hs (sc (ix (x3 + 1))) σ τ hR
  refine JN.aloadn dL_law_1087 rfl ?_
  refine JN.aloadn dL_law_1088 rfl ?_
  refine JN.iloadn dL_law_1089 rfl ?_
  refine JN.ic 1 dL_law_1090 (by decide) ?_
  refine JN.iadd dL_law_1091 ?_
  refine JN.sld hS h1 dL_law_1092 ?_
  refine JN.lci (C_cP_drawn _ _) e1 K_cP_drawn k4_81 rfl rfl rfl (Nat.le_of_ble_eq_true rfl) hkc hks dL_law_1093 ?_
  refine JN.aloadn dL_law_1096 rfl ?_
  refine JN.aloadn dL_law_1097 rfl ?_
  refine JN.iloadn dL_law_1098 rfl ?_
  refine JN.ic 1 dL_law_1099 (by decide) ?_
  refine JN.iadd dL_law_1100 ?_
  refine JN.sld hS h1 dL_law_1101 ?_
  refine JN.lmi (C_m_drawn _ _) e2 K_m_drawn k7_2 rfl rfl rfl (Nat.le_of_ble_eq_true rfl) hkc hks dL_law_1102 ?_
  refine JN.eqT 1182 dL_law_1105 rfl ?_
  exact kk σ' τ' hR2
theorem law_c29 {X : JX} {nC nS : Nat} {Q : State → Prop} {kc ks : Nat} {adC adM : Nat → Nat} {b L : Nat} {sc : Nat → Int32} {x3 : Int32} {Rel : CS → MS → Prop} (hkc : kc ≤ nC) (hks : ks ≤ nS) (hS : SX X b L sc) (h1 : inB (x3 + 1) L = true) (h2 : inB (x3 + 2) L = true) (h3 : inB (x3 + 3) L = true) (h4 : inB (x3 + 4) L = true) (h5 : inB (x3 + 5) L = true) (hs : St29 Rel) {σ : CS} {τ : MS} (hR : Rel σ τ) (kk : ∀ σ' τ', Rel σ' τ' → JN X M_law nC nS Q kc ks 1182 [some (.ref b), some (.ref (adC 0)), some (.ref (adM 0)), some (.int x3)] [] (wsC adC (xZ X) σ' ++ wsM adM (xZ X) τ')) : JN X M_law nC nS Q kc ks 1110 [some (.ref b), some (.ref (adC 0)), some (.ref (adM 0)), some (.int x3)] [] (wsC adC (xZ X) σ ++ wsM adM (xZ X) τ) := by
  obtain ⟨r, σ', τ', e1, e2, hR2⟩ := hs (sc (ix (x3 + 1))) σ τ hR
  refine JN.aloadn dL_law_1110 rfl ?_
  refine JN.aloadn dL_law_1111 rfl ?_
  refine JN.iloadn dL_law_1112 rfl ?_
  refine JN.ic 1 dL_law_1113 (by decide) ?_
  refine JN.iadd dL_law_1114 ?_
  refine JN.sld hS h1 dL_law_1115 ?_
  refine JN.lci (C_cP_seed _ _) e1 K_cP_seed k4_90 rfl rfl rfl (Nat.le_of_ble_eq_true rfl) hkc hks dL_law_1116 ?_
  refine JN.aloadn dL_law_1119 rfl ?_
  refine JN.aloadn dL_law_1120 rfl ?_
  refine JN.iloadn dL_law_1121 rfl ?_
  refine JN.ic 1 dL_law_1122 (by decide) ?_
  refine JN.iadd dL_law_1123 ?_
  refine JN.sld hS h1 dL_law_1124 ?_
  refine JN.lmi (C_m_seed _ _) e2 K_m_seed k7_11 rfl rfl rfl (Nat.le_of_ble_eq_true rfl) hkc hks dL_law_1125 ?_
  refine JN.eqT 1182 dL_law_1128 rfl ?_
  exact kk σ' τ' hR2
theorem law_c30 {X : JX} {nC nS : Nat} {Q : State → Prop} {kc ks : Nat} {adC adM : Nat → Nat} {b L : Nat} {sc : Nat → Int32} {x3 : Int32} {Rel : CS → MS → Prop} (hkc : kc ≤ nC) (hks : ks ≤ nS) (hS : SX X b L sc) (h1 : inB (x3 + 1) L = true) (h2 : inB (x3 + 2) L = true) (h3 : inB (x3 + 3) L = true) (h4 : inB (x3 + 4) L = true) (h5 : inB (x3 + 5) L = true) (hs : St30 Rel) {σ : CS} {τ : MS} (hR : Rel σ τ) (kk : ∀ σ' τ', Rel σ' τ' → JN X M_law nC nS Q kc ks 1182 [some (.ref b), some (.ref (adC 0)), some (.ref (adM 0)), some (.int x3)] [] (wsC adC (xZ X) σ' ++ wsM adM (xZ X) τ')) : JN X M_law nC nS Q kc ks 1133 [some (.ref b), some (.ref (adC 0)), some (.ref (adM 0)), some (.int x3)] [] (wsC adC (xZ X) σ ++ wsM adM (xZ X) τ) := by
  obtain ⟨r, σ', τ', e1, e2, hR2⟩ := hs σ τ hR
  refine JN.aloadn dL_law_1133 rfl ?_
  refine JN.lci (C_cP_image _) e1 K_cP_image k4_94 rfl rfl rfl (Nat.le_of_ble_eq_true rfl) hkc hks dL_law_1134 ?_
  refine JN.aloadn dL_law_1137 rfl ?_
  refine JN.lmi (C_m_image _) e2 K_m_image k7_15 rfl rfl rfl (Nat.le_of_ble_eq_true rfl) hkc hks dL_law_1138 ?_
  refine JN.eqT 1182 dL_law_1141 rfl ?_
  exact kk σ' τ' hR2
theorem law_c31 {X : JX} {nC nS : Nat} {Q : State → Prop} {kc ks : Nat} {adC adM : Nat → Nat} {b L : Nat} {sc : Nat → Int32} {x3 : Int32} {Rel : CS → MS → Prop} (hkc : kc ≤ nC) (hks : ks ≤ nS) (hS : SX X b L sc) (h1 : inB (x3 + 1) L = true) (h2 : inB (x3 + 2) L = true) (h3 : inB (x3 + 3) L = true) (h4 : inB (x3 + 4) L = true) (h5 : inB (x3 + 5) L = true) (hs : St31 Rel) {σ : CS} {τ : MS} (hR : Rel σ τ) (kk : ∀ σ' τ', Rel σ' τ' → JN X M_law nC nS Q kc ks 1182 [some (.ref b), some (.ref (adC 0)), some (.ref (adM 0)), some (.int x3)] [] (wsC adC (xZ X) σ' ++ wsM adM (xZ X) τ')) : JN X M_law nC nS Q kc ks 1146 [some (.ref b), some (.ref (adC 0)), some (.ref (adM 0)), some (.int x3)] [] (wsC adC (xZ X) σ ++ wsM adM (xZ X) τ) := by
  obtain ⟨r, σ', τ', e1, e2, hR2⟩ := hs σ τ hR
  refine JN.aloadn dL_law_1146 rfl ?_
  refine JN.lci (C_cP_restore _) e1 K_cP_restore k4_98 rfl rfl rfl (Nat.le_of_ble_eq_true rfl) hkc hks dL_law_1147 ?_
  refine JN.aloadn dL_law_1150 rfl ?_
  refine JN.lmi (C_m_restore _) e2 K_m_restore k7_31 rfl rfl rfl (Nat.le_of_ble_eq_true rfl) hkc hks dL_law_1151 ?_
  refine JN.eqT 1182 dL_law_1154 rfl ?_
  exact kk σ' τ' hR2
theorem law_c32 {X : JX} {nC nS : Nat} {Q : State → Prop} {kc ks : Nat} {adC adM : Nat → Nat} {b L : Nat} {sc : Nat → Int32} {x3 : Int32} {Rel : CS → MS → Prop} (hkc : kc ≤ nC) (hks : ks ≤ nS) (hS : SX X b L sc) (h1 : inB (x3 + 1) L = true) (h2 : inB (x3 + 2) L = true) (h3 : inB (x3 + 3) L = true) (h4 : inB (x3 + 4) L = true) (h5 : inB (x3 + 5) L = true) (hs : St32 Rel) {σ : CS} {τ : MS} (hR : Rel σ τ) (kk : ∀ σ' τ', Rel σ' τ' → JN X M_law nC nS Q kc ks 1182 [some (.ref b), some (.ref (adC 0)), some (.ref (adM 0)), some (.int x3)] [] (wsC adC (xZ X) σ' ++ wsM adM (xZ X) τ')) : JN X M_law nC nS Q kc ks 1159 [some (.ref b), some (.ref (adC 0)), some (.ref (adM 0)), some (.int x3)] [] (wsC adC (xZ X) σ ++ wsM adM (xZ X) τ) := by
  obtain ⟨r, σ', τ', e1, e2, hR2⟩ := hs (sc (ix (x3 + 1))) σ τ hR
  refine JN.aloadn dL_law_1159 rfl ?_
  refine JN.aloadn dL_law_1160 rfl ?_
  refine JN.iloadn dL_law_1161 rfl ?_
  refine JN.ic 1 dL_law_1162 (by decide) ?_
  refine JN.iadd dL_law_1163 ?_
  refine JN.sld hS h1 dL_law_1164 ?_
  refine JN.lci (C_cP_status _ _) e1 K_cP_status k4_227 rfl rfl rfl (Nat.le_of_ble_eq_true rfl) hkc hks dL_law_1165 ?_
  refine JN.aloadn dL_law_1168 rfl ?_
  refine JN.aloadn dL_law_1169 rfl ?_
  refine JN.iloadn dL_law_1170 rfl ?_
  refine JN.ic 1 dL_law_1171 (by decide) ?_
  refine JN.iadd dL_law_1172 ?_
  refine JN.sld hS h1 dL_law_1173 ?_
  refine JN.lmi (C_m_status _ _) e2 K_m_status k7_35 rfl rfl rfl (Nat.le_of_ble_eq_true rfl) hkc hks dL_law_1174 ?_
  refine JN.eqT 1182 dL_law_1177 rfl ?_
  exact kk σ' τ' hR2
theorem nI_sub6 {L i : Nat} (hL : L ≤ 3072) (hi : i ≤ 4000) : (Int32.ofNat L - 6 < nI i) ↔ L < i + 6 := by
  have e : (Int32.ofNat L - 6).toInt = (L : Int) - 6 := pk_sub_toInt (a := L) (b := 6) (by omega) (by decide)
  rw [Int32.lt_iff_toInt_lt, e, nI_toInt (by omega)]
  omega
theorem inB_nI {j L : Nat} (h : j < L) (hL : L ≤ 3072) : inB (nI j) L = true := by
  simp only [inB, Bool.and_eq_true, decide_eq_true_eq]
  exact ⟨nI_pos' (by omega), by rw [nI_clamp (by omega)]; exact h⟩
/-- THE LOOP -/
theorem law_loop {X : JX} {nC nS : Nat} {Q : State → Prop} {kc ks : Nat} {adC adM : Nat → Nat} {b L : Nat} {sc : Nat → Int32} {Rel : CS → MS → Prop} (hkc : kc ≤ nC) (hks : ks ≤ nS) (hS : SX X b L sc) (hL : L ≤ 3072) (H : Steps Rel) (hend : ∀ (x3 : Int32) (σ : CS) (τ : MS), JN X M_law nC nS Q kc ks 1188 [some (.ref b), some (.ref (adC 0)), some (.ref (adM 0)), some (.int x3)] [] (wsC adC (xZ X) σ ++ wsM adM (xZ X) τ)) :
    ∀ (n i : Nat) (σ : CS) (τ : MS), Rel σ τ → i ≤ 3078 → L < i + 6 * n → JN X M_law nC nS Q kc ks 18 [some (.ref b), some (.ref (adC 0)), some (.ref (adM 0)), some (.int (nI i))] [] (wsC adC (xZ X) σ ++ wsM adM (xZ X) τ) := by
  intro n
  induction n with
  | zero =>
    intro i σ τ hR hi hn
    refine JN.iloadn dL_law_18 rfl ?_
    refine JN.aloadn dL_law_19 rfl ?_
    refine JN.slen hS dL_law_20 ?_
    refine JN.bip 6 dL_law_21 (by decide) ?_
    refine JN.isub dL_law_23 ?_
    refine JN.gt 1188 dL_law_24 rfl (fun _ => hend _ σ τ) (fun c => ?_)
    exact absurd ((nI_sub6 hL (by omega)).mpr (by omega)) c
  | succ n ih =>
    intro i σ τ hR hi hn
    refine JN.iloadn dL_law_18 rfl ?_
    refine JN.aloadn dL_law_19 rfl ?_
    refine JN.slen hS dL_law_20 ?_
    refine JN.bip 6 dL_law_21 (by decide) ?_
    refine JN.isub dL_law_23 ?_
    refine JN.gt 1188 dL_law_24 rfl (fun _ => hend _ σ τ) (fun c => ?_)
    have hlt : i + 6 ≤ L := by
      rcases Nat.lt_or_ge L (i + 6) with h | h
      · exact absurd ((nI_sub6 hL (by omega)).mpr h) c
      · exact h
    have h1 : inB (nI i + 1) L = true := by rw [show (nI i + 1) = nI (i + 1) from nI_add i 1]; exact inB_nI (by omega) hL
    have h2 : inB (nI i + 2) L = true := by rw [show (nI i + 2) = nI (i + 2) from nI_add i 2]; exact inB_nI (by omega) hL
    have h3 : inB (nI i + 3) L = true := by rw [show (nI i + 3) = nI (i + 3) from nI_add i 3]; exact inB_nI (by omega) hL
    have h4 : inB (nI i + 4) L = true := by rw [show (nI i + 4) = nI (i + 4) from nI_add i 4]; exact inB_nI (by omega) hL
    have h5 : inB (nI i + 5) L = true := by rw [show (nI i + 5) = nI (i + 5) from nI_add i 5]; exact inB_nI (by omega) hL
    have hk : ∀ σ' τ', Rel σ' τ' → JN X M_law nC nS Q kc ks 1182 [some (.ref b), some (.ref (adC 0)), some (.ref (adM 0)), some (.int (nI i))] [] (wsC adC (xZ X) σ' ++ wsM adM (xZ X) τ') := by
      intro σ' τ' hR2
      refine JN.iinc (v := nI (i + 6)) (lv' := [some (.ref b), some (.ref (adC 0)), some (.ref (adM 0)), some (.int (nI (i + 6)))]) dL_law_1182 rfl (nI_add i 6) rfl rfl rfl ?_
      refine JN.goto 18 dL_law_1185 rfl ?_
      exact ih (i + 6) σ' τ' hR2 (by omega) (by omega)
    refine JN.aloadn dL_law_27 rfl ?_
    refine JN.iloadn dL_law_28 rfl ?_
    refine JN.sld hS (inB_nI (by omega) hL) dL_law_29 ?_
    refine JN.bip 63 dL_law_30 (by decide) ?_
    refine JN.iand dL_law_32 ?_
    obtain ⟨s0, s1, s2, s3, s4, s5, s6, s7, s8, s9, s10, s11, s12, s13, s14, s15, s16, s17, s18, s19, s20, s21, s22, s23, s24, s25, s26, s27, s28, s29, s30, s31, s32⟩ := H
    refine JN.tswAll [180, 223, 296, 359, 393, 426, 449, 482, 505, 518, 551, 600, 649, 692, 715, 748, 781, 814, 847, 870, 903, 926, 939, 952, 975, 998, 1031, 1044, 1087, 1110, 1133, 1146, 1159] 1182 dL_law_33 rfl (by decide) ?_ (hk σ τ hR)
    intro t ht
    simp only [List.mem_cons, List.not_mem_nil, or_false] at ht
    rcases ht with rfl | rfl | rfl | rfl | rfl | rfl | rfl | rfl | rfl | rfl | rfl | rfl | rfl | rfl | rfl | rfl | rfl | rfl | rfl | rfl | rfl | rfl | rfl | rfl | rfl | rfl | rfl | rfl | rfl | rfl | rfl | rfl | rfl
    · exact law_c0 hkc hks hS h1 h2 h3 h4 h5 s0 hR hk
    · exact law_c1 hkc hks hS h1 h2 h3 h4 h5 s1 hR hk
    · exact law_c2 hkc hks hS h1 h2 h3 h4 h5 s2 hR hk
    · exact law_c3 hkc hks hS h1 h2 h3 h4 h5 s3 hR hk
    · exact law_c4 hkc hks hS h1 h2 h3 h4 h5 s4 hR hk
    · exact law_c5 hkc hks hS h1 h2 h3 h4 h5 s5 hR hk
    · exact law_c6 hkc hks hS h1 h2 h3 h4 h5 s6 hR hk
    · exact law_c7 hkc hks hS h1 h2 h3 h4 h5 s7 hR hk
    · exact law_c8 hkc hks hS h1 h2 h3 h4 h5 s8 hR hk
    · exact law_c9 hkc hks hS h1 h2 h3 h4 h5 s9 hR hk
    · exact law_c10 hkc hks hS h1 h2 h3 h4 h5 s10 hR hk
    · exact law_c11 hkc hks hS h1 h2 h3 h4 h5 s11 hR hk
    · exact law_c12 hkc hks hS h1 h2 h3 h4 h5 s12 hR hk
    · exact law_c13 hkc hks hS h1 h2 h3 h4 h5 s13 hR hk
    · exact law_c14 hkc hks hS h1 h2 h3 h4 h5 s14 hR hk
    · exact law_c15 hkc hks hS h1 h2 h3 h4 h5 s15 hR hk
    · exact law_c16 hkc hks hS h1 h2 h3 h4 h5 s16 hR hk
    · exact law_c17 hkc hks hS h1 h2 h3 h4 h5 s17 hR hk
    · exact law_c18 hkc hks hS h1 h2 h3 h4 h5 s18 hR hk
    · exact law_c19 hkc hks hS h1 h2 h3 h4 h5 s19 hR hk
    · exact law_c20 hkc hks hS h1 h2 h3 h4 h5 s20 hR hk
    · exact law_c21 hkc hks hS h1 h2 h3 h4 h5 s21 hR hk
    · exact law_c22 hkc hks hS h1 h2 h3 h4 h5 s22 hR hk
    · exact law_c23 hkc hks hS h1 h2 h3 h4 h5 s23 hR hk
    · exact law_c24 hkc hks hS h1 h2 h3 h4 h5 s24 hR hk
    · exact law_c25 hkc hks hS h1 h2 h3 h4 h5 s25 hR hk
    · exact law_c26 hkc hks hS h1 h2 h3 h4 h5 s26 hR hk
    · exact law_c27 hkc hks hS h1 h2 h3 h4 h5 s27 hR hk
    · exact law_c28 hkc hks hS h1 h2 h3 h4 h5 s28 hR hk
    · exact law_c29 hkc hks hS h1 h2 h3 h4 h5 s29 hR hk
    · exact law_c30 hkc hks hS h1 h2 h3 h4 h5 s30 hR hk
    · exact law_c31 hkc hks hS h1 h2 h3 h4 h5 s31 hR hk
    · exact law_c32 hkc hks hS h1 h2 h3 h4 h5 s32 hR hk
