noncomputable section
def j_Tape_advance_47_8 (M : Mm) (a0 : Int) : Option ((Mm) ⊕ (Mm)) :=
  lt (mp M (cI a0) 3 (w32 ((mg M (cI a0) 3) + 1))) (fun M6 =>
  some (.inl M6))
theorem cj_Tape_advance_47_8 {X : XX} {d : Nat} (hd : 0 ≤ d) {M : Mm} {a0 : Int} (hn_a0 : a0 ≠ 0) {x : (Mm) ⊕ (Mm)} {r : Option AV} {M' : Mm} (h : j_Tape_advance_47_8 M a0 = some x) (hk1 : ∀ s : Mm, x = .inl s → Ev X m_Tape_advance d 8 [(0, (10, a0))] [] s r M') (hk2 : ∀ t : Mm, x = .inr t → Ev X m_Tape_advance d 60 [(0, (10, a0))] [] t r M') : Ev X m_Tape_advance d 47 [(0, (10, a0))] [] M r M' := by
  unfold j_Tape_advance_47_8 at h
  refine ev_aload_n 0 d_Tape_advance_47 rfl (by decide) rfl ?_
  refine ev_dup d_Tape_advance_48 (Nat.ne_of_beq_eq_false rfl) ?_
  refine ev_get (t := 10) (k := 3) (by decide) (by decide) rfl i_Tape (by decide) rfl rfl tw_139 d_Tape_advance_49 hn_a0 ?_
  refine ev_iconst d_Tape_advance_52 rfl ?_
  refine ev_iadd d_Tape_advance_53 ?_
  obtain ⟨M6, hM6, h⟩ := ltx h
  refine ev_put' (t := 10) (k := 3) (by decide) (by decide) rfl i_Tape t_Tape_ok n_Tape (by decide) rfl rfl rfl rfl tw_139 d_Tape_advance_54 hn_a0 hM6 ?_
  refine ev_goto (tgt := 8) d_Tape_advance_57 (by decide) ?_
  cases h
  exact hk1 _ rfl
def l_Tape_advance_8 (a0 : Int) (s : Mm) : Option ((Mm) ⊕ (Mm)) :=
  if (mg s (cI a0) 1) ≤ (mg s (cI a0) 3) then
  some (.inr s)
  else
  if (mg s (cI a0) 0) ≠ 0 then
  if (0 : Int) ≤ (mg s (cI a0) 3) ∧ (mg s (cI a0) 3) < (ml s (cI (mg s (cI a0) 0)) : Int) then
  if (mg s (cI (mg s (cI a0) 0)) ((mg s (cI a0) 3) : Int).toNat) = 32 then
  j_Tape_advance_47_8 s a0
  else
  if (mg s (cI (mg s (cI a0) 0)) ((mg s (cI a0) 3) : Int).toNat) ≠ 10 then
  some (.inr s)
  else
  j_Tape_advance_47_8 s a0
  else none
  else none
theorem cs_l_Tape_advance_8 {X : XX} {d : Nat} (hd : 0 ≤ d) {a0 : Int} (hn_a0 : a0 ≠ 0) {s : Mm} {x : (Mm) ⊕ (Mm)} {r : Option AV} {M' : Mm} (h : l_Tape_advance_8 a0 s = some x) (hk1 : ∀ s : Mm, x = .inl s → Ev X m_Tape_advance d 8 [(0, (10, a0))] [] s r M') (hk2 : ∀ t : Mm, x = .inr t → Ev X m_Tape_advance d 60 [(0, (10, a0))] [] t r M') : Ev X m_Tape_advance d 8 [(0, (10, a0))] [] s r M' := by
  unfold l_Tape_advance_8 at h
  refine ev_aload_n 0 d_Tape_advance_8 rfl (by decide) rfl ?_
  refine ev_get (t := 10) (k := 3) (by decide) (by decide) rfl i_Tape (by decide) rfl rfl tw_139 d_Tape_advance_9 hn_a0 ?_
  refine ev_aload_n 0 d_Tape_advance_12 rfl (by decide) rfl ?_
  refine ev_get (t := 10) (k := 1) (by decide) (by decide) rfl i_Tape (by decide) rfl rfl tw_136 d_Tape_advance_13 hn_a0 ?_
  by_cases hc2 : (mg s (cI a0) 1) ≤ (mg s (cI a0) 3)
  · replace h := itp hc2 h
    refine ev_icmp_ge_t (tgt := 60) d_Tape_advance_16 (by decide) hc2 ?_
    cases h
    exact hk2 _ rfl
  · replace h := itn hc2 h
    refine ev_icmp_ge_f d_Tape_advance_16 (by decide) hc2 ?_
    refine ev_aload_n 0 d_Tape_advance_19 rfl (by decide) rfl ?_
    refine ev_get (t := 10) (k := 0) (by decide) (by decide) rfl i_Tape (by decide) rfl rfl tw_135 d_Tape_advance_20 hn_a0 ?_
    refine ev_aload_n 0 d_Tape_advance_23 rfl (by decide) rfl ?_
    refine ev_get (t := 10) (k := 3) (by decide) (by decide) rfl i_Tape (by decide) rfl rfl tw_139 d_Tape_advance_24 hn_a0 ?_
    obtain ⟨hz3, h⟩ := gx h
    obtain ⟨hg4, h⟩ := gx h
    refine ev_iald d_Tape_advance_27 hz3 hg4 ?_
    refine ev_bipush d_Tape_advance_28 rfl ?_
    by_cases hc5 : (mg s (cI (mg s (cI a0) 0)) ((mg s (cI a0) 3) : Int).toNat) = 32
    · replace h := itp hc5 h
      refine ev_icmp_eq_t (tgt := 47) d_Tape_advance_30 (by decide) hc5 ?_
      exact cj_Tape_advance_47_8 hd hn_a0 h hk1 hk2
    · replace h := itn hc5 h
      refine ev_icmp_eq_f d_Tape_advance_30 (by decide) hc5 ?_
      refine ev_aload_n 0 d_Tape_advance_33 rfl (by decide) rfl ?_
      refine ev_get (t := 10) (k := 0) (by decide) (by decide) rfl i_Tape (by decide) rfl rfl tw_135 d_Tape_advance_34 hn_a0 ?_
      refine ev_aload_n 0 d_Tape_advance_37 rfl (by decide) rfl ?_
      refine ev_get (t := 10) (k := 3) (by decide) (by decide) rfl i_Tape (by decide) rfl rfl tw_139 d_Tape_advance_38 hn_a0 ?_
      refine ev_iald d_Tape_advance_41 hz3 hg4 ?_
      refine ev_bipush d_Tape_advance_42 rfl ?_
      by_cases hc7 : (mg s (cI (mg s (cI a0) 0)) ((mg s (cI a0) 3) : Int).toNat) ≠ 10
      · replace h := itp hc7 h
        refine ev_icmp_ne_t (tgt := 60) d_Tape_advance_44 (by decide) hc7 ?_
        cases h
        exact hk2 _ rfl
      · replace h := itn hc7 h
        refine ev_icmp_ne_f d_Tape_advance_44 (by decide) hc7 ?_
        exact cj_Tape_advance_47_8 hd hn_a0 h hk1 hk2
def j_Tape_advance_365 (M : Mm) (a0 : Int) : Option (Mm) :=
  lt (mp M (cI a0) 3 (w32 ((mg M (cI a0) 3) + 1))) (fun M17 =>
  some M17)
theorem cj_Tape_advance_365 {X : XX} {d : Nat} (hd : 0 ≤ d) {M : Mm} {a0 : Int} (hn_a0 : a0 ≠ 0) {p : Mm} (h : j_Tape_advance_365 M a0 = some p) : Ev X m_Tape_advance d 365 [(0, (10, a0))] [] M none p := by
  unfold j_Tape_advance_365 at h
  refine ev_aload_n 0 d_Tape_advance_365 rfl (by decide) rfl ?_
  refine ev_dup d_Tape_advance_366 (Nat.ne_of_beq_eq_false rfl) ?_
  refine ev_get (t := 10) (k := 3) (by decide) (by decide) rfl i_Tape (by decide) rfl rfl tw_139 d_Tape_advance_367 hn_a0 ?_
  refine ev_iconst d_Tape_advance_370 rfl ?_
  refine ev_iadd d_Tape_advance_371 ?_
  obtain ⟨M17, hM17, h⟩ := ltx h
  refine ev_put' (t := 10) (k := 3) (by decide) (by decide) rfl i_Tape t_Tape_ok n_Tape (by decide) rfl rfl rfl rfl tw_139 d_Tape_advance_372 hn_a0 hM17 ?_
  cases h
  exact ev_retV d_Tape_advance_375 rfl
def l_Tape_advance_259 (a0 : Int) (s : Mm) : Option ((Mm) ⊕ (Mm)) :=
  if (mg s (cI a0) 1) ≤ (mg s (cI a0) 3) then
  some (.inr s)
  else
  if (mg s (cI a0) 0) ≠ 0 then
  if (0 : Int) ≤ (mg s (cI a0) 3) ∧ (mg s (cI a0) 3) < (ml s (cI (mg s (cI a0) 0)) : Int) then
  if (mg s (cI (mg s (cI a0) 0)) ((mg s (cI a0) 3) : Int).toNat) < 48 then
  some (.inr s)
  else
  if 57 < (mg s (cI (mg s (cI a0) 0)) ((mg s (cI a0) 3) : Int).toNat) then
  some (.inr s)
  else
  lt (mp s (cI a0) 6 (w32 ((w32 ((w32 ((mg s (cI a0) 6) * 10)) + (mg s (cI (mg s (cI a0) 0)) ((mg s (cI a0) 3) : Int).toNat))) - 48))) (fun M24 =>
  lt (mp M24 (cI a0) 3 (w32 ((mg M24 (cI a0) 3) + 1))) (fun M25 =>
  some (.inl M25)))
  else none
  else none
theorem cs_l_Tape_advance_259 {X : XX} {d : Nat} (hd : 0 ≤ d) {a0 : Int} (hn_a0 : a0 ≠ 0) {s : Mm} {x : (Mm) ⊕ (Mm)} {r : Option AV} {M' : Mm} (h : l_Tape_advance_259 a0 s = some x) (hk1 : ∀ s : Mm, x = .inl s → Ev X m_Tape_advance d 259 [(0, (10, a0))] [] s r M') (hk2 : ∀ t : Mm, x = .inr t → Ev X m_Tape_advance d 335 [(0, (10, a0))] [] t r M') : Ev X m_Tape_advance d 259 [(0, (10, a0))] [] s r M' := by
  unfold l_Tape_advance_259 at h
  refine ev_aload_n 0 d_Tape_advance_259 rfl (by decide) rfl ?_
  refine ev_get (t := 10) (k := 3) (by decide) (by decide) rfl i_Tape (by decide) rfl rfl tw_139 d_Tape_advance_260 hn_a0 ?_
  refine ev_aload_n 0 d_Tape_advance_263 rfl (by decide) rfl ?_
  refine ev_get (t := 10) (k := 1) (by decide) (by decide) rfl i_Tape (by decide) rfl rfl tw_136 d_Tape_advance_264 hn_a0 ?_
  by_cases hc19 : (mg s (cI a0) 1) ≤ (mg s (cI a0) 3)
  · replace h := itp hc19 h
    refine ev_icmp_ge_t (tgt := 335) d_Tape_advance_267 (by decide) hc19 ?_
    cases h
    exact hk2 _ rfl
  · replace h := itn hc19 h
    refine ev_icmp_ge_f d_Tape_advance_267 (by decide) hc19 ?_
    refine ev_aload_n 0 d_Tape_advance_270 rfl (by decide) rfl ?_
    refine ev_get (t := 10) (k := 0) (by decide) (by decide) rfl i_Tape (by decide) rfl rfl tw_135 d_Tape_advance_271 hn_a0 ?_
    refine ev_aload_n 0 d_Tape_advance_274 rfl (by decide) rfl ?_
    refine ev_get (t := 10) (k := 3) (by decide) (by decide) rfl i_Tape (by decide) rfl rfl tw_139 d_Tape_advance_275 hn_a0 ?_
    obtain ⟨hz20, h⟩ := gx h
    obtain ⟨hg21, h⟩ := gx h
    refine ev_iald d_Tape_advance_278 hz20 hg21 ?_
    refine ev_bipush d_Tape_advance_279 rfl ?_
    by_cases hc22 : (mg s (cI (mg s (cI a0) 0)) ((mg s (cI a0) 3) : Int).toNat) < 48
    · replace h := itp hc22 h
      refine ev_icmp_lt_t (tgt := 335) d_Tape_advance_281 (by decide) hc22 ?_
      cases h
      exact hk2 _ rfl
    · replace h := itn hc22 h
      refine ev_icmp_lt_f d_Tape_advance_281 (by decide) hc22 ?_
      refine ev_aload_n 0 d_Tape_advance_284 rfl (by decide) rfl ?_
      refine ev_get (t := 10) (k := 0) (by decide) (by decide) rfl i_Tape (by decide) rfl rfl tw_135 d_Tape_advance_285 hn_a0 ?_
      refine ev_aload_n 0 d_Tape_advance_288 rfl (by decide) rfl ?_
      refine ev_get (t := 10) (k := 3) (by decide) (by decide) rfl i_Tape (by decide) rfl rfl tw_139 d_Tape_advance_289 hn_a0 ?_
      refine ev_iald d_Tape_advance_292 hz20 hg21 ?_
      refine ev_bipush d_Tape_advance_293 rfl ?_
      by_cases hc23 : 57 < (mg s (cI (mg s (cI a0) 0)) ((mg s (cI a0) 3) : Int).toNat)
      · replace h := itp hc23 h
        refine ev_icmp_gt_t (tgt := 335) d_Tape_advance_295 (by decide) hc23 ?_
        cases h
        exact hk2 _ rfl
      · replace h := itn hc23 h
        refine ev_icmp_gt_f d_Tape_advance_295 (by decide) hc23 ?_
        refine ev_aload_n 0 d_Tape_advance_298 rfl (by decide) rfl ?_
        refine ev_aload_n 0 d_Tape_advance_299 rfl (by decide) rfl ?_
        refine ev_get (t := 10) (k := 6) (by decide) (by decide) rfl i_Tape (by decide) rfl rfl tw_145 d_Tape_advance_300 hn_a0 ?_
        refine ev_bipush d_Tape_advance_303 rfl ?_
        refine ev_imul d_Tape_advance_305 ?_
        refine ev_aload_n 0 d_Tape_advance_306 rfl (by decide) rfl ?_
        refine ev_get (t := 10) (k := 0) (by decide) (by decide) rfl i_Tape (by decide) rfl rfl tw_135 d_Tape_advance_307 hn_a0 ?_
        refine ev_aload_n 0 d_Tape_advance_310 rfl (by decide) rfl ?_
        refine ev_get (t := 10) (k := 3) (by decide) (by decide) rfl i_Tape (by decide) rfl rfl tw_139 d_Tape_advance_311 hn_a0 ?_
        refine ev_iald d_Tape_advance_314 hz20 hg21 ?_
        refine ev_iadd d_Tape_advance_315 ?_
        refine ev_bipush d_Tape_advance_316 rfl ?_
        refine ev_isub d_Tape_advance_318 ?_
        obtain ⟨M24, hM24, h⟩ := ltx h
        refine ev_put' (t := 10) (k := 6) (by decide) (by decide) rfl i_Tape t_Tape_ok n_Tape (by decide) rfl rfl rfl rfl tw_145 d_Tape_advance_319 hn_a0 hM24 ?_
        refine ev_aload_n 0 d_Tape_advance_322 rfl (by decide) rfl ?_
        refine ev_dup d_Tape_advance_323 (Nat.ne_of_beq_eq_false rfl) ?_
        refine ev_get (t := 10) (k := 3) (by decide) (by decide) rfl i_Tape (by decide) rfl rfl tw_139 d_Tape_advance_324 hn_a0 ?_
        refine ev_iconst d_Tape_advance_327 rfl ?_
        refine ev_iadd d_Tape_advance_328 ?_
        obtain ⟨M25, hM25, h⟩ := ltx h
        refine ev_put' (t := 10) (k := 3) (by decide) (by decide) rfl i_Tape t_Tape_ok n_Tape (by decide) rfl rfl rfl rfl tw_139 d_Tape_advance_329 hn_a0 hM25 ?_
        refine ev_goto (tgt := 259) d_Tape_advance_332 (by decide) ?_
        cases h
        exact hk1 _ rfl
def j_Tape_advance_359 (M : Mm) (y0 : Int) (y1 : Int) : Option (Mm) :=
  lt (mp M (cI y1) 4 y0) (fun M28 =>
  some M28)
theorem cj_Tape_advance_359 {X : XX} {d : Nat} (hd : 0 ≤ d) {M : Mm} {y0 : Int} {y1 : Int} (hn_y1 : y1 ≠ 0) {p : Mm} (h : j_Tape_advance_359 M y0 y1 = some p) : Ev X m_Tape_advance d 359 [] [(0, y0), (10, y1)] M none p := by
  unfold j_Tape_advance_359 at h
  obtain ⟨M28, hM28, h⟩ := ltx h
  refine ev_put' (t := 10) (k := 4) (by decide) (by decide) rfl i_Tape t_Tape_ok n_Tape (by decide) rfl rfl rfl rfl tw_140 d_Tape_advance_359 hn_y1 hM28 ?_
  refine ev_goto (tgt := 375) d_Tape_advance_362 (by decide) ?_
  cases h
  exact ev_retV d_Tape_advance_375 rfl
def j_Tape_advance_335 (M : Mm) (a0 : Int) : Option (Mm) :=
  if (mg M (cI a0) 2) < (w32 ((mg M (cI a0) 3) - (mg M (cI a0) 5))) then
  j_Tape_advance_359 M (-4) a0
  else
  j_Tape_advance_359 M (-2) a0
theorem cj_Tape_advance_335 {X : XX} {d : Nat} (hd : 0 ≤ d) {M : Mm} {a0 : Int} (hn_a0 : a0 ≠ 0) {p : Mm} (h : j_Tape_advance_335 M a0 = some p) : Ev X m_Tape_advance d 335 [(0, (10, a0))] [] M none p := by
  unfold j_Tape_advance_335 at h
  refine ev_aload_n 0 d_Tape_advance_335 rfl (by decide) rfl ?_
  refine ev_aload_n 0 d_Tape_advance_336 rfl (by decide) rfl ?_
  refine ev_get (t := 10) (k := 3) (by decide) (by decide) rfl i_Tape (by decide) rfl rfl tw_139 d_Tape_advance_337 hn_a0 ?_
  refine ev_aload_n 0 d_Tape_advance_340 rfl (by decide) rfl ?_
  refine ev_get (t := 10) (k := 5) (by decide) (by decide) rfl i_Tape (by decide) rfl rfl tw_143 d_Tape_advance_341 hn_a0 ?_
  refine ev_isub d_Tape_advance_344 ?_
  refine ev_aload_n 0 d_Tape_advance_345 rfl (by decide) rfl ?_
  refine ev_get (t := 10) (k := 2) (by decide) (by decide) rfl i_Tape (by decide) rfl rfl tw_138 d_Tape_advance_346 hn_a0 ?_
  by_cases hc27 : (mg M (cI a0) 2) < (w32 ((mg M (cI a0) 3) - (mg M (cI a0) 5)))
  · replace h := itp hc27 h
    refine ev_icmp_gt_t (tgt := 357) d_Tape_advance_349 (by decide) hc27 ?_
    refine ev_bipush d_Tape_advance_357 rfl ?_
    refine ev_less (L' := []) [] rfl ?_
    exact cj_Tape_advance_359 hd hn_a0 h
  · replace h := itn hc27 h
    refine ev_icmp_gt_f d_Tape_advance_349 (by decide) hc27 ?_
    refine ev_bipush d_Tape_advance_352 rfl ?_
    refine ev_goto (tgt := 359) d_Tape_advance_354 (by decide) ?_
    refine ev_less (L' := []) [] rfl ?_
    exact cj_Tape_advance_359 hd hn_a0 h
def j_Tape_advance_241 (M : Mm) (a0 : Int) : Option (Mm) :=
  if (mg M (cI a0) 4) < 48 then
  j_Tape_advance_365 M a0
  else
  if 57 < (mg M (cI a0) 4) then
  j_Tape_advance_365 M a0
  else
  (loopN (l_Tape_advance_259 a0) FU M).bind (fun t26 =>
  j_Tape_advance_335 t26 a0)
theorem cj_Tape_advance_241 {X : XX} {d : Nat} (hd : 0 ≤ d) {M : Mm} {a0 : Int} (hn_a0 : a0 ≠ 0) {p : Mm} (h : j_Tape_advance_241 M a0 = some p) : Ev X m_Tape_advance d 241 [(0, (10, a0))] [] M none p := by
  unfold j_Tape_advance_241 at h
  refine ev_aload_n 0 d_Tape_advance_241 rfl (by decide) rfl ?_
  refine ev_get (t := 10) (k := 4) (by decide) (by decide) rfl i_Tape (by decide) rfl rfl tw_140 d_Tape_advance_242 hn_a0 ?_
  refine ev_bipush d_Tape_advance_245 rfl ?_
  by_cases hc16 : (mg M (cI a0) 4) < 48
  · replace h := itp hc16 h
    refine ev_icmp_lt_t (tgt := 365) d_Tape_advance_247 (by decide) hc16 ?_
    exact cj_Tape_advance_365 hd hn_a0 h
  · replace h := itn hc16 h
    refine ev_icmp_lt_f d_Tape_advance_247 (by decide) hc16 ?_
    refine ev_aload_n 0 d_Tape_advance_250 rfl (by decide) rfl ?_
    refine ev_get (t := 10) (k := 4) (by decide) (by decide) rfl i_Tape (by decide) rfl rfl tw_140 d_Tape_advance_251 hn_a0 ?_
    refine ev_bipush d_Tape_advance_254 rfl ?_
    by_cases hc18 : 57 < (mg M (cI a0) 4)
    · replace h := itp hc18 h
      refine ev_icmp_gt_t (tgt := 365) d_Tape_advance_256 (by decide) hc18 ?_
      exact cj_Tape_advance_365 hd hn_a0 h
    · replace h := itn hc18 h
      refine ev_icmp_gt_f d_Tape_advance_256 (by decide) hc18 ?_
      obtain ⟨t26, ht26, h⟩ := bx h
      refine loop_ev (step := l_Tape_advance_259 a0) (P := fun w : Mm => Ev X m_Tape_advance d 259 [(0, (10, a0))] [] w none p) (Q := fun w => Ev X m_Tape_advance d 335 [(0, (10, a0))] [] w none p) (fun w x hs k1 k2 => cs_l_Tape_advance_259 hd hn_a0 hs k1 k2) FU M t26 ht26 ?_
      exact cj_Tape_advance_335 hd hn_a0 h
def l_Tape_advance_138 (a0 : Int) (s : Mm) : Option ((Mm) ⊕ (Mm)) :=
  if (mg s (cI a0) 1) ≤ (mg s (cI a0) 3) then
  some (.inr s)
  else
  if (mg s (cI a0) 0) ≠ 0 then
  if (0 : Int) ≤ (mg s (cI a0) 3) ∧ (mg s (cI a0) 3) < (ml s (cI (mg s (cI a0) 0)) : Int) then
  if (mg s (cI (mg s (cI a0) 0)) ((mg s (cI a0) 3) : Int).toNat) < 97 then
  some (.inr s)
  else
  if 122 < (mg s (cI (mg s (cI a0) 0)) ((mg s (cI a0) 3) : Int).toNat) then
  some (.inr s)
  else
  lt (mp s (cI a0) 6 (bOr (bShl (mg s (cI a0) 6) 5) (bAnd (mg s (cI (mg s (cI a0) 0)) ((mg s (cI a0) 3) : Int).toNat) 31))) (fun M35 =>
  lt (mp M35 (cI a0) 3 (w32 ((mg M35 (cI a0) 3) + 1))) (fun M36 =>
  some (.inl M36)))
  else none
  else none
theorem cs_l_Tape_advance_138 {X : XX} {d : Nat} (hd : 0 ≤ d) {a0 : Int} (hn_a0 : a0 ≠ 0) {s : Mm} {x : (Mm) ⊕ (Mm)} {r : Option AV} {M' : Mm} (h : l_Tape_advance_138 a0 s = some x) (hk1 : ∀ s : Mm, x = .inl s → Ev X m_Tape_advance d 138 [(0, (10, a0))] [] s r M') (hk2 : ∀ t : Mm, x = .inr t → Ev X m_Tape_advance d 213 [(0, (10, a0))] [] t r M') : Ev X m_Tape_advance d 138 [(0, (10, a0))] [] s r M' := by
  unfold l_Tape_advance_138 at h
  refine ev_aload_n 0 d_Tape_advance_138 rfl (by decide) rfl ?_
  refine ev_get (t := 10) (k := 3) (by decide) (by decide) rfl i_Tape (by decide) rfl rfl tw_139 d_Tape_advance_139 hn_a0 ?_
  refine ev_aload_n 0 d_Tape_advance_142 rfl (by decide) rfl ?_
  refine ev_get (t := 10) (k := 1) (by decide) (by decide) rfl i_Tape (by decide) rfl rfl tw_136 d_Tape_advance_143 hn_a0 ?_
  by_cases hc30 : (mg s (cI a0) 1) ≤ (mg s (cI a0) 3)
  · replace h := itp hc30 h
    refine ev_icmp_ge_t (tgt := 213) d_Tape_advance_146 (by decide) hc30 ?_
    cases h
    exact hk2 _ rfl
  · replace h := itn hc30 h
    refine ev_icmp_ge_f d_Tape_advance_146 (by decide) hc30 ?_
    refine ev_aload_n 0 d_Tape_advance_149 rfl (by decide) rfl ?_
    refine ev_get (t := 10) (k := 0) (by decide) (by decide) rfl i_Tape (by decide) rfl rfl tw_135 d_Tape_advance_150 hn_a0 ?_
    refine ev_aload_n 0 d_Tape_advance_153 rfl (by decide) rfl ?_
    refine ev_get (t := 10) (k := 3) (by decide) (by decide) rfl i_Tape (by decide) rfl rfl tw_139 d_Tape_advance_154 hn_a0 ?_
    obtain ⟨hz31, h⟩ := gx h
    obtain ⟨hg32, h⟩ := gx h
    refine ev_iald d_Tape_advance_157 hz31 hg32 ?_
    refine ev_bipush d_Tape_advance_158 rfl ?_
    by_cases hc33 : (mg s (cI (mg s (cI a0) 0)) ((mg s (cI a0) 3) : Int).toNat) < 97
    · replace h := itp hc33 h
      refine ev_icmp_lt_t (tgt := 213) d_Tape_advance_160 (by decide) hc33 ?_
      cases h
      exact hk2 _ rfl
    · replace h := itn hc33 h
      refine ev_icmp_lt_f d_Tape_advance_160 (by decide) hc33 ?_
      refine ev_aload_n 0 d_Tape_advance_163 rfl (by decide) rfl ?_
      refine ev_get (t := 10) (k := 0) (by decide) (by decide) rfl i_Tape (by decide) rfl rfl tw_135 d_Tape_advance_164 hn_a0 ?_
      refine ev_aload_n 0 d_Tape_advance_167 rfl (by decide) rfl ?_
      refine ev_get (t := 10) (k := 3) (by decide) (by decide) rfl i_Tape (by decide) rfl rfl tw_139 d_Tape_advance_168 hn_a0 ?_
      refine ev_iald d_Tape_advance_171 hz31 hg32 ?_
      refine ev_bipush d_Tape_advance_172 rfl ?_
      by_cases hc34 : 122 < (mg s (cI (mg s (cI a0) 0)) ((mg s (cI a0) 3) : Int).toNat)
      · replace h := itp hc34 h
        refine ev_icmp_gt_t (tgt := 213) d_Tape_advance_174 (by decide) hc34 ?_
        cases h
        exact hk2 _ rfl
      · replace h := itn hc34 h
        refine ev_icmp_gt_f d_Tape_advance_174 (by decide) hc34 ?_
        refine ev_aload_n 0 d_Tape_advance_177 rfl (by decide) rfl ?_
        refine ev_aload_n 0 d_Tape_advance_178 rfl (by decide) rfl ?_
        refine ev_get (t := 10) (k := 6) (by decide) (by decide) rfl i_Tape (by decide) rfl rfl tw_145 d_Tape_advance_179 hn_a0 ?_
        refine ev_iconst d_Tape_advance_182 rfl ?_
        refine ev_ishl d_Tape_advance_183 ?_
        refine ev_aload_n 0 d_Tape_advance_184 rfl (by decide) rfl ?_
        refine ev_get (t := 10) (k := 0) (by decide) (by decide) rfl i_Tape (by decide) rfl rfl tw_135 d_Tape_advance_185 hn_a0 ?_
        refine ev_aload_n 0 d_Tape_advance_188 rfl (by decide) rfl ?_
        refine ev_get (t := 10) (k := 3) (by decide) (by decide) rfl i_Tape (by decide) rfl rfl tw_139 d_Tape_advance_189 hn_a0 ?_
        refine ev_iald d_Tape_advance_192 hz31 hg32 ?_
        refine ev_bipush d_Tape_advance_193 rfl ?_
        refine ev_iand d_Tape_advance_195 ?_
        refine ev_ior d_Tape_advance_196 ?_
        obtain ⟨M35, hM35, h⟩ := ltx h
        refine ev_put' (t := 10) (k := 6) (by decide) (by decide) rfl i_Tape t_Tape_ok n_Tape (by decide) rfl rfl rfl rfl tw_145 d_Tape_advance_197 hn_a0 hM35 ?_
        refine ev_aload_n 0 d_Tape_advance_200 rfl (by decide) rfl ?_
        refine ev_dup d_Tape_advance_201 (Nat.ne_of_beq_eq_false rfl) ?_
        refine ev_get (t := 10) (k := 3) (by decide) (by decide) rfl i_Tape (by decide) rfl rfl tw_139 d_Tape_advance_202 hn_a0 ?_
        refine ev_iconst d_Tape_advance_205 rfl ?_
        refine ev_iadd d_Tape_advance_206 ?_
        obtain ⟨M36, hM36, h⟩ := ltx h
        refine ev_put' (t := 10) (k := 3) (by decide) (by decide) rfl i_Tape t_Tape_ok n_Tape (by decide) rfl rfl rfl rfl tw_139 d_Tape_advance_207 hn_a0 hM36 ?_
        refine ev_goto (tgt := 138) d_Tape_advance_210 (by decide) ?_
        cases h
        exact hk1 _ rfl
def j_Tape_advance_235 (M : Mm) (y0 : Int) (y1 : Int) : Option (Mm) :=
  lt (mp M (cI y1) 4 y0) (fun M39 =>
  some M39)
theorem cj_Tape_advance_235 {X : XX} {d : Nat} (hd : 0 ≤ d) {M : Mm} {y0 : Int} {y1 : Int} (hn_y1 : y1 ≠ 0) {p : Mm} (h : j_Tape_advance_235 M y0 y1 = some p) : Ev X m_Tape_advance d 235 [] [(0, y0), (10, y1)] M none p := by
  unfold j_Tape_advance_235 at h
  obtain ⟨M39, hM39, h⟩ := ltx h
  refine ev_put' (t := 10) (k := 4) (by decide) (by decide) rfl i_Tape t_Tape_ok n_Tape (by decide) rfl rfl rfl rfl tw_140 d_Tape_advance_235 hn_y1 hM39 ?_
  refine ev_goto (tgt := 375) d_Tape_advance_238 (by decide) ?_
  cases h
  exact ev_retV d_Tape_advance_375 rfl
def j_Tape_advance_213 (M : Mm) (a0 : Int) : Option (Mm) :=
  if 6 < (w32 ((mg M (cI a0) 3) - (mg M (cI a0) 5))) then
  j_Tape_advance_235 M (-4) a0
  else
  j_Tape_advance_235 M (-3) a0
theorem cj_Tape_advance_213 {X : XX} {d : Nat} (hd : 0 ≤ d) {M : Mm} {a0 : Int} (hn_a0 : a0 ≠ 0) {p : Mm} (h : j_Tape_advance_213 M a0 = some p) : Ev X m_Tape_advance d 213 [(0, (10, a0))] [] M none p := by
  unfold j_Tape_advance_213 at h
  refine ev_aload_n 0 d_Tape_advance_213 rfl (by decide) rfl ?_
  refine ev_aload_n 0 d_Tape_advance_214 rfl (by decide) rfl ?_
  refine ev_get (t := 10) (k := 3) (by decide) (by decide) rfl i_Tape (by decide) rfl rfl tw_139 d_Tape_advance_215 hn_a0 ?_
  refine ev_aload_n 0 d_Tape_advance_218 rfl (by decide) rfl ?_
  refine ev_get (t := 10) (k := 5) (by decide) (by decide) rfl i_Tape (by decide) rfl rfl tw_143 d_Tape_advance_219 hn_a0 ?_
  refine ev_isub d_Tape_advance_222 ?_
  refine ev_bipush d_Tape_advance_223 rfl ?_
  by_cases hc38 : 6 < (w32 ((mg M (cI a0) 3) - (mg M (cI a0) 5)))
  · replace h := itp hc38 h
    refine ev_icmp_gt_t (tgt := 233) d_Tape_advance_225 (by decide) hc38 ?_
    refine ev_bipush d_Tape_advance_233 rfl ?_
    refine ev_less (L' := []) [] rfl ?_
    exact cj_Tape_advance_235 hd hn_a0 h
  · replace h := itn hc38 h
    refine ev_icmp_gt_f d_Tape_advance_225 (by decide) hc38 ?_
    refine ev_bipush d_Tape_advance_228 rfl ?_
    refine ev_goto (tgt := 235) d_Tape_advance_230 (by decide) ?_
    refine ev_less (L' := []) [] rfl ?_
    exact cj_Tape_advance_235 hd hn_a0 h
def j_Tape_advance_98 (M : Mm) (a0 : Int) (y0 : Int) (y1 : Int) : Option (Mm) :=
  lt (mp M (cI y1) 4 y0) (fun M12 =>
  if (mg M12 (cI a0) 4) ≠ (-1) then
  lt (mp M12 (cI a0) 7 (w32 ((mg M12 (cI a0) 7) + 1))) (fun M14 =>
  if (mg M14 (cI a0) 4) < 97 then
  j_Tape_advance_241 M14 a0
  else
  if 122 < (mg M14 (cI a0) 4) then
  j_Tape_advance_241 M14 a0
  else
  (loopN (l_Tape_advance_138 a0) FU M14).bind (fun t37 =>
  j_Tape_advance_213 t37 a0))
  else
  some M12)
theorem cj_Tape_advance_98 {X : XX} {d : Nat} (hd : 0 ≤ d) {M : Mm} {a0 : Int} {y0 : Int} {y1 : Int} (hn_a0 : a0 ≠ 0) (hn_y1 : y1 ≠ 0) {p : Mm} (h : j_Tape_advance_98 M a0 y0 y1 = some p) : Ev X m_Tape_advance d 98 [(0, (10, a0))] [(0, y0), (10, y1)] M none p := by
  unfold j_Tape_advance_98 at h
  obtain ⟨M12, hM12, h⟩ := ltx h
  refine ev_put' (t := 10) (k := 4) (by decide) (by decide) rfl i_Tape t_Tape_ok n_Tape (by decide) rfl rfl rfl rfl tw_140 d_Tape_advance_98 hn_y1 hM12 ?_
  refine ev_aload_n 0 d_Tape_advance_101 rfl (by decide) rfl ?_
  refine ev_get (t := 10) (k := 4) (by decide) (by decide) rfl i_Tape (by decide) rfl rfl tw_140 d_Tape_advance_102 hn_a0 ?_
  refine ev_iconst d_Tape_advance_105 rfl ?_
  by_cases hc13 : (mg M12 (cI a0) 4) ≠ (-1)
  · replace h := itp hc13 h
    refine ev_icmp_ne_t (tgt := 110) d_Tape_advance_106 (by decide) hc13 ?_
    refine ev_aload_n 0 d_Tape_advance_110 rfl (by decide) rfl ?_
    refine ev_dup d_Tape_advance_111 (Nat.ne_of_beq_eq_false rfl) ?_
    refine ev_get (t := 10) (k := 7) (by decide) (by decide) rfl i_Tape (by decide) rfl rfl tw_147 d_Tape_advance_112 hn_a0 ?_
    refine ev_iconst d_Tape_advance_115 rfl ?_
    refine ev_iadd d_Tape_advance_116 ?_
    obtain ⟨M14, hM14, h⟩ := ltx h
    refine ev_put' (t := 10) (k := 7) (by decide) (by decide) rfl i_Tape t_Tape_ok n_Tape (by decide) rfl rfl rfl rfl tw_147 d_Tape_advance_117 hn_a0 hM14 ?_
    refine ev_aload_n 0 d_Tape_advance_120 rfl (by decide) rfl ?_
    refine ev_get (t := 10) (k := 4) (by decide) (by decide) rfl i_Tape (by decide) rfl rfl tw_140 d_Tape_advance_121 hn_a0 ?_
    refine ev_bipush d_Tape_advance_124 rfl ?_
    by_cases hc15 : (mg M14 (cI a0) 4) < 97
    · replace h := itp hc15 h
      refine ev_icmp_lt_t (tgt := 241) d_Tape_advance_126 (by decide) hc15 ?_
      exact cj_Tape_advance_241 hd hn_a0 h
    · replace h := itn hc15 h
      refine ev_icmp_lt_f d_Tape_advance_126 (by decide) hc15 ?_
      refine ev_aload_n 0 d_Tape_advance_129 rfl (by decide) rfl ?_
      refine ev_get (t := 10) (k := 4) (by decide) (by decide) rfl i_Tape (by decide) rfl rfl tw_140 d_Tape_advance_130 hn_a0 ?_
      refine ev_bipush d_Tape_advance_133 rfl ?_
      by_cases hc29 : 122 < (mg M14 (cI a0) 4)
      · replace h := itp hc29 h
        refine ev_icmp_gt_t (tgt := 241) d_Tape_advance_135 (by decide) hc29 ?_
        exact cj_Tape_advance_241 hd hn_a0 h
      · replace h := itn hc29 h
        refine ev_icmp_gt_f d_Tape_advance_135 (by decide) hc29 ?_
        obtain ⟨t37, ht37, h⟩ := bx h
        refine loop_ev (step := l_Tape_advance_138 a0) (P := fun w : Mm => Ev X m_Tape_advance d 138 [(0, (10, a0))] [] w none p) (Q := fun w => Ev X m_Tape_advance d 213 [(0, (10, a0))] [] w none p) (fun w x hs k1 k2 => cs_l_Tape_advance_138 hd hn_a0 hs k1 k2) FU M14 t37 ht37 ?_
        exact cj_Tape_advance_213 hd hn_a0 h
  · replace h := itn hc13 h
    refine ev_icmp_ne_f d_Tape_advance_106 (by decide) hc13 ?_
    cases h
    exact ev_retV d_Tape_advance_109 rfl
def j_Tape_advance_60 (M : Mm) (a0 : Int) : Option (Mm) :=
  lt (mp M (cI a0) 5 (mg M (cI a0) 3)) (fun M9 =>
  lt (mp M9 (cI a0) 6 0) (fun M10 =>
  if (mg M10 (cI a0) 1) ≤ (mg M10 (cI a0) 3) then
  j_Tape_advance_98 M10 a0 (-1) a0
  else
  if (mg M10 (cI a0) 0) ≠ 0 then
  if (0 : Int) ≤ (mg M10 (cI a0) 3) ∧ (mg M10 (cI a0) 3) < (ml M10 (cI (mg M10 (cI a0) 0)) : Int) then
  j_Tape_advance_98 M10 a0 ((mg M10 (cI (mg M10 (cI a0) 0)) ((mg M10 (cI a0) 3) : Int).toNat)) a0
  else none
  else none))
theorem cj_Tape_advance_60 {X : XX} {d : Nat} (hd : 0 ≤ d) {M : Mm} {a0 : Int} (hn_a0 : a0 ≠ 0) {p : Mm} (h : j_Tape_advance_60 M a0 = some p) : Ev X m_Tape_advance d 60 [(0, (10, a0))] [] M none p := by
  unfold j_Tape_advance_60 at h
  refine ev_aload_n 0 d_Tape_advance_60 rfl (by decide) rfl ?_
  refine ev_aload_n 0 d_Tape_advance_61 rfl (by decide) rfl ?_
  refine ev_get (t := 10) (k := 3) (by decide) (by decide) rfl i_Tape (by decide) rfl rfl tw_139 d_Tape_advance_62 hn_a0 ?_
  obtain ⟨M9, hM9, h⟩ := ltx h
  refine ev_put' (t := 10) (k := 5) (by decide) (by decide) rfl i_Tape t_Tape_ok n_Tape (by decide) rfl rfl rfl rfl tw_143 d_Tape_advance_65 hn_a0 hM9 ?_
  refine ev_aload_n 0 d_Tape_advance_68 rfl (by decide) rfl ?_
  refine ev_iconst d_Tape_advance_69 rfl ?_
  obtain ⟨M10, hM10, h⟩ := ltx h
  refine ev_put' (t := 10) (k := 6) (by decide) (by decide) rfl i_Tape t_Tape_ok n_Tape (by decide) rfl rfl rfl rfl tw_145 d_Tape_advance_70 hn_a0 hM10 ?_
  refine ev_aload_n 0 d_Tape_advance_73 rfl (by decide) rfl ?_
  refine ev_aload_n 0 d_Tape_advance_74 rfl (by decide) rfl ?_
  refine ev_get (t := 10) (k := 3) (by decide) (by decide) rfl i_Tape (by decide) rfl rfl tw_139 d_Tape_advance_75 hn_a0 ?_
  refine ev_aload_n 0 d_Tape_advance_78 rfl (by decide) rfl ?_
  refine ev_get (t := 10) (k := 1) (by decide) (by decide) rfl i_Tape (by decide) rfl rfl tw_136 d_Tape_advance_79 hn_a0 ?_
  by_cases hc11 : (mg M10 (cI a0) 1) ≤ (mg M10 (cI a0) 3)
  · replace h := itp hc11 h
    refine ev_icmp_ge_t (tgt := 97) d_Tape_advance_82 (by decide) hc11 ?_
    refine ev_iconst d_Tape_advance_97 rfl ?_
    exact cj_Tape_advance_98 hd hn_a0 hn_a0 h
  · replace h := itn hc11 h
    refine ev_icmp_ge_f d_Tape_advance_82 (by decide) hc11 ?_
    refine ev_aload_n 0 d_Tape_advance_85 rfl (by decide) rfl ?_
    refine ev_get (t := 10) (k := 0) (by decide) (by decide) rfl i_Tape (by decide) rfl rfl tw_135 d_Tape_advance_86 hn_a0 ?_
    refine ev_aload_n 0 d_Tape_advance_89 rfl (by decide) rfl ?_
    refine ev_get (t := 10) (k := 3) (by decide) (by decide) rfl i_Tape (by decide) rfl rfl tw_139 d_Tape_advance_90 hn_a0 ?_
    obtain ⟨hz40, h⟩ := gx h
    obtain ⟨hg41, h⟩ := gx h
    refine ev_iald d_Tape_advance_93 hz40 hg41 ?_
    refine ev_goto (tgt := 98) d_Tape_advance_94 (by decide) ?_
    exact cj_Tape_advance_98 hd hn_a0 hn_a0 h
def f_Tape_advance (M : Mm) (a0 : Int) : Option (Mm) :=
  if (mg M (cI a0) 8) = 0 then
  (loopN (l_Tape_advance_8 a0) FU M).bind (fun t8 =>
  j_Tape_advance_60 t8 a0)
  else
  some M
theorem c_Tape_advance {X : XX} {d : Nat} (hd : 0 ≤ d) {M : Mm} {a0 : Int} (hn_a0 : a0 ≠ 0) {p : Mm} (h : f_Tape_advance M a0 = some p) : Rn X d m_Tape_advance [(10, a0)] M none p := by
  refine Rn_of (by decide) rfl (Nat.le_of_ble_eq_true rfl) ?_
  unfold f_Tape_advance at h
  refine ev_less (L' := [(0, (10, a0))]) [0] rfl ?_
  refine ev_aload_n 0 d_Tape_advance_0 rfl (by decide) rfl ?_
  refine ev_get (t := 10) (k := 8) (by decide) (by decide) rfl i_Tape (by decide) rfl rfl tw_149 d_Tape_advance_1 hn_a0 ?_
  by_cases hc1 : (mg M (cI a0) 8) = 0
  · replace h := itp hc1 h
    refine ev_if_eq_t (tgt := 8) d_Tape_advance_4 (by decide) hc1 ?_
    obtain ⟨t8, ht8, h⟩ := bx h
    refine loop_ev (step := l_Tape_advance_8 a0) (P := fun w : Mm => Ev X m_Tape_advance d 8 [(0, (10, a0))] [] w none p) (Q := fun w => Ev X m_Tape_advance d 60 [(0, (10, a0))] [] w none p) (fun w x hs k1 k2 => cs_l_Tape_advance_8 hd hn_a0 hs k1 k2) FU M t8 ht8 ?_
    exact cj_Tape_advance_60 hd hn_a0 h
  · replace h := itn hc1 h
    refine ev_if_eq_f d_Tape_advance_4 (by decide) hc1 ?_
    cases h
    exact ev_retV d_Tape_advance_7 rfl
def f_Tape_begin (M : Mm) (a0 : Int) (a1 : Int) : Option (Mm) :=
  lt (mp M (cI a0) 2 a1) (fun M1 =>
  lt (mp M1 (cI a0) 3 0) (fun M2 =>
  lt (mp M2 (cI a0) 7 0) (fun M3 =>
  lt (mp M3 (cI a0) 8 0) (fun M4 =>
  lt (mp M4 (cI a0) 9 (-1)) (fun M5 =>
  (f_Tape_advance M5 a0).bind (fun p6 =>
  some p6))))))
theorem c_Tape_begin {X : XX} {d : Nat} (hd : 1 ≤ d) {M : Mm} {a0 : Int} {a1 : Int} (hn_a0 : a0 ≠ 0) {p : Mm} (h : f_Tape_begin M a0 a1 = some p) : Rn X d m_Tape_begin [(10, a0), (0, a1)] M none p := by
  refine Rn_of (by decide) rfl (Nat.le_of_ble_eq_true rfl) ?_
  unfold f_Tape_begin at h
  refine ev_less (L' := [(0, (10, a0)), (1, (0, a1))]) [0, 1] rfl ?_
  refine ev_aload_n 0 d_Tape_begin_0 rfl (by decide) rfl ?_
  refine ev_iload_n 1 d_Tape_begin_1 rfl rfl ?_
  obtain ⟨M1, hM1, h⟩ := ltx h
  refine ev_put' (t := 10) (k := 2) (by decide) (by decide) rfl i_Tape t_Tape_ok n_Tape (by decide) rfl rfl rfl rfl tw_138 d_Tape_begin_2 hn_a0 hM1 ?_
  refine ev_aload_n 0 d_Tape_begin_5 rfl (by decide) rfl ?_
  refine ev_iconst d_Tape_begin_6 rfl ?_
  obtain ⟨M2, hM2, h⟩ := ltx h
  refine ev_put' (t := 10) (k := 3) (by decide) (by decide) rfl i_Tape t_Tape_ok n_Tape (by decide) rfl rfl rfl rfl tw_139 d_Tape_begin_7 hn_a0 hM2 ?_
  refine ev_aload_n 0 d_Tape_begin_10 rfl (by decide) rfl ?_
  refine ev_iconst d_Tape_begin_11 rfl ?_
  obtain ⟨M3, hM3, h⟩ := ltx h
  refine ev_put' (t := 10) (k := 7) (by decide) (by decide) rfl i_Tape t_Tape_ok n_Tape (by decide) rfl rfl rfl rfl tw_147 d_Tape_begin_12 hn_a0 hM3 ?_
  refine ev_aload_n 0 d_Tape_begin_15 rfl (by decide) rfl ?_
  refine ev_iconst d_Tape_begin_16 rfl ?_
  obtain ⟨M4, hM4, h⟩ := ltx h
  refine ev_put' (t := 10) (k := 8) (by decide) (by decide) rfl i_Tape t_Tape_ok n_Tape (by decide) rfl rfl rfl rfl tw_149 d_Tape_begin_17 hn_a0 hM4 ?_
  refine ev_aload_n 0 d_Tape_begin_20 rfl (by decide) rfl ?_
  refine ev_iconst d_Tape_begin_21 rfl ?_
  obtain ⟨M5, hM5, h⟩ := ltx h
  refine ev_put' (t := 10) (k := 9) (by decide) (by decide) rfl i_Tape t_Tape_ok n_Tape (by decide) rfl rfl rfl rfl tw_151 d_Tape_begin_22 hn_a0 hM5 ?_
  refine ev_aload_n 0 d_Tape_begin_25 rfl (by decide) rfl ?_
  obtain ⟨p6, hp6, h⟩ := bx h
  have hRp6 := c_Tape_advance (X := X) (d := d - 1) (by omega) hn_a0 hp6
  refine ev_callV2 (st2 := []) (as := []) (rest := []) rfl (by decide) (by decide) rfl hn_a0 rfl (Nat.le_of_ble_eq_true rfl) k_Tape_advance ⟨tw_413, ts_9⟩ (by omega) tw_411 d_Tape_begin_26 hRp6 rfl ?_
  cases h
  exact ev_retV d_Tape_begin_29 rfl
def l_Tape_reads_29 (M : Mm) (a0 : Int) (a1 : Int) (s : Int) : Option ((Int) ⊕ ((Int) ⊕ (Unit))) :=
  if (0 : Int) ≤ a1 ∧ a1 < 9 then
  (f_String_length a1).bind (fun p6 =>
  if p6 ≤ s then
  some (.inr (.inr ()))
  else
  if (mg M (cI a0) 0) ≠ 0 then
  if (0 : Int) ≤ (w32 ((mg M (cI a0) 5) + s)) ∧ (w32 ((mg M (cI a0) 5) + s)) < (ml M (cI (mg M (cI a0) 0)) : Int) then
  (f_String_charAt a1 s).bind (fun p11 =>
  if (mg M (cI (mg M (cI a0) 0)) ((w32 ((mg M (cI a0) 5) + s)) : Int).toNat) = p11 then
  lt (w32 (s + 1)) (fun x13 : Int =>
  some (.inl x13))
  else
  some (.inr (.inl (0))))
  else none
  else none)
  else none
theorem cs_l_Tape_reads_29 {X : XX} {d : Nat} (hd : 5 ≤ d) {M : Mm} {a0 : Int} {a1 : Int} (hn_a0 : a0 ≠ 0) {s : Int} {x : (Int) ⊕ ((Int) ⊕ (Unit))} {r : Option AV} {M' : Mm} (h : l_Tape_reads_29 M a0 a1 s = some x) (hk1 : ∀ s : Int, x = .inl s → Ev X m_Tape_reads d 29 [(0, (10, a0)), (1, (20, a1)), (2, (0, s))] [] M r M') (hk2 : ∀ q : Int, x = .inr (.inl q) → r = some (0, q) ∧ M' = M) (hk3 : ∀ t : Unit, x = .inr (.inr t) → Ev X m_Tape_reads d 64 [] [] M r M') : Ev X m_Tape_reads d 29 [(0, (10, a0)), (1, (20, a1)), (2, (0, s))] [] M r M' := by
  unfold l_Tape_reads_29 at h
  refine ev_iload_n 2 d_Tape_reads_29 rfl rfl ?_
  refine ev_aload_n 1 d_Tape_reads_30 rfl (by decide) rfl ?_
  obtain ⟨h95, h⟩ := gx h
  obtain ⟨p6, hp6, h⟩ := bx h
  have hRp6 := c_String_length (X := X) (d := d - 1) (M := M) (by omega) h95 hp6
  refine ev_callT2 (st2 := [(0, p6), (0, s)]) (as := []) (rest := [(0, s)]) rfl h95 rfl (Nat.le_of_ble_eq_true rfl) k_String_length ⟨tw_421, tw_422⟩ (by omega) tw_420 d_Tape_reads_31 hRp6 rfl ?_
  by_cases hc7 : p6 ≤ s
  · replace h := itp hc7 h
    refine ev_icmp_ge_t (tgt := 64) d_Tape_reads_34 (by decide) hc7 ?_
    refine ev_less (L' := []) [] rfl ?_
    cases h
    exact hk3 _ rfl
  · replace h := itn hc7 h
    refine ev_icmp_ge_f d_Tape_reads_34 (by decide) hc7 ?_
    refine ev_aload_n 0 d_Tape_reads_37 rfl (by decide) rfl ?_
    refine ev_get (t := 10) (k := 0) (by decide) (by decide) rfl i_Tape (by decide) rfl rfl tw_135 d_Tape_reads_38 hn_a0 ?_
    refine ev_aload_n 0 d_Tape_reads_41 rfl (by decide) rfl ?_
    refine ev_get (t := 10) (k := 5) (by decide) (by decide) rfl i_Tape (by decide) rfl rfl tw_143 d_Tape_reads_42 hn_a0 ?_
    refine ev_iload_n 2 d_Tape_reads_45 rfl rfl ?_
    refine ev_iadd d_Tape_reads_46 ?_
    obtain ⟨hz8, h⟩ := gx h
    obtain ⟨hg9, h⟩ := gx h
    refine ev_iald d_Tape_reads_47 hz8 hg9 ?_
    refine ev_aload_n 1 d_Tape_reads_48 rfl (by decide) rfl ?_
    refine ev_iload_n 2 d_Tape_reads_49 rfl rfl ?_
    obtain ⟨p11, hp11, h⟩ := bx h
    have hRp11 := c_String_charAt (X := X) (d := d - 1) (M := M) (by omega) h95 hp11
    refine ev_callT2 (st2 := [(0, p11), (0, (mg M (cI (mg M (cI a0) 0)) ((w32 ((mg M (cI a0) 5) + s)) : Int).toNat))]) (as := [(0, s)]) (rest := [(0, (mg M (cI (mg M (cI a0) 0)) ((w32 ((mg M (cI a0) 5) + s)) : Int).toNat))]) rfl h95 rfl (Nat.le_of_ble_eq_true rfl) k_String_charAt ⟨tw_431, tw_432⟩ (by omega) tw_430 d_Tape_reads_50 hRp11 rfl ?_
    by_cases hc12 : (mg M (cI (mg M (cI a0) 0)) ((w32 ((mg M (cI a0) 5) + s)) : Int).toNat) = p11
    · replace h := itp hc12 h
      refine ev_icmp_eq_t (tgt := 58) d_Tape_reads_53 (by decide) hc12 ?_
      obtain ⟨x13, hx13, h⟩ := ltx h
      refine ev_iinc' 2 (y := x13) (L' := [(2, (0, x13)), (0, (10, a0)), (1, (20, a1))]) d_Tape_reads_58 rfl (by decide) rfl hx13 ?_
      refine ev_goto (tgt := 29) d_Tape_reads_61 (by decide) ?_
      refine ev_less (L' := [(0, (10, a0)), (1, (20, a1)), (2, (0, x13))]) [1, 2, 0] rfl ?_
      cases h
      exact hk1 _ rfl
    · replace h := itn hc12 h
      refine ev_icmp_eq_f d_Tape_reads_53 (by decide) hc12 ?_
      refine ev_iconst d_Tape_reads_56 rfl ?_
      cases h
      obtain ⟨rfl, rfl⟩ := hk2 _ rfl
      exact ev_retZ d_Tape_reads_57 rfl (Or.inl rfl)
def f_Tape_reads (M : Mm) (a0 : Int) (a1 : Int) : Option (Int) :=
  if (mg M (cI a0) 4) ≠ (-3) then
  some 0
  else
  if (0 : Int) ≤ a1 ∧ a1 < 9 then
  (f_String_length a1).bind (fun p3 =>
  if (w32 ((mg M (cI a0) 3) - (mg M (cI a0) 5))) = p3 then
  (loopN (l_Tape_reads_29 M a0 a1) FU 0).bind (fun t14 =>
  Sum.elim (fun q15 => some q15) (fun u16 =>
  some 1) t14)
  else
  some 0)
  else none
theorem c_Tape_reads {X : XX} {d : Nat} (hd : 5 ≤ d) {M : Mm} {a0 : Int} {a1 : Int} (hn_a0 : a0 ≠ 0) {p : Int} (h : f_Tape_reads M a0 a1 = some p) : Rn X d m_Tape_reads [(10, a0), (20, a1)] M (some (0, p)) M := by
  refine Rn_of (by decide) rfl (Nat.le_of_ble_eq_true rfl) ?_
  unfold f_Tape_reads at h
  refine ev_less (L' := [(0, (10, a0)), (1, (20, a1))]) [0, 1] rfl ?_
  refine ev_aload_n 0 d_Tape_reads_0 rfl (by decide) rfl ?_
  refine ev_get (t := 10) (k := 4) (by decide) (by decide) rfl i_Tape (by decide) rfl rfl tw_140 d_Tape_reads_1 hn_a0 ?_
  refine ev_bipush d_Tape_reads_4 rfl ?_
  by_cases hc1 : (mg M (cI a0) 4) ≠ (-3)
  · replace h := itp hc1 h
    refine ev_icmp_ne_t (tgt := 25) d_Tape_reads_6 (by decide) hc1 ?_
    refine ev_iconst d_Tape_reads_25 rfl ?_
    cases h
    exact ev_retZ d_Tape_reads_26 rfl (Or.inl rfl)
  · replace h := itn hc1 h
    refine ev_icmp_ne_f d_Tape_reads_6 (by decide) hc1 ?_
    refine ev_aload_n 0 d_Tape_reads_9 rfl (by decide) rfl ?_
    refine ev_get (t := 10) (k := 3) (by decide) (by decide) rfl i_Tape (by decide) rfl rfl tw_139 d_Tape_reads_10 hn_a0 ?_
    refine ev_aload_n 0 d_Tape_reads_13 rfl (by decide) rfl ?_
    refine ev_get (t := 10) (k := 5) (by decide) (by decide) rfl i_Tape (by decide) rfl rfl tw_143 d_Tape_reads_14 hn_a0 ?_
    refine ev_isub d_Tape_reads_17 ?_
    refine ev_aload_n 1 d_Tape_reads_18 rfl (by decide) rfl ?_
    obtain ⟨h92, h⟩ := gx h
    obtain ⟨p3, hp3, h⟩ := bx h
    have hRp3 := c_String_length (X := X) (d := d - 1) (M := M) (by omega) h92 hp3
    refine ev_callT2 (st2 := [(0, p3), (0, (w32 ((mg M (cI a0) 3) - (mg M (cI a0) 5))))]) (as := []) (rest := [(0, (w32 ((mg M (cI a0) 3) - (mg M (cI a0) 5))))]) rfl h92 rfl (Nat.le_of_ble_eq_true rfl) k_String_length ⟨tw_421, tw_422⟩ (by omega) tw_420 d_Tape_reads_19 hRp3 rfl ?_
    by_cases hc4 : (w32 ((mg M (cI a0) 3) - (mg M (cI a0) 5))) = p3
    · replace h := itp hc4 h
      refine ev_icmp_eq_t (tgt := 27) d_Tape_reads_22 (by decide) hc4 ?_
      refine ev_iconst d_Tape_reads_27 rfl ?_
      refine ev_istore_n (L' := [(2, (0, 0)), (0, (10, a0)), (1, (20, a1))]) d_Tape_reads_28 rfl (by decide) rfl ?_
      obtain ⟨t14, ht14, h⟩ := bx h
      refine ev_less (L' := [(0, (10, a0)), (1, (20, a1)), (2, (0, 0))]) [1, 2, 0] rfl ?_
      refine loop_ev (step := l_Tape_reads_29 M a0 a1) (P := fun w : Int => Ev X m_Tape_reads d 29 [(0, (10, a0)), (1, (20, a1)), (2, (0, w))] [] M (some (0, p)) M) (Q := fun u => (∀ q, u = .inl q → (some (0, p)) = some (0, q) ∧ M = M) ∧ (∀ w, u = .inr w → Ev X m_Tape_reads d 64 [] [] M (some (0, p)) M)) (fun w x hs k1 k2 => cs_l_Tape_reads_29 hd hn_a0 hs k1 (fun q e => (k2 _ e).1 q rfl) (fun t e => (k2 _ e).2 t rfl)) FU 0 t14 ht14 ?_
      refine ⟨fun qq e => ?_, fun tt e => ?_⟩
      · subst e; replace h := sx1 h; (obtain ⟨q15, rfl⟩ : ∃ y, y = qq := ⟨_, rfl⟩)
        cases h
        exact ⟨rfl, rfl⟩
      · subst e; replace h := sx2 h; (obtain ⟨u16, rfl⟩ : ∃ y, y = tt := ⟨_, rfl⟩)
        refine ev_iconst d_Tape_reads_64 rfl ?_
        cases h
        exact ev_retZ d_Tape_reads_65 rfl (Or.inr rfl)
    · replace h := itn hc4 h
      refine ev_icmp_eq_f d_Tape_reads_22 (by decide) hc4 ?_
      refine ev_iconst d_Tape_reads_25 rfl ?_
      cases h
      exact ev_retZ d_Tape_reads_26 rfl (Or.inl rfl)
def j_Tape_fail_20 (M : Mm) (a0 : Int) : Option (Mm) :=
  lt (mp M (cI a0) 4 (-4)) (fun M2 =>
  some M2)
theorem cj_Tape_fail_20 {X : XX} {d : Nat} (hd : 0 ≤ d) {M : Mm} {a0 : Int} (hn_a0 : a0 ≠ 0) {p : Mm} (h : j_Tape_fail_20 M a0 = some p) : Ev X m_Tape_fail d 20 [(0, (10, a0))] [] M none p := by
  unfold j_Tape_fail_20 at h
  refine ev_aload_n 0 d_Tape_fail_20 rfl (by decide) rfl ?_
  refine ev_bipush d_Tape_fail_21 rfl ?_
  obtain ⟨M2, hM2, h⟩ := ltx h
  refine ev_put' (t := 10) (k := 4) (by decide) (by decide) rfl i_Tape t_Tape_ok n_Tape (by decide) rfl rfl rfl rfl tw_140 d_Tape_fail_23 hn_a0 hM2 ?_
  cases h
  exact ev_retV d_Tape_fail_26 rfl
def f_Tape_fail (M : Mm) (a0 : Int) (a1 : Int) : Option (Mm) :=
  if (mg M (cI a0) 8) ≠ 0 then
  j_Tape_fail_20 M a0
  else
  lt (mp M (cI a0) 8 a1) (fun M3 =>
  lt (mp M3 (cI a0) 9 (mg M3 (cI a0) 5)) (fun M4 =>
  j_Tape_fail_20 M4 a0))
theorem c_Tape_fail {X : XX} {d : Nat} (hd : 0 ≤ d) {M : Mm} {a0 : Int} {a1 : Int} (hn_a0 : a0 ≠ 0) {p : Mm} (h : f_Tape_fail M a0 a1 = some p) : Rn X d m_Tape_fail [(10, a0), (0, a1)] M none p := by
  refine Rn_of (by decide) rfl (Nat.le_of_ble_eq_true rfl) ?_
  unfold f_Tape_fail at h
  refine ev_less (L' := [(0, (10, a0)), (1, (0, a1))]) [0, 1] rfl ?_
  refine ev_aload_n 0 d_Tape_fail_0 rfl (by decide) rfl ?_
  refine ev_get (t := 10) (k := 8) (by decide) (by decide) rfl i_Tape (by decide) rfl rfl tw_149 d_Tape_fail_1 hn_a0 ?_
  by_cases hc1 : (mg M (cI a0) 8) ≠ 0
  · replace h := itp hc1 h
    refine ev_if_ne_t (tgt := 20) d_Tape_fail_4 (by decide) hc1 ?_
    refine ev_less (L' := [(0, (10, a0))]) [0] rfl ?_
    exact cj_Tape_fail_20 hd hn_a0 h
  · replace h := itn hc1 h
    refine ev_if_ne_f d_Tape_fail_4 (by decide) hc1 ?_
    refine ev_aload_n 0 d_Tape_fail_7 rfl (by decide) rfl ?_
    refine ev_iload_n 1 d_Tape_fail_8 rfl rfl ?_
    obtain ⟨M3, hM3, h⟩ := ltx h
    refine ev_put' (t := 10) (k := 8) (by decide) (by decide) rfl i_Tape t_Tape_ok n_Tape (by decide) rfl rfl rfl rfl tw_149 d_Tape_fail_9 hn_a0 hM3 ?_
    refine ev_aload_n 0 d_Tape_fail_12 rfl (by decide) rfl ?_
    refine ev_aload_n 0 d_Tape_fail_13 rfl (by decide) rfl ?_
    refine ev_get (t := 10) (k := 5) (by decide) (by decide) rfl i_Tape (by decide) rfl rfl tw_143 d_Tape_fail_14 hn_a0 ?_
    obtain ⟨M4, hM4, h⟩ := ltx h
    refine ev_put' (t := 10) (k := 9) (by decide) (by decide) rfl i_Tape t_Tape_ok n_Tape (by decide) rfl rfl rfl rfl tw_151 d_Tape_fail_17 hn_a0 hM4 ?_
    refine ev_less (L' := [(0, (10, a0))]) [0] rfl ?_
    exact cj_Tape_fail_20 hd hn_a0 h
def f_Piece_clear (M : Mm) (a0 : Int) : Option (Mm) :=
  lt (mp M (cI a0) 7 0) (fun M1 =>
  lt (mp M1 (cI a0) 8 0) (fun M2 =>
  if (mg M2 (cI a0) 0) ≠ 0 then
  (f_Arrays_fillI M2 (mg M2 (cI a0) 0) 0).bind (fun p4 =>
  if (mg p4 (cI a0) 2) ≠ 0 then
  (f_Arrays_fillI p4 (mg p4 (cI a0) 2) (-1)).bind (fun p6 =>
  some p6)
  else none)
  else none))
theorem c_Piece_clear {X : XX} {d : Nat} (hd : 1 ≤ d) {M : Mm} {a0 : Int} (hn_a0 : a0 ≠ 0) {p : Mm} (h : f_Piece_clear M a0 = some p) : Rn X d m_Piece_clear [(5, a0)] M none p := by
  refine Rn_of (by decide) rfl (Nat.le_of_ble_eq_true rfl) ?_
  unfold f_Piece_clear at h
  refine ev_less (L' := [(0, (5, a0))]) [0] rfl ?_
  refine ev_aload_n 0 d_Piece_clear_0 rfl (by decide) rfl ?_
  refine ev_iconst d_Piece_clear_1 rfl ?_
  obtain ⟨M1, hM1, h⟩ := ltx h
  refine ev_put' (t := 5) (k := 7) (by decide) (by decide) rfl i_Piece t_Piece_ok n_Piece (by decide) rfl rfl rfl rfl tw_92 d_Piece_clear_2 hn_a0 hM1 ?_
  refine ev_aload_n 0 d_Piece_clear_5 rfl (by decide) rfl ?_
  refine ev_iconst d_Piece_clear_6 rfl ?_
  obtain ⟨M2, hM2, h⟩ := ltx h
  refine ev_put' (t := 5) (k := 8) (by decide) (by decide) rfl i_Piece t_Piece_ok n_Piece (by decide) rfl rfl rfl rfl tw_97 d_Piece_clear_7 hn_a0 hM2 ?_
  refine ev_aload_n 0 d_Piece_clear_10 rfl (by decide) rfl ?_
  refine ev_get (t := 5) (k := 0) (by decide) (by decide) rfl i_Piece (by decide) rfl rfl tw_75 d_Piece_clear_11 hn_a0 ?_
  refine ev_iconst d_Piece_clear_14 rfl ?_
  obtain ⟨hz3, h⟩ := gx h
  obtain ⟨p4, hp4, h⟩ := bx h
  have hRp4 := c_Arrays_fillI (X := X) (d := d - 1) (by omega) hz3 hp4
  refine ev_callS2 (st2 := []) (as := [(13, (mg M2 (cI a0) 0)), (0, 0)]) (rest := []) rfl rfl (Nat.le_of_ble_eq_true rfl) k_Arrays_fillI tw_34 (by omega) tw_480 d_Piece_clear_15 hRp4 rfl ?_
  refine ev_aload_n 0 d_Piece_clear_18 rfl (by decide) rfl ?_
  refine ev_get (t := 5) (k := 2) (by decide) (by decide) rfl i_Piece (by decide) rfl rfl tw_78 d_Piece_clear_19 hn_a0 ?_
  refine ev_iconst d_Piece_clear_22 rfl ?_
  obtain ⟨hz5, h⟩ := gx h
  obtain ⟨p6, hp6, h⟩ := bx h
  have hRp6 := c_Arrays_fillI (X := X) (d := d - 1) (by omega) hz5 hp6
  refine ev_callS2 (st2 := []) (as := [(13, (mg p4 (cI a0) 2)), (0, (-1))]) (rest := []) rfl rfl (Nat.le_of_ble_eq_true rfl) k_Arrays_fillI tw_34 (by omega) tw_480 d_Piece_clear_23 hRp6 rfl ?_
  cases h
  exact ev_retV d_Piece_clear_26 rfl
def f_Library_isWord (M : Mm) (a0 : Int) : Option (Int) :=
  (f_Tape_reads M a0 0).bind (fun p1 =>
  if p1 ≠ 0 then
  some 1
  else
  (f_Tape_reads M a0 1).bind (fun p3 =>
  if p3 ≠ 0 then
  some 1
  else
  (f_Tape_reads M a0 2).bind (fun p5 =>
  if p5 ≠ 0 then
  some 1
  else
  (f_Tape_reads M a0 3).bind (fun p7 =>
  if p7 = 0 then
  some 0
  else
  some 1))))
theorem c_Library_isWord {X : XX} {d : Nat} (hd : 6 ≤ d) {M : Mm} {a0 : Int} (hn_a0 : a0 ≠ 0) {p : Int} (h : f_Library_isWord M a0 = some p) : Rn X d m_Library_isWord [(10, a0)] M (some (0, p)) M := by
  refine Rn_of (by decide) rfl (Nat.le_of_ble_eq_true rfl) ?_
  unfold f_Library_isWord at h
  refine ev_less (L' := [(0, (10, a0))]) [0] rfl ?_
  refine ev_aload_n 0 d_Library_isWord_0 rfl (by decide) rfl ?_
  refine ev_text (i := 0) rfl d_Library_isWord_1 ?_
  obtain ⟨p1, hp1, h⟩ := bx h
  have hRp1 := c_Tape_reads (X := X) (d := d - 1) (by omega) hn_a0 hp1
  refine ev_callVN2 (host := "TownBand") (st2 := [(0, p1)]) (as := [(20, 0)]) (rest := []) rfl (by decide) (by decide) rfl hn_a0 rfl (Nat.le_of_ble_eq_true rfl) k_Tape_reads ⟨tw_418, ts_10⟩ (by omega) tw_416 d_Library_isWord_3 hRp1 rfl ?_
  by_cases hc2 : p1 ≠ 0
  · replace h := itp hc2 h
    refine ev_if_ne_t (tgt := 36) d_Library_isWord_6 (by decide) hc2 ?_
    refine ev_iconst d_Library_isWord_36 rfl ?_
    refine ev_goto (tgt := 41) d_Library_isWord_37 (by decide) ?_
    cases h
    exact ev_retZ d_Library_isWord_41 rfl (Or.inr rfl)
  · replace h := itn hc2 h
    refine ev_if_ne_f d_Library_isWord_6 (by decide) hc2 ?_
    refine ev_aload_n 0 d_Library_isWord_9 rfl (by decide) rfl ?_
    refine ev_text (i := 1) rfl d_Library_isWord_10 ?_
    obtain ⟨p3, hp3, h⟩ := bx h
    have hRp3 := c_Tape_reads (X := X) (d := d - 1) (by omega) hn_a0 hp3
    refine ev_callVN2 (host := "TownBand") (st2 := [(0, p3)]) (as := [(20, 1)]) (rest := []) rfl (by decide) (by decide) rfl hn_a0 rfl (Nat.le_of_ble_eq_true rfl) k_Tape_reads ⟨tw_418, ts_10⟩ (by omega) tw_416 d_Library_isWord_12 hRp3 rfl ?_
    by_cases hc4 : p3 ≠ 0
    · replace h := itp hc4 h
      refine ev_if_ne_t (tgt := 36) d_Library_isWord_15 (by decide) hc4 ?_
      refine ev_iconst d_Library_isWord_36 rfl ?_
      refine ev_goto (tgt := 41) d_Library_isWord_37 (by decide) ?_
      cases h
      exact ev_retZ d_Library_isWord_41 rfl (Or.inr rfl)
    · replace h := itn hc4 h
      refine ev_if_ne_f d_Library_isWord_15 (by decide) hc4 ?_
      refine ev_aload_n 0 d_Library_isWord_18 rfl (by decide) rfl ?_
      refine ev_text (i := 2) rfl d_Library_isWord_19 ?_
      obtain ⟨p5, hp5, h⟩ := bx h
      have hRp5 := c_Tape_reads (X := X) (d := d - 1) (by omega) hn_a0 hp5
      refine ev_callVN2 (host := "TownBand") (st2 := [(0, p5)]) (as := [(20, 2)]) (rest := []) rfl (by decide) (by decide) rfl hn_a0 rfl (Nat.le_of_ble_eq_true rfl) k_Tape_reads ⟨tw_418, ts_10⟩ (by omega) tw_416 d_Library_isWord_21 hRp5 rfl ?_
      by_cases hc6 : p5 ≠ 0
      · replace h := itp hc6 h
        refine ev_if_ne_t (tgt := 36) d_Library_isWord_24 (by decide) hc6 ?_
        refine ev_iconst d_Library_isWord_36 rfl ?_
        refine ev_goto (tgt := 41) d_Library_isWord_37 (by decide) ?_
        cases h
        exact ev_retZ d_Library_isWord_41 rfl (Or.inr rfl)
      · replace h := itn hc6 h
        refine ev_if_ne_f d_Library_isWord_24 (by decide) hc6 ?_
        refine ev_aload_n 0 d_Library_isWord_27 rfl (by decide) rfl ?_
        refine ev_text (i := 3) rfl d_Library_isWord_28 ?_
        obtain ⟨p7, hp7, h⟩ := bx h
        have hRp7 := c_Tape_reads (X := X) (d := d - 1) (by omega) hn_a0 hp7
        refine ev_callVN2 (host := "TownBand") (st2 := [(0, p7)]) (as := [(20, 3)]) (rest := []) rfl (by decide) (by decide) rfl hn_a0 rfl (Nat.le_of_ble_eq_true rfl) k_Tape_reads ⟨tw_418, ts_10⟩ (by omega) tw_416 d_Library_isWord_30 hRp7 rfl ?_
        by_cases hc8 : p7 = 0
        · replace h := itp hc8 h
          refine ev_if_eq_t (tgt := 40) d_Library_isWord_33 (by decide) hc8 ?_
          refine ev_iconst d_Library_isWord_40 rfl ?_
          cases h
          exact ev_retZ d_Library_isWord_41 rfl (Or.inl rfl)
        · replace h := itn hc8 h
          refine ev_if_eq_f d_Library_isWord_33 (by decide) hc8 ?_
          refine ev_iconst d_Library_isWord_36 rfl ?_
          refine ev_goto (tgt := 41) d_Library_isWord_37 (by decide) ?_
          cases h
          exact ev_retZ d_Library_isWord_41 rfl (Or.inr rfl)
def l_Library_hasName_2 (M : Mm) (a0 : Int) (a1 : Int) (s : Int) : Option ((Int) ⊕ ((Int) ⊕ (Unit))) :=
  if (w32 ((mg M (cI a0) 1) + (mg M (cI a0) 2))) ≤ s then
  some (.inr (.inr ()))
  else
  if 10 ≤ s then
  some (.inr (.inr ()))
  else
  if (mg M (cI a0) 0) ≠ 0 then
  if (0 : Int) ≤ s ∧ s < (ml M (cI (mg M (cI a0) 0)) : Int) then
  if (mg M (cI (mg M (cI a0) 0)) (s : Int).toNat) ≠ 0 then
  if (mg M (cI (mg M (cI (mg M (cI a0) 0)) (s : Int).toNat)) 3) ≠ a1 then
  lt (w32 (s + 1)) (fun x7 : Int =>
  some (.inl x7))
  else
  some (.inr (.inl (1)))
  else none
  else none
  else none
theorem cs_l_Library_hasName_2 {X : XX} {d : Nat} (hd : 0 ≤ d) {M : Mm} {a0 : Int} {a1 : Int} (hn_a0 : a0 ≠ 0) {s : Int} {x : (Int) ⊕ ((Int) ⊕ (Unit))} {r : Option AV} {M' : Mm} (h : l_Library_hasName_2 M a0 a1 s = some x) (hk1 : ∀ s : Int, x = .inl s → Ev X m_Library_hasName d 2 [(0, (3, a0)), (1, (0, a1)), (2, (0, s))] [] M r M') (hk2 : ∀ q : Int, x = .inr (.inl q) → r = some (0, q) ∧ M' = M) (hk3 : ∀ t : Unit, x = .inr (.inr t) → Ev X m_Library_hasName d 42 [] [] M r M') : Ev X m_Library_hasName d 2 [(0, (3, a0)), (1, (0, a1)), (2, (0, s))] [] M r M' := by
  unfold l_Library_hasName_2 at h
  refine ev_iload_n 2 d_Library_hasName_2 rfl rfl ?_
  refine ev_aload_n 0 d_Library_hasName_3 rfl (by decide) rfl ?_
  refine ev_get (t := 3) (k := 1) (by decide) (by decide) rfl i_Library (by decide) rfl rfl tw_119 d_Library_hasName_4 hn_a0 ?_
  refine ev_aload_n 0 d_Library_hasName_7 rfl (by decide) rfl ?_
  refine ev_get (t := 3) (k := 2) (by decide) (by decide) rfl i_Library (by decide) rfl rfl tw_121 d_Library_hasName_8 hn_a0 ?_
  refine ev_iadd d_Library_hasName_11 ?_
  by_cases hc1 : (w32 ((mg M (cI a0) 1) + (mg M (cI a0) 2))) ≤ s
  · replace h := itp hc1 h
    refine ev_icmp_ge_t (tgt := 42) d_Library_hasName_12 (by decide) hc1 ?_
    refine ev_less (L' := []) [] rfl ?_
    cases h
    exact hk3 _ rfl
  · replace h := itn hc1 h
    refine ev_icmp_ge_f d_Library_hasName_12 (by decide) hc1 ?_
    refine ev_iload_n 2 d_Library_hasName_15 rfl rfl ?_
    refine ev_bipush d_Library_hasName_16 rfl ?_
    by_cases hc2 : 10 ≤ s
    · replace h := itp hc2 h
      refine ev_icmp_ge_t (tgt := 42) d_Library_hasName_18 (by decide) hc2 ?_
      refine ev_less (L' := []) [] rfl ?_
      cases h
      exact hk3 _ rfl
    · replace h := itn hc2 h
      refine ev_icmp_ge_f d_Library_hasName_18 (by decide) hc2 ?_
      refine ev_aload_n 0 d_Library_hasName_21 rfl (by decide) rfl ?_
      refine ev_get (t := 3) (k := 0) (by decide) (by decide) rfl i_Library (by decide) rfl rfl tw_118 d_Library_hasName_22 hn_a0 ?_
      refine ev_iload_n 2 d_Library_hasName_25 rfl rfl ?_
      obtain ⟨hz3, h⟩ := gx h
      obtain ⟨hg4, h⟩ := gx h
      refine ev_aald d_Library_hasName_26 hz3 hg4 ?_
      obtain ⟨hz5, h⟩ := gx h
      refine ev_getN (host := "TownBand") (t := 5) (k := 3) (by decide) (by decide) rfl i_Piece (by decide) rfl rfl tw_82 d_Library_hasName_27 hz5 ?_
      refine ev_iload_n 1 d_Library_hasName_30 rfl rfl ?_
      by_cases hc6 : (mg M (cI (mg M (cI (mg M (cI a0) 0)) (s : Int).toNat)) 3) ≠ a1
      · replace h := itp hc6 h
        refine ev_icmp_ne_t (tgt := 36) d_Library_hasName_31 (by decide) hc6 ?_
        obtain ⟨x7, hx7, h⟩ := ltx h
        refine ev_iinc' 2 (y := x7) (L' := [(2, (0, x7)), (0, (3, a0)), (1, (0, a1))]) d_Library_hasName_36 rfl (by decide) rfl hx7 ?_
        refine ev_goto (tgt := 2) d_Library_hasName_39 (by decide) ?_
        refine ev_less (L' := [(0, (3, a0)), (1, (0, a1)), (2, (0, x7))]) [1, 2, 0] rfl ?_
        cases h
        exact hk1 _ rfl
      · replace h := itn hc6 h
        refine ev_icmp_ne_f d_Library_hasName_31 (by decide) hc6 ?_
        refine ev_iconst d_Library_hasName_34 rfl ?_
        cases h
        obtain ⟨rfl, rfl⟩ := hk2 _ rfl
        exact ev_retZ d_Library_hasName_35 rfl (Or.inr rfl)
def f_Library_hasName (M : Mm) (a0 : Int) (a1 : Int) : Option (Int) :=
  (loopN (l_Library_hasName_2 M a0 a1) FU 0).bind (fun t8 =>
  Sum.elim (fun q9 => some q9) (fun u10 =>
  some 0) t8)
theorem c_Library_hasName {X : XX} {d : Nat} (hd : 0 ≤ d) {M : Mm} {a0 : Int} {a1 : Int} (hn_a0 : a0 ≠ 0) {p : Int} (h : f_Library_hasName M a0 a1 = some p) : Rn X d m_Library_hasName [(3, a0), (0, a1)] M (some (0, p)) M := by
  refine Rn_of (by decide) rfl (Nat.le_of_ble_eq_true rfl) ?_
  unfold f_Library_hasName at h
  refine ev_less (L' := [(0, (3, a0)), (1, (0, a1))]) [0, 1] rfl ?_
  refine ev_iconst d_Library_hasName_0 rfl ?_
  refine ev_istore_n (L' := [(2, (0, 0)), (0, (3, a0)), (1, (0, a1))]) d_Library_hasName_1 rfl (by decide) rfl ?_
  obtain ⟨t8, ht8, h⟩ := bx h
  refine ev_less (L' := [(0, (3, a0)), (1, (0, a1)), (2, (0, 0))]) [1, 2, 0] rfl ?_
  refine loop_ev (step := l_Library_hasName_2 M a0 a1) (P := fun w : Int => Ev X m_Library_hasName d 2 [(0, (3, a0)), (1, (0, a1)), (2, (0, w))] [] M (some (0, p)) M) (Q := fun u => (∀ q, u = .inl q → (some (0, p)) = some (0, q) ∧ M = M) ∧ (∀ w, u = .inr w → Ev X m_Library_hasName d 42 [] [] M (some (0, p)) M)) (fun w x hs k1 k2 => cs_l_Library_hasName_2 hd hn_a0 hs k1 (fun q e => (k2 _ e).1 q rfl) (fun t e => (k2 _ e).2 t rfl)) FU 0 t8 ht8 ?_
  refine ⟨fun qq e => ?_, fun tt e => ?_⟩
  · subst e; replace h := sx1 h; (obtain ⟨q9, rfl⟩ : ∃ y, y = qq := ⟨_, rfl⟩)
    cases h
    exact ⟨rfl, rfl⟩
  · subst e; replace h := sx2 h; (obtain ⟨u10, rfl⟩ : ∃ y, y = tt := ⟨_, rfl⟩)
    refine ev_iconst d_Library_hasName_42 rfl ?_
    cases h
    exact ev_retZ d_Library_hasName_43 rfl (Or.inl rfl)
def j_Library_readName_42 (M : Mm) (a1 : Int) (z2 : Int) : Option (Int × Mm) :=
  (f_Tape_advance M a1).bind (fun p4 =>
  some (z2, p4))
theorem cj_Library_readName_42 {X : XX} {d : Nat} (hd : 7 ≤ d) {M : Mm} {a1 : Int} {z2 : Int} (hn_a1 : a1 ≠ 0) {p : Int × Mm} (h : j_Library_readName_42 M a1 z2 = some p) : Ev X m_Library_readName d 42 [(1, (10, a1)), (2, (0, z2))] [] M (some (0, p.1)) p.2 := by
  unfold j_Library_readName_42 at h
  refine ev_aload_n 0 d_Library_readName_42 rfl (by decide) rfl ?_
  obtain ⟨p4, hp4, h⟩ := bx h
  have hRp4 := c_Tape_advance (X := X) (d := d - 1) (by omega) hn_a1 hp4
  refine ev_callVN2 (host := "TownBand") (st2 := []) (as := []) (rest := []) rfl (by decide) (by decide) rfl hn_a1 rfl (Nat.le_of_ble_eq_true rfl) k_Tape_advance ⟨tw_413, ts_9⟩ (by omega) tw_481 d_Library_readName_43 hRp4 rfl ?_
  refine ev_iload_n 1 d_Library_readName_46 rfl rfl ?_
  cases h
  exact ev_ret d_Library_readName_47 rfl
def j_Library_readName_21 (M : Mm) (a1 : Int) (z2 : Int) : Option (Int × Mm) :=
  (f_Tape_fail M a1 1).bind (fun p3 =>
  j_Library_readName_42 p3 a1 z2)
theorem cj_Library_readName_21 {X : XX} {d : Nat} (hd : 7 ≤ d) {M : Mm} {a1 : Int} {z2 : Int} (hn_a1 : a1 ≠ 0) {p : Int × Mm} (h : j_Library_readName_21 M a1 z2 = some p) : Ev X m_Library_readName d 21 [(1, (10, a1)), (2, (0, z2))] [] M (some (0, p.1)) p.2 := by
  unfold j_Library_readName_21 at h
  refine ev_aload_n 0 d_Library_readName_21 rfl (by decide) rfl ?_
  refine ev_iconst d_Library_readName_22 rfl ?_
  obtain ⟨p3, hp3, h⟩ := bx h
  have hRp3 := c_Tape_fail (X := X) (d := d - 1) (by omega) hn_a1 hp3
  refine ev_callVN2 (host := "TownBand") (st2 := []) (as := [(0, 1)]) (rest := []) rfl (by decide) (by decide) rfl hn_a1 rfl (Nat.le_of_ble_eq_true rfl) k_Tape_fail ⟨tw_474, ts_12⟩ (by omega) tw_472 d_Library_readName_23 hRp3 rfl ?_
  refine ev_goto (tgt := 42) d_Library_readName_26 (by decide) ?_
  exact cj_Library_readName_42 hd hn_a1 h
def f_Library_readName (M : Mm) (a0 : Int) (a1 : Int) : Option (Int × Mm) :=
  lt ((mg M (cI a1) 6)) (fun x1 : Int =>
  if (mg M (cI a1) 4) ≠ (-3) then
  j_Library_readName_21 M a1 x1
  else
  (f_Library_isWord M a1).bind (fun p5 =>
  if p5 = 0 then
  (f_Library_hasName M a0 x1).bind (fun p7 =>
  if p7 = 0 then
  j_Library_readName_42 M a1 x1
  else
  (f_Tape_fail M a1 2).bind (fun p9 =>
  j_Library_readName_42 p9 a1 x1))
  else
  j_Library_readName_21 M a1 x1))
theorem c_Library_readName {X : XX} {d : Nat} (hd : 7 ≤ d) {M : Mm} {a0 : Int} {a1 : Int} (hn_a0 : a0 ≠ 0) (hn_a1 : a1 ≠ 0) {p : Int × Mm} (h : f_Library_readName M a0 a1 = some p) : Rn X d m_Library_readName [(3, a0), (10, a1)] M (some (0, p.1)) p.2 := by
  refine Rn_of (by decide) rfl (Nat.le_of_ble_eq_true rfl) ?_
  unfold f_Library_readName at h
  refine ev_less (L' := [(0, (3, a0)), (1, (10, a1))]) [0, 1] rfl ?_
  refine ev_aload_n 1 d_Library_readName_0 rfl (by decide) rfl ?_
  refine ev_getN (host := "TownBand") (t := 10) (k := 6) (by decide) (by decide) rfl i_Tape (by decide) rfl rfl tw_144 d_Library_readName_1 hn_a1 ?_
  obtain ⟨x1, hx1, h⟩ := ltx h
  refine ev_istore_n' (y := x1) (L' := [(2, (0, x1)), (0, (3, a0)), (1, (10, a1))]) d_Library_readName_4 rfl (by decide) rfl hx1 ?_
  refine ev_aload_n 2 d_Library_readName_5 rfl (by decide) rfl ?_
  refine ev_getN (host := "TownBand") (t := 10) (k := 4) (by decide) (by decide) rfl i_Tape (by decide) rfl rfl tw_142 d_Library_readName_6 hn_a1 ?_
  refine ev_bipush d_Library_readName_9 rfl ?_
  by_cases hc2 : (mg M (cI a1) 4) ≠ (-3)
  · replace h := itp hc2 h
    refine ev_icmp_ne_t (tgt := 21) d_Library_readName_11 (by decide) hc2 ?_
    refine ev_less (L' := [(1, (10, a1)), (2, (0, x1))]) [2, 0] rfl ?_
    exact cj_Library_readName_21 hd hn_a1 h
  · replace h := itn hc2 h
    refine ev_icmp_ne_f d_Library_readName_11 (by decide) hc2 ?_
    refine ev_aload_n 2 d_Library_readName_14 rfl (by decide) rfl ?_
    obtain ⟨p5, hp5, h⟩ := bx h
    have hRp5 := c_Library_isWord (X := X) (d := d - 1) (by omega) hn_a1 hp5
    refine ev_callS2 (st2 := [(0, p5)]) (as := [(10, a1)]) (rest := []) rfl rfl (Nat.le_of_ble_eq_true rfl) k_Library_isWord tw_487 (by omega) tw_486 d_Library_readName_15 hRp5 rfl ?_
    by_cases hc6 : p5 = 0
    · replace h := itp hc6 h
      refine ev_if_eq_t (tgt := 29) d_Library_readName_18 (by decide) hc6 ?_
      refine ev_aload_n 1 d_Library_readName_29 rfl (by decide) rfl ?_
      refine ev_iload_n 0 d_Library_readName_30 rfl rfl ?_
      obtain ⟨p7, hp7, h⟩ := bx h
      have hRp7 := c_Library_hasName (X := X) (d := d - 1) (by omega) hn_a0 hp7
      refine ev_callV2 (st2 := [(0, p7)]) (as := [(0, x1)]) (rest := []) rfl (by decide) (by decide) rfl hn_a0 rfl (Nat.le_of_ble_eq_true rfl) k_Library_hasName ⟨tw_494, ts_15⟩ (by omega) tw_492 d_Library_readName_31 hRp7 rfl ?_
      by_cases hc8 : p7 = 0
      · replace h := itp hc8 h
        refine ev_if_eq_t (tgt := 42) d_Library_readName_34 (by decide) hc8 ?_
        refine ev_less (L' := [(1, (10, a1)), (2, (0, x1))]) [2, 0] rfl ?_
        exact cj_Library_readName_42 hd hn_a1 h
      · replace h := itn hc8 h
        refine ev_if_eq_f d_Library_readName_34 (by decide) hc8 ?_
        refine ev_aload_n 2 d_Library_readName_37 rfl (by decide) rfl ?_
        refine ev_iconst d_Library_readName_38 rfl ?_
        obtain ⟨p9, hp9, h⟩ := bx h
        have hRp9 := c_Tape_fail (X := X) (d := d - 1) (by omega) hn_a1 hp9
        refine ev_callVN2 (host := "TownBand") (st2 := []) (as := [(0, 2)]) (rest := []) rfl (by decide) (by decide) rfl hn_a1 rfl (Nat.le_of_ble_eq_true rfl) k_Tape_fail ⟨tw_474, ts_12⟩ (by omega) tw_472 d_Library_readName_39 hRp9 rfl ?_
        refine ev_less (L' := [(1, (10, a1)), (2, (0, x1))]) [2, 0] rfl ?_
        exact cj_Library_readName_42 hd hn_a1 h
    · replace h := itn hc6 h
      refine ev_if_eq_f d_Library_readName_18 (by decide) hc6 ?_
      refine ev_less (L' := [(1, (10, a1)), (2, (0, x1))]) [2, 0] rfl ?_
      exact cj_Library_readName_21 hd hn_a1 h
def j_Tape_take_13 (M : Mm) (a0 : Int) : Option (Mm) :=
  (f_Tape_advance M a0).bind (fun p2 =>
  some p2)
theorem cj_Tape_take_13 {X : XX} {d : Nat} (hd : 1 ≤ d) {M : Mm} {a0 : Int} (hn_a0 : a0 ≠ 0) {p : Mm} (h : j_Tape_take_13 M a0 = some p) : Ev X m_Tape_take d 13 [(0, (10, a0))] [] M none p := by
  unfold j_Tape_take_13 at h
  refine ev_aload_n 0 d_Tape_take_13 rfl (by decide) rfl ?_
  obtain ⟨p2, hp2, h⟩ := bx h
  have hRp2 := c_Tape_advance (X := X) (d := d - 1) (by omega) hn_a0 hp2
  refine ev_callV2 (st2 := []) (as := []) (rest := []) rfl (by decide) (by decide) rfl hn_a0 rfl (Nat.le_of_ble_eq_true rfl) k_Tape_advance ⟨tw_413, ts_9⟩ (by omega) tw_411 d_Tape_take_14 hRp2 rfl ?_
  cases h
  exact ev_retV d_Tape_take_17 rfl
def f_Tape_take (M : Mm) (a0 : Int) (a1 : Int) : Option (Mm) :=
  if (mg M (cI a0) 4) = a1 then
  j_Tape_take_13 M a0
  else
  (f_Tape_fail M a0 1).bind (fun p3 =>
  j_Tape_take_13 p3 a0)
theorem c_Tape_take {X : XX} {d : Nat} (hd : 1 ≤ d) {M : Mm} {a0 : Int} {a1 : Int} (hn_a0 : a0 ≠ 0) {p : Mm} (h : f_Tape_take M a0 a1 = some p) : Rn X d m_Tape_take [(10, a0), (0, a1)] M none p := by
  refine Rn_of (by decide) rfl (Nat.le_of_ble_eq_true rfl) ?_
  unfold f_Tape_take at h
  refine ev_less (L' := [(0, (10, a0)), (1, (0, a1))]) [0, 1] rfl ?_
  refine ev_aload_n 0 d_Tape_take_0 rfl (by decide) rfl ?_
  refine ev_get (t := 10) (k := 4) (by decide) (by decide) rfl i_Tape (by decide) rfl rfl tw_140 d_Tape_take_1 hn_a0 ?_
  refine ev_iload_n 1 d_Tape_take_4 rfl rfl ?_
  by_cases hc1 : (mg M (cI a0) 4) = a1
  · replace h := itp hc1 h
    refine ev_icmp_eq_t (tgt := 13) d_Tape_take_5 (by decide) hc1 ?_
    refine ev_less (L' := [(0, (10, a0))]) [0] rfl ?_
    exact cj_Tape_take_13 hd hn_a0 h
  · replace h := itn hc1 h
    refine ev_icmp_eq_f d_Tape_take_5 (by decide) hc1 ?_
    refine ev_aload_n 0 d_Tape_take_8 rfl (by decide) rfl ?_
    refine ev_iconst d_Tape_take_9 rfl ?_
    obtain ⟨p3, hp3, h⟩ := bx h
    have hRp3 := c_Tape_fail (X := X) (d := d - 1) (by omega) hn_a0 hp3
    refine ev_callV2 (st2 := []) (as := [(0, 1)]) (rest := []) rfl (by decide) (by decide) rfl hn_a0 rfl (Nat.le_of_ble_eq_true rfl) k_Tape_fail ⟨tw_474, ts_12⟩ (by omega) tw_500 d_Tape_take_10 hRp3 rfl ?_
    refine ev_less (L' := [(0, (10, a0))]) [0] rfl ?_
    exact cj_Tape_take_13 hd hn_a0 h
def f_Band_isWithin (M : Mm) (a0 : Int) (a1 : Int) (a2 : Int) : Option (Int) :=
  if a0 < a1 then
  some 0
  else
  if a2 < a0 then
  some 0
  else
  some 1
theorem c_Band_isWithin {X : XX} {d : Nat} (hd : 0 ≤ d) {M : Mm} {a0 : Int} {a1 : Int} {a2 : Int} {p : Int} (h : f_Band_isWithin M a0 a1 a2 = some p) : Rn X d m_Band_isWithin [(0, a0), (0, a1), (0, a2)] M (some (0, p)) M := by
  refine Rn_of (by decide) rfl (Nat.le_of_ble_eq_true rfl) ?_
  unfold f_Band_isWithin at h
  refine ev_less (L' := [(0, (0, a0)), (1, (0, a1)), (2, (0, a2))]) [0, 1, 2] rfl ?_
  refine ev_iload_n 0 d_Band_isWithin_0 rfl rfl ?_
  refine ev_iload_n 1 d_Band_isWithin_1 rfl rfl ?_
  by_cases hc1 : a0 < a1
  · replace h := itp hc1 h
    refine ev_icmp_lt_t (tgt := 14) d_Band_isWithin_2 (by decide) hc1 ?_
    refine ev_iconst d_Band_isWithin_14 rfl ?_
    cases h
    exact ev_retZ d_Band_isWithin_15 rfl (Or.inl rfl)
  · replace h := itn hc1 h
    refine ev_icmp_lt_f d_Band_isWithin_2 (by decide) hc1 ?_
    refine ev_iload_n 0 d_Band_isWithin_5 rfl rfl ?_
    refine ev_iload_n 2 d_Band_isWithin_6 rfl rfl ?_
    by_cases hc2 : a2 < a0
    · replace h := itp hc2 h
      refine ev_icmp_gt_t (tgt := 14) d_Band_isWithin_7 (by decide) hc2 ?_
      refine ev_iconst d_Band_isWithin_14 rfl ?_
      cases h
      exact ev_retZ d_Band_isWithin_15 rfl (Or.inl rfl)
    · replace h := itn hc2 h
      refine ev_icmp_gt_f d_Band_isWithin_7 (by decide) hc2 ?_
      refine ev_iconst d_Band_isWithin_10 rfl ?_
      refine ev_goto (tgt := 15) d_Band_isWithin_11 (by decide) ?_
      cases h
      exact ev_retZ d_Band_isWithin_15 rfl (Or.inr rfl)
def j_Library_readNumber_36 (M : Mm) (a0 : Int) (z3 : Int) : Option (Int × Mm) :=
  (f_Tape_advance M a0).bind (fun p5 =>
  some (z3, p5))
theorem cj_Library_readNumber_36 {X : XX} {d : Nat} (hd : 1 ≤ d) {M : Mm} {a0 : Int} {z3 : Int} (hn_a0 : a0 ≠ 0) {p : Int × Mm} (h : j_Library_readNumber_36 M a0 z3 = some p) : Ev X m_Library_readNumber d 36 [(0, (10, a0)), (3, (0, z3))] [] M (some (0, p.1)) p.2 := by
  unfold j_Library_readNumber_36 at h
  refine ev_aload_n 0 d_Library_readNumber_36 rfl (by decide) rfl ?_
  obtain ⟨p5, hp5, h⟩ := bx h
  have hRp5 := c_Tape_advance (X := X) (d := d - 1) (by omega) hn_a0 hp5
  refine ev_callVN2 (host := "TownBand") (st2 := []) (as := []) (rest := []) rfl (by decide) (by decide) rfl hn_a0 rfl (Nat.le_of_ble_eq_true rfl) k_Tape_advance ⟨tw_413, ts_9⟩ (by omega) tw_481 d_Library_readNumber_37 hRp5 rfl ?_
  refine ev_iload_n 1 d_Library_readNumber_40 rfl rfl ?_
  cases h
  exact ev_ret d_Library_readNumber_41 rfl
def f_Library_readNumber (M : Mm) (a0 : Int) (a1 : Int) (a2 : Int) : Option (Int × Mm) :=
  lt ((mg M (cI a0) 6)) (fun x1 : Int =>
  if (mg M (cI a0) 4) = (-2) then
  (f_Band_isWithin M x1 a1 a2).bind (fun p3 =>
  if p3 ≠ 0 then
  j_Library_readNumber_36 M a0 x1
  else
  (f_Tape_fail M a0 3).bind (fun p6 =>
  j_Library_readNumber_36 p6 a0 x1))
  else
  (f_Tape_fail M a0 1).bind (fun p7 =>
  j_Library_readNumber_36 p7 a0 x1))
theorem c_Library_readNumber {X : XX} {d : Nat} (hd : 1 ≤ d) {M : Mm} {a0 : Int} {a1 : Int} {a2 : Int} (hn_a0 : a0 ≠ 0) {p : Int × Mm} (h : f_Library_readNumber M a0 a1 a2 = some p) : Rn X d m_Library_readNumber [(10, a0), (0, a1), (0, a2)] M (some (0, p.1)) p.2 := by
  refine Rn_of (by decide) rfl (Nat.le_of_ble_eq_true rfl) ?_
  unfold f_Library_readNumber at h
  refine ev_less (L' := [(0, (10, a0)), (1, (0, a1)), (2, (0, a2))]) [0, 1, 2] rfl ?_
  refine ev_aload_n 0 d_Library_readNumber_0 rfl (by decide) rfl ?_
  refine ev_getN (host := "TownBand") (t := 10) (k := 6) (by decide) (by decide) rfl i_Tape (by decide) rfl rfl tw_144 d_Library_readNumber_1 hn_a0 ?_
  obtain ⟨x1, hx1, h⟩ := ltx h
  refine ev_istore_n' (y := x1) (L' := [(3, (0, x1)), (0, (10, a0)), (1, (0, a1)), (2, (0, a2))]) d_Library_readNumber_4 rfl (by decide) rfl hx1 ?_
  refine ev_aload_n 1 d_Library_readNumber_5 rfl (by decide) rfl ?_
  refine ev_getN (host := "TownBand") (t := 10) (k := 4) (by decide) (by decide) rfl i_Tape (by decide) rfl rfl tw_142 d_Library_readNumber_6 hn_a0 ?_
  refine ev_bipush d_Library_readNumber_9 rfl ?_
  by_cases hc2 : (mg M (cI a0) 4) = (-2)
  · replace h := itp hc2 h
    refine ev_icmp_eq_t (tgt := 22) d_Library_readNumber_11 (by decide) hc2 ?_
    refine ev_iload_n 0 d_Library_readNumber_22 rfl rfl ?_
    refine ev_iload_n 2 d_Library_readNumber_23 rfl rfl ?_
    refine ev_iload_n 3 d_Library_readNumber_24 rfl rfl ?_
    obtain ⟨p3, hp3, h⟩ := bx h
    have hRp3 := c_Band_isWithin (X := X) (d := d - 1) (by omega)  hp3
    refine ev_callSN2 (host := "TownBand") (st2 := [(0, p3)]) (as := [(0, x1), (0, a1), (0, a2)]) (rest := []) rfl rfl (Nat.le_of_ble_eq_true rfl) k_Band_isWithin tw_343 (by omega) tw_504 d_Library_readNumber_25 hRp3 rfl ?_
    by_cases hc4 : p3 ≠ 0
    · replace h := itp hc4 h
      refine ev_if_ne_t (tgt := 36) d_Library_readNumber_28 (by decide) hc4 ?_
      refine ev_less (L' := [(0, (10, a0)), (3, (0, x1))]) [1, 0] rfl ?_
      exact cj_Library_readNumber_36 hd hn_a0 h
    · replace h := itn hc4 h
      refine ev_if_ne_f d_Library_readNumber_28 (by decide) hc4 ?_
      refine ev_aload_n 1 d_Library_readNumber_31 rfl (by decide) rfl ?_
      refine ev_iconst d_Library_readNumber_32 rfl ?_
      obtain ⟨p6, hp6, h⟩ := bx h
      have hRp6 := c_Tape_fail (X := X) (d := d - 1) (by omega) hn_a0 hp6
      refine ev_callVN2 (host := "TownBand") (st2 := []) (as := [(0, 3)]) (rest := []) rfl (by decide) (by decide) rfl hn_a0 rfl (Nat.le_of_ble_eq_true rfl) k_Tape_fail ⟨tw_474, ts_12⟩ (by omega) tw_472 d_Library_readNumber_33 hRp6 rfl ?_
      refine ev_less (L' := [(0, (10, a0)), (3, (0, x1))]) [1, 0] rfl ?_
      exact cj_Library_readNumber_36 hd hn_a0 h
  · replace h := itn hc2 h
    refine ev_icmp_eq_f d_Library_readNumber_11 (by decide) hc2 ?_
    refine ev_aload_n 1 d_Library_readNumber_14 rfl (by decide) rfl ?_
    refine ev_iconst d_Library_readNumber_15 rfl ?_
    obtain ⟨p7, hp7, h⟩ := bx h
    have hRp7 := c_Tape_fail (X := X) (d := d - 1) (by omega) hn_a0 hp7
    refine ev_callVN2 (host := "TownBand") (st2 := []) (as := [(0, 1)]) (rest := []) rfl (by decide) (by decide) rfl hn_a0 rfl (Nat.le_of_ble_eq_true rfl) k_Tape_fail ⟨tw_474, ts_12⟩ (by omega) tw_472 d_Library_readNumber_16 hRp7 rfl ?_
    refine ev_goto (tgt := 36) d_Library_readNumber_19 (by decide) ?_
    refine ev_less (L' := [(0, (10, a0)), (3, (0, x1))]) [1, 0] rfl ?_
    exact cj_Library_readNumber_36 hd hn_a0 h
def j_Piece_addPart_29 (M : Mm) (a0 : Int) : Option (Mm) :=
  lt (mp M (cI a0) 7 (w32 ((mg M (cI a0) 7) + 1))) (fun M3 =>
  some M3)
theorem cj_Piece_addPart_29 {X : XX} {d : Nat} (hd : 0 ≤ d) {M : Mm} {a0 : Int} (hn_a0 : a0 ≠ 0) {p : Mm} (h : j_Piece_addPart_29 M a0 = some p) : Ev X m_Piece_addPart d 29 [(0, (5, a0))] [] M none p := by
  unfold j_Piece_addPart_29 at h
  refine ev_aload_n 0 d_Piece_addPart_29 rfl (by decide) rfl ?_
  refine ev_dup d_Piece_addPart_30 (Nat.ne_of_beq_eq_false rfl) ?_
  refine ev_get (t := 5) (k := 7) (by decide) (by decide) rfl i_Piece (by decide) rfl rfl tw_92 d_Piece_addPart_31 hn_a0 ?_
  refine ev_iconst d_Piece_addPart_34 rfl ?_
  refine ev_iadd d_Piece_addPart_35 ?_
  obtain ⟨M3, hM3, h⟩ := ltx h
  refine ev_put' (t := 5) (k := 7) (by decide) (by decide) rfl i_Piece t_Piece_ok n_Piece (by decide) rfl rfl rfl rfl tw_92 d_Piece_addPart_36 hn_a0 hM3 ?_
  cases h
  exact ev_retV d_Piece_addPart_39 rfl
def f_Piece_addPart (M : Mm) (a0 : Int) (a1 : Int) : Option (Mm) :=
  if (mg M (cI a0) 7) < 10 then
  if a1 = 0 then
  j_Piece_addPart_29 M a0
  else
  lt (mp M (cI a0) 8 (bOr (mg M (cI a0) 8) (bShl 1 (mg M (cI a0) 7)))) (fun M4 =>
  j_Piece_addPart_29 M4 a0)
  else
  some M
theorem c_Piece_addPart {X : XX} {d : Nat} (hd : 0 ≤ d) {M : Mm} {a0 : Int} {a1 : Int} (hn_a0 : a0 ≠ 0) {p : Mm} (h : f_Piece_addPart M a0 a1 = some p) : Rn X d m_Piece_addPart [(5, a0), (0, a1)] M none p := by
  refine Rn_of (by decide) rfl (Nat.le_of_ble_eq_true rfl) ?_
  unfold f_Piece_addPart at h
  refine ev_less (L' := [(0, (5, a0)), (1, (0, a1))]) [0, 1] rfl ?_
  refine ev_aload_n 0 d_Piece_addPart_0 rfl (by decide) rfl ?_
  refine ev_get (t := 5) (k := 7) (by decide) (by decide) rfl i_Piece (by decide) rfl rfl tw_92 d_Piece_addPart_1 hn_a0 ?_
  refine ev_bipush d_Piece_addPart_4 rfl ?_
  by_cases hc1 : (mg M (cI a0) 7) < 10
  · replace h := itp hc1 h
    refine ev_icmp_lt_t (tgt := 10) d_Piece_addPart_6 (by decide) hc1 ?_
    refine ev_iload_n 1 d_Piece_addPart_10 rfl rfl ?_
    by_cases hc2 : a1 = 0
    · replace h := itp hc2 h
      refine ev_if_eq_t (tgt := 29) d_Piece_addPart_11 (by decide) hc2 ?_
      refine ev_less (L' := [(0, (5, a0))]) [0] rfl ?_
      exact cj_Piece_addPart_29 hd hn_a0 h
    · replace h := itn hc2 h
      refine ev_if_eq_f d_Piece_addPart_11 (by decide) hc2 ?_
      refine ev_aload_n 0 d_Piece_addPart_14 rfl (by decide) rfl ?_
      refine ev_dup d_Piece_addPart_15 (Nat.ne_of_beq_eq_false rfl) ?_
      refine ev_get (t := 5) (k := 8) (by decide) (by decide) rfl i_Piece (by decide) rfl rfl tw_97 d_Piece_addPart_16 hn_a0 ?_
      refine ev_iconst d_Piece_addPart_19 rfl ?_
      refine ev_aload_n 0 d_Piece_addPart_20 rfl (by decide) rfl ?_
      refine ev_get (t := 5) (k := 7) (by decide) (by decide) rfl i_Piece (by decide) rfl rfl tw_92 d_Piece_addPart_21 hn_a0 ?_
      refine ev_ishl d_Piece_addPart_24 ?_
      refine ev_ior d_Piece_addPart_25 ?_
      obtain ⟨M4, hM4, h⟩ := ltx h
      refine ev_put' (t := 5) (k := 8) (by decide) (by decide) rfl i_Piece t_Piece_ok n_Piece (by decide) rfl rfl rfl rfl tw_97 d_Piece_addPart_26 hn_a0 hM4 ?_
      refine ev_less (L' := [(0, (5, a0))]) [0] rfl ?_
      exact cj_Piece_addPart_29 hd hn_a0 h
  · replace h := itn hc1 h
    refine ev_icmp_lt_f d_Piece_addPart_6 (by decide) hc1 ?_
    cases h
    exact ev_retV d_Piece_addPart_9 rfl
def l_Piece_hasInstrument_2 (M : Mm) (a0 : Int) (a1 : Int) (a2 : Int) (s : Int) : Option ((Int) ⊕ ((Int) ⊕ (Unit))) :=
  if (mg M (cI a0) 0) ≠ 0 then
  if (0 : Int) ≤ a1 ∧ a1 < (ml M (cI (mg M (cI a0) 0)) : Int) then
  if (mg M (cI (mg M (cI a0) 0)) (a1 : Int).toNat) ≤ s then
  some (.inr (.inr ()))
  else
  (f_Piece_instrument M a0 a1 s).bind (fun p4 =>
  if p4 ≠ a2 then
  lt (w32 (s + 1)) (fun x6 : Int =>
  some (.inl x6))
  else
  some (.inr (.inl (1))))
  else none
  else none
theorem cs_l_Piece_hasInstrument_2 {X : XX} {d : Nat} (hd : 1 ≤ d) {M : Mm} {a0 : Int} {a1 : Int} {a2 : Int} (hn_a0 : a0 ≠ 0) {s : Int} {x : (Int) ⊕ ((Int) ⊕ (Unit))} {r : Option AV} {M' : Mm} (h : l_Piece_hasInstrument_2 M a0 a1 a2 s = some x) (hk1 : ∀ s : Int, x = .inl s → Ev X m_Piece_hasInstrument d 2 [(0, (5, a0)), (1, (0, a1)), (2, (0, a2)), (3, (0, s))] [] M r M') (hk2 : ∀ q : Int, x = .inr (.inl q) → r = some (0, q) ∧ M' = M) (hk3 : ∀ t : Unit, x = .inr (.inr t) → Ev X m_Piece_hasInstrument d 30 [] [] M r M') : Ev X m_Piece_hasInstrument d 2 [(0, (5, a0)), (1, (0, a1)), (2, (0, a2)), (3, (0, s))] [] M r M' := by
  unfold l_Piece_hasInstrument_2 at h
  refine ev_iload_n 3 d_Piece_hasInstrument_2 rfl rfl ?_
  refine ev_aload_n 0 d_Piece_hasInstrument_3 rfl (by decide) rfl ?_
  refine ev_get (t := 5) (k := 0) (by decide) (by decide) rfl i_Piece (by decide) rfl rfl tw_75 d_Piece_hasInstrument_4 hn_a0 ?_
  refine ev_iload_n 1 d_Piece_hasInstrument_7 rfl rfl ?_
  obtain ⟨hz1, h⟩ := gx h
  obtain ⟨hg2, h⟩ := gx h
  refine ev_iald d_Piece_hasInstrument_8 hz1 hg2 ?_
  by_cases hc3 : (mg M (cI (mg M (cI a0) 0)) (a1 : Int).toNat) ≤ s
  · replace h := itp hc3 h
    refine ev_icmp_ge_t (tgt := 30) d_Piece_hasInstrument_9 (by decide) hc3 ?_
    refine ev_less (L' := []) [] rfl ?_
    cases h
    exact hk3 _ rfl
  · replace h := itn hc3 h
    refine ev_icmp_ge_f d_Piece_hasInstrument_9 (by decide) hc3 ?_
    refine ev_aload_n 0 d_Piece_hasInstrument_12 rfl (by decide) rfl ?_
    refine ev_iload_n 1 d_Piece_hasInstrument_13 rfl rfl ?_
    refine ev_iload_n 3 d_Piece_hasInstrument_14 rfl rfl ?_
    obtain ⟨p4, hp4, h⟩ := bx h
    have hRp4 := c_Piece_instrument (X := X) (d := d - 1) (by omega) hn_a0 hp4
    refine ev_callV2 (st2 := [(0, p4)]) (as := [(0, a1), (0, s)]) (rest := []) rfl (by decide) (by decide) rfl hn_a0 rfl (Nat.le_of_ble_eq_true rfl) k_Piece_instrument ⟨tw_521, ts_19⟩ (by omega) tw_519 d_Piece_hasInstrument_15 hRp4 rfl ?_
    refine ev_iload_n 2 d_Piece_hasInstrument_18 rfl rfl ?_
    by_cases hc5 : p4 ≠ a2
    · replace h := itp hc5 h
      refine ev_icmp_ne_t (tgt := 24) d_Piece_hasInstrument_19 (by decide) hc5 ?_
      obtain ⟨x6, hx6, h⟩ := ltx h
      refine ev_iinc' 3 (y := x6) (L' := [(3, (0, x6)), (0, (5, a0)), (1, (0, a1)), (2, (0, a2))]) d_Piece_hasInstrument_24 rfl (by decide) rfl hx6 ?_
      refine ev_goto (tgt := 2) d_Piece_hasInstrument_27 (by decide) ?_
      refine ev_less (L' := [(0, (5, a0)), (1, (0, a1)), (2, (0, a2)), (3, (0, x6))]) [1, 2, 3, 0] rfl ?_
      cases h
      exact hk1 _ rfl
    · replace h := itn hc5 h
      refine ev_icmp_ne_f d_Piece_hasInstrument_19 (by decide) hc5 ?_
      refine ev_iconst d_Piece_hasInstrument_22 rfl ?_
      cases h
      obtain ⟨rfl, rfl⟩ := hk2 _ rfl
      exact ev_retZ d_Piece_hasInstrument_23 rfl (Or.inr rfl)
def f_Piece_hasInstrument (M : Mm) (a0 : Int) (a1 : Int) (a2 : Int) : Option (Int) :=
  (loopN (l_Piece_hasInstrument_2 M a0 a1 a2) FU 0).bind (fun t7 =>
  Sum.elim (fun q8 => some q8) (fun u9 =>
  some 0) t7)
theorem c_Piece_hasInstrument {X : XX} {d : Nat} (hd : 1 ≤ d) {M : Mm} {a0 : Int} {a1 : Int} {a2 : Int} (hn_a0 : a0 ≠ 0) {p : Int} (h : f_Piece_hasInstrument M a0 a1 a2 = some p) : Rn X d m_Piece_hasInstrument [(5, a0), (0, a1), (0, a2)] M (some (0, p)) M := by
  refine Rn_of (by decide) rfl (Nat.le_of_ble_eq_true rfl) ?_
  unfold f_Piece_hasInstrument at h
  refine ev_less (L' := [(0, (5, a0)), (1, (0, a1)), (2, (0, a2))]) [0, 1, 2] rfl ?_
  refine ev_iconst d_Piece_hasInstrument_0 rfl ?_
  refine ev_istore_n (L' := [(3, (0, 0)), (0, (5, a0)), (1, (0, a1)), (2, (0, a2))]) d_Piece_hasInstrument_1 rfl (by decide) rfl ?_
  obtain ⟨t7, ht7, h⟩ := bx h
  refine ev_less (L' := [(0, (5, a0)), (1, (0, a1)), (2, (0, a2)), (3, (0, 0))]) [1, 2, 3, 0] rfl ?_
  refine loop_ev (step := l_Piece_hasInstrument_2 M a0 a1 a2) (P := fun w : Int => Ev X m_Piece_hasInstrument d 2 [(0, (5, a0)), (1, (0, a1)), (2, (0, a2)), (3, (0, w))] [] M (some (0, p)) M) (Q := fun u => (∀ q, u = .inl q → (some (0, p)) = some (0, q) ∧ M = M) ∧ (∀ w, u = .inr w → Ev X m_Piece_hasInstrument d 30 [] [] M (some (0, p)) M)) (fun w x hs k1 k2 => cs_l_Piece_hasInstrument_2 hd hn_a0 hs k1 (fun q e => (k2 _ e).1 q rfl) (fun t e => (k2 _ e).2 t rfl)) FU 0 t7 ht7 ?_
  refine ⟨fun qq e => ?_, fun tt e => ?_⟩
  · subst e; replace h := sx1 h; (obtain ⟨q8, rfl⟩ : ∃ y, y = qq := ⟨_, rfl⟩)
    cases h
    exact ⟨rfl, rfl⟩
  · subst e; replace h := sx2 h; (obtain ⟨u9, rfl⟩ : ∃ y, y = tt := ⟨_, rfl⟩)
    refine ev_iconst d_Piece_hasInstrument_30 rfl ?_
    cases h
    exact ev_retZ d_Piece_hasInstrument_31 rfl (Or.inl rfl)
def f_Piece_addInstrument (M : Mm) (a0 : Int) (a1 : Int) (a2 : Int) : Option (Mm) :=
  if (mg M (cI a0) 0) ≠ 0 then
  if (0 : Int) ≤ a1 ∧ a1 < (ml M (cI (mg M (cI a0) 0)) : Int) then
  if (mg M (cI (mg M (cI a0) 0)) (a1 : Int).toNat) < 4 then
  if (mg M (cI a0) 1) ≠ 0 then
  if (0 : Int) ≤ (w32 ((w32 (a1 * 4)) + (mg M (cI (mg M (cI a0) 0)) (a1 : Int).toNat))) ∧ (w32 ((w32 (a1 * 4)) + (mg M (cI (mg M (cI a0) 0)) (a1 : Int).toNat))) < (ml M (cI (mg M (cI a0) 1)) : Int) then
  lt (mp M (cI (mg M (cI a0) 1)) ((w32 ((w32 (a1 * 4)) + (mg M (cI (mg M (cI a0) 0)) (a1 : Int).toNat))) : Int).toNat a2) (fun M6 =>
  if (mg M6 (cI a0) 0) ≠ 0 then
  if (0 : Int) ≤ a1 ∧ a1 < (ml M6 (cI (mg M6 (cI a0) 0)) : Int) then
  lt (mp M6 (cI (mg M6 (cI a0) 0)) (a1 : Int).toNat (w32 ((mg M6 (cI (mg M6 (cI a0) 0)) (a1 : Int).toNat) + 1))) (fun M9 =>
  some M9)
  else none
  else none)
  else none
  else none
  else
  some M
  else none
  else none
theorem c_Piece_addInstrument {X : XX} {d : Nat} (hd : 0 ≤ d) {M : Mm} {a0 : Int} {a1 : Int} {a2 : Int} (hn_a0 : a0 ≠ 0) {p : Mm} (h : f_Piece_addInstrument M a0 a1 a2 = some p) : Rn X d m_Piece_addInstrument [(5, a0), (0, a1), (0, a2)] M none p := by
  refine Rn_of (by decide) rfl (Nat.le_of_ble_eq_true rfl) ?_
  unfold f_Piece_addInstrument at h
  refine ev_less (L' := [(0, (5, a0)), (1, (0, a1)), (2, (0, a2))]) [0, 1, 2] rfl ?_
  refine ev_aload_n 0 d_Piece_addInstrument_0 rfl (by decide) rfl ?_
  refine ev_get (t := 5) (k := 0) (by decide) (by decide) rfl i_Piece (by decide) rfl rfl tw_75 d_Piece_addInstrument_1 hn_a0 ?_
  refine ev_iload_n 1 d_Piece_addInstrument_4 rfl rfl ?_
  obtain ⟨hz1, h⟩ := gx h
  obtain ⟨hg2, h⟩ := gx h
  refine ev_iald d_Piece_addInstrument_5 hz1 hg2 ?_
  refine ev_iconst d_Piece_addInstrument_6 rfl ?_
  by_cases hc3 : (mg M (cI (mg M (cI a0) 0)) (a1 : Int).toNat) < 4
  · replace h := itp hc3 h
    refine ev_icmp_lt_t (tgt := 11) d_Piece_addInstrument_7 (by decide) hc3 ?_
    refine ev_aload_n 0 d_Piece_addInstrument_11 rfl (by decide) rfl ?_
    refine ev_get (t := 5) (k := 1) (by decide) (by decide) rfl i_Piece (by decide) rfl rfl tw_77 d_Piece_addInstrument_12 hn_a0 ?_
    refine ev_iload_n 1 d_Piece_addInstrument_15 rfl rfl ?_
    refine ev_iconst d_Piece_addInstrument_16 rfl ?_
    refine ev_imul d_Piece_addInstrument_17 ?_
    refine ev_aload_n 0 d_Piece_addInstrument_18 rfl (by decide) rfl ?_
    refine ev_get (t := 5) (k := 0) (by decide) (by decide) rfl i_Piece (by decide) rfl rfl tw_75 d_Piece_addInstrument_19 hn_a0 ?_
    refine ev_iload_n 1 d_Piece_addInstrument_22 rfl rfl ?_
    refine ev_iald d_Piece_addInstrument_23 hz1 hg2 ?_
    refine ev_iadd d_Piece_addInstrument_24 ?_
    refine ev_iload_n 2 d_Piece_addInstrument_25 rfl rfl ?_
    obtain ⟨hz4, h⟩ := gx h
    obtain ⟨hg5, h⟩ := gx h
    obtain ⟨M6, hM6, h⟩ := ltx h
    refine ev_iast' d_Piece_addInstrument_26 hz4 hg5 hM6 ?_
    refine ev_aload_n 0 d_Piece_addInstrument_27 rfl (by decide) rfl ?_
    refine ev_get (t := 5) (k := 0) (by decide) (by decide) rfl i_Piece (by decide) rfl rfl tw_75 d_Piece_addInstrument_28 hn_a0 ?_
    refine ev_iload_n 1 d_Piece_addInstrument_31 rfl rfl ?_
    refine ev_dup2 d_Piece_addInstrument_32 (Nat.ne_of_beq_eq_false rfl) (Nat.ne_of_beq_eq_false rfl) ?_
    obtain ⟨hz7, h⟩ := gx h
    obtain ⟨hg8, h⟩ := gx h
    refine ev_iald d_Piece_addInstrument_33 hz7 hg8 ?_
    refine ev_iconst d_Piece_addInstrument_34 rfl ?_
    refine ev_iadd d_Piece_addInstrument_35 ?_
    obtain ⟨M9, hM9, h⟩ := ltx h
    refine ev_iast' d_Piece_addInstrument_36 hz7 hg8 hM9 ?_
    cases h
    exact ev_retV d_Piece_addInstrument_37 rfl
  · replace h := itn hc3 h
    refine ev_icmp_lt_f d_Piece_addInstrument_7 (by decide) hc3 ?_
    cases h
    exact ev_retV d_Piece_addInstrument_10 rfl
def j_Library_readInstrument_26 (M : Mm) (a0 : Int) (a1 : Int) (a2 : Int) : Option (Mm) :=
  (f_Library_readNumber M a0 0 9).bind (fun p2 =>
  (f_Piece_addInstrument p2.2 a1 a2 p2.1).bind (fun p3 =>
  some p3))
theorem cj_Library_readInstrument_26 {X : XX} {d : Nat} (hd : 2 ≤ d) {M : Mm} {a0 : Int} {a1 : Int} {a2 : Int} (hn_a0 : a0 ≠ 0) (hn_a1 : a1 ≠ 0) {p : Mm} (h : j_Library_readInstrument_26 M a0 a1 a2 = some p) : Ev X m_Library_readInstrument d 26 [(0, (10, a0)), (1, (5, a1)), (2, (0, a2))] [] M none p := by
  unfold j_Library_readInstrument_26 at h
  refine ev_aload_n 1 d_Library_readInstrument_26 rfl (by decide) rfl ?_
  refine ev_iload_n 2 d_Library_readInstrument_27 rfl rfl ?_
  refine ev_aload_n 0 d_Library_readInstrument_28 rfl (by decide) rfl ?_
  refine ev_iconst d_Library_readInstrument_29 rfl ?_
  refine ev_bipush d_Library_readInstrument_30 rfl ?_
  obtain ⟨p2, hp2, h⟩ := bx h
  have hRp2 := c_Library_readNumber (X := X) (d := d - 1) (by omega) hn_a0 hp2
  refine ev_callS2 (st2 := [(0, p2.1), (0, a2), (5, a1)]) (as := [(10, a0), (0, 0), (0, 9)]) (rest := [(0, a2), (5, a1)]) rfl rfl (Nat.le_of_ble_eq_true rfl) k_Library_readNumber tw_502 (by omega) tw_501 d_Library_readInstrument_32 hRp2 rfl ?_
  obtain ⟨p3, hp3, h⟩ := bx h
  have hRp3 := c_Piece_addInstrument (X := X) (d := d - 1) (by omega) hn_a1 hp3
  refine ev_callVN2 (host := "TownBand") (st2 := []) (as := [(0, a2), (0, p2.1)]) (rest := []) rfl (by decide) (by decide) rfl hn_a1 rfl (Nat.le_of_ble_eq_true rfl) k_Piece_addInstrument ⟨tw_525, ts_20⟩ (by omega) tw_523 d_Library_readInstrument_35 hRp3 rfl ?_
  cases h
  exact ev_retV d_Library_readInstrument_38 rfl
def f_Library_readInstrument (M : Mm) (a0 : Int) (a1 : Int) (a2 : Int) : Option (Mm) :=
  if (mg M (cI a0) 4) ≠ (-2) then
  j_Library_readInstrument_26 M a0 a1 a2
  else
  (f_Piece_hasInstrument M a1 a2 (mg M (cI a0) 6)).bind (fun p4 =>
  if p4 = 0 then
  j_Library_readInstrument_26 M a0 a1 a2
  else
  (f_Tape_fail M a0 3).bind (fun p6 =>
  j_Library_readInstrument_26 p6 a0 a1 a2))
theorem c_Library_readInstrument {X : XX} {d : Nat} (hd : 2 ≤ d) {M : Mm} {a0 : Int} {a1 : Int} {a2 : Int} (hn_a0 : a0 ≠ 0) (hn_a1 : a1 ≠ 0) {p : Mm} (h : f_Library_readInstrument M a0 a1 a2 = some p) : Rn X d m_Library_readInstrument [(10, a0), (5, a1), (0, a2)] M none p := by
  refine Rn_of (by decide) rfl (Nat.le_of_ble_eq_true rfl) ?_
  unfold f_Library_readInstrument at h
  refine ev_less (L' := [(0, (10, a0)), (1, (5, a1)), (2, (0, a2))]) [0, 1, 2] rfl ?_
  refine ev_aload_n 0 d_Library_readInstrument_0 rfl (by decide) rfl ?_
  refine ev_getN (host := "TownBand") (t := 10) (k := 4) (by decide) (by decide) rfl i_Tape (by decide) rfl rfl tw_142 d_Library_readInstrument_1 hn_a0 ?_
  refine ev_bipush d_Library_readInstrument_4 rfl ?_
  by_cases hc1 : (mg M (cI a0) 4) ≠ (-2)
  · replace h := itp hc1 h
    refine ev_icmp_ne_t (tgt := 26) d_Library_readInstrument_6 (by decide) hc1 ?_
    exact cj_Library_readInstrument_26 hd hn_a0 hn_a1 h
  · replace h := itn hc1 h
    refine ev_icmp_ne_f d_Library_readInstrument_6 (by decide) hc1 ?_
    refine ev_aload_n 1 d_Library_readInstrument_9 rfl (by decide) rfl ?_
    refine ev_iload_n 2 d_Library_readInstrument_10 rfl rfl ?_
    refine ev_aload_n 0 d_Library_readInstrument_11 rfl (by decide) rfl ?_
    refine ev_getN (host := "TownBand") (t := 10) (k := 6) (by decide) (by decide) rfl i_Tape (by decide) rfl rfl tw_144 d_Library_readInstrument_12 hn_a0 ?_
    obtain ⟨p4, hp4, h⟩ := bx h
    have hRp4 := c_Piece_hasInstrument (X := X) (d := d - 1) (by omega) hn_a1 hp4
    refine ev_callVN2 (host := "TownBand") (st2 := [(0, p4)]) (as := [(0, a2), (0, (mg M (cI a0) 6))]) (rest := []) rfl (by decide) (by decide) rfl hn_a1 rfl (Nat.le_of_ble_eq_true rfl) k_Piece_hasInstrument ⟨tw_517, ts_18⟩ (by omega) tw_515 d_Library_readInstrument_15 hRp4 rfl ?_
    by_cases hc5 : p4 = 0
    · replace h := itp hc5 h
      refine ev_if_eq_t (tgt := 26) d_Library_readInstrument_18 (by decide) hc5 ?_
      exact cj_Library_readInstrument_26 hd hn_a0 hn_a1 h
    · replace h := itn hc5 h
      refine ev_if_eq_f d_Library_readInstrument_18 (by decide) hc5 ?_
      refine ev_aload_n 0 d_Library_readInstrument_21 rfl (by decide) rfl ?_
      refine ev_iconst d_Library_readInstrument_22 rfl ?_
      obtain ⟨p6, hp6, h⟩ := bx h
      have hRp6 := c_Tape_fail (X := X) (d := d - 1) (by omega) hn_a0 hp6
      refine ev_callVN2 (host := "TownBand") (st2 := []) (as := [(0, 3)]) (rest := []) rfl (by decide) (by decide) rfl hn_a0 rfl (Nat.le_of_ble_eq_true rfl) k_Tape_fail ⟨tw_474, ts_12⟩ (by omega) tw_472 d_Library_readInstrument_23 hRp6 rfl ?_
      exact cj_Library_readInstrument_26 hd hn_a0 hn_a1 h
end
