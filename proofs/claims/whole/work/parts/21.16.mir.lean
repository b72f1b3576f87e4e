noncomputable section
def j_Law_law_302_18 (X : XX) (M : Mm) (a0 : Int) (z1 : Int) (z2 : Int) (z3 : Int) (y0 : Int) (y1 : Int) (y2 : Int) (y3 : Int) : Option ((Int × Mm) ⊕ (Int × Mm)) :=
  (f_Model_here M y2 y1 y0).bind (fun p44 =>
  if y3 = p44.1 then
  lt (w32 (z3 + 6)) (fun x46 : Int =>
  some (.inl (x46, p44.2)))
  else
  some (.inr ((0, p44.2))))
theorem cj_Law_law_302_18 {X : XX} {d : Nat} (hd : 85 ≤ d) (hX1 : X.1 < 2147483648) (hX2 : ∀ j, ok32 (X.2 j)) {M : Mm} {a0 : Int} {z1 : Int} {z2 : Int} {z3 : Int} {y0 : Int} {y1 : Int} {y2 : Int} {y3 : Int} (hn_z1 : z1 ≠ 0) (hn_z2 : z2 ≠ 0) (hn_y2 : y2 ≠ 0) {x : (Int × Mm) ⊕ (Int × Mm)} {r : Option AV} {M' : Mm} (h : j_Law_law_302_18 X M a0 z1 z2 z3 y0 y1 y2 y3 = some x) (hk1 : ∀ s : Int × Mm, x = .inl s → Ev X m_Law_law d 18 [(0, (17, a0)), (1, (11, z1)), (2, (12, z2)), (3, (0, s.1))] [] s.2 r M') (hk2 : ∀ q : Int × Mm, x = .inr q → r = some (0, q.1) ∧ M' = q.2) : Ev X m_Law_law d 302 [(0, (17, a0)), (1, (11, z1)), (2, (12, z2)), (3, (0, z3))] [(0, y0), (0, y1), (12, y2), (0, y3)] M r M' := by
  unfold j_Law_law_302_18 at h
  obtain ⟨p44, hp44, h⟩ := bx h
  have hRp44 := c_Model_here (X := X) (d := d - 1) (by omega) hn_y2 hp44
  refine ev_callV2 (st2 := [(0, p44.1), (0, y3)]) (as := [(0, y1), (0, y0)]) (rest := [(0, y3)]) rfl (by decide) (by decide) rfl hn_y2 rfl (Nat.le_of_ble_eq_true rfl) k_Model_here ⟨tw_1067, tw_1068⟩ (by omega) tw_1066 d_Law_law_302 hRp44 rfl ?_
  by_cases hc45 : y3 = p44.1
  · replace h := itp hc45 h
    refine ev_icmp_eq_t (tgt := 956) d_Law_law_305 (by decide) hc45 ?_
    obtain ⟨x46, hx46, h⟩ := ltx h
    refine ev_iinc' 3 (y := x46) (L' := [(3, (0, x46)), (0, (17, a0)), (1, (11, z1)), (2, (12, z2))]) d_Law_law_956 rfl (by decide) rfl hx46 ?_
    refine ev_goto (tgt := 18) d_Law_law_959 (by decide) ?_
    refine ev_less (L' := [(0, (17, a0)), (1, (11, z1)), (2, (12, z2)), (3, (0, x46))]) [1, 2, 3, 0] rfl ?_
    cases h
    exact hk1 _ rfl
  · replace h := itn hc45 h
    refine ev_icmp_eq_f d_Law_law_305 (by decide) hc45 ?_
    refine ev_iconst d_Law_law_308 rfl ?_
    cases h
    obtain ⟨rfl, rfl⟩ := hk2 _ rfl
    exact ev_retZ d_Law_law_309 rfl (Or.inl rfl)
def j_Law_law_280_18 (X : XX) (M : Mm) (a0 : Int) (z1 : Int) (z2 : Int) (z3 : Int) (y0 : Int) (y1 : Int) (y2 : Int) : Option ((Int × Mm) ⊕ (Int × Mm)) :=
  (f_Band_here M y2 y1 y0).bind (fun p40 =>
  if (0 : Int) ≤ (w32 (z3 + 1)) ∧ (w32 (z3 + 1)) < (X.1 : Int) then
  if (0 : Int) ≤ (w32 (z3 + 2)) ∧ (w32 (z3 + 2)) < (X.1 : Int) then
  if (X.2 ((w32 (z3 + 2)) : Int).toNat) = 0 then
  j_Law_law_302_18 X p40.2 a0 z1 z2 z3 0 ((X.2 ((w32 (z3 + 1)) : Int).toNat)) z2 p40.1
  else
  j_Law_law_302_18 X p40.2 a0 z1 z2 z3 1 ((X.2 ((w32 (z3 + 1)) : Int).toNat)) z2 p40.1
  else none
  else none)
theorem cj_Law_law_280_18 {X : XX} {d : Nat} (hd : 85 ≤ d) (hX1 : X.1 < 2147483648) (hX2 : ∀ j, ok32 (X.2 j)) {M : Mm} {a0 : Int} {z1 : Int} {z2 : Int} {z3 : Int} {y0 : Int} {y1 : Int} {y2 : Int} (hn_z1 : z1 ≠ 0) (hn_z2 : z2 ≠ 0) (hn_y2 : y2 ≠ 0) {x : (Int × Mm) ⊕ (Int × Mm)} {r : Option AV} {M' : Mm} (h : j_Law_law_280_18 X M a0 z1 z2 z3 y0 y1 y2 = some x) (hk1 : ∀ s : Int × Mm, x = .inl s → Ev X m_Law_law d 18 [(0, (17, a0)), (1, (11, z1)), (2, (12, z2)), (3, (0, s.1))] [] s.2 r M') (hk2 : ∀ q : Int × Mm, x = .inr q → r = some (0, q.1) ∧ M' = q.2) : Ev X m_Law_law d 280 [(0, (17, a0)), (1, (11, z1)), (2, (12, z2)), (3, (0, z3))] [(0, y0), (0, y1), (11, y2)] M r M' := by
  unfold j_Law_law_280_18 at h
  obtain ⟨p40, hp40, h⟩ := bx h
  have hRp40 := c_Band_here (X := X) (d := d - 1) (by omega) hn_y2 hp40
  refine ev_callV2 (st2 := [(0, p40.1)]) (as := [(0, y1), (0, y0)]) (rest := []) rfl (by decide) (by decide) rfl hn_y2 rfl (Nat.le_of_ble_eq_true rfl) k_Band_here ⟨tw_376, tw_377⟩ (by omega) tw_375 d_Law_law_280 hRp40 rfl ?_
  refine ev_aload_n 2 d_Law_law_283 rfl (by decide) rfl ?_
  refine ev_aload_n 0 d_Law_law_284 rfl (by decide) rfl ?_
  refine ev_iload_n 3 d_Law_law_285 rfl rfl ?_
  refine ev_iconst d_Law_law_286 rfl ?_
  refine ev_iadd d_Law_law_287 ?_
  obtain ⟨hg41, h⟩ := gx h
  refine ev_sld hX2 d_Law_law_288 hg41 ?_
  refine ev_aload_n 0 d_Law_law_289 rfl (by decide) rfl ?_
  refine ev_iload_n 3 d_Law_law_290 rfl rfl ?_
  refine ev_iconst d_Law_law_291 rfl ?_
  refine ev_iadd d_Law_law_292 ?_
  obtain ⟨hg42, h⟩ := gx h
  refine ev_sld hX2 d_Law_law_293 hg42 ?_
  by_cases hc43 : (X.2 ((w32 (z3 + 2)) : Int).toNat) = 0
  · replace h := itp hc43 h
    refine ev_if_eq_t (tgt := 301) d_Law_law_294 (by decide) hc43 ?_
    refine ev_iconst d_Law_law_301 rfl ?_
    exact cj_Law_law_302_18 hd hX1 hX2 hn_z1 hn_z2 hn_z2 h hk1 hk2
  · replace h := itn hc43 h
    refine ev_if_eq_f d_Law_law_294 (by decide) hc43 ?_
    refine ev_iconst d_Law_law_297 rfl ?_
    refine ev_goto (tgt := 302) d_Law_law_298 (by decide) ?_
    exact cj_Law_law_302_18 hd hX1 hX2 hn_z1 hn_z2 hn_z2 h hk1 hk2
def l_Law_law_18 (X : XX) (a0 : Int) (z1 : Int) (z2 : Int) (s : Int × Mm) : Option ((Int × Mm) ⊕ (Int × Mm)) :=
  if (w32 ((X.1 : Int) - 6)) < s.1 then
  some (.inr ((1, s.2)))
  else
  if (0 : Int) ≤ s.1 ∧ s.1 < (X.1 : Int) then
  if (bAnd (X.2 (s.1 : Int).toNat) 31) = 0 then
  if (0 : Int) ≤ (w32 (s.1 + 1)) ∧ (w32 (s.1 + 1)) < (X.1 : Int) then
  if (0 : Int) ≤ (w32 (s.1 + 2)) ∧ (w32 (s.1 + 2)) < (X.1 : Int) then
  (f_Band_player s.2 z1 (X.2 ((w32 (s.1 + 1)) : Int).toNat) (X.2 ((w32 (s.1 + 2)) : Int).toNat)).bind (fun p12 =>
  if (0 : Int) ≤ (w32 (s.1 + 1)) ∧ (w32 (s.1 + 1)) < (X.1 : Int) then
  if (0 : Int) ≤ (w32 (s.1 + 2)) ∧ (w32 (s.1 + 2)) < (X.1 : Int) then
  (f_Model_player p12.2 z2 (X.2 ((w32 (s.1 + 1)) : Int).toNat) (X.2 ((w32 (s.1 + 2)) : Int).toNat)).bind (fun p15 =>
  if p12.1 = p15.1 then
  lt (w32 (s.1 + 6)) (fun x17 : Int =>
  some (.inl (x17, p15.2)))
  else
  some (.inr ((0, p15.2))))
  else none
  else none)
  else none
  else none
  else
  if (bAnd (X.2 (s.1 : Int).toNat) 31) = 1 then
  if (0 : Int) ≤ (w32 (s.1 + 1)) ∧ (w32 (s.1 + 1)) < (X.1 : Int) then
  if (0 : Int) ≤ (w32 (s.1 + 2)) ∧ (w32 (s.1 + 2)) < (X.1 : Int) then
  if (0 : Int) ≤ (w32 (s.1 + 3)) ∧ (w32 (s.1 + 3)) < (X.1 : Int) then
  (f_Band_plays s.2 z1 (X.2 ((w32 (s.1 + 1)) : Int).toNat) (X.2 ((w32 (s.1 + 2)) : Int).toNat) (X.2 ((w32 (s.1 + 3)) : Int).toNat)).bind (fun p22 =>
  if (0 : Int) ≤ (w32 (s.1 + 1)) ∧ (w32 (s.1 + 1)) < (X.1 : Int) then
  if (0 : Int) ≤ (w32 (s.1 + 2)) ∧ (w32 (s.1 + 2)) < (X.1 : Int) then
  if (0 : Int) ≤ (w32 (s.1 + 3)) ∧ (w32 (s.1 + 3)) < (X.1 : Int) then
  (f_Model_plays p22.2 z2 (X.2 ((w32 (s.1 + 1)) : Int).toNat) (X.2 ((w32 (s.1 + 2)) : Int).toNat) (X.2 ((w32 (s.1 + 3)) : Int).toNat)).bind (fun p26 =>
  if p22.1 = p26.1 then
  lt (w32 (s.1 + 6)) (fun x28 : Int =>
  some (.inl (x28, p26.2)))
  else
  some (.inr ((0, p26.2))))
  else none
  else none
  else none)
  else none
  else none
  else none
  else
  if (bAnd (X.2 (s.1 : Int).toNat) 31) = 2 then
  if (0 : Int) ≤ (w32 (s.1 + 1)) ∧ (w32 (s.1 + 1)) < (X.1 : Int) then
  if (0 : Int) ≤ (w32 (s.1 + 2)) ∧ (w32 (s.1 + 2)) < (X.1 : Int) then
  (f_Band_cost s.2 z1 (X.2 ((w32 (s.1 + 1)) : Int).toNat) (X.2 ((w32 (s.1 + 2)) : Int).toNat)).bind (fun p32 =>
  (f_Model_cost s.2 z2 (X.2 ((w32 (s.1 + 1)) : Int).toNat) (X.2 ((w32 (s.1 + 2)) : Int).toNat)).bind (fun p33 =>
  if p32 = p33.1 then
  lt (w32 (s.1 + 6)) (fun x35 : Int =>
  some (.inl (x35, p33.2)))
  else
  some (.inr ((0, p33.2)))))
  else none
  else none
  else
  if (bAnd (X.2 (s.1 : Int).toNat) 31) = 3 then
  if (0 : Int) ≤ (w32 (s.1 + 1)) ∧ (w32 (s.1 + 1)) < (X.1 : Int) then
  if (0 : Int) ≤ (w32 (s.1 + 2)) ∧ (w32 (s.1 + 2)) < (X.1 : Int) then
  if (X.2 ((w32 (s.1 + 2)) : Int).toNat) = 0 then
  j_Law_law_280_18 X s.2 a0 z1 z2 s.1 0 ((X.2 ((w32 (s.1 + 1)) : Int).toNat)) z1
  else
  j_Law_law_280_18 X s.2 a0 z1 z2 s.1 1 ((X.2 ((w32 (s.1 + 1)) : Int).toNat)) z1
  else none
  else none
  else
  if (bAnd (X.2 (s.1 : Int).toNat) 31) = 4 then
  if (0 : Int) ≤ (w32 (s.1 + 1)) ∧ (w32 (s.1 + 1)) < (X.1 : Int) then
  if (0 : Int) ≤ (w32 (s.1 + 2)) ∧ (w32 (s.1 + 2)) < (X.1 : Int) then
  if (0 : Int) ≤ (w32 (s.1 + 3)) ∧ (w32 (s.1 + 3)) < (X.1 : Int) then
  if (0 : Int) ≤ (w32 (s.1 + 4)) ∧ (w32 (s.1 + 4)) < (X.1 : Int) then
  if (0 : Int) ≤ (w32 (s.1 + 5)) ∧ (w32 (s.1 + 5)) < (X.1 : Int) then
  (f_Band_feed s.2 z1 (X.2 ((w32 (s.1 + 1)) : Int).toNat) (X.2 ((w32 (s.1 + 2)) : Int).toNat) (X.2 ((w32 (s.1 + 3)) : Int).toNat) (X.2 ((w32 (s.1 + 4)) : Int).toNat) (X.2 ((w32 (s.1 + 5)) : Int).toNat)).bind (fun p53 =>
  if (0 : Int) ≤ (w32 (s.1 + 1)) ∧ (w32 (s.1 + 1)) < (X.1 : Int) then
  if (0 : Int) ≤ (w32 (s.1 + 2)) ∧ (w32 (s.1 + 2)) < (X.1 : Int) then
  if (0 : Int) ≤ (w32 (s.1 + 3)) ∧ (w32 (s.1 + 3)) < (X.1 : Int) then
  if (0 : Int) ≤ (w32 (s.1 + 4)) ∧ (w32 (s.1 + 4)) < (X.1 : Int) then
  if (0 : Int) ≤ (w32 (s.1 + 5)) ∧ (w32 (s.1 + 5)) < (X.1 : Int) then
  (f_Model_feed p53.2 z2 (X.2 ((w32 (s.1 + 1)) : Int).toNat) (X.2 ((w32 (s.1 + 2)) : Int).toNat) (X.2 ((w32 (s.1 + 3)) : Int).toNat) (X.2 ((w32 (s.1 + 4)) : Int).toNat) (X.2 ((w32 (s.1 + 5)) : Int).toNat)).bind (fun p59 =>
  if p53.1 = p59.1 then
  lt (w32 (s.1 + 6)) (fun x61 : Int =>
  some (.inl (x61, p59.2)))
  else
  some (.inr ((0, p59.2))))
  else none
  else none
  else none
  else none
  else none)
  else none
  else none
  else none
  else none
  else none
  else
  if (bAnd (X.2 (s.1 : Int).toNat) 31) = 5 then
  if (0 : Int) ≤ (w32 (s.1 + 1)) ∧ (w32 (s.1 + 1)) < (X.1 : Int) then
  (f_Band_end s.2 z1 (X.2 ((w32 (s.1 + 1)) : Int).toNat)).bind (fun p64 =>
  if (0 : Int) ≤ (w32 (s.1 + 1)) ∧ (w32 (s.1 + 1)) < (X.1 : Int) then
  (f_Model_end p64.2 z2 (X.2 ((w32 (s.1 + 1)) : Int).toNat)).bind (fun p66 =>
  if p64.1 = p66.1 then
  lt (w32 (s.1 + 6)) (fun x68 : Int =>
  some (.inl (x68, p66.2)))
  else
  some (.inr ((0, p66.2))))
  else none)
  else none
  else
  if (bAnd (X.2 (s.1 : Int).toNat) 31) = 6 then
  (f_Band_load s.2 z1).bind (fun p70 =>
  (f_Model_load p70.2 z2).bind (fun p71 =>
  if p70.1 = p71.1 then
  lt (w32 (s.1 + 6)) (fun x73 : Int =>
  some (.inl (x73, p71.2)))
  else
  some (.inr ((0, p71.2)))))
  else
  if (bAnd (X.2 (s.1 : Int).toNat) 31) = 7 then
  (f_Band_rule s.2 z1).bind (fun p75 =>
  (f_Model_rule p75.2 z2).bind (fun p76 =>
  if p75.1 = p76.1 then
  lt (w32 (s.1 + 6)) (fun x78 : Int =>
  some (.inl (x78, p76.2)))
  else
  some (.inr ((0, p76.2)))))
  else
  if (bAnd (X.2 (s.1 : Int).toNat) 31) = 8 then
  if (0 : Int) ≤ (w32 (s.1 + 1)) ∧ (w32 (s.1 + 1)) < (X.1 : Int) then
  (f_Band_fault s.2 z1 (X.2 ((w32 (s.1 + 1)) : Int).toNat)).bind (fun p81 =>
  (f_Model_fault s.2 z2 (X.2 ((w32 (s.1 + 1)) : Int).toNat)).bind (fun p82 =>
  if p81 = p82.1 then
  lt (w32 (s.1 + 6)) (fun x84 : Int =>
  some (.inl (x84, p82.2)))
  else
  some (.inr ((0, p82.2)))))
  else none
  else
  if (bAnd (X.2 (s.1 : Int).toNat) 31) = 9 then
  if (0 : Int) ≤ (w32 (s.1 + 1)) ∧ (w32 (s.1 + 1)) < (X.1 : Int) then
  if (0 : Int) ≤ (w32 (s.1 + 2)) ∧ (w32 (s.1 + 2)) < (X.1 : Int) then
  (f_Band_piece s.2 z1 (X.2 ((w32 (s.1 + 1)) : Int).toNat) (X.2 ((w32 (s.1 + 2)) : Int).toNat)).bind (fun p88 =>
  (f_Model_piece s.2 z2 (X.2 ((w32 (s.1 + 1)) : Int).toNat) (X.2 ((w32 (s.1 + 2)) : Int).toNat)).bind (fun p89 =>
  if p88 = p89.1 then
  lt (w32 (s.1 + 6)) (fun x91 : Int =>
  some (.inl (x91, p89.2)))
  else
  some (.inr ((0, p89.2)))))
  else none
  else none
  else
  if (bAnd (X.2 (s.1 : Int).toNat) 31) = 10 then
  if (0 : Int) ≤ (w32 (s.1 + 1)) ∧ (w32 (s.1 + 1)) < (X.1 : Int) then
  (f_Band_playable s.2 z1 (X.2 ((w32 (s.1 + 1)) : Int).toNat)).bind (fun p94 =>
  if (0 : Int) ≤ (w32 (s.1 + 1)) ∧ (w32 (s.1 + 1)) < (X.1 : Int) then
  (f_Model_playable p94.2 z2 (X.2 ((w32 (s.1 + 1)) : Int).toNat)).bind (fun p96 =>
  if p94.1 = p96.1 then
  lt (w32 (s.1 + 6)) (fun x98 : Int =>
  some (.inl (x98, p96.2)))
  else
  some (.inr ((0, p96.2))))
  else none)
  else none
  else
  if (bAnd (X.2 (s.1 : Int).toNat) 31) = 11 then
  if (0 : Int) ≤ (w32 (s.1 + 1)) ∧ (w32 (s.1 + 1)) < (X.1 : Int) then
  (f_Band_lacks s.2 z1 (X.2 ((w32 (s.1 + 1)) : Int).toNat)).bind (fun p101 =>
  if (0 : Int) ≤ (w32 (s.1 + 1)) ∧ (w32 (s.1 + 1)) < (X.1 : Int) then
  (f_Model_lacks p101.2 z2 (X.2 ((w32 (s.1 + 1)) : Int).toNat)).bind (fun p103 =>
  if p101.1 = p103.1 then
  lt (w32 (s.1 + 6)) (fun x105 : Int =>
  some (.inl (x105, p103.2)))
  else
  some (.inr ((0, p103.2))))
  else none)
  else none
  else
  if (bAnd (X.2 (s.1 : Int).toNat) 31) = 12 then
  if (0 : Int) ≤ (w32 (s.1 + 1)) ∧ (w32 (s.1 + 1)) < (X.1 : Int) then
  (f_Band_seat s.2 z1 (X.2 ((w32 (s.1 + 1)) : Int).toNat)).bind (fun p108 =>
  if (0 : Int) ≤ (w32 (s.1 + 1)) ∧ (w32 (s.1 + 1)) < (X.1 : Int) then
  (f_Model_seat p108.2 z2 (X.2 ((w32 (s.1 + 1)) : Int).toNat)).bind (fun p110 =>
  if p108.1 = p110.1 then
  lt (w32 (s.1 + 6)) (fun x112 : Int =>
  some (.inl (x112, p110.2)))
  else
  some (.inr ((0, p110.2))))
  else none)
  else none
  else
  if (bAnd (X.2 (s.1 : Int).toNat) 31) = 13 then
  if (0 : Int) ≤ (w32 (s.1 + 1)) ∧ (w32 (s.1 + 1)) < (X.1 : Int) then
  (f_Band_again s.2 z1 (X.2 ((w32 (s.1 + 1)) : Int).toNat)).bind (fun p115 =>
  if (0 : Int) ≤ (w32 (s.1 + 1)) ∧ (w32 (s.1 + 1)) < (X.1 : Int) then
  (f_Model_again p115.2 z2 (X.2 ((w32 (s.1 + 1)) : Int).toNat)).bind (fun p117 =>
  if p115.1 = p117.1 then
  lt (w32 (s.1 + 6)) (fun x119 : Int =>
  some (.inl (x119, p117.2)))
  else
  some (.inr ((0, p117.2))))
  else none)
  else none
  else
  if (bAnd (X.2 (s.1 : Int).toNat) 31) = 14 then
  if (0 : Int) ≤ (w32 (s.1 + 1)) ∧ (w32 (s.1 + 1)) < (X.1 : Int) then
  if (0 : Int) ≤ (w32 (s.1 + 2)) ∧ (w32 (s.1 + 2)) < (X.1 : Int) then
  (f_Band_chair s.2 z1 (X.2 ((w32 (s.1 + 1)) : Int).toNat) (X.2 ((w32 (s.1 + 2)) : Int).toNat)).bind (fun p123 =>
  (f_Model_chair s.2 z2 (X.2 ((w32 (s.1 + 1)) : Int).toNat) (X.2 ((w32 (s.1 + 2)) : Int).toNat)).bind (fun p124 =>
  if p123 = p124.1 then
  lt (w32 (s.1 + 6)) (fun x126 : Int =>
  some (.inl (x126, p124.2)))
  else
  some (.inr ((0, p124.2)))))
  else none
  else none
  else
  if (bAnd (X.2 (s.1 : Int).toNat) 31) = 15 then
  if (0 : Int) ≤ (w32 (s.1 + 1)) ∧ (w32 (s.1 + 1)) < (X.1 : Int) then
  if (0 : Int) ≤ (w32 (s.1 + 2)) ∧ (w32 (s.1 + 2)) < (X.1 : Int) then
  if (0 : Int) ≤ (w32 (s.1 + 3)) ∧ (w32 (s.1 + 3)) < (X.1 : Int) then
  (f_Band_sit s.2 z1 (X.2 ((w32 (s.1 + 1)) : Int).toNat) (X.2 ((w32 (s.1 + 2)) : Int).toNat) (X.2 ((w32 (s.1 + 3)) : Int).toNat)).bind (fun p131 =>
  if (0 : Int) ≤ (w32 (s.1 + 1)) ∧ (w32 (s.1 + 1)) < (X.1 : Int) then
  if (0 : Int) ≤ (w32 (s.1 + 2)) ∧ (w32 (s.1 + 2)) < (X.1 : Int) then
  if (0 : Int) ≤ (w32 (s.1 + 3)) ∧ (w32 (s.1 + 3)) < (X.1 : Int) then
  (f_Model_sit p131.2 z2 (X.2 ((w32 (s.1 + 1)) : Int).toNat) (X.2 ((w32 (s.1 + 2)) : Int).toNat) (X.2 ((w32 (s.1 + 3)) : Int).toNat)).bind (fun p135 =>
  if p131.1 = p135.1 then
  lt (w32 (s.1 + 6)) (fun x137 : Int =>
  some (.inl (x137, p135.2)))
  else
  some (.inr ((0, p135.2))))
  else none
  else none
  else none)
  else none
  else none
  else none
  else
  if (bAnd (X.2 (s.1 : Int).toNat) 31) = 16 then
  if (0 : Int) ≤ (w32 (s.1 + 1)) ∧ (w32 (s.1 + 1)) < (X.1 : Int) then
  if (0 : Int) ≤ (w32 (s.1 + 2)) ∧ (w32 (s.1 + 2)) < (X.1 : Int) then
  (f_Band_seating s.2 z1 (X.2 ((w32 (s.1 + 1)) : Int).toNat) (X.2 ((w32 (s.1 + 2)) : Int).toNat)).bind (fun p141 =>
  (f_Model_seating s.2 z2 (X.2 ((w32 (s.1 + 1)) : Int).toNat) (X.2 ((w32 (s.1 + 2)) : Int).toNat)).bind (fun p142 =>
  if p141 = p142.1 then
  lt (w32 (s.1 + 6)) (fun x144 : Int =>
  some (.inl (x144, p142.2)))
  else
  some (.inr ((0, p142.2)))))
  else none
  else none
  else
  if (bAnd (X.2 (s.1 : Int).toNat) 31) = 17 then
  if (0 : Int) ≤ (w32 (s.1 + 1)) ∧ (w32 (s.1 + 1)) < (X.1 : Int) then
  if (0 : Int) ≤ (w32 (s.1 + 2)) ∧ (w32 (s.1 + 2)) < (X.1 : Int) then
  (f_Band_programme s.2 z1 (X.2 ((w32 (s.1 + 1)) : Int).toNat) (X.2 ((w32 (s.1 + 2)) : Int).toNat)).bind (fun p148 =>
  if (0 : Int) ≤ (w32 (s.1 + 1)) ∧ (w32 (s.1 + 1)) < (X.1 : Int) then
  if (0 : Int) ≤ (w32 (s.1 + 2)) ∧ (w32 (s.1 + 2)) < (X.1 : Int) then
  (f_Model_programme p148.2 z2 (X.2 ((w32 (s.1 + 1)) : Int).toNat) (X.2 ((w32 (s.1 + 2)) : Int).toNat)).bind (fun p151 =>
  if p148.1 = p151.1 then
  lt (w32 (s.1 + 6)) (fun x153 : Int =>
  some (.inl (x153, p151.2)))
  else
  some (.inr ((0, p151.2))))
  else none
  else none)
  else none
  else none
  else
  if (bAnd (X.2 (s.1 : Int).toNat) 31) = 18 then
  if (0 : Int) ≤ (w32 (s.1 + 1)) ∧ (w32 (s.1 + 1)) < (X.1 : Int) then
  (f_Band_plan s.2 z1 (X.2 ((w32 (s.1 + 1)) : Int).toNat)).bind (fun p156 =>
  (f_Model_plan s.2 z2 (X.2 ((w32 (s.1 + 1)) : Int).toNat)).bind (fun p157 =>
  if p156 = p157.1 then
  lt (w32 (s.1 + 6)) (fun x159 : Int =>
  some (.inl (x159, p157.2)))
  else
  some (.inr ((0, p157.2)))))
  else none
  else
  if (bAnd (X.2 (s.1 : Int).toNat) 31) = 19 then
  (f_Band_strain s.2 z1).bind (fun p161 =>
  (f_Model_strain s.2 z2).bind (fun p162 =>
  if p161 = p162.1 then
  lt (w32 (s.1 + 6)) (fun x164 : Int =>
  some (.inl (x164, p162.2)))
  else
  some (.inr ((0, p162.2)))))
  else
  if (bAnd (X.2 (s.1 : Int).toNat) 31) = 20 then
  if (0 : Int) ≤ (w32 (s.1 + 1)) ∧ (w32 (s.1 + 1)) < (X.1 : Int) then
  if (0 : Int) ≤ (w32 (s.1 + 2)) ∧ (w32 (s.1 + 2)) < (X.1 : Int) then
  if (0 : Int) ≤ (w32 (s.1 + 3)) ∧ (w32 (s.1 + 3)) < (X.1 : Int) then
  (f_Band_tell s.2 z1 (X.2 ((w32 (s.1 + 1)) : Int).toNat) (X.2 ((w32 (s.1 + 2)) : Int).toNat) (X.2 ((w32 (s.1 + 3)) : Int).toNat)).bind (fun p169 =>
  if (0 : Int) ≤ (w32 (s.1 + 1)) ∧ (w32 (s.1 + 1)) < (X.1 : Int) then
  if (0 : Int) ≤ (w32 (s.1 + 2)) ∧ (w32 (s.1 + 2)) < (X.1 : Int) then
  if (0 : Int) ≤ (w32 (s.1 + 3)) ∧ (w32 (s.1 + 3)) < (X.1 : Int) then
  (f_Model_tell p169.2 z2 (X.2 ((w32 (s.1 + 1)) : Int).toNat) (X.2 ((w32 (s.1 + 2)) : Int).toNat) (X.2 ((w32 (s.1 + 3)) : Int).toNat)).bind (fun p173 =>
  if p169.1 = p173.1 then
  lt (w32 (s.1 + 6)) (fun x175 : Int =>
  some (.inl (x175, p173.2)))
  else
  some (.inr ((0, p173.2))))
  else none
  else none
  else none)
  else none
  else none
  else none
  else
  if (bAnd (X.2 (s.1 : Int).toNat) 31) = 21 then
  if (0 : Int) ≤ (w32 (s.1 + 1)) ∧ (w32 (s.1 + 1)) < (X.1 : Int) then
  if (0 : Int) ≤ (w32 (s.1 + 2)) ∧ (w32 (s.1 + 2)) < (X.1 : Int) then
  if (0 : Int) ≤ (w32 (s.1 + 3)) ∧ (w32 (s.1 + 3)) < (X.1 : Int) then
  (f_Band_where s.2 z1 (X.2 ((w32 (s.1 + 1)) : Int).toNat) (X.2 ((w32 (s.1 + 2)) : Int).toNat) (X.2 ((w32 (s.1 + 3)) : Int).toNat)).bind (fun p180 =>
  if (0 : Int) ≤ (w32 (s.1 + 1)) ∧ (w32 (s.1 + 1)) < (X.1 : Int) then
  if (0 : Int) ≤ (w32 (s.1 + 2)) ∧ (w32 (s.1 + 2)) < (X.1 : Int) then
  if (0 : Int) ≤ (w32 (s.1 + 3)) ∧ (w32 (s.1 + 3)) < (X.1 : Int) then
  (f_Model_where p180.2 z2 (X.2 ((w32 (s.1 + 1)) : Int).toNat) (X.2 ((w32 (s.1 + 2)) : Int).toNat) (X.2 ((w32 (s.1 + 3)) : Int).toNat)).bind (fun p184 =>
  if p180.1 = p184.1 then
  lt (w32 (s.1 + 6)) (fun x186 : Int =>
  some (.inl (x186, p184.2)))
  else
  some (.inr ((0, p184.2))))
  else none
  else none
  else none)
  else none
  else none
  else none
  else
  if (bAnd (X.2 (s.1 : Int).toNat) 31) = 22 then
  if (0 : Int) ≤ (w32 (s.1 + 1)) ∧ (w32 (s.1 + 1)) < (X.1 : Int) then
  if (0 : Int) ≤ (w32 (s.1 + 2)) ∧ (w32 (s.1 + 2)) < (X.1 : Int) then
  if (0 : Int) ≤ (w32 (s.1 + 3)) ∧ (w32 (s.1 + 3)) < (X.1 : Int) then
  (f_Band_copies s.2 z1 (X.2 ((w32 (s.1 + 1)) : Int).toNat) (X.2 ((w32 (s.1 + 2)) : Int).toNat) (X.2 ((w32 (s.1 + 3)) : Int).toNat)).bind (fun p191 =>
  if (0 : Int) ≤ (w32 (s.1 + 1)) ∧ (w32 (s.1 + 1)) < (X.1 : Int) then
  if (0 : Int) ≤ (w32 (s.1 + 2)) ∧ (w32 (s.1 + 2)) < (X.1 : Int) then
  if (0 : Int) ≤ (w32 (s.1 + 3)) ∧ (w32 (s.1 + 3)) < (X.1 : Int) then
  (f_Model_copies p191.2 z2 (X.2 ((w32 (s.1 + 1)) : Int).toNat) (X.2 ((w32 (s.1 + 2)) : Int).toNat) (X.2 ((w32 (s.1 + 3)) : Int).toNat)).bind (fun p195 =>
  if p191.1 = p195.1 then
  lt (w32 (s.1 + 6)) (fun x197 : Int =>
  some (.inl (x197, p195.2)))
  else
  some (.inr ((0, p195.2))))
  else none
  else none
  else none)
  else none
  else none
  else none
  else
  if (bAnd (X.2 (s.1 : Int).toNat) 31) = 23 then
  if (0 : Int) ≤ (w32 (s.1 + 1)) ∧ (w32 (s.1 + 1)) < (X.1 : Int) then
  (f_Band_contest s.2 z1 (X.2 ((w32 (s.1 + 1)) : Int).toNat)).bind (fun p200 =>
  if (0 : Int) ≤ (w32 (s.1 + 1)) ∧ (w32 (s.1 + 1)) < (X.1 : Int) then
  (f_Model_contest p200.2 z2 (X.2 ((w32 (s.1 + 1)) : Int).toNat)).bind (fun p202 =>
  if p200.1 = p202.1 then
  lt (w32 (s.1 + 6)) (fun x204 : Int =>
  some (.inl (x204, p202.2)))
  else
  some (.inr ((0, p202.2))))
  else none)
  else none
  else
  if (bAnd (X.2 (s.1 : Int).toNat) 31) = 24 then
  if (0 : Int) ≤ (w32 (s.1 + 1)) ∧ (w32 (s.1 + 1)) < (X.1 : Int) then
  if (0 : Int) ≤ (w32 (s.1 + 2)) ∧ (w32 (s.1 + 2)) < (X.1 : Int) then
  (f_Band_may s.2 z1 (X.2 ((w32 (s.1 + 1)) : Int).toNat) (X.2 ((w32 (s.1 + 2)) : Int).toNat)).bind (fun p208 =>
  if (0 : Int) ≤ (w32 (s.1 + 1)) ∧ (w32 (s.1 + 1)) < (X.1 : Int) then
  if (0 : Int) ≤ (w32 (s.1 + 2)) ∧ (w32 (s.1 + 2)) < (X.1 : Int) then
  (f_Model_may p208.2 z2 (X.2 ((w32 (s.1 + 1)) : Int).toNat) (X.2 ((w32 (s.1 + 2)) : Int).toNat)).bind (fun p211 =>
  if p208.1 = p211.1 then
  lt (w32 (s.1 + 6)) (fun x213 : Int =>
  some (.inl (x213, p211.2)))
  else
  some (.inr ((0, p211.2))))
  else none
  else none)
  else none
  else none
  else
  if (bAnd (X.2 (s.1 : Int).toNat) 31) = 25 then
  if (0 : Int) ≤ (w32 (s.1 + 1)) ∧ (w32 (s.1 + 1)) < (X.1 : Int) then
  (f_Band_count s.2 z1 (X.2 ((w32 (s.1 + 1)) : Int).toNat)).bind (fun p216 =>
  if (0 : Int) ≤ (w32 (s.1 + 1)) ∧ (w32 (s.1 + 1)) < (X.1 : Int) then
  (f_Model_count p216.2 z2 (X.2 ((w32 (s.1 + 1)) : Int).toNat)).bind (fun p218 =>
  if p216.1 = p218.1 then
  lt (w32 (s.1 + 6)) (fun x220 : Int =>
  some (.inl (x220, p218.2)))
  else
  some (.inr ((0, p218.2))))
  else none)
  else none
  else
  lt (w32 (s.1 + 6)) (fun x221 : Int =>
  some (.inl (x221, s.2)))
  else none
theorem cs_l_Law_law_18 {X : XX} {d : Nat} (hd : 85 ≤ d) (hX1 : X.1 < 2147483648) (hX2 : ∀ j, ok32 (X.2 j)) {a0 : Int} {z1 : Int} {z2 : Int} (hn_z1 : z1 ≠ 0) (hn_z2 : z2 ≠ 0) {s : Int × Mm} {x : (Int × Mm) ⊕ (Int × Mm)} {r : Option AV} {M' : Mm} (h : l_Law_law_18 X a0 z1 z2 s = some x) (hk1 : ∀ s : Int × Mm, x = .inl s → Ev X m_Law_law d 18 [(0, (17, a0)), (1, (11, z1)), (2, (12, z2)), (3, (0, s.1))] [] s.2 r M') (hk2 : ∀ q : Int × Mm, x = .inr q → r = some (0, q.1) ∧ M' = q.2) : Ev X m_Law_law d 18 [(0, (17, a0)), (1, (11, z1)), (2, (12, z2)), (3, (0, s.1))] [] s.2 r M' := by
  unfold l_Law_law_18 at h
  refine ev_iload_n 3 d_Law_law_18 rfl rfl ?_
  refine ev_aload_n 0 d_Law_law_19 rfl (by decide) rfl ?_
  refine ev_slen hX1 d_Law_law_20 ?_
  refine ev_bipush d_Law_law_21 rfl ?_
  refine ev_isub d_Law_law_23 ?_
  by_cases hc7 : (w32 ((X.1 : Int) - 6)) < s.1
  · replace h := itp hc7 h
    refine ev_icmp_gt_t (tgt := 962) d_Law_law_24 (by decide) hc7 ?_
    refine ev_iconst d_Law_law_962 rfl ?_
    cases h
    obtain ⟨rfl, rfl⟩ := hk2 _ rfl
    exact ev_retZ d_Law_law_963 rfl (Or.inr rfl)
  · replace h := itn hc7 h
    refine ev_icmp_gt_f d_Law_law_24 (by decide) hc7 ?_
    refine ev_aload_n 0 d_Law_law_27 rfl (by decide) rfl ?_
    refine ev_iload_n 3 d_Law_law_28 rfl rfl ?_
    obtain ⟨hg8, h⟩ := gx h
    refine ev_sld hX2 d_Law_law_29 hg8 ?_
    refine ev_bipush d_Law_law_30 rfl ?_
    refine ev_iand d_Law_law_32 ?_
    by_cases hc9 : (bAnd (X.2 (s.1 : Int).toNat) 31) = 0
    · replace h := itp hc9 h
      refine ev_tabIn (tgt := 152) 0 d_Law_law_33 (by rw [hc9]; rfl) (by decide) rfl (by decide) ?_
      refine ev_aload_n 1 d_Law_law_152 rfl (by decide) rfl ?_
      refine ev_aload_n 0 d_Law_law_153 rfl (by decide) rfl ?_
      refine ev_iload_n 3 d_Law_law_154 rfl rfl ?_
      refine ev_iconst d_Law_law_155 rfl ?_
      refine ev_iadd d_Law_law_156 ?_
      obtain ⟨hg10, h⟩ := gx h
      refine ev_sld hX2 d_Law_law_157 hg10 ?_
      refine ev_aload_n 0 d_Law_law_158 rfl (by decide) rfl ?_
      refine ev_iload_n 3 d_Law_law_159 rfl rfl ?_
      refine ev_iconst d_Law_law_160 rfl ?_
      refine ev_iadd d_Law_law_161 ?_
      obtain ⟨hg11, h⟩ := gx h
      refine ev_sld hX2 d_Law_law_162 hg11 ?_
      obtain ⟨p12, hp12, h⟩ := bx h
      have hRp12 := c_Band_player (X := X) (d := d - 1) (by omega) hn_z1 hp12
      refine ev_callV2 (st2 := [(0, p12.1)]) (as := [(0, (X.2 ((w32 (s.1 + 1)) : Int).toNat)), (0, (X.2 ((w32 (s.1 + 2)) : Int).toNat))]) (rest := []) rfl (by decide) (by decide) rfl hn_z1 rfl (Nat.le_of_ble_eq_true rfl) k_Band_player ⟨tw_339, tw_340⟩ (by omega) tw_338 d_Law_law_163 hRp12 rfl ?_
      refine ev_aload_n 2 d_Law_law_166 rfl (by decide) rfl ?_
      refine ev_aload_n 0 d_Law_law_167 rfl (by decide) rfl ?_
      refine ev_iload_n 3 d_Law_law_168 rfl rfl ?_
      refine ev_iconst d_Law_law_169 rfl ?_
      refine ev_iadd d_Law_law_170 ?_
      obtain ⟨hg13, h⟩ := gx h
      refine ev_sld hX2 d_Law_law_171 hg13 ?_
      refine ev_aload_n 0 d_Law_law_172 rfl (by decide) rfl ?_
      refine ev_iload_n 3 d_Law_law_173 rfl rfl ?_
      refine ev_iconst d_Law_law_174 rfl ?_
      refine ev_iadd d_Law_law_175 ?_
      obtain ⟨hg14, h⟩ := gx h
      refine ev_sld hX2 d_Law_law_176 hg14 ?_
      obtain ⟨p15, hp15, h⟩ := bx h
      have hRp15 := c_Model_player (X := X) (d := d - 1) (by omega) hn_z2 hp15
      refine ev_callV2 (st2 := [(0, p15.1), (0, p12.1)]) (as := [(0, (X.2 ((w32 (s.1 + 1)) : Int).toNat)), (0, (X.2 ((w32 (s.1 + 2)) : Int).toNat))]) (rest := [(0, p12.1)]) rfl (by decide) (by decide) rfl hn_z2 rfl (Nat.le_of_ble_eq_true rfl) k_Model_player ⟨tw_1047, tw_1048⟩ (by omega) tw_1046 d_Law_law_177 hRp15 rfl ?_
      by_cases hc16 : p12.1 = p15.1
      · replace h := itp hc16 h
        refine ev_icmp_eq_t (tgt := 956) d_Law_law_180 (by decide) hc16 ?_
        obtain ⟨x17, hx17, h⟩ := ltx h
        refine ev_iinc' 3 (y := x17) (L' := [(3, (0, x17)), (0, (17, a0)), (1, (11, z1)), (2, (12, z2))]) d_Law_law_956 rfl (by decide) rfl hx17 ?_
        refine ev_goto (tgt := 18) d_Law_law_959 (by decide) ?_
        refine ev_less (L' := [(0, (17, a0)), (1, (11, z1)), (2, (12, z2)), (3, (0, x17))]) [1, 2, 3, 0] rfl ?_
        cases h
        exact hk1 _ rfl
      · replace h := itn hc16 h
        refine ev_icmp_eq_f d_Law_law_180 (by decide) hc16 ?_
        refine ev_iconst d_Law_law_183 rfl ?_
        cases h
        obtain ⟨rfl, rfl⟩ := hk2 _ rfl
        exact ev_retZ d_Law_law_184 rfl (Or.inl rfl)
    · replace h := itn hc9 h
      by_cases hc18 : (bAnd (X.2 (s.1 : Int).toNat) 31) = 1
      · replace h := itp hc18 h
        refine ev_tabIn (tgt := 185) 1 d_Law_law_33 (by rw [hc18]; rfl) (by decide) rfl (by decide) ?_
        refine ev_aload_n 1 d_Law_law_185 rfl (by decide) rfl ?_
        refine ev_aload_n 0 d_Law_law_186 rfl (by decide) rfl ?_
        refine ev_iload_n 3 d_Law_law_187 rfl rfl ?_
        refine ev_iconst d_Law_law_188 rfl ?_
        refine ev_iadd d_Law_law_189 ?_
        obtain ⟨hg19, h⟩ := gx h
        refine ev_sld hX2 d_Law_law_190 hg19 ?_
        refine ev_aload_n 0 d_Law_law_191 rfl (by decide) rfl ?_
        refine ev_iload_n 3 d_Law_law_192 rfl rfl ?_
        refine ev_iconst d_Law_law_193 rfl ?_
        refine ev_iadd d_Law_law_194 ?_
        obtain ⟨hg20, h⟩ := gx h
        refine ev_sld hX2 d_Law_law_195 hg20 ?_
        refine ev_aload_n 0 d_Law_law_196 rfl (by decide) rfl ?_
        refine ev_iload_n 3 d_Law_law_197 rfl rfl ?_
        refine ev_iconst d_Law_law_198 rfl ?_
        refine ev_iadd d_Law_law_199 ?_
        obtain ⟨hg21, h⟩ := gx h
        refine ev_sld hX2 d_Law_law_200 hg21 ?_
        obtain ⟨p22, hp22, h⟩ := bx h
        have hRp22 := c_Band_plays (X := X) (d := d - 1) (by omega) hn_z1 hp22
        refine ev_callV2 (st2 := [(0, p22.1)]) (as := [(0, (X.2 ((w32 (s.1 + 1)) : Int).toNat)), (0, (X.2 ((w32 (s.1 + 2)) : Int).toNat)), (0, (X.2 ((w32 (s.1 + 3)) : Int).toNat))]) (rest := []) rfl (by decide) (by decide) rfl hn_z1 rfl (Nat.le_of_ble_eq_true rfl) k_Band_plays ⟨tw_353, tw_354⟩ (by omega) tw_352 d_Law_law_201 hRp22 rfl ?_
        refine ev_aload_n 2 d_Law_law_204 rfl (by decide) rfl ?_
        refine ev_aload_n 0 d_Law_law_205 rfl (by decide) rfl ?_
        refine ev_iload_n 3 d_Law_law_206 rfl rfl ?_
        refine ev_iconst d_Law_law_207 rfl ?_
        refine ev_iadd d_Law_law_208 ?_
        obtain ⟨hg23, h⟩ := gx h
        refine ev_sld hX2 d_Law_law_209 hg23 ?_
        refine ev_aload_n 0 d_Law_law_210 rfl (by decide) rfl ?_
        refine ev_iload_n 3 d_Law_law_211 rfl rfl ?_
        refine ev_iconst d_Law_law_212 rfl ?_
        refine ev_iadd d_Law_law_213 ?_
        obtain ⟨hg24, h⟩ := gx h
        refine ev_sld hX2 d_Law_law_214 hg24 ?_
        refine ev_aload_n 0 d_Law_law_215 rfl (by decide) rfl ?_
        refine ev_iload_n 3 d_Law_law_216 rfl rfl ?_
        refine ev_iconst d_Law_law_217 rfl ?_
        refine ev_iadd d_Law_law_218 ?_
        obtain ⟨hg25, h⟩ := gx h
        refine ev_sld hX2 d_Law_law_219 hg25 ?_
        obtain ⟨p26, hp26, h⟩ := bx h
        have hRp26 := c_Model_plays (X := X) (d := d - 1) (by omega) hn_z2 hp26
        refine ev_callV2 (st2 := [(0, p26.1), (0, p22.1)]) (as := [(0, (X.2 ((w32 (s.1 + 1)) : Int).toNat)), (0, (X.2 ((w32 (s.1 + 2)) : Int).toNat)), (0, (X.2 ((w32 (s.1 + 3)) : Int).toNat))]) (rest := [(0, p22.1)]) rfl (by decide) (by decide) rfl hn_z2 rfl (Nat.le_of_ble_eq_true rfl) k_Model_plays ⟨tw_1051, tw_1052⟩ (by omega) tw_1050 d_Law_law_220 hRp26 rfl ?_
        by_cases hc27 : p22.1 = p26.1
        · replace h := itp hc27 h
          refine ev_icmp_eq_t (tgt := 956) d_Law_law_223 (by decide) hc27 ?_
          obtain ⟨x28, hx28, h⟩ := ltx h
          refine ev_iinc' 3 (y := x28) (L' := [(3, (0, x28)), (0, (17, a0)), (1, (11, z1)), (2, (12, z2))]) d_Law_law_956 rfl (by decide) rfl hx28 ?_
          refine ev_goto (tgt := 18) d_Law_law_959 (by decide) ?_
          refine ev_less (L' := [(0, (17, a0)), (1, (11, z1)), (2, (12, z2)), (3, (0, x28))]) [1, 2, 3, 0] rfl ?_
          cases h
          exact hk1 _ rfl
        · replace h := itn hc27 h
          refine ev_icmp_eq_f d_Law_law_223 (by decide) hc27 ?_
          refine ev_iconst d_Law_law_226 rfl ?_
          cases h
          obtain ⟨rfl, rfl⟩ := hk2 _ rfl
          exact ev_retZ d_Law_law_227 rfl (Or.inl rfl)
      · replace h := itn hc18 h
        by_cases hc29 : (bAnd (X.2 (s.1 : Int).toNat) 31) = 2
        · replace h := itp hc29 h
          refine ev_tabIn (tgt := 228) 2 d_Law_law_33 (by rw [hc29]; rfl) (by decide) rfl (by decide) ?_
          refine ev_aload_n 1 d_Law_law_228 rfl (by decide) rfl ?_
          refine ev_aload_n 0 d_Law_law_229 rfl (by decide) rfl ?_
          refine ev_iload_n 3 d_Law_law_230 rfl rfl ?_
          refine ev_iconst d_Law_law_231 rfl ?_
          refine ev_iadd d_Law_law_232 ?_
          obtain ⟨hg30, h⟩ := gx h
          refine ev_sld hX2 d_Law_law_233 hg30 ?_
          refine ev_aload_n 0 d_Law_law_234 rfl (by decide) rfl ?_
          refine ev_iload_n 3 d_Law_law_235 rfl rfl ?_
          refine ev_iconst d_Law_law_236 rfl ?_
          refine ev_iadd d_Law_law_237 ?_
          obtain ⟨hg31, h⟩ := gx h
          refine ev_sld hX2 d_Law_law_238 hg31 ?_
          obtain ⟨p32, hp32, h⟩ := bx h
          have hRp32 := c_Band_cost (X := X) (d := d - 1) (by omega) hn_z1 hp32
          refine ev_callV2 (st2 := [(0, p32)]) (as := [(0, (X.2 ((w32 (s.1 + 1)) : Int).toNat)), (0, (X.2 ((w32 (s.1 + 2)) : Int).toNat))]) (rest := []) rfl (by decide) (by decide) rfl hn_z1 rfl (Nat.le_of_ble_eq_true rfl) k_Band_cost ⟨tw_368, tw_369⟩ (by omega) tw_367 d_Law_law_239 hRp32 rfl ?_
          refine ev_aload_n 2 d_Law_law_242 rfl (by decide) rfl ?_
          refine ev_aload_n 0 d_Law_law_243 rfl (by decide) rfl ?_
          refine ev_iload_n 3 d_Law_law_244 rfl rfl ?_
          refine ev_iconst d_Law_law_245 rfl ?_
          refine ev_iadd d_Law_law_246 ?_
          refine ev_sld hX2 d_Law_law_247 hg30 ?_
          refine ev_aload_n 0 d_Law_law_248 rfl (by decide) rfl ?_
          refine ev_iload_n 3 d_Law_law_249 rfl rfl ?_
          refine ev_iconst d_Law_law_250 rfl ?_
          refine ev_iadd d_Law_law_251 ?_
          refine ev_sld hX2 d_Law_law_252 hg31 ?_
          obtain ⟨p33, hp33, h⟩ := bx h
          have hRp33 := c_Model_cost (X := X) (d := d - 1) (by omega) hn_z2 hp33
          refine ev_callV2 (st2 := [(0, p33.1), (0, p32)]) (as := [(0, (X.2 ((w32 (s.1 + 1)) : Int).toNat)), (0, (X.2 ((w32 (s.1 + 2)) : Int).toNat))]) (rest := [(0, p32)]) rfl (by decide) (by decide) rfl hn_z2 rfl (Nat.le_of_ble_eq_true rfl) k_Model_cost ⟨tw_1063, tw_1064⟩ (by omega) tw_1062 d_Law_law_253 hRp33 rfl ?_
          by_cases hc34 : p32 = p33.1
          · replace h := itp hc34 h
            refine ev_icmp_eq_t (tgt := 956) d_Law_law_256 (by decide) hc34 ?_
            obtain ⟨x35, hx35, h⟩ := ltx h
            refine ev_iinc' 3 (y := x35) (L' := [(3, (0, x35)), (0, (17, a0)), (1, (11, z1)), (2, (12, z2))]) d_Law_law_956 rfl (by decide) rfl hx35 ?_
            refine ev_goto (tgt := 18) d_Law_law_959 (by decide) ?_
            refine ev_less (L' := [(0, (17, a0)), (1, (11, z1)), (2, (12, z2)), (3, (0, x35))]) [1, 2, 3, 0] rfl ?_
            cases h
            exact hk1 _ rfl
          · replace h := itn hc34 h
            refine ev_icmp_eq_f d_Law_law_256 (by decide) hc34 ?_
            refine ev_iconst d_Law_law_259 rfl ?_
            cases h
            obtain ⟨rfl, rfl⟩ := hk2 _ rfl
            exact ev_retZ d_Law_law_260 rfl (Or.inl rfl)
        · replace h := itn hc29 h
          by_cases hc36 : (bAnd (X.2 (s.1 : Int).toNat) 31) = 3
          · replace h := itp hc36 h
            refine ev_tabIn (tgt := 261) 3 d_Law_law_33 (by rw [hc36]; rfl) (by decide) rfl (by decide) ?_
            refine ev_aload_n 1 d_Law_law_261 rfl (by decide) rfl ?_
            refine ev_aload_n 0 d_Law_law_262 rfl (by decide) rfl ?_
            refine ev_iload_n 3 d_Law_law_263 rfl rfl ?_
            refine ev_iconst d_Law_law_264 rfl ?_
            refine ev_iadd d_Law_law_265 ?_
            obtain ⟨hg37, h⟩ := gx h
            refine ev_sld hX2 d_Law_law_266 hg37 ?_
            refine ev_aload_n 0 d_Law_law_267 rfl (by decide) rfl ?_
            refine ev_iload_n 3 d_Law_law_268 rfl rfl ?_
            refine ev_iconst d_Law_law_269 rfl ?_
            refine ev_iadd d_Law_law_270 ?_
            obtain ⟨hg38, h⟩ := gx h
            refine ev_sld hX2 d_Law_law_271 hg38 ?_
            by_cases hc39 : (X.2 ((w32 (s.1 + 2)) : Int).toNat) = 0
            · replace h := itp hc39 h
              refine ev_if_eq_t (tgt := 279) d_Law_law_272 (by decide) hc39 ?_
              refine ev_iconst d_Law_law_279 rfl ?_
              exact cj_Law_law_280_18 hd hX1 hX2 hn_z1 hn_z2 hn_z1 h hk1 hk2
            · replace h := itn hc39 h
              refine ev_if_eq_f d_Law_law_272 (by decide) hc39 ?_
              refine ev_iconst d_Law_law_275 rfl ?_
              refine ev_goto (tgt := 280) d_Law_law_276 (by decide) ?_
              exact cj_Law_law_280_18 hd hX1 hX2 hn_z1 hn_z2 hn_z1 h hk1 hk2
          · replace h := itn hc36 h
            by_cases hc47 : (bAnd (X.2 (s.1 : Int).toNat) 31) = 4
            · replace h := itp hc47 h
              refine ev_tabIn (tgt := 310) 4 d_Law_law_33 (by rw [hc47]; rfl) (by decide) rfl (by decide) ?_
              refine ev_aload_n 1 d_Law_law_310 rfl (by decide) rfl ?_
              refine ev_aload_n 0 d_Law_law_311 rfl (by decide) rfl ?_
              refine ev_iload_n 3 d_Law_law_312 rfl rfl ?_
              refine ev_iconst d_Law_law_313 rfl ?_
              refine ev_iadd d_Law_law_314 ?_
              obtain ⟨hg48, h⟩ := gx h
              refine ev_sld hX2 d_Law_law_315 hg48 ?_
              refine ev_aload_n 0 d_Law_law_316 rfl (by decide) rfl ?_
              refine ev_iload_n 3 d_Law_law_317 rfl rfl ?_
              refine ev_iconst d_Law_law_318 rfl ?_
              refine ev_iadd d_Law_law_319 ?_
              obtain ⟨hg49, h⟩ := gx h
              refine ev_sld hX2 d_Law_law_320 hg49 ?_
              refine ev_aload_n 0 d_Law_law_321 rfl (by decide) rfl ?_
              refine ev_iload_n 3 d_Law_law_322 rfl rfl ?_
              refine ev_iconst d_Law_law_323 rfl ?_
              refine ev_iadd d_Law_law_324 ?_
              obtain ⟨hg50, h⟩ := gx h
              refine ev_sld hX2 d_Law_law_325 hg50 ?_
              refine ev_aload_n 0 d_Law_law_326 rfl (by decide) rfl ?_
              refine ev_iload_n 3 d_Law_law_327 rfl rfl ?_
              refine ev_iconst d_Law_law_328 rfl ?_
              refine ev_iadd d_Law_law_329 ?_
              obtain ⟨hg51, h⟩ := gx h
              refine ev_sld hX2 d_Law_law_330 hg51 ?_
              refine ev_aload_n 0 d_Law_law_331 rfl (by decide) rfl ?_
              refine ev_iload_n 3 d_Law_law_332 rfl rfl ?_
              refine ev_iconst d_Law_law_333 rfl ?_
              refine ev_iadd d_Law_law_334 ?_
              obtain ⟨hg52, h⟩ := gx h
              refine ev_sld hX2 d_Law_law_335 hg52 ?_
              obtain ⟨p53, hp53, h⟩ := bx h
              have hRp53 := c_Band_feed (X := X) (d := d - 1) (by omega) hn_z1 hp53
              refine ev_callV2 (st2 := [(0, p53.1)]) (as := [(0, (X.2 ((w32 (s.1 + 1)) : Int).toNat)), (0, (X.2 ((w32 (s.1 + 2)) : Int).toNat)), (0, (X.2 ((w32 (s.1 + 3)) : Int).toNat)), (0, (X.2 ((w32 (s.1 + 4)) : Int).toNat)), (0, (X.2 ((w32 (s.1 + 5)) : Int).toNat))]) (rest := []) rfl (by decide) (by decide) rfl hn_z1 rfl (Nat.le_of_ble_eq_true rfl) k_Band_feed ⟨tw_384, tw_385⟩ (by omega) tw_383 d_Law_law_336 hRp53 rfl ?_
              refine ev_aload_n 2 d_Law_law_339 rfl (by decide) rfl ?_
              refine ev_aload_n 0 d_Law_law_340 rfl (by decide) rfl ?_
              refine ev_iload_n 3 d_Law_law_341 rfl rfl ?_
              refine ev_iconst d_Law_law_342 rfl ?_
              refine ev_iadd d_Law_law_343 ?_
              obtain ⟨hg54, h⟩ := gx h
              refine ev_sld hX2 d_Law_law_344 hg54 ?_
              refine ev_aload_n 0 d_Law_law_345 rfl (by decide) rfl ?_
              refine ev_iload_n 3 d_Law_law_346 rfl rfl ?_
              refine ev_iconst d_Law_law_347 rfl ?_
              refine ev_iadd d_Law_law_348 ?_
              obtain ⟨hg55, h⟩ := gx h
              refine ev_sld hX2 d_Law_law_349 hg55 ?_
              refine ev_aload_n 0 d_Law_law_350 rfl (by decide) rfl ?_
              refine ev_iload_n 3 d_Law_law_351 rfl rfl ?_
              refine ev_iconst d_Law_law_352 rfl ?_
              refine ev_iadd d_Law_law_353 ?_
              obtain ⟨hg56, h⟩ := gx h
              refine ev_sld hX2 d_Law_law_354 hg56 ?_
              refine ev_aload_n 0 d_Law_law_355 rfl (by decide) rfl ?_
              refine ev_iload_n 3 d_Law_law_356 rfl rfl ?_
              refine ev_iconst d_Law_law_357 rfl ?_
              refine ev_iadd d_Law_law_358 ?_
              obtain ⟨hg57, h⟩ := gx h
              refine ev_sld hX2 d_Law_law_359 hg57 ?_
              refine ev_aload_n 0 d_Law_law_360 rfl (by decide) rfl ?_
              refine ev_iload_n 3 d_Law_law_361 rfl rfl ?_
              refine ev_iconst d_Law_law_362 rfl ?_
              refine ev_iadd d_Law_law_363 ?_
              obtain ⟨hg58, h⟩ := gx h
              refine ev_sld hX2 d_Law_law_364 hg58 ?_
              obtain ⟨p59, hp59, h⟩ := bx h
              have hRp59 := c_Model_feed (X := X) (d := d - 1) (by omega) hn_z2 hp59
              refine ev_callV2 (st2 := [(0, p59.1), (0, p53.1)]) (as := [(0, (X.2 ((w32 (s.1 + 1)) : Int).toNat)), (0, (X.2 ((w32 (s.1 + 2)) : Int).toNat)), (0, (X.2 ((w32 (s.1 + 3)) : Int).toNat)), (0, (X.2 ((w32 (s.1 + 4)) : Int).toNat)), (0, (X.2 ((w32 (s.1 + 5)) : Int).toNat))]) (rest := [(0, p53.1)]) rfl (by decide) (by decide) rfl hn_z2 rfl (Nat.le_of_ble_eq_true rfl) k_Model_feed ⟨tw_1208, tw_1209⟩ (by omega) tw_1207 d_Law_law_365 hRp59 rfl ?_
              by_cases hc60 : p53.1 = p59.1
              · replace h := itp hc60 h
                refine ev_icmp_eq_t (tgt := 956) d_Law_law_368 (by decide) hc60 ?_
                obtain ⟨x61, hx61, h⟩ := ltx h
                refine ev_iinc' 3 (y := x61) (L' := [(3, (0, x61)), (0, (17, a0)), (1, (11, z1)), (2, (12, z2))]) d_Law_law_956 rfl (by decide) rfl hx61 ?_
                refine ev_goto (tgt := 18) d_Law_law_959 (by decide) ?_
                refine ev_less (L' := [(0, (17, a0)), (1, (11, z1)), (2, (12, z2)), (3, (0, x61))]) [1, 2, 3, 0] rfl ?_
                cases h
                exact hk1 _ rfl
              · replace h := itn hc60 h
                refine ev_icmp_eq_f d_Law_law_368 (by decide) hc60 ?_
                refine ev_iconst d_Law_law_371 rfl ?_
                cases h
                obtain ⟨rfl, rfl⟩ := hk2 _ rfl
                exact ev_retZ d_Law_law_372 rfl (Or.inl rfl)
            · replace h := itn hc47 h
              by_cases hc62 : (bAnd (X.2 (s.1 : Int).toNat) 31) = 5
              · replace h := itp hc62 h
                refine ev_tabIn (tgt := 373) 5 d_Law_law_33 (by rw [hc62]; rfl) (by decide) rfl (by decide) ?_
                refine ev_aload_n 1 d_Law_law_373 rfl (by decide) rfl ?_
                refine ev_aload_n 0 d_Law_law_374 rfl (by decide) rfl ?_
                refine ev_iload_n 3 d_Law_law_375 rfl rfl ?_
                refine ev_iconst d_Law_law_376 rfl ?_
                refine ev_iadd d_Law_law_377 ?_
                obtain ⟨hg63, h⟩ := gx h
                refine ev_sld hX2 d_Law_law_378 hg63 ?_
                obtain ⟨p64, hp64, h⟩ := bx h
                have hRp64 := c_Band_end (X := X) (d := d - 1) (by omega) hn_z1 hp64
                refine ev_callV2 (st2 := [(0, p64.1)]) (as := [(0, (X.2 ((w32 (s.1 + 1)) : Int).toNat))]) (rest := []) rfl (by decide) (by decide) rfl hn_z1 rfl (Nat.le_of_ble_eq_true rfl) k_Band_end ⟨tw_396, tw_397⟩ (by omega) tw_395 d_Law_law_379 hRp64 rfl ?_
                refine ev_aload_n 2 d_Law_law_382 rfl (by decide) rfl ?_
                refine ev_aload_n 0 d_Law_law_383 rfl (by decide) rfl ?_
                refine ev_iload_n 3 d_Law_law_384 rfl rfl ?_
                refine ev_iconst d_Law_law_385 rfl ?_
                refine ev_iadd d_Law_law_386 ?_
                obtain ⟨hg65, h⟩ := gx h
                refine ev_sld hX2 d_Law_law_387 hg65 ?_
                obtain ⟨p66, hp66, h⟩ := bx h
                have hRp66 := c_Model_end (X := X) (d := d - 1) (by omega) hn_z2 hp66
                refine ev_callV2 (st2 := [(0, p66.1), (0, p64.1)]) (as := [(0, (X.2 ((w32 (s.1 + 1)) : Int).toNat))]) (rest := [(0, p64.1)]) rfl (by decide) (by decide) rfl hn_z2 rfl (Nat.le_of_ble_eq_true rfl) k_Model_end ⟨tw_1216, tw_1217⟩ (by omega) tw_1215 d_Law_law_388 hRp66 rfl ?_
                by_cases hc67 : p64.1 = p66.1
                · replace h := itp hc67 h
                  refine ev_icmp_eq_t (tgt := 956) d_Law_law_391 (by decide) hc67 ?_
                  obtain ⟨x68, hx68, h⟩ := ltx h
                  refine ev_iinc' 3 (y := x68) (L' := [(3, (0, x68)), (0, (17, a0)), (1, (11, z1)), (2, (12, z2))]) d_Law_law_956 rfl (by decide) rfl hx68 ?_
                  refine ev_goto (tgt := 18) d_Law_law_959 (by decide) ?_
                  refine ev_less (L' := [(0, (17, a0)), (1, (11, z1)), (2, (12, z2)), (3, (0, x68))]) [1, 2, 3, 0] rfl ?_
                  cases h
                  exact hk1 _ rfl
                · replace h := itn hc67 h
                  refine ev_icmp_eq_f d_Law_law_391 (by decide) hc67 ?_
                  refine ev_iconst d_Law_law_394 rfl ?_
                  cases h
                  obtain ⟨rfl, rfl⟩ := hk2 _ rfl
                  exact ev_retZ d_Law_law_395 rfl (Or.inl rfl)
              · replace h := itn hc62 h
                by_cases hc69 : (bAnd (X.2 (s.1 : Int).toNat) 31) = 6
                · replace h := itp hc69 h
                  refine ev_tabIn (tgt := 396) 6 d_Law_law_33 (by rw [hc69]; rfl) (by decide) rfl (by decide) ?_
                  refine ev_aload_n 1 d_Law_law_396 rfl (by decide) rfl ?_
                  obtain ⟨p70, hp70, h⟩ := bx h
                  have hRp70 := c_Band_load (X := X) (d := d - 1) (by omega) hn_z1 hp70
                  refine ev_callV2 (st2 := [(0, p70.1)]) (as := []) (rest := []) rfl (by decide) (by decide) rfl hn_z1 rfl (Nat.le_of_ble_eq_true rfl) k_Band_load ⟨tw_400, tw_401⟩ (by omega) tw_399 d_Law_law_397 hRp70 rfl ?_
                  refine ev_aload_n 2 d_Law_law_400 rfl (by decide) rfl ?_
                  obtain ⟨p71, hp71, h⟩ := bx h
                  have hRp71 := c_Model_load (X := X) (d := d - 1) (by omega) hn_z2 hp71
                  refine ev_callV2 (st2 := [(0, p71.1), (0, p70.1)]) (as := []) (rest := [(0, p70.1)]) rfl (by decide) (by decide) rfl hn_z2 rfl (Nat.le_of_ble_eq_true rfl) k_Model_load ⟨tw_1224, tw_1225⟩ (by omega) tw_1223 d_Law_law_401 hRp71 rfl ?_
                  by_cases hc72 : p70.1 = p71.1
                  · replace h := itp hc72 h
                    refine ev_icmp_eq_t (tgt := 956) d_Law_law_404 (by decide) hc72 ?_
                    obtain ⟨x73, hx73, h⟩ := ltx h
                    refine ev_iinc' 3 (y := x73) (L' := [(3, (0, x73)), (0, (17, a0)), (1, (11, z1)), (2, (12, z2))]) d_Law_law_956 rfl (by decide) rfl hx73 ?_
                    refine ev_goto (tgt := 18) d_Law_law_959 (by decide) ?_
                    refine ev_less (L' := [(0, (17, a0)), (1, (11, z1)), (2, (12, z2)), (3, (0, x73))]) [1, 2, 3, 0] rfl ?_
                    cases h
                    exact hk1 _ rfl
                  · replace h := itn hc72 h
                    refine ev_icmp_eq_f d_Law_law_404 (by decide) hc72 ?_
                    refine ev_iconst d_Law_law_407 rfl ?_
                    cases h
                    obtain ⟨rfl, rfl⟩ := hk2 _ rfl
                    exact ev_retZ d_Law_law_408 rfl (Or.inl rfl)
                · replace h := itn hc69 h
                  by_cases hc74 : (bAnd (X.2 (s.1 : Int).toNat) 31) = 7
                  · replace h := itp hc74 h
                    refine ev_tabIn (tgt := 409) 7 d_Law_law_33 (by rw [hc74]; rfl) (by decide) rfl (by decide) ?_
                    refine ev_aload_n 1 d_Law_law_409 rfl (by decide) rfl ?_
                    obtain ⟨p75, hp75, h⟩ := bx h
                    have hRp75 := c_Band_rule (X := X) (d := d - 1) (by omega) hn_z1 hp75
                    refine ev_callV2 (st2 := [(0, p75.1)]) (as := []) (rest := []) rfl (by decide) (by decide) rfl hn_z1 rfl (Nat.le_of_ble_eq_true rfl) k_Band_rule ⟨tw_533, tw_534⟩ (by omega) tw_532 d_Law_law_410 hRp75 rfl ?_
                    refine ev_aload_n 2 d_Law_law_413 rfl (by decide) rfl ?_
                    obtain ⟨p76, hp76, h⟩ := bx h
                    have hRp76 := c_Model_rule (X := X) (d := d - 1) (by omega) hn_z2 hp76
                    refine ev_callV2 (st2 := [(0, p76.1), (0, p75.1)]) (as := []) (rest := [(0, p75.1)]) rfl (by decide) (by decide) rfl hn_z2 rfl (Nat.le_of_ble_eq_true rfl) k_Model_rule ⟨tw_1284, tw_1285⟩ (by omega) tw_1283 d_Law_law_414 hRp76 rfl ?_
                    by_cases hc77 : p75.1 = p76.1
                    · replace h := itp hc77 h
                      refine ev_icmp_eq_t (tgt := 956) d_Law_law_417 (by decide) hc77 ?_
                      obtain ⟨x78, hx78, h⟩ := ltx h
                      refine ev_iinc' 3 (y := x78) (L' := [(3, (0, x78)), (0, (17, a0)), (1, (11, z1)), (2, (12, z2))]) d_Law_law_956 rfl (by decide) rfl hx78 ?_
                      refine ev_goto (tgt := 18) d_Law_law_959 (by decide) ?_
                      refine ev_less (L' := [(0, (17, a0)), (1, (11, z1)), (2, (12, z2)), (3, (0, x78))]) [1, 2, 3, 0] rfl ?_
                      cases h
                      exact hk1 _ rfl
                    · replace h := itn hc77 h
                      refine ev_icmp_eq_f d_Law_law_417 (by decide) hc77 ?_
                      refine ev_iconst d_Law_law_420 rfl ?_
                      cases h
                      obtain ⟨rfl, rfl⟩ := hk2 _ rfl
                      exact ev_retZ d_Law_law_421 rfl (Or.inl rfl)
                  · replace h := itn hc74 h
                    by_cases hc79 : (bAnd (X.2 (s.1 : Int).toNat) 31) = 8
                    · replace h := itp hc79 h
                      refine ev_tabIn (tgt := 422) 8 d_Law_law_33 (by rw [hc79]; rfl) (by decide) rfl (by decide) ?_
                      refine ev_aload_n 1 d_Law_law_422 rfl (by decide) rfl ?_
                      refine ev_aload_n 0 d_Law_law_423 rfl (by decide) rfl ?_
                      refine ev_iload_n 3 d_Law_law_424 rfl rfl ?_
                      refine ev_iconst d_Law_law_425 rfl ?_
                      refine ev_iadd d_Law_law_426 ?_
                      obtain ⟨hg80, h⟩ := gx h
                      refine ev_sld hX2 d_Law_law_427 hg80 ?_
                      obtain ⟨p81, hp81, h⟩ := bx h
                      have hRp81 := c_Band_fault (X := X) (d := d - 1) (by omega) hn_z1 hp81
                      refine ev_callV2 (st2 := [(0, p81)]) (as := [(0, (X.2 ((w32 (s.1 + 1)) : Int).toNat))]) (rest := []) rfl (by decide) (by decide) rfl hn_z1 rfl (Nat.le_of_ble_eq_true rfl) k_Band_fault ⟨tw_585, tw_586⟩ (by omega) tw_584 d_Law_law_428 hRp81 rfl ?_
                      refine ev_aload_n 2 d_Law_law_431 rfl (by decide) rfl ?_
                      refine ev_aload_n 0 d_Law_law_432 rfl (by decide) rfl ?_
                      refine ev_iload_n 3 d_Law_law_433 rfl rfl ?_
                      refine ev_iconst d_Law_law_434 rfl ?_
                      refine ev_iadd d_Law_law_435 ?_
                      refine ev_sld hX2 d_Law_law_436 hg80 ?_
                      obtain ⟨p82, hp82, h⟩ := bx h
                      have hRp82 := c_Model_fault (X := X) (d := d - 1) (by omega) hn_z2 hp82
                      refine ev_callV2 (st2 := [(0, p82.1), (0, p81)]) (as := [(0, (X.2 ((w32 (s.1 + 1)) : Int).toNat))]) (rest := [(0, p81)]) rfl (by decide) (by decide) rfl hn_z2 rfl (Nat.le_of_ble_eq_true rfl) k_Model_fault ⟨tw_1220, tw_1221⟩ (by omega) tw_1219 d_Law_law_437 hRp82 rfl ?_
                      by_cases hc83 : p81 = p82.1
                      · replace h := itp hc83 h
                        refine ev_icmp_eq_t (tgt := 956) d_Law_law_440 (by decide) hc83 ?_
                        obtain ⟨x84, hx84, h⟩ := ltx h
                        refine ev_iinc' 3 (y := x84) (L' := [(3, (0, x84)), (0, (17, a0)), (1, (11, z1)), (2, (12, z2))]) d_Law_law_956 rfl (by decide) rfl hx84 ?_
                        refine ev_goto (tgt := 18) d_Law_law_959 (by decide) ?_
                        refine ev_less (L' := [(0, (17, a0)), (1, (11, z1)), (2, (12, z2)), (3, (0, x84))]) [1, 2, 3, 0] rfl ?_
                        cases h
                        exact hk1 _ rfl
                      · replace h := itn hc83 h
                        refine ev_icmp_eq_f d_Law_law_440 (by decide) hc83 ?_
                        refine ev_iconst d_Law_law_443 rfl ?_
                        cases h
                        obtain ⟨rfl, rfl⟩ := hk2 _ rfl
                        exact ev_retZ d_Law_law_444 rfl (Or.inl rfl)
                    · replace h := itn hc79 h
                      by_cases hc85 : (bAnd (X.2 (s.1 : Int).toNat) 31) = 9
                      · replace h := itp hc85 h
                        refine ev_tabIn (tgt := 445) 9 d_Law_law_33 (by rw [hc85]; rfl) (by decide) rfl (by decide) ?_
                        refine ev_aload_n 1 d_Law_law_445 rfl (by decide) rfl ?_
                        refine ev_aload_n 0 d_Law_law_446 rfl (by decide) rfl ?_
                        refine ev_iload_n 3 d_Law_law_447 rfl rfl ?_
                        refine ev_iconst d_Law_law_448 rfl ?_
                        refine ev_iadd d_Law_law_449 ?_
                        obtain ⟨hg86, h⟩ := gx h
                        refine ev_sld hX2 d_Law_law_450 hg86 ?_
                        refine ev_aload_n 0 d_Law_law_451 rfl (by decide) rfl ?_
                        refine ev_iload_n 3 d_Law_law_452 rfl rfl ?_
                        refine ev_iconst d_Law_law_453 rfl ?_
                        refine ev_iadd d_Law_law_454 ?_
                        obtain ⟨hg87, h⟩ := gx h
                        refine ev_sld hX2 d_Law_law_455 hg87 ?_
                        obtain ⟨p88, hp88, h⟩ := bx h
                        have hRp88 := c_Band_piece (X := X) (d := d - 1) (by omega) hn_z1 hp88
                        refine ev_callV2 (st2 := [(0, p88)]) (as := [(0, (X.2 ((w32 (s.1 + 1)) : Int).toNat)), (0, (X.2 ((w32 (s.1 + 2)) : Int).toNat))]) (rest := []) rfl (by decide) (by decide) rfl hn_z1 rfl (Nat.le_of_ble_eq_true rfl) k_Band_piece ⟨tw_589, tw_590⟩ (by omega) tw_588 d_Law_law_456 hRp88 rfl ?_
                        refine ev_aload_n 2 d_Law_law_459 rfl (by decide) rfl ?_
                        refine ev_aload_n 0 d_Law_law_460 rfl (by decide) rfl ?_
                        refine ev_iload_n 3 d_Law_law_461 rfl rfl ?_
                        refine ev_iconst d_Law_law_462 rfl ?_
                        refine ev_iadd d_Law_law_463 ?_
                        refine ev_sld hX2 d_Law_law_464 hg86 ?_
                        refine ev_aload_n 0 d_Law_law_465 rfl (by decide) rfl ?_
                        refine ev_iload_n 3 d_Law_law_466 rfl rfl ?_
                        refine ev_iconst d_Law_law_467 rfl ?_
                        refine ev_iadd d_Law_law_468 ?_
                        refine ev_sld hX2 d_Law_law_469 hg87 ?_
                        obtain ⟨p89, hp89, h⟩ := bx h
                        have hRp89 := c_Model_piece (X := X) (d := d - 1) (by omega) hn_z2 hp89
                        refine ev_callV2 (st2 := [(0, p89.1), (0, p88)]) (as := [(0, (X.2 ((w32 (s.1 + 1)) : Int).toNat)), (0, (X.2 ((w32 (s.1 + 2)) : Int).toNat))]) (rest := [(0, p88)]) rfl (by decide) (by decide) rfl hn_z2 rfl (Nat.le_of_ble_eq_true rfl) k_Model_piece ⟨tw_1071, tw_1072⟩ (by omega) tw_1070 d_Law_law_470 hRp89 rfl ?_
                        by_cases hc90 : p88 = p89.1
                        · replace h := itp hc90 h
                          refine ev_icmp_eq_t (tgt := 956) d_Law_law_473 (by decide) hc90 ?_
                          obtain ⟨x91, hx91, h⟩ := ltx h
                          refine ev_iinc' 3 (y := x91) (L' := [(3, (0, x91)), (0, (17, a0)), (1, (11, z1)), (2, (12, z2))]) d_Law_law_956 rfl (by decide) rfl hx91 ?_
                          refine ev_goto (tgt := 18) d_Law_law_959 (by decide) ?_
                          refine ev_less (L' := [(0, (17, a0)), (1, (11, z1)), (2, (12, z2)), (3, (0, x91))]) [1, 2, 3, 0] rfl ?_
                          cases h
                          exact hk1 _ rfl
                        · replace h := itn hc90 h
                          refine ev_icmp_eq_f d_Law_law_473 (by decide) hc90 ?_
                          refine ev_iconst d_Law_law_476 rfl ?_
                          cases h
                          obtain ⟨rfl, rfl⟩ := hk2 _ rfl
                          exact ev_retZ d_Law_law_477 rfl (Or.inl rfl)
                      · replace h := itn hc85 h
                        by_cases hc92 : (bAnd (X.2 (s.1 : Int).toNat) 31) = 10
                        · replace h := itp hc92 h
                          refine ev_tabIn (tgt := 478) 10 d_Law_law_33 (by rw [hc92]; rfl) (by decide) rfl (by decide) ?_
                          refine ev_aload_n 1 d_Law_law_478 rfl (by decide) rfl ?_
                          refine ev_aload_n 0 d_Law_law_479 rfl (by decide) rfl ?_
                          refine ev_iload_n 3 d_Law_law_480 rfl rfl ?_
                          refine ev_iconst d_Law_law_481 rfl ?_
                          refine ev_iadd d_Law_law_482 ?_
                          obtain ⟨hg93, h⟩ := gx h
                          refine ev_sld hX2 d_Law_law_483 hg93 ?_
                          obtain ⟨p94, hp94, h⟩ := bx h
                          have hRp94 := c_Band_playable (X := X) (d := d - 1) (by omega) hn_z1 hp94
                          refine ev_callV2 (st2 := [(0, p94.1)]) (as := [(0, (X.2 ((w32 (s.1 + 1)) : Int).toNat))]) (rest := []) rfl (by decide) (by decide) rfl hn_z1 rfl (Nat.le_of_ble_eq_true rfl) k_Band_playable ⟨tw_609, tw_610⟩ (by omega) tw_608 d_Law_law_484 hRp94 rfl ?_
                          refine ev_aload_n 2 d_Law_law_487 rfl (by decide) rfl ?_
                          refine ev_aload_n 0 d_Law_law_488 rfl (by decide) rfl ?_
                          refine ev_iload_n 3 d_Law_law_489 rfl rfl ?_
                          refine ev_iconst d_Law_law_490 rfl ?_
                          refine ev_iadd d_Law_law_491 ?_
                          obtain ⟨hg95, h⟩ := gx h
                          refine ev_sld hX2 d_Law_law_492 hg95 ?_
                          obtain ⟨p96, hp96, h⟩ := bx h
                          have hRp96 := c_Model_playable (X := X) (d := d - 1) (by omega) hn_z2 hp96
                          refine ev_callV2 (st2 := [(0, p96.1), (0, p94.1)]) (as := [(0, (X.2 ((w32 (s.1 + 1)) : Int).toNat))]) (rest := [(0, p94.1)]) rfl (by decide) (by decide) rfl hn_z2 rfl (Nat.le_of_ble_eq_true rfl) k_Model_playable ⟨tw_1079, tw_1080⟩ (by omega) tw_1078 d_Law_law_493 hRp96 rfl ?_
                          by_cases hc97 : p94.1 = p96.1
                          · replace h := itp hc97 h
                            refine ev_icmp_eq_t (tgt := 956) d_Law_law_496 (by decide) hc97 ?_
                            obtain ⟨x98, hx98, h⟩ := ltx h
                            refine ev_iinc' 3 (y := x98) (L' := [(3, (0, x98)), (0, (17, a0)), (1, (11, z1)), (2, (12, z2))]) d_Law_law_956 rfl (by decide) rfl hx98 ?_
                            refine ev_goto (tgt := 18) d_Law_law_959 (by decide) ?_
                            refine ev_less (L' := [(0, (17, a0)), (1, (11, z1)), (2, (12, z2)), (3, (0, x98))]) [1, 2, 3, 0] rfl ?_
                            cases h
                            exact hk1 _ rfl
                          · replace h := itn hc97 h
                            refine ev_icmp_eq_f d_Law_law_496 (by decide) hc97 ?_
                            refine ev_iconst d_Law_law_499 rfl ?_
                            cases h
                            obtain ⟨rfl, rfl⟩ := hk2 _ rfl
                            exact ev_retZ d_Law_law_500 rfl (Or.inl rfl)
                        · replace h := itn hc92 h
                          by_cases hc99 : (bAnd (X.2 (s.1 : Int).toNat) 31) = 11
                          · replace h := itp hc99 h
                            refine ev_tabIn (tgt := 501) 11 d_Law_law_33 (by rw [hc99]; rfl) (by decide) rfl (by decide) ?_
                            refine ev_aload_n 1 d_Law_law_501 rfl (by decide) rfl ?_
                            refine ev_aload_n 0 d_Law_law_502 rfl (by decide) rfl ?_
                            refine ev_iload_n 3 d_Law_law_503 rfl rfl ?_
                            refine ev_iconst d_Law_law_504 rfl ?_
                            refine ev_iadd d_Law_law_505 ?_
                            obtain ⟨hg100, h⟩ := gx h
                            refine ev_sld hX2 d_Law_law_506 hg100 ?_
                            obtain ⟨p101, hp101, h⟩ := bx h
                            have hRp101 := c_Band_lacks (X := X) (d := d - 1) (by omega) hn_z1 hp101
                            refine ev_callV2 (st2 := [(0, p101.1)]) (as := [(0, (X.2 ((w32 (s.1 + 1)) : Int).toNat))]) (rest := []) rfl (by decide) (by decide) rfl hn_z1 rfl (Nat.le_of_ble_eq_true rfl) k_Band_lacks ⟨tw_644, tw_645⟩ (by omega) tw_643 d_Law_law_507 hRp101 rfl ?_
                            refine ev_aload_n 2 d_Law_law_510 rfl (by decide) rfl ?_
                            refine ev_aload_n 0 d_Law_law_511 rfl (by decide) rfl ?_
                            refine ev_iload_n 3 d_Law_law_512 rfl rfl ?_
                            refine ev_iconst d_Law_law_513 rfl ?_
                            refine ev_iadd d_Law_law_514 ?_
                            obtain ⟨hg102, h⟩ := gx h
                            refine ev_sld hX2 d_Law_law_515 hg102 ?_
                            obtain ⟨p103, hp103, h⟩ := bx h
                            have hRp103 := c_Model_lacks (X := X) (d := d - 1) (by omega) hn_z2 hp103
                            refine ev_callV2 (st2 := [(0, p103.1), (0, p101.1)]) (as := [(0, (X.2 ((w32 (s.1 + 1)) : Int).toNat))]) (rest := [(0, p101.1)]) rfl (by decide) (by decide) rfl hn_z2 rfl (Nat.le_of_ble_eq_true rfl) k_Model_lacks ⟨tw_1095, tw_1096⟩ (by omega) tw_1094 d_Law_law_516 hRp103 rfl ?_
                            by_cases hc104 : p101.1 = p103.1
                            · replace h := itp hc104 h
                              refine ev_icmp_eq_t (tgt := 956) d_Law_law_519 (by decide) hc104 ?_
                              obtain ⟨x105, hx105, h⟩ := ltx h
                              refine ev_iinc' 3 (y := x105) (L' := [(3, (0, x105)), (0, (17, a0)), (1, (11, z1)), (2, (12, z2))]) d_Law_law_956 rfl (by decide) rfl hx105 ?_
                              refine ev_goto (tgt := 18) d_Law_law_959 (by decide) ?_
                              refine ev_less (L' := [(0, (17, a0)), (1, (11, z1)), (2, (12, z2)), (3, (0, x105))]) [1, 2, 3, 0] rfl ?_
                              cases h
                              exact hk1 _ rfl
                            · replace h := itn hc104 h
                              refine ev_icmp_eq_f d_Law_law_519 (by decide) hc104 ?_
                              refine ev_iconst d_Law_law_522 rfl ?_
                              cases h
                              obtain ⟨rfl, rfl⟩ := hk2 _ rfl
                              exact ev_retZ d_Law_law_523 rfl (Or.inl rfl)
                          · replace h := itn hc99 h
                            by_cases hc106 : (bAnd (X.2 (s.1 : Int).toNat) 31) = 12
                            · replace h := itp hc106 h
                              refine ev_tabIn (tgt := 524) 12 d_Law_law_33 (by rw [hc106]; rfl) (by decide) rfl (by decide) ?_
                              refine ev_aload_n 1 d_Law_law_524 rfl (by decide) rfl ?_
                              refine ev_aload_n 0 d_Law_law_525 rfl (by decide) rfl ?_
                              refine ev_iload_n 3 d_Law_law_526 rfl rfl ?_
                              refine ev_iconst d_Law_law_527 rfl ?_
                              refine ev_iadd d_Law_law_528 ?_
                              obtain ⟨hg107, h⟩ := gx h
                              refine ev_sld hX2 d_Law_law_529 hg107 ?_
                              obtain ⟨p108, hp108, h⟩ := bx h
                              have hRp108 := c_Band_seat (X := X) (d := d - 1) (by omega) hn_z1 hp108
                              refine ev_callV2 (st2 := [(0, p108.1)]) (as := [(0, (X.2 ((w32 (s.1 + 1)) : Int).toNat))]) (rest := []) rfl (by decide) (by decide) rfl hn_z1 rfl (Nat.le_of_ble_eq_true rfl) k_Band_seat ⟨tw_658, tw_659⟩ (by omega) tw_657 d_Law_law_530 hRp108 rfl ?_
                              refine ev_aload_n 2 d_Law_law_533 rfl (by decide) rfl ?_
                              refine ev_aload_n 0 d_Law_law_534 rfl (by decide) rfl ?_
                              refine ev_iload_n 3 d_Law_law_535 rfl rfl ?_
                              refine ev_iconst d_Law_law_536 rfl ?_
                              refine ev_iadd d_Law_law_537 ?_
                              obtain ⟨hg109, h⟩ := gx h
                              refine ev_sld hX2 d_Law_law_538 hg109 ?_
                              obtain ⟨p110, hp110, h⟩ := bx h
                              have hRp110 := c_Model_seat (X := X) (d := d - 1) (by omega) hn_z2 hp110
                              refine ev_callV2 (st2 := [(0, p110.1), (0, p108.1)]) (as := [(0, (X.2 ((w32 (s.1 + 1)) : Int).toNat))]) (rest := [(0, p108.1)]) rfl (by decide) (by decide) rfl hn_z2 rfl (Nat.le_of_ble_eq_true rfl) k_Model_seat ⟨tw_1099, tw_1100⟩ (by omega) tw_1098 d_Law_law_539 hRp110 rfl ?_
                              by_cases hc111 : p108.1 = p110.1
                              · replace h := itp hc111 h
                                refine ev_icmp_eq_t (tgt := 956) d_Law_law_542 (by decide) hc111 ?_
                                obtain ⟨x112, hx112, h⟩ := ltx h
                                refine ev_iinc' 3 (y := x112) (L' := [(3, (0, x112)), (0, (17, a0)), (1, (11, z1)), (2, (12, z2))]) d_Law_law_956 rfl (by decide) rfl hx112 ?_
                                refine ev_goto (tgt := 18) d_Law_law_959 (by decide) ?_
                                refine ev_less (L' := [(0, (17, a0)), (1, (11, z1)), (2, (12, z2)), (3, (0, x112))]) [1, 2, 3, 0] rfl ?_
                                cases h
                                exact hk1 _ rfl
                              · replace h := itn hc111 h
                                refine ev_icmp_eq_f d_Law_law_542 (by decide) hc111 ?_
                                refine ev_iconst d_Law_law_545 rfl ?_
                                cases h
                                obtain ⟨rfl, rfl⟩ := hk2 _ rfl
                                exact ev_retZ d_Law_law_546 rfl (Or.inl rfl)
                            · replace h := itn hc106 h
                              by_cases hc113 : (bAnd (X.2 (s.1 : Int).toNat) 31) = 13
                              · replace h := itp hc113 h
                                refine ev_tabIn (tgt := 547) 13 d_Law_law_33 (by rw [hc113]; rfl) (by decide) rfl (by decide) ?_
                                refine ev_aload_n 1 d_Law_law_547 rfl (by decide) rfl ?_
                                refine ev_aload_n 0 d_Law_law_548 rfl (by decide) rfl ?_
                                refine ev_iload_n 3 d_Law_law_549 rfl rfl ?_
                                refine ev_iconst d_Law_law_550 rfl ?_
                                refine ev_iadd d_Law_law_551 ?_
                                obtain ⟨hg114, h⟩ := gx h
                                refine ev_sld hX2 d_Law_law_552 hg114 ?_
                                obtain ⟨p115, hp115, h⟩ := bx h
                                have hRp115 := c_Band_again (X := X) (d := d - 1) (by omega) hn_z1 hp115
                                refine ev_callV2 (st2 := [(0, p115.1)]) (as := [(0, (X.2 ((w32 (s.1 + 1)) : Int).toNat))]) (rest := []) rfl (by decide) (by decide) rfl hn_z1 rfl (Nat.le_of_ble_eq_true rfl) k_Band_again ⟨tw_713, tw_714⟩ (by omega) tw_712 d_Law_law_553 hRp115 rfl ?_
                                refine ev_aload_n 2 d_Law_law_556 rfl (by decide) rfl ?_
                                refine ev_aload_n 0 d_Law_law_557 rfl (by decide) rfl ?_
                                refine ev_iload_n 3 d_Law_law_558 rfl rfl ?_
                                refine ev_iconst d_Law_law_559 rfl ?_
                                refine ev_iadd d_Law_law_560 ?_
                                obtain ⟨hg116, h⟩ := gx h
                                refine ev_sld hX2 d_Law_law_561 hg116 ?_
                                obtain ⟨p117, hp117, h⟩ := bx h
                                have hRp117 := c_Model_again (X := X) (d := d - 1) (by omega) hn_z2 hp117
                                refine ev_callV2 (st2 := [(0, p117.1), (0, p115.1)]) (as := [(0, (X.2 ((w32 (s.1 + 1)) : Int).toNat))]) (rest := [(0, p115.1)]) rfl (by decide) (by decide) rfl hn_z2 rfl (Nat.le_of_ble_eq_true rfl) k_Model_again ⟨tw_1128, tw_1129⟩ (by omega) tw_1127 d_Law_law_562 hRp117 rfl ?_
                                by_cases hc118 : p115.1 = p117.1
                                · replace h := itp hc118 h
                                  refine ev_icmp_eq_t (tgt := 956) d_Law_law_565 (by decide) hc118 ?_
                                  obtain ⟨x119, hx119, h⟩ := ltx h
                                  refine ev_iinc' 3 (y := x119) (L' := [(3, (0, x119)), (0, (17, a0)), (1, (11, z1)), (2, (12, z2))]) d_Law_law_956 rfl (by decide) rfl hx119 ?_
                                  refine ev_goto (tgt := 18) d_Law_law_959 (by decide) ?_
                                  refine ev_less (L' := [(0, (17, a0)), (1, (11, z1)), (2, (12, z2)), (3, (0, x119))]) [1, 2, 3, 0] rfl ?_
                                  cases h
                                  exact hk1 _ rfl
                                · replace h := itn hc118 h
                                  refine ev_icmp_eq_f d_Law_law_565 (by decide) hc118 ?_
                                  refine ev_iconst d_Law_law_568 rfl ?_
                                  cases h
                                  obtain ⟨rfl, rfl⟩ := hk2 _ rfl
                                  exact ev_retZ d_Law_law_569 rfl (Or.inl rfl)
                              · replace h := itn hc113 h
                                by_cases hc120 : (bAnd (X.2 (s.1 : Int).toNat) 31) = 14
                                · replace h := itp hc120 h
                                  refine ev_tabIn (tgt := 570) 14 d_Law_law_33 (by rw [hc120]; rfl) (by decide) rfl (by decide) ?_
                                  refine ev_aload_n 1 d_Law_law_570 rfl (by decide) rfl ?_
                                  refine ev_aload_n 0 d_Law_law_571 rfl (by decide) rfl ?_
                                  refine ev_iload_n 3 d_Law_law_572 rfl rfl ?_
                                  refine ev_iconst d_Law_law_573 rfl ?_
                                  refine ev_iadd d_Law_law_574 ?_
                                  obtain ⟨hg121, h⟩ := gx h
                                  refine ev_sld hX2 d_Law_law_575 hg121 ?_
                                  refine ev_aload_n 0 d_Law_law_576 rfl (by decide) rfl ?_
                                  refine ev_iload_n 3 d_Law_law_577 rfl rfl ?_
                                  refine ev_iconst d_Law_law_578 rfl ?_
                                  refine ev_iadd d_Law_law_579 ?_
                                  obtain ⟨hg122, h⟩ := gx h
                                  refine ev_sld hX2 d_Law_law_580 hg122 ?_
                                  obtain ⟨p123, hp123, h⟩ := bx h
                                  have hRp123 := c_Band_chair (X := X) (d := d - 1) (by omega) hn_z1 hp123
                                  refine ev_callV2 (st2 := [(0, p123)]) (as := [(0, (X.2 ((w32 (s.1 + 1)) : Int).toNat)), (0, (X.2 ((w32 (s.1 + 2)) : Int).toNat))]) (rest := []) rfl (by decide) (by decide) rfl hn_z1 rfl (Nat.le_of_ble_eq_true rfl) k_Band_chair ⟨tw_721, tw_722⟩ (by omega) tw_720 d_Law_law_581 hRp123 rfl ?_
                                  refine ev_aload_n 2 d_Law_law_584 rfl (by decide) rfl ?_
                                  refine ev_aload_n 0 d_Law_law_585 rfl (by decide) rfl ?_
                                  refine ev_iload_n 3 d_Law_law_586 rfl rfl ?_
                                  refine ev_iconst d_Law_law_587 rfl ?_
                                  refine ev_iadd d_Law_law_588 ?_
                                  refine ev_sld hX2 d_Law_law_589 hg121 ?_
                                  refine ev_aload_n 0 d_Law_law_590 rfl (by decide) rfl ?_
                                  refine ev_iload_n 3 d_Law_law_591 rfl rfl ?_
                                  refine ev_iconst d_Law_law_592 rfl ?_
                                  refine ev_iadd d_Law_law_593 ?_
                                  refine ev_sld hX2 d_Law_law_594 hg122 ?_
                                  obtain ⟨p124, hp124, h⟩ := bx h
                                  have hRp124 := c_Model_chair (X := X) (d := d - 1) (by omega) hn_z2 hp124
                                  refine ev_callV2 (st2 := [(0, p124.1), (0, p123)]) (as := [(0, (X.2 ((w32 (s.1 + 1)) : Int).toNat)), (0, (X.2 ((w32 (s.1 + 2)) : Int).toNat))]) (rest := [(0, p123)]) rfl (by decide) (by decide) rfl hn_z2 rfl (Nat.le_of_ble_eq_true rfl) k_Model_chair ⟨tw_1132, tw_1133⟩ (by omega) tw_1131 d_Law_law_595 hRp124 rfl ?_
                                  by_cases hc125 : p123 = p124.1
                                  · replace h := itp hc125 h
                                    refine ev_icmp_eq_t (tgt := 956) d_Law_law_598 (by decide) hc125 ?_
                                    obtain ⟨x126, hx126, h⟩ := ltx h
                                    refine ev_iinc' 3 (y := x126) (L' := [(3, (0, x126)), (0, (17, a0)), (1, (11, z1)), (2, (12, z2))]) d_Law_law_956 rfl (by decide) rfl hx126 ?_
                                    refine ev_goto (tgt := 18) d_Law_law_959 (by decide) ?_
                                    refine ev_less (L' := [(0, (17, a0)), (1, (11, z1)), (2, (12, z2)), (3, (0, x126))]) [1, 2, 3, 0] rfl ?_
                                    cases h
                                    exact hk1 _ rfl
                                  · replace h := itn hc125 h
                                    refine ev_icmp_eq_f d_Law_law_598 (by decide) hc125 ?_
                                    refine ev_iconst d_Law_law_601 rfl ?_
                                    cases h
                                    obtain ⟨rfl, rfl⟩ := hk2 _ rfl
                                    exact ev_retZ d_Law_law_602 rfl (Or.inl rfl)
                                · replace h := itn hc120 h
                                  by_cases hc127 : (bAnd (X.2 (s.1 : Int).toNat) 31) = 15
                                  · replace h := itp hc127 h
                                    refine ev_tabIn (tgt := 603) 15 d_Law_law_33 (by rw [hc127]; rfl) (by decide) rfl (by decide) ?_
                                    refine ev_aload_n 1 d_Law_law_603 rfl (by decide) rfl ?_
                                    refine ev_aload_n 0 d_Law_law_604 rfl (by decide) rfl ?_
                                    refine ev_iload_n 3 d_Law_law_605 rfl rfl ?_
                                    refine ev_iconst d_Law_law_606 rfl ?_
                                    refine ev_iadd d_Law_law_607 ?_
                                    obtain ⟨hg128, h⟩ := gx h
                                    refine ev_sld hX2 d_Law_law_608 hg128 ?_
                                    refine ev_aload_n 0 d_Law_law_609 rfl (by decide) rfl ?_
                                    refine ev_iload_n 3 d_Law_law_610 rfl rfl ?_
                                    refine ev_iconst d_Law_law_611 rfl ?_
                                    refine ev_iadd d_Law_law_612 ?_
                                    obtain ⟨hg129, h⟩ := gx h
                                    refine ev_sld hX2 d_Law_law_613 hg129 ?_
                                    refine ev_aload_n 0 d_Law_law_614 rfl (by decide) rfl ?_
                                    refine ev_iload_n 3 d_Law_law_615 rfl rfl ?_
                                    refine ev_iconst d_Law_law_616 rfl ?_
                                    refine ev_iadd d_Law_law_617 ?_
                                    obtain ⟨hg130, h⟩ := gx h
                                    refine ev_sld hX2 d_Law_law_618 hg130 ?_
                                    obtain ⟨p131, hp131, h⟩ := bx h
                                    have hRp131 := c_Band_sit (X := X) (d := d - 1) (by omega) hn_z1 hp131
                                    refine ev_callV2 (st2 := [(0, p131.1)]) (as := [(0, (X.2 ((w32 (s.1 + 1)) : Int).toNat)), (0, (X.2 ((w32 (s.1 + 2)) : Int).toNat)), (0, (X.2 ((w32 (s.1 + 3)) : Int).toNat))]) (rest := []) rfl (by decide) (by decide) rfl hn_z1 rfl (Nat.le_of_ble_eq_true rfl) k_Band_sit ⟨tw_726, tw_727⟩ (by omega) tw_725 d_Law_law_619 hRp131 rfl ?_
                                    refine ev_aload_n 2 d_Law_law_622 rfl (by decide) rfl ?_
                                    refine ev_aload_n 0 d_Law_law_623 rfl (by decide) rfl ?_
                                    refine ev_iload_n 3 d_Law_law_624 rfl rfl ?_
                                    refine ev_iconst d_Law_law_625 rfl ?_
                                    refine ev_iadd d_Law_law_626 ?_
                                    obtain ⟨hg132, h⟩ := gx h
                                    refine ev_sld hX2 d_Law_law_627 hg132 ?_
                                    refine ev_aload_n 0 d_Law_law_628 rfl (by decide) rfl ?_
                                    refine ev_iload_n 3 d_Law_law_629 rfl rfl ?_
                                    refine ev_iconst d_Law_law_630 rfl ?_
                                    refine ev_iadd d_Law_law_631 ?_
                                    obtain ⟨hg133, h⟩ := gx h
                                    refine ev_sld hX2 d_Law_law_632 hg133 ?_
                                    refine ev_aload_n 0 d_Law_law_633 rfl (by decide) rfl ?_
                                    refine ev_iload_n 3 d_Law_law_634 rfl rfl ?_
                                    refine ev_iconst d_Law_law_635 rfl ?_
                                    refine ev_iadd d_Law_law_636 ?_
                                    obtain ⟨hg134, h⟩ := gx h
                                    refine ev_sld hX2 d_Law_law_637 hg134 ?_
                                    obtain ⟨p135, hp135, h⟩ := bx h
                                    have hRp135 := c_Model_sit (X := X) (d := d - 1) (by omega) hn_z2 hp135
                                    refine ev_callV2 (st2 := [(0, p135.1), (0, p131.1)]) (as := [(0, (X.2 ((w32 (s.1 + 1)) : Int).toNat)), (0, (X.2 ((w32 (s.1 + 2)) : Int).toNat)), (0, (X.2 ((w32 (s.1 + 3)) : Int).toNat))]) (rest := [(0, p131.1)]) rfl (by decide) (by decide) rfl hn_z2 rfl (Nat.le_of_ble_eq_true rfl) k_Model_sit ⟨tw_1140, tw_1141⟩ (by omega) tw_1139 d_Law_law_638 hRp135 rfl ?_
                                    by_cases hc136 : p131.1 = p135.1
                                    · replace h := itp hc136 h
                                      refine ev_icmp_eq_t (tgt := 956) d_Law_law_641 (by decide) hc136 ?_
                                      obtain ⟨x137, hx137, h⟩ := ltx h
                                      refine ev_iinc' 3 (y := x137) (L' := [(3, (0, x137)), (0, (17, a0)), (1, (11, z1)), (2, (12, z2))]) d_Law_law_956 rfl (by decide) rfl hx137 ?_
                                      refine ev_goto (tgt := 18) d_Law_law_959 (by decide) ?_
                                      refine ev_less (L' := [(0, (17, a0)), (1, (11, z1)), (2, (12, z2)), (3, (0, x137))]) [1, 2, 3, 0] rfl ?_
                                      cases h
                                      exact hk1 _ rfl
                                    · replace h := itn hc136 h
                                      refine ev_icmp_eq_f d_Law_law_641 (by decide) hc136 ?_
                                      refine ev_iconst d_Law_law_644 rfl ?_
                                      cases h
                                      obtain ⟨rfl, rfl⟩ := hk2 _ rfl
                                      exact ev_retZ d_Law_law_645 rfl (Or.inl rfl)
                                  · replace h := itn hc127 h
                                    by_cases hc138 : (bAnd (X.2 (s.1 : Int).toNat) 31) = 16
                                    · replace h := itp hc138 h
                                      refine ev_tabIn (tgt := 646) 16 d_Law_law_33 (by rw [hc138]; rfl) (by decide) rfl (by decide) ?_
                                      refine ev_aload_n 1 d_Law_law_646 rfl (by decide) rfl ?_
                                      refine ev_aload_n 0 d_Law_law_647 rfl (by decide) rfl ?_
                                      refine ev_iload_n 3 d_Law_law_648 rfl rfl ?_
                                      refine ev_iconst d_Law_law_649 rfl ?_
                                      refine ev_iadd d_Law_law_650 ?_
                                      obtain ⟨hg139, h⟩ := gx h
                                      refine ev_sld hX2 d_Law_law_651 hg139 ?_
                                      refine ev_aload_n 0 d_Law_law_652 rfl (by decide) rfl ?_
                                      refine ev_iload_n 3 d_Law_law_653 rfl rfl ?_
                                      refine ev_iconst d_Law_law_654 rfl ?_
                                      refine ev_iadd d_Law_law_655 ?_
                                      obtain ⟨hg140, h⟩ := gx h
                                      refine ev_sld hX2 d_Law_law_656 hg140 ?_
                                      obtain ⟨p141, hp141, h⟩ := bx h
                                      have hRp141 := c_Band_seating (X := X) (d := d - 1) (by omega) hn_z1 hp141
                                      refine ev_callV2 (st2 := [(0, p141)]) (as := [(0, (X.2 ((w32 (s.1 + 1)) : Int).toNat)), (0, (X.2 ((w32 (s.1 + 2)) : Int).toNat))]) (rest := []) rfl (by decide) (by decide) rfl hn_z1 rfl (Nat.le_of_ble_eq_true rfl) k_Band_seating ⟨tw_735, tw_736⟩ (by omega) tw_734 d_Law_law_657 hRp141 rfl ?_
                                      refine ev_aload_n 2 d_Law_law_660 rfl (by decide) rfl ?_
                                      refine ev_aload_n 0 d_Law_law_661 rfl (by decide) rfl ?_
                                      refine ev_iload_n 3 d_Law_law_662 rfl rfl ?_
                                      refine ev_iconst d_Law_law_663 rfl ?_
                                      refine ev_iadd d_Law_law_664 ?_
                                      refine ev_sld hX2 d_Law_law_665 hg139 ?_
                                      refine ev_aload_n 0 d_Law_law_666 rfl (by decide) rfl ?_
                                      refine ev_iload_n 3 d_Law_law_667 rfl rfl ?_
                                      refine ev_iconst d_Law_law_668 rfl ?_
                                      refine ev_iadd d_Law_law_669 ?_
                                      refine ev_sld hX2 d_Law_law_670 hg140 ?_
                                      obtain ⟨p142, hp142, h⟩ := bx h
                                      have hRp142 := c_Model_seating (X := X) (d := d - 1) (by omega) hn_z2 hp142
                                      refine ev_callV2 (st2 := [(0, p142.1), (0, p141)]) (as := [(0, (X.2 ((w32 (s.1 + 1)) : Int).toNat)), (0, (X.2 ((w32 (s.1 + 2)) : Int).toNat))]) (rest := [(0, p141)]) rfl (by decide) (by decide) rfl hn_z2 rfl (Nat.le_of_ble_eq_true rfl) k_Model_seating ⟨tw_1144, tw_1145⟩ (by omega) tw_1143 d_Law_law_671 hRp142 rfl ?_
                                      by_cases hc143 : p141 = p142.1
                                      · replace h := itp hc143 h
                                        refine ev_icmp_eq_t (tgt := 956) d_Law_law_674 (by decide) hc143 ?_
                                        obtain ⟨x144, hx144, h⟩ := ltx h
                                        refine ev_iinc' 3 (y := x144) (L' := [(3, (0, x144)), (0, (17, a0)), (1, (11, z1)), (2, (12, z2))]) d_Law_law_956 rfl (by decide) rfl hx144 ?_
                                        refine ev_goto (tgt := 18) d_Law_law_959 (by decide) ?_
                                        refine ev_less (L' := [(0, (17, a0)), (1, (11, z1)), (2, (12, z2)), (3, (0, x144))]) [1, 2, 3, 0] rfl ?_
                                        cases h
                                        exact hk1 _ rfl
                                      · replace h := itn hc143 h
                                        refine ev_icmp_eq_f d_Law_law_674 (by decide) hc143 ?_
                                        refine ev_iconst d_Law_law_677 rfl ?_
                                        cases h
                                        obtain ⟨rfl, rfl⟩ := hk2 _ rfl
                                        exact ev_retZ d_Law_law_678 rfl (Or.inl rfl)
                                    · replace h := itn hc138 h
                                      by_cases hc145 : (bAnd (X.2 (s.1 : Int).toNat) 31) = 17
                                      · replace h := itp hc145 h
                                        refine ev_tabIn (tgt := 679) 17 d_Law_law_33 (by rw [hc145]; rfl) (by decide) rfl (by decide) ?_
                                        refine ev_aload_n 1 d_Law_law_679 rfl (by decide) rfl ?_
                                        refine ev_aload_n 0 d_Law_law_680 rfl (by decide) rfl ?_
                                        refine ev_iload_n 3 d_Law_law_681 rfl rfl ?_
                                        refine ev_iconst d_Law_law_682 rfl ?_
                                        refine ev_iadd d_Law_law_683 ?_
                                        obtain ⟨hg146, h⟩ := gx h
                                        refine ev_sld hX2 d_Law_law_684 hg146 ?_
                                        refine ev_aload_n 0 d_Law_law_685 rfl (by decide) rfl ?_
                                        refine ev_iload_n 3 d_Law_law_686 rfl rfl ?_
                                        refine ev_iconst d_Law_law_687 rfl ?_
                                        refine ev_iadd d_Law_law_688 ?_
                                        obtain ⟨hg147, h⟩ := gx h
                                        refine ev_sld hX2 d_Law_law_689 hg147 ?_
                                        obtain ⟨p148, hp148, h⟩ := bx h
                                        have hRp148 := c_Band_programme (X := X) (d := d - 1) (by omega) hn_z1 hp148
                                        refine ev_callV2 (st2 := [(0, p148.1)]) (as := [(0, (X.2 ((w32 (s.1 + 1)) : Int).toNat)), (0, (X.2 ((w32 (s.1 + 2)) : Int).toNat))]) (rest := []) rfl (by decide) (by decide) rfl hn_z1 rfl (Nat.le_of_ble_eq_true rfl) k_Band_programme ⟨tw_751, tw_752⟩ (by omega) tw_750 d_Law_law_690 hRp148 rfl ?_
                                        refine ev_aload_n 2 d_Law_law_693 rfl (by decide) rfl ?_
                                        refine ev_aload_n 0 d_Law_law_694 rfl (by decide) rfl ?_
                                        refine ev_iload_n 3 d_Law_law_695 rfl rfl ?_
                                        refine ev_iconst d_Law_law_696 rfl ?_
                                        refine ev_iadd d_Law_law_697 ?_
                                        obtain ⟨hg149, h⟩ := gx h
                                        refine ev_sld hX2 d_Law_law_698 hg149 ?_
                                        refine ev_aload_n 0 d_Law_law_699 rfl (by decide) rfl ?_
                                        refine ev_iload_n 3 d_Law_law_700 rfl rfl ?_
                                        refine ev_iconst d_Law_law_701 rfl ?_
                                        refine ev_iadd d_Law_law_702 ?_
                                        obtain ⟨hg150, h⟩ := gx h
                                        refine ev_sld hX2 d_Law_law_703 hg150 ?_
                                        obtain ⟨p151, hp151, h⟩ := bx h
                                        have hRp151 := c_Model_programme (X := X) (d := d - 1) (by omega) hn_z2 hp151
                                        refine ev_callV2 (st2 := [(0, p151.1), (0, p148.1)]) (as := [(0, (X.2 ((w32 (s.1 + 1)) : Int).toNat)), (0, (X.2 ((w32 (s.1 + 2)) : Int).toNat))]) (rest := [(0, p148.1)]) rfl (by decide) (by decide) rfl hn_z2 rfl (Nat.le_of_ble_eq_true rfl) k_Model_programme ⟨tw_1148, tw_1149⟩ (by omega) tw_1147 d_Law_law_704 hRp151 rfl ?_
                                        by_cases hc152 : p148.1 = p151.1
                                        · replace h := itp hc152 h
                                          refine ev_icmp_eq_t (tgt := 956) d_Law_law_707 (by decide) hc152 ?_
                                          obtain ⟨x153, hx153, h⟩ := ltx h
                                          refine ev_iinc' 3 (y := x153) (L' := [(3, (0, x153)), (0, (17, a0)), (1, (11, z1)), (2, (12, z2))]) d_Law_law_956 rfl (by decide) rfl hx153 ?_
                                          refine ev_goto (tgt := 18) d_Law_law_959 (by decide) ?_
                                          refine ev_less (L' := [(0, (17, a0)), (1, (11, z1)), (2, (12, z2)), (3, (0, x153))]) [1, 2, 3, 0] rfl ?_
                                          cases h
                                          exact hk1 _ rfl
                                        · replace h := itn hc152 h
                                          refine ev_icmp_eq_f d_Law_law_707 (by decide) hc152 ?_
                                          refine ev_iconst d_Law_law_710 rfl ?_
                                          cases h
                                          obtain ⟨rfl, rfl⟩ := hk2 _ rfl
                                          exact ev_retZ d_Law_law_711 rfl (Or.inl rfl)
                                      · replace h := itn hc145 h
                                        by_cases hc154 : (bAnd (X.2 (s.1 : Int).toNat) 31) = 18
                                        · replace h := itp hc154 h
                                          refine ev_tabIn (tgt := 712) 18 d_Law_law_33 (by rw [hc154]; rfl) (by decide) rfl (by decide) ?_
                                          refine ev_aload_n 1 d_Law_law_712 rfl (by decide) rfl ?_
                                          refine ev_aload_n 0 d_Law_law_713 rfl (by decide) rfl ?_
                                          refine ev_iload_n 3 d_Law_law_714 rfl rfl ?_
                                          refine ev_iconst d_Law_law_715 rfl ?_
                                          refine ev_iadd d_Law_law_716 ?_
                                          obtain ⟨hg155, h⟩ := gx h
                                          refine ev_sld hX2 d_Law_law_717 hg155 ?_
                                          obtain ⟨p156, hp156, h⟩ := bx h
                                          have hRp156 := c_Band_plan (X := X) (d := d - 1) (by omega) hn_z1 hp156
                                          refine ev_callV2 (st2 := [(0, p156)]) (as := [(0, (X.2 ((w32 (s.1 + 1)) : Int).toNat))]) (rest := []) rfl (by decide) (by decide) rfl hn_z1 rfl (Nat.le_of_ble_eq_true rfl) k_Band_plan ⟨tw_802, tw_803⟩ (by omega) tw_801 d_Law_law_718 hRp156 rfl ?_
                                          refine ev_aload_n 2 d_Law_law_721 rfl (by decide) rfl ?_
                                          refine ev_aload_n 0 d_Law_law_722 rfl (by decide) rfl ?_
                                          refine ev_iload_n 3 d_Law_law_723 rfl rfl ?_
                                          refine ev_iconst d_Law_law_724 rfl ?_
                                          refine ev_iadd d_Law_law_725 ?_
                                          refine ev_sld hX2 d_Law_law_726 hg155 ?_
                                          obtain ⟨p157, hp157, h⟩ := bx h
                                          have hRp157 := c_Model_plan (X := X) (d := d - 1) (by omega) hn_z2 hp157
                                          refine ev_callV2 (st2 := [(0, p157.1), (0, p156)]) (as := [(0, (X.2 ((w32 (s.1 + 1)) : Int).toNat))]) (rest := [(0, p156)]) rfl (by decide) (by decide) rfl hn_z2 rfl (Nat.le_of_ble_eq_true rfl) k_Model_plan ⟨tw_1164, tw_1165⟩ (by omega) tw_1163 d_Law_law_727 hRp157 rfl ?_
                                          by_cases hc158 : p156 = p157.1
                                          · replace h := itp hc158 h
                                            refine ev_icmp_eq_t (tgt := 956) d_Law_law_730 (by decide) hc158 ?_
                                            obtain ⟨x159, hx159, h⟩ := ltx h
                                            refine ev_iinc' 3 (y := x159) (L' := [(3, (0, x159)), (0, (17, a0)), (1, (11, z1)), (2, (12, z2))]) d_Law_law_956 rfl (by decide) rfl hx159 ?_
                                            refine ev_goto (tgt := 18) d_Law_law_959 (by decide) ?_
                                            refine ev_less (L' := [(0, (17, a0)), (1, (11, z1)), (2, (12, z2)), (3, (0, x159))]) [1, 2, 3, 0] rfl ?_
                                            cases h
                                            exact hk1 _ rfl
                                          · replace h := itn hc158 h
                                            refine ev_icmp_eq_f d_Law_law_730 (by decide) hc158 ?_
                                            refine ev_iconst d_Law_law_733 rfl ?_
                                            cases h
                                            obtain ⟨rfl, rfl⟩ := hk2 _ rfl
                                            exact ev_retZ d_Law_law_734 rfl (Or.inl rfl)
                                        · replace h := itn hc154 h
                                          by_cases hc160 : (bAnd (X.2 (s.1 : Int).toNat) 31) = 19
                                          · replace h := itp hc160 h
                                            refine ev_tabIn (tgt := 735) 19 d_Law_law_33 (by rw [hc160]; rfl) (by decide) rfl (by decide) ?_
                                            refine ev_aload_n 1 d_Law_law_735 rfl (by decide) rfl ?_
                                            obtain ⟨p161, hp161, h⟩ := bx h
                                            have hRp161 := c_Band_strain (X := X) (d := d - 1) (by omega) hn_z1 hp161
                                            refine ev_callV2 (st2 := [(0, p161)]) (as := []) (rest := []) rfl (by decide) (by decide) rfl hn_z1 rfl (Nat.le_of_ble_eq_true rfl) k_Band_strain ⟨tw_806, tw_807⟩ (by omega) tw_805 d_Law_law_736 hRp161 rfl ?_
                                            refine ev_aload_n 2 d_Law_law_739 rfl (by decide) rfl ?_
                                            obtain ⟨p162, hp162, h⟩ := bx h
                                            have hRp162 := c_Model_strain (X := X) (d := d - 1) (by omega) hn_z2 hp162
                                            refine ev_callV2 (st2 := [(0, p162.1), (0, p161)]) (as := []) (rest := [(0, p161)]) rfl (by decide) (by decide) rfl hn_z2 rfl (Nat.le_of_ble_eq_true rfl) k_Model_strain ⟨tw_1168, tw_1169⟩ (by omega) tw_1167 d_Law_law_740 hRp162 rfl ?_
                                            by_cases hc163 : p161 = p162.1
                                            · replace h := itp hc163 h
                                              refine ev_icmp_eq_t (tgt := 956) d_Law_law_743 (by decide) hc163 ?_
                                              obtain ⟨x164, hx164, h⟩ := ltx h
                                              refine ev_iinc' 3 (y := x164) (L' := [(3, (0, x164)), (0, (17, a0)), (1, (11, z1)), (2, (12, z2))]) d_Law_law_956 rfl (by decide) rfl hx164 ?_
                                              refine ev_goto (tgt := 18) d_Law_law_959 (by decide) ?_
                                              refine ev_less (L' := [(0, (17, a0)), (1, (11, z1)), (2, (12, z2)), (3, (0, x164))]) [1, 2, 3, 0] rfl ?_
                                              cases h
                                              exact hk1 _ rfl
                                            · replace h := itn hc163 h
                                              refine ev_icmp_eq_f d_Law_law_743 (by decide) hc163 ?_
                                              refine ev_iconst d_Law_law_746 rfl ?_
                                              cases h
                                              obtain ⟨rfl, rfl⟩ := hk2 _ rfl
                                              exact ev_retZ d_Law_law_747 rfl (Or.inl rfl)
                                          · replace h := itn hc160 h
                                            by_cases hc165 : (bAnd (X.2 (s.1 : Int).toNat) 31) = 20
                                            · replace h := itp hc165 h
                                              refine ev_tabIn (tgt := 748) 20 d_Law_law_33 (by rw [hc165]; rfl) (by decide) rfl (by decide) ?_
                                              refine ev_aload_n 1 d_Law_law_748 rfl (by decide) rfl ?_
                                              refine ev_aload_n 0 d_Law_law_749 rfl (by decide) rfl ?_
                                              refine ev_iload_n 3 d_Law_law_750 rfl rfl ?_
                                              refine ev_iconst d_Law_law_751 rfl ?_
                                              refine ev_iadd d_Law_law_752 ?_
                                              obtain ⟨hg166, h⟩ := gx h
                                              refine ev_sld hX2 d_Law_law_753 hg166 ?_
                                              refine ev_aload_n 0 d_Law_law_754 rfl (by decide) rfl ?_
                                              refine ev_iload_n 3 d_Law_law_755 rfl rfl ?_
                                              refine ev_iconst d_Law_law_756 rfl ?_
                                              refine ev_iadd d_Law_law_757 ?_
                                              obtain ⟨hg167, h⟩ := gx h
                                              refine ev_sld hX2 d_Law_law_758 hg167 ?_
                                              refine ev_aload_n 0 d_Law_law_759 rfl (by decide) rfl ?_
                                              refine ev_iload_n 3 d_Law_law_760 rfl rfl ?_
                                              refine ev_iconst d_Law_law_761 rfl ?_
                                              refine ev_iadd d_Law_law_762 ?_
                                              obtain ⟨hg168, h⟩ := gx h
                                              refine ev_sld hX2 d_Law_law_763 hg168 ?_
                                              obtain ⟨p169, hp169, h⟩ := bx h
                                              have hRp169 := c_Band_tell (X := X) (d := d - 1) (by omega) hn_z1 hp169
                                              refine ev_callV2 (st2 := [(0, p169.1)]) (as := [(0, (X.2 ((w32 (s.1 + 1)) : Int).toNat)), (0, (X.2 ((w32 (s.1 + 2)) : Int).toNat)), (0, (X.2 ((w32 (s.1 + 3)) : Int).toNat))]) (rest := []) rfl (by decide) (by decide) rfl hn_z1 rfl (Nat.le_of_ble_eq_true rfl) k_Band_tell ⟨tw_810, tw_811⟩ (by omega) tw_809 d_Law_law_764 hRp169 rfl ?_
                                              refine ev_aload_n 2 d_Law_law_767 rfl (by decide) rfl ?_
                                              refine ev_aload_n 0 d_Law_law_768 rfl (by decide) rfl ?_
                                              refine ev_iload_n 3 d_Law_law_769 rfl rfl ?_
                                              refine ev_iconst d_Law_law_770 rfl ?_
                                              refine ev_iadd d_Law_law_771 ?_
                                              obtain ⟨hg170, h⟩ := gx h
                                              refine ev_sld hX2 d_Law_law_772 hg170 ?_
                                              refine ev_aload_n 0 d_Law_law_773 rfl (by decide) rfl ?_
                                              refine ev_iload_n 3 d_Law_law_774 rfl rfl ?_
                                              refine ev_iconst d_Law_law_775 rfl ?_
                                              refine ev_iadd d_Law_law_776 ?_
                                              obtain ⟨hg171, h⟩ := gx h
                                              refine ev_sld hX2 d_Law_law_777 hg171 ?_
                                              refine ev_aload_n 0 d_Law_law_778 rfl (by decide) rfl ?_
                                              refine ev_iload_n 3 d_Law_law_779 rfl rfl ?_
                                              refine ev_iconst d_Law_law_780 rfl ?_
                                              refine ev_iadd d_Law_law_781 ?_
                                              obtain ⟨hg172, h⟩ := gx h
                                              refine ev_sld hX2 d_Law_law_782 hg172 ?_
                                              obtain ⟨p173, hp173, h⟩ := bx h
                                              have hRp173 := c_Model_tell (X := X) (d := d - 1) (by omega) hn_z2 hp173
                                              refine ev_callV2 (st2 := [(0, p173.1), (0, p169.1)]) (as := [(0, (X.2 ((w32 (s.1 + 1)) : Int).toNat)), (0, (X.2 ((w32 (s.1 + 2)) : Int).toNat)), (0, (X.2 ((w32 (s.1 + 3)) : Int).toNat))]) (rest := [(0, p169.1)]) rfl (by decide) (by decide) rfl hn_z2 rfl (Nat.le_of_ble_eq_true rfl) k_Model_tell ⟨tw_1172, tw_1173⟩ (by omega) tw_1171 d_Law_law_783 hRp173 rfl ?_
                                              by_cases hc174 : p169.1 = p173.1
                                              · replace h := itp hc174 h
                                                refine ev_icmp_eq_t (tgt := 956) d_Law_law_786 (by decide) hc174 ?_
                                                obtain ⟨x175, hx175, h⟩ := ltx h
                                                refine ev_iinc' 3 (y := x175) (L' := [(3, (0, x175)), (0, (17, a0)), (1, (11, z1)), (2, (12, z2))]) d_Law_law_956 rfl (by decide) rfl hx175 ?_
                                                refine ev_goto (tgt := 18) d_Law_law_959 (by decide) ?_
                                                refine ev_less (L' := [(0, (17, a0)), (1, (11, z1)), (2, (12, z2)), (3, (0, x175))]) [1, 2, 3, 0] rfl ?_
                                                cases h
                                                exact hk1 _ rfl
                                              · replace h := itn hc174 h
                                                refine ev_icmp_eq_f d_Law_law_786 (by decide) hc174 ?_
                                                refine ev_iconst d_Law_law_789 rfl ?_
                                                cases h
                                                obtain ⟨rfl, rfl⟩ := hk2 _ rfl
                                                exact ev_retZ d_Law_law_790 rfl (Or.inl rfl)
                                            · replace h := itn hc165 h
                                              by_cases hc176 : (bAnd (X.2 (s.1 : Int).toNat) 31) = 21
                                              · replace h := itp hc176 h
                                                refine ev_tabIn (tgt := 791) 21 d_Law_law_33 (by rw [hc176]; rfl) (by decide) rfl (by decide) ?_
                                                refine ev_aload_n 1 d_Law_law_791 rfl (by decide) rfl ?_
                                                refine ev_aload_n 0 d_Law_law_792 rfl (by decide) rfl ?_
                                                refine ev_iload_n 3 d_Law_law_793 rfl rfl ?_
                                                refine ev_iconst d_Law_law_794 rfl ?_
                                                refine ev_iadd d_Law_law_795 ?_
                                                obtain ⟨hg177, h⟩ := gx h
                                                refine ev_sld hX2 d_Law_law_796 hg177 ?_
                                                refine ev_aload_n 0 d_Law_law_797 rfl (by decide) rfl ?_
                                                refine ev_iload_n 3 d_Law_law_798 rfl rfl ?_
                                                refine ev_iconst d_Law_law_799 rfl ?_
                                                refine ev_iadd d_Law_law_800 ?_
                                                obtain ⟨hg178, h⟩ := gx h
                                                refine ev_sld hX2 d_Law_law_801 hg178 ?_
                                                refine ev_aload_n 0 d_Law_law_802 rfl (by decide) rfl ?_
                                                refine ev_iload_n 3 d_Law_law_803 rfl rfl ?_
                                                refine ev_iconst d_Law_law_804 rfl ?_
                                                refine ev_iadd d_Law_law_805 ?_
                                                obtain ⟨hg179, h⟩ := gx h
                                                refine ev_sld hX2 d_Law_law_806 hg179 ?_
                                                obtain ⟨p180, hp180, h⟩ := bx h
                                                have hRp180 := c_Band_where (X := X) (d := d - 1) (by omega) hn_z1 hp180
                                                refine ev_callV2 (st2 := [(0, p180.1)]) (as := [(0, (X.2 ((w32 (s.1 + 1)) : Int).toNat)), (0, (X.2 ((w32 (s.1 + 2)) : Int).toNat)), (0, (X.2 ((w32 (s.1 + 3)) : Int).toNat))]) (rest := []) rfl (by decide) (by decide) rfl hn_z1 rfl (Nat.le_of_ble_eq_true rfl) k_Band_where ⟨tw_825, tw_826⟩ (by omega) tw_824 d_Law_law_807 hRp180 rfl ?_
                                                refine ev_aload_n 2 d_Law_law_810 rfl (by decide) rfl ?_
                                                refine ev_aload_n 0 d_Law_law_811 rfl (by decide) rfl ?_
                                                refine ev_iload_n 3 d_Law_law_812 rfl rfl ?_
                                                refine ev_iconst d_Law_law_813 rfl ?_
                                                refine ev_iadd d_Law_law_814 ?_
                                                obtain ⟨hg181, h⟩ := gx h
                                                refine ev_sld hX2 d_Law_law_815 hg181 ?_
                                                refine ev_aload_n 0 d_Law_law_816 rfl (by decide) rfl ?_
                                                refine ev_iload_n 3 d_Law_law_817 rfl rfl ?_
                                                refine ev_iconst d_Law_law_818 rfl ?_
                                                refine ev_iadd d_Law_law_819 ?_
                                                obtain ⟨hg182, h⟩ := gx h
                                                refine ev_sld hX2 d_Law_law_820 hg182 ?_
                                                refine ev_aload_n 0 d_Law_law_821 rfl (by decide) rfl ?_
                                                refine ev_iload_n 3 d_Law_law_822 rfl rfl ?_
                                                refine ev_iconst d_Law_law_823 rfl ?_
                                                refine ev_iadd d_Law_law_824 ?_
                                                obtain ⟨hg183, h⟩ := gx h
                                                refine ev_sld hX2 d_Law_law_825 hg183 ?_
                                                obtain ⟨p184, hp184, h⟩ := bx h
                                                have hRp184 := c_Model_where (X := X) (d := d - 1) (by omega) hn_z2 hp184
                                                refine ev_callV2 (st2 := [(0, p184.1), (0, p180.1)]) (as := [(0, (X.2 ((w32 (s.1 + 1)) : Int).toNat)), (0, (X.2 ((w32 (s.1 + 2)) : Int).toNat)), (0, (X.2 ((w32 (s.1 + 3)) : Int).toNat))]) (rest := [(0, p180.1)]) rfl (by decide) (by decide) rfl hn_z2 rfl (Nat.le_of_ble_eq_true rfl) k_Model_where ⟨tw_1184, tw_1185⟩ (by omega) tw_1183 d_Law_law_826 hRp184 rfl ?_
                                                by_cases hc185 : p180.1 = p184.1
                                                · replace h := itp hc185 h
                                                  refine ev_icmp_eq_t (tgt := 956) d_Law_law_829 (by decide) hc185 ?_
                                                  obtain ⟨x186, hx186, h⟩ := ltx h
                                                  refine ev_iinc' 3 (y := x186) (L' := [(3, (0, x186)), (0, (17, a0)), (1, (11, z1)), (2, (12, z2))]) d_Law_law_956 rfl (by decide) rfl hx186 ?_
                                                  refine ev_goto (tgt := 18) d_Law_law_959 (by decide) ?_
                                                  refine ev_less (L' := [(0, (17, a0)), (1, (11, z1)), (2, (12, z2)), (3, (0, x186))]) [1, 2, 3, 0] rfl ?_
                                                  cases h
                                                  exact hk1 _ rfl
                                                · replace h := itn hc185 h
                                                  refine ev_icmp_eq_f d_Law_law_829 (by decide) hc185 ?_
                                                  refine ev_iconst d_Law_law_832 rfl ?_
                                                  cases h
                                                  obtain ⟨rfl, rfl⟩ := hk2 _ rfl
                                                  exact ev_retZ d_Law_law_833 rfl (Or.inl rfl)
                                              · replace h := itn hc176 h
                                                by_cases hc187 : (bAnd (X.2 (s.1 : Int).toNat) 31) = 22
                                                · replace h := itp hc187 h
                                                  refine ev_tabIn (tgt := 834) 22 d_Law_law_33 (by rw [hc187]; rfl) (by decide) rfl (by decide) ?_
                                                  refine ev_aload_n 1 d_Law_law_834 rfl (by decide) rfl ?_
                                                  refine ev_aload_n 0 d_Law_law_835 rfl (by decide) rfl ?_
                                                  refine ev_iload_n 3 d_Law_law_836 rfl rfl ?_
                                                  refine ev_iconst d_Law_law_837 rfl ?_
                                                  refine ev_iadd d_Law_law_838 ?_
                                                  obtain ⟨hg188, h⟩ := gx h
                                                  refine ev_sld hX2 d_Law_law_839 hg188 ?_
                                                  refine ev_aload_n 0 d_Law_law_840 rfl (by decide) rfl ?_
                                                  refine ev_iload_n 3 d_Law_law_841 rfl rfl ?_
                                                  refine ev_iconst d_Law_law_842 rfl ?_
                                                  refine ev_iadd d_Law_law_843 ?_
                                                  obtain ⟨hg189, h⟩ := gx h
                                                  refine ev_sld hX2 d_Law_law_844 hg189 ?_
                                                  refine ev_aload_n 0 d_Law_law_845 rfl (by decide) rfl ?_
                                                  refine ev_iload_n 3 d_Law_law_846 rfl rfl ?_
                                                  refine ev_iconst d_Law_law_847 rfl ?_
                                                  refine ev_iadd d_Law_law_848 ?_
                                                  obtain ⟨hg190, h⟩ := gx h
                                                  refine ev_sld hX2 d_Law_law_849 hg190 ?_
                                                  obtain ⟨p191, hp191, h⟩ := bx h
                                                  have hRp191 := c_Band_copies (X := X) (d := d - 1) (by omega) hn_z1 hp191
                                                  refine ev_callV2 (st2 := [(0, p191.1)]) (as := [(0, (X.2 ((w32 (s.1 + 1)) : Int).toNat)), (0, (X.2 ((w32 (s.1 + 2)) : Int).toNat)), (0, (X.2 ((w32 (s.1 + 3)) : Int).toNat))]) (rest := []) rfl (by decide) (by decide) rfl hn_z1 rfl (Nat.le_of_ble_eq_true rfl) k_Band_copies ⟨tw_838, tw_839⟩ (by omega) tw_837 d_Law_law_850 hRp191 rfl ?_
                                                  refine ev_aload_n 2 d_Law_law_853 rfl (by decide) rfl ?_
                                                  refine ev_aload_n 0 d_Law_law_854 rfl (by decide) rfl ?_
                                                  refine ev_iload_n 3 d_Law_law_855 rfl rfl ?_
                                                  refine ev_iconst d_Law_law_856 rfl ?_
                                                  refine ev_iadd d_Law_law_857 ?_
                                                  obtain ⟨hg192, h⟩ := gx h
                                                  refine ev_sld hX2 d_Law_law_858 hg192 ?_
                                                  refine ev_aload_n 0 d_Law_law_859 rfl (by decide) rfl ?_
                                                  refine ev_iload_n 3 d_Law_law_860 rfl rfl ?_
                                                  refine ev_iconst d_Law_law_861 rfl ?_
                                                  refine ev_iadd d_Law_law_862 ?_
                                                  obtain ⟨hg193, h⟩ := gx h
                                                  refine ev_sld hX2 d_Law_law_863 hg193 ?_
                                                  refine ev_aload_n 0 d_Law_law_864 rfl (by decide) rfl ?_
                                                  refine ev_iload_n 3 d_Law_law_865 rfl rfl ?_
                                                  refine ev_iconst d_Law_law_866 rfl ?_
                                                  refine ev_iadd d_Law_law_867 ?_
                                                  obtain ⟨hg194, h⟩ := gx h
                                                  refine ev_sld hX2 d_Law_law_868 hg194 ?_
                                                  obtain ⟨p195, hp195, h⟩ := bx h
                                                  have hRp195 := c_Model_copies (X := X) (d := d - 1) (by omega) hn_z2 hp195
                                                  refine ev_callV2 (st2 := [(0, p195.1), (0, p191.1)]) (as := [(0, (X.2 ((w32 (s.1 + 1)) : Int).toNat)), (0, (X.2 ((w32 (s.1 + 2)) : Int).toNat)), (0, (X.2 ((w32 (s.1 + 3)) : Int).toNat))]) (rest := [(0, p191.1)]) rfl (by decide) (by decide) rfl hn_z2 rfl (Nat.le_of_ble_eq_true rfl) k_Model_copies ⟨tw_1192, tw_1193⟩ (by omega) tw_1191 d_Law_law_869 hRp195 rfl ?_
                                                  by_cases hc196 : p191.1 = p195.1
                                                  · replace h := itp hc196 h
                                                    refine ev_icmp_eq_t (tgt := 956) d_Law_law_872 (by decide) hc196 ?_
                                                    obtain ⟨x197, hx197, h⟩ := ltx h
                                                    refine ev_iinc' 3 (y := x197) (L' := [(3, (0, x197)), (0, (17, a0)), (1, (11, z1)), (2, (12, z2))]) d_Law_law_956 rfl (by decide) rfl hx197 ?_
                                                    refine ev_goto (tgt := 18) d_Law_law_959 (by decide) ?_
                                                    refine ev_less (L' := [(0, (17, a0)), (1, (11, z1)), (2, (12, z2)), (3, (0, x197))]) [1, 2, 3, 0] rfl ?_
                                                    cases h
                                                    exact hk1 _ rfl
                                                  · replace h := itn hc196 h
                                                    refine ev_icmp_eq_f d_Law_law_872 (by decide) hc196 ?_
                                                    refine ev_iconst d_Law_law_875 rfl ?_
                                                    cases h
                                                    obtain ⟨rfl, rfl⟩ := hk2 _ rfl
                                                    exact ev_retZ d_Law_law_876 rfl (Or.inl rfl)
                                                · replace h := itn hc187 h
                                                  by_cases hc198 : (bAnd (X.2 (s.1 : Int).toNat) 31) = 23
                                                  · replace h := itp hc198 h
                                                    refine ev_tabIn (tgt := 877) 23 d_Law_law_33 (by rw [hc198]; rfl) (by decide) rfl (by decide) ?_
                                                    refine ev_aload_n 1 d_Law_law_877 rfl (by decide) rfl ?_
                                                    refine ev_aload_n 0 d_Law_law_878 rfl (by decide) rfl ?_
                                                    refine ev_iload_n 3 d_Law_law_879 rfl rfl ?_
                                                    refine ev_iconst d_Law_law_880 rfl ?_
                                                    refine ev_iadd d_Law_law_881 ?_
                                                    obtain ⟨hg199, h⟩ := gx h
                                                    refine ev_sld hX2 d_Law_law_882 hg199 ?_
                                                    obtain ⟨p200, hp200, h⟩ := bx h
                                                    have hRp200 := c_Band_contest (X := X) (d := d - 1) (by omega) hn_z1 hp200
                                                    refine ev_callV2 (st2 := [(0, p200.1)]) (as := [(0, (X.2 ((w32 (s.1 + 1)) : Int).toNat))]) (rest := []) rfl (by decide) (by decide) rfl hn_z1 rfl (Nat.le_of_ble_eq_true rfl) k_Band_contest ⟨tw_846, tw_847⟩ (by omega) tw_845 d_Law_law_883 hRp200 rfl ?_
                                                    refine ev_aload_n 2 d_Law_law_886 rfl (by decide) rfl ?_
                                                    refine ev_aload_n 0 d_Law_law_887 rfl (by decide) rfl ?_
                                                    refine ev_iload_n 3 d_Law_law_888 rfl rfl ?_
                                                    refine ev_iconst d_Law_law_889 rfl ?_
                                                    refine ev_iadd d_Law_law_890 ?_
                                                    obtain ⟨hg201, h⟩ := gx h
                                                    refine ev_sld hX2 d_Law_law_891 hg201 ?_
                                                    obtain ⟨p202, hp202, h⟩ := bx h
                                                    have hRp202 := c_Model_contest (X := X) (d := d - 1) (by omega) hn_z2 hp202
                                                    refine ev_callV2 (st2 := [(0, p202.1), (0, p200.1)]) (as := [(0, (X.2 ((w32 (s.1 + 1)) : Int).toNat))]) (rest := [(0, p200.1)]) rfl (by decide) (by decide) rfl hn_z2 rfl (Nat.le_of_ble_eq_true rfl) k_Model_contest ⟨tw_1200, tw_1201⟩ (by omega) tw_1199 d_Law_law_892 hRp202 rfl ?_
                                                    by_cases hc203 : p200.1 = p202.1
                                                    · replace h := itp hc203 h
                                                      refine ev_icmp_eq_t (tgt := 956) d_Law_law_895 (by decide) hc203 ?_
                                                      obtain ⟨x204, hx204, h⟩ := ltx h
                                                      refine ev_iinc' 3 (y := x204) (L' := [(3, (0, x204)), (0, (17, a0)), (1, (11, z1)), (2, (12, z2))]) d_Law_law_956 rfl (by decide) rfl hx204 ?_
                                                      refine ev_goto (tgt := 18) d_Law_law_959 (by decide) ?_
                                                      refine ev_less (L' := [(0, (17, a0)), (1, (11, z1)), (2, (12, z2)), (3, (0, x204))]) [1, 2, 3, 0] rfl ?_
                                                      cases h
                                                      exact hk1 _ rfl
                                                    · replace h := itn hc203 h
                                                      refine ev_icmp_eq_f d_Law_law_895 (by decide) hc203 ?_
                                                      refine ev_iconst d_Law_law_898 rfl ?_
                                                      cases h
                                                      obtain ⟨rfl, rfl⟩ := hk2 _ rfl
                                                      exact ev_retZ d_Law_law_899 rfl (Or.inl rfl)
                                                  · replace h := itn hc198 h
                                                    by_cases hc205 : (bAnd (X.2 (s.1 : Int).toNat) 31) = 24
                                                    · replace h := itp hc205 h
                                                      refine ev_tabIn (tgt := 900) 24 d_Law_law_33 (by rw [hc205]; rfl) (by decide) rfl (by decide) ?_
                                                      refine ev_aload_n 1 d_Law_law_900 rfl (by decide) rfl ?_
                                                      refine ev_aload_n 0 d_Law_law_901 rfl (by decide) rfl ?_
                                                      refine ev_iload_n 3 d_Law_law_902 rfl rfl ?_
                                                      refine ev_iconst d_Law_law_903 rfl ?_
                                                      refine ev_iadd d_Law_law_904 ?_
                                                      obtain ⟨hg206, h⟩ := gx h
                                                      refine ev_sld hX2 d_Law_law_905 hg206 ?_
                                                      refine ev_aload_n 0 d_Law_law_906 rfl (by decide) rfl ?_
                                                      refine ev_iload_n 3 d_Law_law_907 rfl rfl ?_
                                                      refine ev_iconst d_Law_law_908 rfl ?_
                                                      refine ev_iadd d_Law_law_909 ?_
                                                      obtain ⟨hg207, h⟩ := gx h
                                                      refine ev_sld hX2 d_Law_law_910 hg207 ?_
                                                      obtain ⟨p208, hp208, h⟩ := bx h
                                                      have hRp208 := c_Band_may (X := X) (d := d - 1) (by omega) hn_z1 hp208
                                                      refine ev_callV2 (st2 := [(0, p208.1)]) (as := [(0, (X.2 ((w32 (s.1 + 1)) : Int).toNat)), (0, (X.2 ((w32 (s.1 + 2)) : Int).toNat))]) (rest := []) rfl (by decide) (by decide) rfl hn_z1 rfl (Nat.le_of_ble_eq_true rfl) k_Band_may ⟨tw_854, tw_855⟩ (by omega) tw_853 d_Law_law_911 hRp208 rfl ?_
                                                      refine ev_aload_n 2 d_Law_law_914 rfl (by decide) rfl ?_
                                                      refine ev_aload_n 0 d_Law_law_915 rfl (by decide) rfl ?_
                                                      refine ev_iload_n 3 d_Law_law_916 rfl rfl ?_
                                                      refine ev_iconst d_Law_law_917 rfl ?_
                                                      refine ev_iadd d_Law_law_918 ?_
                                                      obtain ⟨hg209, h⟩ := gx h
                                                      refine ev_sld hX2 d_Law_law_919 hg209 ?_
                                                      refine ev_aload_n 0 d_Law_law_920 rfl (by decide) rfl ?_
                                                      refine ev_iload_n 3 d_Law_law_921 rfl rfl ?_
                                                      refine ev_iconst d_Law_law_922 rfl ?_
                                                      refine ev_iadd d_Law_law_923 ?_
                                                      obtain ⟨hg210, h⟩ := gx h
                                                      refine ev_sld hX2 d_Law_law_924 hg210 ?_
                                                      obtain ⟨p211, hp211, h⟩ := bx h
                                                      have hRp211 := c_Model_may (X := X) (d := d - 1) (by omega) hn_z2 hp211
                                                      refine ev_callV2 (st2 := [(0, p211.1), (0, p208.1)]) (as := [(0, (X.2 ((w32 (s.1 + 1)) : Int).toNat)), (0, (X.2 ((w32 (s.1 + 2)) : Int).toNat))]) (rest := [(0, p208.1)]) rfl (by decide) (by decide) rfl hn_z2 rfl (Nat.le_of_ble_eq_true rfl) k_Model_may ⟨tw_1320, tw_1321⟩ (by omega) tw_1319 d_Law_law_925 hRp211 rfl ?_
                                                      by_cases hc212 : p208.1 = p211.1
                                                      · replace h := itp hc212 h
                                                        refine ev_icmp_eq_t (tgt := 956) d_Law_law_928 (by decide) hc212 ?_
                                                        obtain ⟨x213, hx213, h⟩ := ltx h
                                                        refine ev_iinc' 3 (y := x213) (L' := [(3, (0, x213)), (0, (17, a0)), (1, (11, z1)), (2, (12, z2))]) d_Law_law_956 rfl (by decide) rfl hx213 ?_
                                                        refine ev_goto (tgt := 18) d_Law_law_959 (by decide) ?_
                                                        refine ev_less (L' := [(0, (17, a0)), (1, (11, z1)), (2, (12, z2)), (3, (0, x213))]) [1, 2, 3, 0] rfl ?_
                                                        cases h
                                                        exact hk1 _ rfl
                                                      · replace h := itn hc212 h
                                                        refine ev_icmp_eq_f d_Law_law_928 (by decide) hc212 ?_
                                                        refine ev_iconst d_Law_law_931 rfl ?_
                                                        cases h
                                                        obtain ⟨rfl, rfl⟩ := hk2 _ rfl
                                                        exact ev_retZ d_Law_law_932 rfl (Or.inl rfl)
                                                    · replace h := itn hc205 h
                                                      by_cases hc214 : (bAnd (X.2 (s.1 : Int).toNat) 31) = 25
                                                      · replace h := itp hc214 h
                                                        refine ev_tabIn (tgt := 933) 25 d_Law_law_33 (by rw [hc214]; rfl) (by decide) rfl (by decide) ?_
                                                        refine ev_aload_n 1 d_Law_law_933 rfl (by decide) rfl ?_
                                                        refine ev_aload_n 0 d_Law_law_934 rfl (by decide) rfl ?_
                                                        refine ev_iload_n 3 d_Law_law_935 rfl rfl ?_
                                                        refine ev_iconst d_Law_law_936 rfl ?_
                                                        refine ev_iadd d_Law_law_937 ?_
                                                        obtain ⟨hg215, h⟩ := gx h
                                                        refine ev_sld hX2 d_Law_law_938 hg215 ?_
                                                        obtain ⟨p216, hp216, h⟩ := bx h
                                                        have hRp216 := c_Band_count (X := X) (d := d - 1) (by omega) hn_z1 hp216
                                                        refine ev_callV2 (st2 := [(0, p216.1)]) (as := [(0, (X.2 ((w32 (s.1 + 1)) : Int).toNat))]) (rest := []) rfl (by decide) (by decide) rfl hn_z1 rfl (Nat.le_of_ble_eq_true rfl) k_Band_count ⟨tw_885, tw_886⟩ (by omega) tw_884 d_Law_law_939 hRp216 rfl ?_
                                                        refine ev_aload_n 2 d_Law_law_942 rfl (by decide) rfl ?_
                                                        refine ev_aload_n 0 d_Law_law_943 rfl (by decide) rfl ?_
                                                        refine ev_iload_n 3 d_Law_law_944 rfl rfl ?_
                                                        refine ev_iconst d_Law_law_945 rfl ?_
                                                        refine ev_iadd d_Law_law_946 ?_
                                                        obtain ⟨hg217, h⟩ := gx h
                                                        refine ev_sld hX2 d_Law_law_947 hg217 ?_
                                                        obtain ⟨p218, hp218, h⟩ := bx h
                                                        have hRp218 := c_Model_count (X := X) (d := d - 1) (by omega) hn_z2 hp218
                                                        refine ev_callV2 (st2 := [(0, p218.1), (0, p216.1)]) (as := [(0, (X.2 ((w32 (s.1 + 1)) : Int).toNat))]) (rest := [(0, p216.1)]) rfl (by decide) (by decide) rfl hn_z2 rfl (Nat.le_of_ble_eq_true rfl) k_Model_count ⟨tw_1204, tw_1205⟩ (by omega) tw_1203 d_Law_law_948 hRp218 rfl ?_
                                                        by_cases hc219 : p216.1 = p218.1
                                                        · replace h := itp hc219 h
                                                          refine ev_icmp_eq_t (tgt := 956) d_Law_law_951 (by decide) hc219 ?_
                                                          obtain ⟨x220, hx220, h⟩ := ltx h
                                                          refine ev_iinc' 3 (y := x220) (L' := [(3, (0, x220)), (0, (17, a0)), (1, (11, z1)), (2, (12, z2))]) d_Law_law_956 rfl (by decide) rfl hx220 ?_
                                                          refine ev_goto (tgt := 18) d_Law_law_959 (by decide) ?_
                                                          refine ev_less (L' := [(0, (17, a0)), (1, (11, z1)), (2, (12, z2)), (3, (0, x220))]) [1, 2, 3, 0] rfl ?_
                                                          cases h
                                                          exact hk1 _ rfl
                                                        · replace h := itn hc219 h
                                                          refine ev_icmp_eq_f d_Law_law_951 (by decide) hc219 ?_
                                                          refine ev_iconst d_Law_law_954 rfl ?_
                                                          cases h
                                                          obtain ⟨rfl, rfl⟩ := hk2 _ rfl
                                                          exact ev_retZ d_Law_law_955 rfl (Or.inl rfl)
                                                      · replace h := itn hc214 h
                                                        refine ev_tabOut (tgt := 956) d_Law_law_33 (by omega) (by decide) ?_
                                                        obtain ⟨x221, hx221, h⟩ := ltx h
                                                        refine ev_iinc' 3 (y := x221) (L' := [(3, (0, x221)), (0, (17, a0)), (1, (11, z1)), (2, (12, z2))]) d_Law_law_956 rfl (by decide) rfl hx221 ?_
                                                        refine ev_goto (tgt := 18) d_Law_law_959 (by decide) ?_
                                                        refine ev_less (L' := [(0, (17, a0)), (1, (11, z1)), (2, (12, z2)), (3, (0, x221))]) [1, 2, 3, 0] rfl ?_
                                                        cases h
                                                        exact hk1 _ rfl
def f_Law_law (X : XX) (M : Mm) (a0 : Int) : Option (Int × Mm) :=
  lt (mw M 8) (fun M1 =>
  (f_Band_init M1 ((mN M : Int) + 1)).bind (fun p2 =>
  lt (((mN M : Int) + 1)) (fun x3 : Int =>
  lt (mw p2 48) (fun M4 =>
  (f_Model_init M4 ((mN p2 : Int) + 1)).bind (fun p5 =>
  lt (((mN p2 : Int) + 1)) (fun x6 : Int =>
  (loopN (l_Law_law_18 X a0 x3 x6) FU (0, p5)).bind (fun t222 =>
  some t222)))))))
theorem c_Law_law {X : XX} {d : Nat} (hd : 85 ≤ d) (hX1 : X.1 < 2147483648) (hX2 : ∀ j, ok32 (X.2 j)) {M : Mm} {a0 : Int} {p : Int × Mm} (h : f_Law_law X M a0 = some p) : Ev X m_Law_law d 0 [(0, (17, a0))] [] M (some (0, p.1)) p.2 := by
  unfold f_Law_law at h
  obtain ⟨M1, hM1, h⟩ := ltx h
  refine ev_new' (t := 11) (by decide) (by decide) rfl i_Band t_Band_ok rfl (by decide) (by decide) tw_19 tw_20 tw_1 d_Law_law_0 hM1 ?_
  refine ev_dup d_Law_law_3 (Nat.ne_of_beq_eq_false rfl) ?_
  obtain ⟨p2, hp2, h⟩ := bx h
  have hRp2 := c_Band_init (X := X) (d := d - 1) (by omega) (nz M) hp2
  refine ev_callI (as := []) (rest := [(11, ((mN M : Int) + 1))]) rfl (by decide) (by decide) (nz M) rfl (Nat.le_of_ble_eq_true rfl) k_Band_init tw_22 rfl rfl (by omega) tw_21 d_Law_law_4 hRp2 ?_
  obtain ⟨x3, hx3, h⟩ := ltx h
  have hn_x3 : x3 ≠ 0 := by rw [hx3]; exact (nz M)
  refine ev_astore_n' (y := x3) (L' := [(1, (11, x3)), (0, (17, a0))]) d_Law_law_7 rfl (by decide) (by decide) rfl hx3 ?_
  obtain ⟨M4, hM4, h⟩ := ltx h
  refine ev_new' (t := 12) (by decide) (by decide) rfl i_Model t_Model_ok rfl (by decide) (by decide) tw_893 tw_894 tw_12 d_Law_law_8 hM4 ?_
  refine ev_dup d_Law_law_11 (Nat.ne_of_beq_eq_false rfl) ?_
  obtain ⟨p5, hp5, h⟩ := bx h
  have hRp5 := c_Model_init (X := X) (d := d - 1) (by omega) (nz p2) hp5
  refine ev_callI (as := []) (rest := [(12, ((mN p2 : Int) + 1))]) rfl (by decide) (by decide) (nz p2) rfl (Nat.le_of_ble_eq_true rfl) k_Model_init tw_896 rfl rfl (by omega) tw_895 d_Law_law_12 hRp5 ?_
  obtain ⟨x6, hx6, h⟩ := ltx h
  have hn_x6 : x6 ≠ 0 := by rw [hx6]; exact (nz p2)
  refine ev_astore_n' (y := x6) (L' := [(2, (12, x6)), (1, (11, x3)), (0, (17, a0))]) d_Law_law_15 rfl (by decide) (by decide) rfl hx6 ?_
  refine ev_iconst d_Law_law_16 rfl ?_
  refine ev_istore_n (L' := [(3, (0, 0)), (2, (12, x6)), (1, (11, x3)), (0, (17, a0))]) d_Law_law_17 rfl (by decide) rfl ?_
  obtain ⟨t222, ht222, h⟩ := bx h
  refine ev_less (L' := [(0, (17, a0)), (1, (11, x3)), (2, (12, x6)), (3, (0, 0))]) [3, 2, 1, 0] rfl ?_
  refine loop_ev (step := l_Law_law_18 X a0 x3 x6) (P := fun w : Int × Mm => Ev X m_Law_law d 18 [(0, (17, a0)), (1, (11, x3)), (2, (12, x6)), (3, (0, w.1))] [] w.2 (some (0, p.1)) p.2) (Q := fun q => (some (0, p.1)) = some (0, q.1) ∧ p.2 = q.2) (fun w x hs k1 k2 => cs_l_Law_law_18 hd hX1 hX2 hn_x3 hn_x6 hs k1 k2) FU (0, p5) t222 ht222 ?_
  cases h
  exact ⟨rfl, rfl⟩
end
