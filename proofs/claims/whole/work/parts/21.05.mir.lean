noncomputable section
def f_Seater_weigh (M : Mm) (a0 : Int) (a1 : Int) (a2 : Int) (a3 : Int) : Option (Mm) :=
  if (mg M (cI a0) 0) ≠ 0 then
  if (0 : Int) ≤ (w32 ((w32 (a1 * 24)) + a2)) ∧ (w32 ((w32 (a1 * 24)) + a2)) < (ml M (cI (mg M (cI a0) 0)) : Int) then
  lt (mp M (cI (mg M (cI a0) 0)) ((w32 ((w32 (a1 * 24)) + a2)) : Int).toNat a3) (fun M3 =>
  some M3)
  else none
  else none
theorem c_Seater_weigh {X : XX} {d : Nat} (hd : 0 ≤ d) {M : Mm} {a0 : Int} {a1 : Int} {a2 : Int} {a3 : Int} (hn_a0 : a0 ≠ 0) {p : Mm} (h : f_Seater_weigh M a0 a1 a2 a3 = some p) : Rn X d m_Seater_weigh [(9, a0), (0, a1), (0, a2), (1, a3)] M none p := by
  refine Rn_of (by decide) rfl (Nat.le_of_ble_eq_true rfl) ?_
  unfold f_Seater_weigh at h
  refine ev_less (L' := [(0, (9, a0)), (1, (0, a1)), (2, (0, a2)), (3, (1, a3))]) [0, 1, 2, 3] rfl ?_
  refine ev_aload_n 0 d_Seater_weigh_0 rfl (by decide) rfl ?_
  refine ev_get (t := 9) (k := 0) (by decide) (by decide) rfl i_Seater (by decide) rfl rfl tw_253 d_Seater_weigh_1 hn_a0 ?_
  refine ev_iload_n 1 d_Seater_weigh_4 rfl rfl ?_
  refine ev_bipush d_Seater_weigh_5 rfl ?_
  refine ev_imul d_Seater_weigh_7 ?_
  refine ev_iload_n 2 d_Seater_weigh_8 rfl rfl ?_
  refine ev_iadd d_Seater_weigh_9 ?_
  refine ev_lload_n 3 d_Seater_weigh_10 rfl rfl ?_
  obtain ⟨hz1, h⟩ := gx h
  obtain ⟨hg2, h⟩ := gx h
  obtain ⟨M3, hM3, h⟩ := ltx h
  refine ev_last' d_Seater_weigh_11 hz1 hg2 hM3 ?_
  cases h
  exact ev_retV d_Seater_weigh_12 rfl
def l_Seater_weighEmpty_31 (a0 : Int) (a1 : Int) (a2 : Int) (a3 : Int) (z6 : Int) (s : Int × Mm) : Option ((Int × Mm) ⊕ (Mm)) :=
  if (mg s.2 (cI a1) 7) ≤ s.1 then
  some (.inr s.2)
  else
  (f_Seater_weigh s.2 a0 a3 (w32 ((mg s.2 (cI a2) 4) + s.1)) z6).bind (fun p5 =>
  lt (w32 (s.1 + 1)) (fun x6 : Int =>
  some (.inl (x6, p5))))
theorem cs_l_Seater_weighEmpty_31 {X : XX} {d : Nat} (hd : 1 ≤ d) {a0 : Int} {a1 : Int} {a2 : Int} {a3 : Int} {z6 : Int} (hn_a0 : a0 ≠ 0) (hn_a1 : a1 ≠ 0) (hn_a2 : a2 ≠ 0) {s : Int × Mm} {x : (Int × Mm) ⊕ (Mm)} {r : Option AV} {M' : Mm} (h : l_Seater_weighEmpty_31 a0 a1 a2 a3 z6 s = some x) (hk1 : ∀ s : Int × Mm, x = .inl s → Ev X m_Seater_weighEmpty d 31 [(0, (9, a0)), (1, (5, a1)), (2, (7, a2)), (3, (0, a3)), (6, (1, z6)), (8, (0, s.1))] [] s.2 r M') (hk2 : ∀ t : Mm, x = .inr t → Ev X m_Seater_weighEmpty d 60 [] [] t r M') : Ev X m_Seater_weighEmpty d 31 [(0, (9, a0)), (1, (5, a1)), (2, (7, a2)), (3, (0, a3)), (6, (1, z6)), (8, (0, s.1))] [] s.2 r M' := by
  unfold l_Seater_weighEmpty_31 at h
  refine ev_iload 5 d_Seater_weighEmpty_31 rfl ?_
  refine ev_aload_n 1 d_Seater_weighEmpty_33 rfl (by decide) rfl ?_
  refine ev_getN (host := "TownBand") (t := 5) (k := 7) (by decide) (by decide) rfl i_Piece (by decide) rfl rfl tw_93 d_Seater_weighEmpty_34 hn_a1 ?_
  by_cases hc4 : (mg s.2 (cI a1) 7) ≤ s.1
  · replace h := itp hc4 h
    refine ev_icmp_ge_t (tgt := 60) d_Seater_weighEmpty_37 (by decide) hc4 ?_
    refine ev_less (L' := []) [] rfl ?_
    cases h
    exact hk2 _ rfl
  · replace h := itn hc4 h
    refine ev_icmp_ge_f d_Seater_weighEmpty_37 (by decide) hc4 ?_
    refine ev_aload_n 0 d_Seater_weighEmpty_40 rfl (by decide) rfl ?_
    refine ev_iload_n 3 d_Seater_weighEmpty_41 rfl rfl ?_
    refine ev_aload_n 2 d_Seater_weighEmpty_42 rfl (by decide) rfl ?_
    refine ev_getN (host := "TownBand") (t := 7) (k := 4) (by decide) (by decide) rfl i_Players (by decide) rfl rfl tw_44 d_Seater_weighEmpty_43 hn_a2 ?_
    refine ev_iload 5 d_Seater_weighEmpty_46 rfl ?_
    refine ev_iadd d_Seater_weighEmpty_48 ?_
    refine ev_lload 4 d_Seater_weighEmpty_49 rfl ?_
    obtain ⟨p5, hp5, h⟩ := bx h
    have hRp5 := c_Seater_weigh (X := X) (d := d - 1) (by omega) hn_a0 hp5
    refine ev_callV2 (st2 := []) (as := [(0, a3), (0, (w32 ((mg s.2 (cI a2) 4) + s.1))), (1, z6)]) (rest := []) rfl (by decide) (by decide) rfl hn_a0 rfl (Nat.le_of_ble_eq_true rfl) k_Seater_weigh ⟨tw_673, ts_44⟩ (by omega) tw_671 d_Seater_weighEmpty_51 hRp5 rfl ?_
    obtain ⟨x6, hx6, h⟩ := ltx h
    refine ev_iinc' 5 (y := x6) (L' := [(8, (0, x6)), (0, (9, a0)), (1, (5, a1)), (2, (7, a2)), (3, (0, a3)), (6, (1, z6))]) d_Seater_weighEmpty_54 rfl (by decide) rfl hx6 ?_
    refine ev_goto (tgt := 31) d_Seater_weighEmpty_57 (by decide) ?_
    refine ev_less (L' := [(0, (9, a0)), (1, (5, a1)), (2, (7, a2)), (3, (0, a3)), (6, (1, z6)), (8, (0, x6))]) [1, 2, 3, 4, 5, 0] rfl ?_
    cases h
    exact hk1 _ rfl
def j_Seater_weighEmpty_26 (M : Mm) (a0 : Int) (a1 : Int) (a2 : Int) (a3 : Int) (y0 : Int) : Option (Mm) :=
  (loopN (l_Seater_weighEmpty_31 a0 a1 a2 a3 y0) FU (0, M)).bind (fun t7 =>
  some t7)
theorem cj_Seater_weighEmpty_26 {X : XX} {d : Nat} (hd : 1 ≤ d) {M : Mm} {a0 : Int} {a1 : Int} {a2 : Int} {a3 : Int} {y0 : Int} (hn_a0 : a0 ≠ 0) (hn_a1 : a1 ≠ 0) (hn_a2 : a2 ≠ 0) {p : Mm} (h : j_Seater_weighEmpty_26 M a0 a1 a2 a3 y0 = some p) : Ev X m_Seater_weighEmpty d 26 [(0, (9, a0)), (1, (5, a1)), (2, (7, a2)), (3, (0, a3))] [(1, y0)] M none p := by
  unfold j_Seater_weighEmpty_26 at h
  refine ev_lstore (L' := [(6, (1, y0)), (0, (9, a0)), (1, (5, a1)), (2, (7, a2)), (3, (0, a3))]) d_Seater_weighEmpty_26 (by decide) rfl ?_
  refine ev_iconst d_Seater_weighEmpty_28 rfl ?_
  refine ev_istore (L' := [(8, (0, 0)), (6, (1, y0)), (0, (9, a0)), (1, (5, a1)), (2, (7, a2)), (3, (0, a3))]) d_Seater_weighEmpty_29 (by decide) rfl ?_
  obtain ⟨t7, ht7, h⟩ := bx h
  refine ev_less (L' := [(0, (9, a0)), (1, (5, a1)), (2, (7, a2)), (3, (0, a3)), (6, (1, y0)), (8, (0, 0))]) [2, 3, 4, 5, 1, 0] rfl ?_
  refine loop_ev (step := l_Seater_weighEmpty_31 a0 a1 a2 a3 y0) (P := fun w : Int × Mm => Ev X m_Seater_weighEmpty d 31 [(0, (9, a0)), (1, (5, a1)), (2, (7, a2)), (3, (0, a3)), (6, (1, y0)), (8, (0, w.1))] [] w.2 none p) (Q := fun w => Ev X m_Seater_weighEmpty d 60 [] [] w none p) (fun w x hs k1 k2 => cs_l_Seater_weighEmpty_31 hd hn_a0 hn_a1 hn_a2 hs k1 k2) FU (0, M) t7 ht7 ?_
  cases h
  exact ev_retV d_Seater_weighEmpty_60 rfl
def f_Seater_weighEmpty (M : Mm) (a0 : Int) (a1 : Int) (a2 : Int) (a3 : Int) (a4 : Int) : Option (Mm) :=
  (f_Piece_isMust M a1 a3).bind (fun p1 =>
  if p1 = 0 then
  if (0 : Int) ≤ a3 ∧ a3 < 10 then
  j_Seater_weighEmpty_26 M a0 a1 a2 a3 ((w64 (a4 + (w64 (14 * (dg1.getD (a3 : Int).toNat 0))))))
  else none
  else
  j_Seater_weighEmpty_26 M a0 a1 a2 a3 5766503906250000)
theorem c_Seater_weighEmpty {X : XX} {d : Nat} (hd : 1 ≤ d) {M : Mm} {a0 : Int} {a1 : Int} {a2 : Int} {a3 : Int} {a4 : Int} (hn_a0 : a0 ≠ 0) (hn_a1 : a1 ≠ 0) (hn_a2 : a2 ≠ 0) {p : Mm} (h : f_Seater_weighEmpty M a0 a1 a2 a3 a4 = some p) : Rn X d m_Seater_weighEmpty [(9, a0), (5, a1), (7, a2), (0, a3), (1, a4)] M none p := by
  refine Rn_of (by decide) rfl (Nat.le_of_ble_eq_true rfl) ?_
  unfold f_Seater_weighEmpty at h
  refine ev_less (L' := [(0, (9, a0)), (1, (5, a1)), (2, (7, a2)), (3, (0, a3)), (4, (1, a4))]) [0, 1, 2, 3, 4] rfl ?_
  refine ev_aload_n 1 d_Seater_weighEmpty_0 rfl (by decide) rfl ?_
  refine ev_iload_n 3 d_Seater_weighEmpty_1 rfl rfl ?_
  obtain ⟨p1, hp1, h⟩ := bx h
  have hRp1 := c_Piece_isMust (X := X) (d := d - 1) (by omega) hn_a1 hp1
  refine ev_callVN2 (host := "TownBand") (st2 := [(0, p1)]) (as := [(0, a3)]) (rest := []) rfl (by decide) (by decide) rfl hn_a1 rfl (Nat.le_of_ble_eq_true rfl) k_Piece_isMust ⟨tw_622, ts_37⟩ (by omega) tw_680 d_Seater_weighEmpty_2 hRp1 rfl ?_
  by_cases hc2 : p1 = 0
  · replace h := itp hc2 h
    refine ev_if_eq_t (tgt := 14) d_Seater_weighEmpty_5 (by decide) hc2 ?_
    refine ev_lload 4 d_Seater_weighEmpty_14 rfl ?_
    refine ev_ldc2 (v := 14) d_Seater_weighEmpty_16 tw_681 rfl ?_
    refine ev_dig1 d_Seater_weighEmpty_19 tw_669 ?_
    refine ev_iload_n 3 d_Seater_weighEmpty_22 rfl rfl ?_
    obtain ⟨hg3, h⟩ := gx h
    refine ev_tl1 d_Seater_weighEmpty_23 hg3 ?_
    refine ev_lmul d_Seater_weighEmpty_24 ?_
    refine ev_ladd d_Seater_weighEmpty_25 ?_
    refine ev_less (L' := [(0, (9, a0)), (1, (5, a1)), (2, (7, a2)), (3, (0, a3))]) [0, 1, 2, 3] rfl ?_
    exact cj_Seater_weighEmpty_26 hd hn_a0 hn_a1 hn_a2 h
  · replace h := itn hc2 h
    refine ev_if_eq_f d_Seater_weighEmpty_5 (by decide) hc2 ?_
    refine ev_ldc2 (v := 5766503906250000) d_Seater_weighEmpty_8 tw_667 rfl ?_
    refine ev_goto (tgt := 26) d_Seater_weighEmpty_11 (by decide) ?_
    refine ev_less (L' := [(0, (9, a0)), (1, (5, a1)), (2, (7, a2)), (3, (0, a3))]) [0, 1, 2, 3] rfl ?_
    exact cj_Seater_weighEmpty_26 hd hn_a0 hn_a1 hn_a2 h
def l_Arrays_fillL_6 (a0 : Int) (a1 : Int) (z4 : Int) (s : Int × Mm) : Option ((Int × Mm) ⊕ (Mm)) :=
  if z4 ≤ s.1 then
  some (.inr s.2)
  else
  if (0 : Int) ≤ s.1 ∧ s.1 < (ml s.2 (cI a0) : Int) then
  lt (mp s.2 (cI a0) (s.1 : Int).toNat a1) (fun M4 =>
  lt (w32 (s.1 + 1)) (fun x5 : Int =>
  some (.inl (x5, M4))))
  else none
theorem cs_l_Arrays_fillL_6 {X : XX} {d : Nat} (hd : 0 ≤ d) {a0 : Int} {a1 : Int} {z4 : Int} (hn_a0 : a0 ≠ 0) {s : Int × Mm} {x : (Int × Mm) ⊕ (Mm)} {r : Option AV} {M' : Mm} (h : l_Arrays_fillL_6 a0 a1 z4 s = some x) (hk1 : ∀ s : Int × Mm, x = .inl s → Ev X m_Arrays_fillL d 6 [(0, (14, a0)), (1, (1, a1)), (3, (0, s.1)), (4, (0, z4))] [] s.2 r M') (hk2 : ∀ t : Mm, x = .inr t → Ev X m_Arrays_fillL d 22 [] [] t r M') : Ev X m_Arrays_fillL d 6 [(0, (14, a0)), (1, (1, a1)), (3, (0, s.1)), (4, (0, z4))] [] s.2 r M' := by
  unfold l_Arrays_fillL_6 at h
  refine ev_iload_n 2 d_Arrays_fillL_6 rfl rfl ?_
  refine ev_iload 3 d_Arrays_fillL_7 rfl ?_
  by_cases hc2 : z4 ≤ s.1
  · replace h := itp hc2 h
    refine ev_icmp_ge_t (tgt := 22) d_Arrays_fillL_9 (by decide) hc2 ?_
    refine ev_less (L' := []) [] rfl ?_
    cases h
    exact hk2 _ rfl
  · replace h := itn hc2 h
    refine ev_icmp_ge_f d_Arrays_fillL_9 (by decide) hc2 ?_
    refine ev_aload_n 0 d_Arrays_fillL_12 rfl (by decide) rfl ?_
    refine ev_iload_n 2 d_Arrays_fillL_13 rfl rfl ?_
    refine ev_lload_n 1 d_Arrays_fillL_14 rfl rfl ?_
    obtain ⟨hg3, h⟩ := gx h
    obtain ⟨M4, hM4, h⟩ := ltx h
    refine ev_last' d_Arrays_fillL_15 hn_a0 hg3 hM4 ?_
    obtain ⟨x5, hx5, h⟩ := ltx h
    refine ev_iinc' 2 (y := x5) (L' := [(3, (0, x5)), (0, (14, a0)), (1, (1, a1)), (4, (0, z4))]) d_Arrays_fillL_16 rfl (by decide) rfl hx5 ?_
    refine ev_goto (tgt := 6) d_Arrays_fillL_19 (by decide) ?_
    refine ev_less (L' := [(0, (14, a0)), (1, (1, a1)), (3, (0, x5)), (4, (0, z4))]) [1, 2, 0, 3] rfl ?_
    cases h
    exact hk1 _ rfl
def f_Arrays_fillL (M : Mm) (a0 : Int) (a1 : Int) : Option (Mm) :=
  lt ((ml M (cI a0) : Int)) (fun x1 : Int =>
  (loopN (l_Arrays_fillL_6 a0 a1 x1) FU (0, M)).bind (fun t6 =>
  some t6))
theorem c_Arrays_fillL {X : XX} {d : Nat} (hd : 0 ≤ d) {M : Mm} {a0 : Int} {a1 : Int} (hn_a0 : a0 ≠ 0) {p : Mm} (h : f_Arrays_fillL M a0 a1 = some p) : Rn X d m_Arrays_fillL [(14, a0), (1, a1)] M none p := by
  refine Rn_of (by decide) rfl (Nat.le_of_ble_eq_true rfl) ?_
  unfold f_Arrays_fillL at h
  refine ev_less (L' := [(0, (14, a0)), (1, (1, a1))]) [0, 1] rfl ?_
  refine ev_iconst d_Arrays_fillL_0 rfl ?_
  refine ev_istore_n (L' := [(3, (0, 0)), (0, (14, a0)), (1, (1, a1))]) d_Arrays_fillL_1 rfl (by decide) rfl ?_
  refine ev_aload_n 1 d_Arrays_fillL_2 rfl (by decide) rfl ?_
  refine ev_alen (by decide) (by decide) d_Arrays_fillL_3 hn_a0 ?_
  obtain ⟨x1, hx1, h⟩ := ltx h
  refine ev_istore' (y := x1) (L' := [(4, (0, x1)), (3, (0, 0)), (0, (14, a0)), (1, (1, a1))]) d_Arrays_fillL_4 (by decide) rfl hx1 ?_
  obtain ⟨t6, ht6, h⟩ := bx h
  refine ev_less (L' := [(0, (14, a0)), (1, (1, a1)), (3, (0, 0)), (4, (0, x1))]) [2, 3, 1, 0] rfl ?_
  refine loop_ev (step := l_Arrays_fillL_6 a0 a1 x1) (P := fun w : Int × Mm => Ev X m_Arrays_fillL d 6 [(0, (14, a0)), (1, (1, a1)), (3, (0, w.1)), (4, (0, x1))] [] w.2 none p) (Q := fun w => Ev X m_Arrays_fillL d 22 [] [] w none p) (fun w x hs k1 k2 => cs_l_Arrays_fillL_6 hd hn_a0 hs k1 k2) FU (0, M) t6 ht6 ?_
  cases h
  exact ev_retV d_Arrays_fillL_22 rfl
def l_Seater_shiftPrices_3 (a0 : Int) (a1 : Int) (a2 : Int) (s : Int × Mm) : Option ((Int × Mm) ⊕ (Mm)) :=
  if (mg s.2 (cI a0) 6) < s.1 then
  some (.inr s.2)
  else
  if (bAnd (bShr a1 s.1) 1) = 0 then
  if (mg s.2 (cI a0) 3) ≠ 0 then
  if (0 : Int) ≤ s.1 ∧ s.1 < (ml s.2 (cI (mg s.2 (cI a0) 3)) : Int) then
  lt (mp s.2 (cI (mg s.2 (cI a0) 3)) (s.1 : Int).toNat (w64 ((mg s.2 (cI (mg s.2 (cI a0) 3)) (s.1 : Int).toNat) - a2))) (fun M5 =>
  lt (w32 (s.1 + 1)) (fun x6 : Int =>
  some (.inl (x6, M5))))
  else none
  else none
  else
  if (mg s.2 (cI a0) 4) ≠ 0 then
  if (0 : Int) ≤ s.1 ∧ s.1 < (ml s.2 (cI (mg s.2 (cI a0) 4)) : Int) then
  if (mg s.2 (cI a0) 1) ≠ 0 then
  if (0 : Int) ≤ (mg s.2 (cI (mg s.2 (cI a0) 4)) (s.1 : Int).toNat) ∧ (mg s.2 (cI (mg s.2 (cI a0) 4)) (s.1 : Int).toNat) < (ml s.2 (cI (mg s.2 (cI a0) 1)) : Int) then
  lt (mp s.2 (cI (mg s.2 (cI a0) 1)) ((mg s.2 (cI (mg s.2 (cI a0) 4)) (s.1 : Int).toNat) : Int).toNat (w64 ((mg s.2 (cI (mg s.2 (cI a0) 1)) ((mg s.2 (cI (mg s.2 (cI a0) 4)) (s.1 : Int).toNat) : Int).toNat) + a2))) (fun M11 =>
  if (mg M11 (cI a0) 2) ≠ 0 then
  if (0 : Int) ≤ s.1 ∧ s.1 < (ml M11 (cI (mg M11 (cI a0) 2)) : Int) then
  lt (mp M11 (cI (mg M11 (cI a0) 2)) (s.1 : Int).toNat (w64 ((mg M11 (cI (mg M11 (cI a0) 2)) (s.1 : Int).toNat) - a2))) (fun M14 =>
  lt (w32 (s.1 + 1)) (fun x15 : Int =>
  some (.inl (x15, M14))))
  else none
  else none)
  else none
  else none
  else none
  else none
theorem cs_l_Seater_shiftPrices_3 {X : XX} {d : Nat} (hd : 0 ≤ d) {a0 : Int} {a1 : Int} {a2 : Int} (hn_a0 : a0 ≠ 0) {s : Int × Mm} {x : (Int × Mm) ⊕ (Mm)} {r : Option AV} {M' : Mm} (h : l_Seater_shiftPrices_3 a0 a1 a2 s = some x) (hk1 : ∀ s : Int × Mm, x = .inl s → Ev X m_Seater_shiftPrices d 3 [(0, (9, a0)), (1, (0, a1)), (2, (1, a2)), (4, (0, s.1))] [] s.2 r M') (hk2 : ∀ t : Mm, x = .inr t → Ev X m_Seater_shiftPrices d 68 [] [] t r M') : Ev X m_Seater_shiftPrices d 3 [(0, (9, a0)), (1, (0, a1)), (2, (1, a2)), (4, (0, s.1))] [] s.2 r M' := by
  unfold l_Seater_shiftPrices_3 at h
  refine ev_iload 3 d_Seater_shiftPrices_3 rfl ?_
  refine ev_aload_n 0 d_Seater_shiftPrices_5 rfl (by decide) rfl ?_
  refine ev_get (t := 9) (k := 6) (by decide) (by decide) rfl i_Seater (by decide) rfl rfl tw_259 d_Seater_shiftPrices_6 hn_a0 ?_
  by_cases hc1 : (mg s.2 (cI a0) 6) < s.1
  · replace h := itp hc1 h
    refine ev_icmp_gt_t (tgt := 68) d_Seater_shiftPrices_9 (by decide) hc1 ?_
    refine ev_less (L' := []) [] rfl ?_
    cases h
    exact hk2 _ rfl
  · replace h := itn hc1 h
    refine ev_icmp_gt_f d_Seater_shiftPrices_9 (by decide) hc1 ?_
    refine ev_iload_n 1 d_Seater_shiftPrices_12 rfl rfl ?_
    refine ev_iload 3 d_Seater_shiftPrices_13 rfl ?_
    refine ev_ishr d_Seater_shiftPrices_15 ?_
    refine ev_iconst d_Seater_shiftPrices_16 rfl ?_
    refine ev_iand d_Seater_shiftPrices_17 ?_
    by_cases hc2 : (bAnd (bShr a1 s.1) 1) = 0
    · replace h := itp hc2 h
      refine ev_if_eq_t (tgt := 51) d_Seater_shiftPrices_18 (by decide) hc2 ?_
      refine ev_aload_n 0 d_Seater_shiftPrices_51 rfl (by decide) rfl ?_
      refine ev_get (t := 9) (k := 3) (by decide) (by decide) rfl i_Seater (by decide) rfl rfl tw_256 d_Seater_shiftPrices_52 hn_a0 ?_
      refine ev_iload 3 d_Seater_shiftPrices_55 rfl ?_
      refine ev_dup2 d_Seater_shiftPrices_57 (Nat.ne_of_beq_eq_false rfl) (Nat.ne_of_beq_eq_false rfl) ?_
      obtain ⟨hz3, h⟩ := gx h
      obtain ⟨hg4, h⟩ := gx h
      refine ev_lald d_Seater_shiftPrices_58 hz3 hg4 ?_
      refine ev_lload_n 2 d_Seater_shiftPrices_59 rfl rfl ?_
      refine ev_lsub d_Seater_shiftPrices_60 ?_
      obtain ⟨M5, hM5, h⟩ := ltx h
      refine ev_last' d_Seater_shiftPrices_61 hz3 hg4 hM5 ?_
      obtain ⟨x6, hx6, h⟩ := ltx h
      refine ev_iinc' 3 (y := x6) (L' := [(4, (0, x6)), (0, (9, a0)), (1, (0, a1)), (2, (1, a2))]) d_Seater_shiftPrices_62 rfl (by decide) rfl hx6 ?_
      refine ev_goto (tgt := 3) d_Seater_shiftPrices_65 (by decide) ?_
      refine ev_less (L' := [(0, (9, a0)), (1, (0, a1)), (2, (1, a2)), (4, (0, x6))]) [1, 2, 3, 0] rfl ?_
      cases h
      exact hk1 _ rfl
    · replace h := itn hc2 h
      refine ev_if_eq_f d_Seater_shiftPrices_18 (by decide) hc2 ?_
      refine ev_aload_n 0 d_Seater_shiftPrices_21 rfl (by decide) rfl ?_
      refine ev_get (t := 9) (k := 1) (by decide) (by decide) rfl i_Seater (by decide) rfl rfl tw_254 d_Seater_shiftPrices_22 hn_a0 ?_
      refine ev_aload_n 0 d_Seater_shiftPrices_25 rfl (by decide) rfl ?_
      refine ev_get (t := 9) (k := 4) (by decide) (by decide) rfl i_Seater (by decide) rfl rfl tw_257 d_Seater_shiftPrices_26 hn_a0 ?_
      refine ev_iload 3 d_Seater_shiftPrices_29 rfl ?_
      obtain ⟨hz7, h⟩ := gx h
      obtain ⟨hg8, h⟩ := gx h
      refine ev_iald d_Seater_shiftPrices_31 hz7 hg8 ?_
      refine ev_dup2 d_Seater_shiftPrices_32 (Nat.ne_of_beq_eq_false rfl) (Nat.ne_of_beq_eq_false rfl) ?_
      obtain ⟨hz9, h⟩ := gx h
      obtain ⟨hg10, h⟩ := gx h
      refine ev_lald d_Seater_shiftPrices_33 hz9 hg10 ?_
      refine ev_lload_n 2 d_Seater_shiftPrices_34 rfl rfl ?_
      refine ev_ladd d_Seater_shiftPrices_35 ?_
      obtain ⟨M11, hM11, h⟩ := ltx h
      refine ev_last' d_Seater_shiftPrices_36 hz9 hg10 hM11 ?_
      refine ev_aload_n 0 d_Seater_shiftPrices_37 rfl (by decide) rfl ?_
      refine ev_get (t := 9) (k := 2) (by decide) (by decide) rfl i_Seater (by decide) rfl rfl tw_255 d_Seater_shiftPrices_38 hn_a0 ?_
      refine ev_iload 3 d_Seater_shiftPrices_41 rfl ?_
      refine ev_dup2 d_Seater_shiftPrices_43 (Nat.ne_of_beq_eq_false rfl) (Nat.ne_of_beq_eq_false rfl) ?_
      obtain ⟨hz12, h⟩ := gx h
      obtain ⟨hg13, h⟩ := gx h
      refine ev_lald d_Seater_shiftPrices_44 hz12 hg13 ?_
      refine ev_lload_n 2 d_Seater_shiftPrices_45 rfl rfl ?_
      refine ev_lsub d_Seater_shiftPrices_46 ?_
      obtain ⟨M14, hM14, h⟩ := ltx h
      refine ev_last' d_Seater_shiftPrices_47 hz12 hg13 hM14 ?_
      refine ev_goto (tgt := 62) d_Seater_shiftPrices_48 (by decide) ?_
      obtain ⟨x15, hx15, h⟩ := ltx h
      refine ev_iinc' 3 (y := x15) (L' := [(4, (0, x15)), (0, (9, a0)), (1, (0, a1)), (2, (1, a2))]) d_Seater_shiftPrices_62 rfl (by decide) rfl hx15 ?_
      refine ev_goto (tgt := 3) d_Seater_shiftPrices_65 (by decide) ?_
      refine ev_less (L' := [(0, (9, a0)), (1, (0, a1)), (2, (1, a2)), (4, (0, x15))]) [1, 2, 3, 0] rfl ?_
      cases h
      exact hk1 _ rfl
def f_Seater_shiftPrices (M : Mm) (a0 : Int) (a1 : Int) (a2 : Int) : Option (Mm) :=
  (loopN (l_Seater_shiftPrices_3 a0 a1 a2) FU (0, M)).bind (fun t16 =>
  some t16)
theorem c_Seater_shiftPrices {X : XX} {d : Nat} (hd : 0 ≤ d) {M : Mm} {a0 : Int} {a1 : Int} {a2 : Int} (hn_a0 : a0 ≠ 0) {p : Mm} (h : f_Seater_shiftPrices M a0 a1 a2 = some p) : Rn X d m_Seater_shiftPrices [(9, a0), (0, a1), (1, a2)] M none p := by
  refine Rn_of (by decide) rfl (Nat.le_of_ble_eq_true rfl) ?_
  unfold f_Seater_shiftPrices at h
  refine ev_less (L' := [(0, (9, a0)), (1, (0, a1)), (2, (1, a2))]) [0, 1, 2] rfl ?_
  refine ev_iconst d_Seater_shiftPrices_0 rfl ?_
  refine ev_istore (L' := [(4, (0, 0)), (0, (9, a0)), (1, (0, a1)), (2, (1, a2))]) d_Seater_shiftPrices_1 (by decide) rfl ?_
  obtain ⟨t16, ht16, h⟩ := bx h
  refine ev_less (L' := [(0, (9, a0)), (1, (0, a1)), (2, (1, a2)), (4, (0, 0))]) [1, 2, 3, 0] rfl ?_
  refine loop_ev (step := l_Seater_shiftPrices_3 a0 a1 a2) (P := fun w : Int × Mm => Ev X m_Seater_shiftPrices d 3 [(0, (9, a0)), (1, (0, a1)), (2, (1, a2)), (4, (0, w.1))] [] w.2 none p) (Q := fun w => Ev X m_Seater_shiftPrices d 68 [] [] w none p) (fun w x hs k1 k2 => cs_l_Seater_shiftPrices_3 hd hn_a0 hs k1 k2) FU (0, M) t16 ht16 ?_
  cases h
  exact ev_retV d_Seater_shiftPrices_68 rfl
def j_Seater_nearestColumn_102_18 (M : Mm) (a0 : Int) (a1 : Int) (a2 : Int) (z3 : Int) (z4 : Int) (z6 : Int) (z7 : Int) : Option ((Int × Int × Int × Mm) ⊕ (Int × Int × Mm)) :=
  if (mg M (cI a0) 3) ≠ 0 then
  if (0 : Int) ≤ z7 ∧ z7 < (ml M (cI (mg M (cI a0) 3)) : Int) then
  if z4 ≤ (mg M (cI (mg M (cI a0) 3)) (z7 : Int).toNat) then
  lt (w32 (z7 + 1)) (fun x19 : Int =>
  some (.inl (z4, z6, x19, M)))
  else
  lt ((mg M (cI (mg M (cI a0) 3)) (z7 : Int).toNat)) (fun x20 : Int =>
  lt (w32 (z7 + 1)) (fun x21 : Int =>
  some (.inl (x20, z7, x21, M))))
  else none
  else none
theorem cj_Seater_nearestColumn_102_18 {X : XX} {d : Nat} (hd : 1 ≤ d) {M : Mm} {a0 : Int} {a1 : Int} {a2 : Int} {z3 : Int} {z4 : Int} {z6 : Int} {z7 : Int} (hn_a0 : a0 ≠ 0) {x : (Int × Int × Int × Mm) ⊕ (Int × Int × Mm)} {r : Option AV} {M' : Mm} (h : j_Seater_nearestColumn_102_18 M a0 a1 a2 z3 z4 z6 z7 = some x) (hk1 : ∀ s : Int × Int × Int × Mm, x = .inl s → Ev X m_Seater_nearestColumn d 18 [(0, (9, a0)), (1, (0, a1)), (2, (0, a2)), (3, (0, z3)), (4, (1, s.1)), (6, (0, s.2.1)), (7, (0, s.2.2.1))] [] s.2.2.2 r M') (hk2 : ∀ t : Int × Int × Mm, x = .inr t → Ev X m_Seater_nearestColumn d 134 [(0, (9, a0)), (2, (0, a2)), (4, (1, t.1)), (6, (0, t.2.1))] [] t.2.2 r M') : Ev X m_Seater_nearestColumn d 102 [(0, (9, a0)), (1, (0, a1)), (2, (0, a2)), (3, (0, z3)), (4, (1, z4)), (6, (0, z6)), (7, (0, z7))] [] M r M' := by
  unfold j_Seater_nearestColumn_102_18 at h
  refine ev_aload_n 0 d_Seater_nearestColumn_102 rfl (by decide) rfl ?_
  refine ev_get (t := 9) (k := 3) (by decide) (by decide) rfl i_Seater (by decide) rfl rfl tw_256 d_Seater_nearestColumn_103 hn_a0 ?_
  refine ev_iload 6 d_Seater_nearestColumn_106 rfl ?_
  obtain ⟨hz16, h⟩ := gx h
  obtain ⟨hg17, h⟩ := gx h
  refine ev_lald d_Seater_nearestColumn_108 hz16 hg17 ?_
  refine ev_lload 4 d_Seater_nearestColumn_109 rfl ?_
  refine ev_lcmp d_Seater_nearestColumn_111 ?_
  by_cases hc18 : z4 ≤ (mg M (cI (mg M (cI a0) 3)) (z7 : Int).toNat)
  · replace h := itp hc18 h
    refine ev_if_ge_t (tgt := 128) d_Seater_nearestColumn_112 (by decide) ((lC_ge _ _).mpr hc18) ?_
    obtain ⟨x19, hx19, h⟩ := ltx h
    refine ev_iinc' 6 (y := x19) (L' := [(7, (0, x19)), (0, (9, a0)), (1, (0, a1)), (2, (0, a2)), (3, (0, z3)), (4, (1, z4)), (6, (0, z6))]) d_Seater_nearestColumn_128 rfl (by decide) rfl hx19 ?_
    refine ev_goto (tgt := 18) d_Seater_nearestColumn_131 (by decide) ?_
    refine ev_less (L' := [(0, (9, a0)), (1, (0, a1)), (2, (0, a2)), (3, (0, z3)), (4, (1, z4)), (6, (0, z6)), (7, (0, x19))]) [1, 2, 3, 4, 5, 6, 0] rfl ?_
    cases h
    exact hk1 _ rfl
  · replace h := itn hc18 h
    refine ev_if_ge_f d_Seater_nearestColumn_112 (by decide) (fun z => hc18 ((lC_ge _ _).mp z)) ?_
    refine ev_aload_n 0 d_Seater_nearestColumn_115 rfl (by decide) rfl ?_
    refine ev_get (t := 9) (k := 3) (by decide) (by decide) rfl i_Seater (by decide) rfl rfl tw_256 d_Seater_nearestColumn_116 hn_a0 ?_
    refine ev_iload 6 d_Seater_nearestColumn_119 rfl ?_
    refine ev_lald d_Seater_nearestColumn_121 hz16 hg17 ?_
    obtain ⟨x20, hx20, h⟩ := ltx h
    refine ev_lstore' (y := x20) (L' := [(4, (1, x20)), (0, (9, a0)), (1, (0, a1)), (2, (0, a2)), (3, (0, z3)), (6, (0, z6)), (7, (0, z7))]) d_Seater_nearestColumn_122 (by decide) rfl hx20 ?_
    refine ev_iload 6 d_Seater_nearestColumn_124 rfl ?_
    refine ev_istore (L' := [(6, (0, z7)), (4, (1, x20)), (0, (9, a0)), (1, (0, a1)), (2, (0, a2)), (3, (0, z3)), (7, (0, z7))]) d_Seater_nearestColumn_126 (by decide) rfl ?_
    obtain ⟨x21, hx21, h⟩ := ltx h
    refine ev_iinc' 6 (y := x21) (L' := [(7, (0, x21)), (6, (0, z7)), (4, (1, x20)), (0, (9, a0)), (1, (0, a1)), (2, (0, a2)), (3, (0, z3))]) d_Seater_nearestColumn_128 rfl (by decide) rfl hx21 ?_
    refine ev_goto (tgt := 18) d_Seater_nearestColumn_131 (by decide) ?_
    refine ev_less (L' := [(0, (9, a0)), (1, (0, a1)), (2, (0, a2)), (3, (0, z3)), (4, (1, x20)), (6, (0, z7)), (7, (0, x21))]) [3, 4, 5, 6, 2, 1, 0] rfl ?_
    cases h
    exact hk1 _ rfl
def l_Seater_nearestColumn_18 (a0 : Int) (a1 : Int) (a2 : Int) (z3 : Int) (s : Int × Int × Int × Mm) : Option ((Int × Int × Int × Mm) ⊕ (Int × Int × Mm)) :=
  if (mg s.2.2.2 (cI a0) 6) < s.2.2.1 then
  some (.inr (s.1, s.2.1, s.2.2.2))
  else
  if (bAnd (bShr a2 s.2.2.1) 1) = 0 then
  if (mg s.2.2.2 (cI a0) 0) ≠ 0 then
  if (0 : Int) ≤ (w32 ((w32 ((w32 ((w32 (z3 - 1)) * 24)) + s.2.2.1)) - 1)) ∧ (w32 ((w32 ((w32 ((w32 (z3 - 1)) * 24)) + s.2.2.1)) - 1)) < (ml s.2.2.2 (cI (mg s.2.2.2 (cI a0) 0)) : Int) then
  if (mg s.2.2.2 (cI a0) 1) ≠ 0 then
  if (0 : Int) ≤ z3 ∧ z3 < (ml s.2.2.2 (cI (mg s.2.2.2 (cI a0) 1)) : Int) then
  if (mg s.2.2.2 (cI a0) 2) ≠ 0 then
  if (0 : Int) ≤ s.2.2.1 ∧ s.2.2.1 < (ml s.2.2.2 (cI (mg s.2.2.2 (cI a0) 2)) : Int) then
  lt ((w64 ((w64 ((mg s.2.2.2 (cI (mg s.2.2.2 (cI a0) 0)) ((w32 ((w32 ((w32 ((w32 (z3 - 1)) * 24)) + s.2.2.1)) - 1)) : Int).toNat) - (mg s.2.2.2 (cI (mg s.2.2.2 (cI a0) 1)) (z3 : Int).toNat))) - (mg s.2.2.2 (cI (mg s.2.2.2 (cI a0) 2)) (s.2.2.1 : Int).toNat)))) (fun x12 : Int =>
  if (mg s.2.2.2 (cI a0) 3) ≠ 0 then
  if (0 : Int) ≤ s.2.2.1 ∧ s.2.2.1 < (ml s.2.2.2 (cI (mg s.2.2.2 (cI a0) 3)) : Int) then
  if (mg s.2.2.2 (cI (mg s.2.2.2 (cI a0) 3)) (s.2.2.1 : Int).toNat) ≤ x12 then
  j_Seater_nearestColumn_102_18 s.2.2.2 a0 a1 a2 z3 s.1 s.2.1 s.2.2.1
  else
  lt (mp s.2.2.2 (cI (mg s.2.2.2 (cI a0) 3)) (s.2.2.1 : Int).toNat x12) (fun M22 =>
  if (mg M22 (cI a0) 5) ≠ 0 then
  if (0 : Int) ≤ s.2.2.1 ∧ s.2.2.1 < (ml M22 (cI (mg M22 (cI a0) 5)) : Int) then
  lt (mp M22 (cI (mg M22 (cI a0) 5)) (s.2.2.1 : Int).toNat a1) (fun M25 =>
  j_Seater_nearestColumn_102_18 M25 a0 a1 a2 z3 s.1 s.2.1 s.2.2.1)
  else none
  else none)
  else none
  else none)
  else none
  else none
  else none
  else none
  else none
  else none
  else
  lt (w32 (s.2.2.1 + 1)) (fun x26 : Int =>
  some (.inl (s.1, s.2.1, x26, s.2.2.2)))
theorem cs_l_Seater_nearestColumn_18 {X : XX} {d : Nat} (hd : 1 ≤ d) {a0 : Int} {a1 : Int} {a2 : Int} {z3 : Int} (hn_a0 : a0 ≠ 0) {s : Int × Int × Int × Mm} {x : (Int × Int × Int × Mm) ⊕ (Int × Int × Mm)} {r : Option AV} {M' : Mm} (h : l_Seater_nearestColumn_18 a0 a1 a2 z3 s = some x) (hk1 : ∀ s : Int × Int × Int × Mm, x = .inl s → Ev X m_Seater_nearestColumn d 18 [(0, (9, a0)), (1, (0, a1)), (2, (0, a2)), (3, (0, z3)), (4, (1, s.1)), (6, (0, s.2.1)), (7, (0, s.2.2.1))] [] s.2.2.2 r M') (hk2 : ∀ t : Int × Int × Mm, x = .inr t → Ev X m_Seater_nearestColumn d 134 [(0, (9, a0)), (2, (0, a2)), (4, (1, t.1)), (6, (0, t.2.1))] [] t.2.2 r M') : Ev X m_Seater_nearestColumn d 18 [(0, (9, a0)), (1, (0, a1)), (2, (0, a2)), (3, (0, z3)), (4, (1, s.1)), (6, (0, s.2.1)), (7, (0, s.2.2.1))] [] s.2.2.2 r M' := by
  unfold l_Seater_nearestColumn_18 at h
  refine ev_iload 6 d_Seater_nearestColumn_18 rfl ?_
  refine ev_aload_n 0 d_Seater_nearestColumn_20 rfl (by decide) rfl ?_
  refine ev_get (t := 9) (k := 6) (by decide) (by decide) rfl i_Seater (by decide) rfl rfl tw_259 d_Seater_nearestColumn_21 hn_a0 ?_
  by_cases hc4 : (mg s.2.2.2 (cI a0) 6) < s.2.2.1
  · replace h := itp hc4 h
    refine ev_icmp_gt_t (tgt := 134) d_Seater_nearestColumn_24 (by decide) hc4 ?_
    refine ev_less (L' := [(0, (9, a0)), (2, (0, a2)), (4, (1, s.1)), (6, (0, s.2.1))]) [0, 2, 4, 5] rfl ?_
    cases h
    exact hk2 _ rfl
  · replace h := itn hc4 h
    refine ev_icmp_gt_f d_Seater_nearestColumn_24 (by decide) hc4 ?_
    refine ev_iload_n 2 d_Seater_nearestColumn_27 rfl rfl ?_
    refine ev_iload 6 d_Seater_nearestColumn_28 rfl ?_
    refine ev_ishr d_Seater_nearestColumn_30 ?_
    refine ev_iconst d_Seater_nearestColumn_31 rfl ?_
    refine ev_iand d_Seater_nearestColumn_32 ?_
    by_cases hc5 : (bAnd (bShr a2 s.2.2.1) 1) = 0
    · replace h := itp hc5 h
      refine ev_if_eq_t (tgt := 39) d_Seater_nearestColumn_33 (by decide) hc5 ?_
      refine ev_aload_n 0 d_Seater_nearestColumn_39 rfl (by decide) rfl ?_
      refine ev_get (t := 9) (k := 0) (by decide) (by decide) rfl i_Seater (by decide) rfl rfl tw_253 d_Seater_nearestColumn_40 hn_a0 ?_
      refine ev_iload_n 3 d_Seater_nearestColumn_43 rfl rfl ?_
      refine ev_iconst d_Seater_nearestColumn_44 rfl ?_
      refine ev_isub d_Seater_nearestColumn_45 ?_
      refine ev_bipush d_Seater_nearestColumn_46 rfl ?_
      refine ev_imul d_Seater_nearestColumn_48 ?_
      refine ev_iload 6 d_Seater_nearestColumn_49 rfl ?_
      refine ev_iadd d_Seater_nearestColumn_51 ?_
      refine ev_iconst d_Seater_nearestColumn_52 rfl ?_
      refine ev_isub d_Seater_nearestColumn_53 ?_
      obtain ⟨hz6, h⟩ := gx h
      obtain ⟨hg7, h⟩ := gx h
      refine ev_lald d_Seater_nearestColumn_54 hz6 hg7 ?_
      refine ev_aload_n 0 d_Seater_nearestColumn_55 rfl (by decide) rfl ?_
      refine ev_get (t := 9) (k := 1) (by decide) (by decide) rfl i_Seater (by decide) rfl rfl tw_254 d_Seater_nearestColumn_56 hn_a0 ?_
      refine ev_iload_n 3 d_Seater_nearestColumn_59 rfl rfl ?_
      obtain ⟨hz8, h⟩ := gx h
      obtain ⟨hg9, h⟩ := gx h
      refine ev_lald d_Seater_nearestColumn_60 hz8 hg9 ?_
      refine ev_lsub d_Seater_nearestColumn_61 ?_
      refine ev_aload_n 0 d_Seater_nearestColumn_62 rfl (by decide) rfl ?_
      refine ev_get (t := 9) (k := 2) (by decide) (by decide) rfl i_Seater (by decide) rfl rfl tw_255 d_Seater_nearestColumn_63 hn_a0 ?_
      refine ev_iload 6 d_Seater_nearestColumn_66 rfl ?_
      obtain ⟨hz10, h⟩ := gx h
      obtain ⟨hg11, h⟩ := gx h
      refine ev_lald d_Seater_nearestColumn_68 hz10 hg11 ?_
      refine ev_lsub d_Seater_nearestColumn_69 ?_
      obtain ⟨x12, hx12, h⟩ := ltx h
      refine ev_lstore' (y := x12) (L' := [(8, (1, x12)), (0, (9, a0)), (1, (0, a1)), (2, (0, a2)), (3, (0, z3)), (4, (1, s.1)), (6, (0, s.2.1)), (7, (0, s.2.2.1))]) d_Seater_nearestColumn_70 (by decide) rfl hx12 ?_
      refine ev_lload 0 d_Seater_nearestColumn_72 rfl ?_
      refine ev_aload_n 1 d_Seater_nearestColumn_74 rfl (by decide) rfl ?_
      refine ev_get (t := 9) (k := 3) (by decide) (by decide) rfl i_Seater (by decide) rfl rfl tw_256 d_Seater_nearestColumn_75 hn_a0 ?_
      refine ev_iload 7 d_Seater_nearestColumn_78 rfl ?_
      obtain ⟨hz13, h⟩ := gx h
      obtain ⟨hg14, h⟩ := gx h
      refine ev_lald d_Seater_nearestColumn_80 hz13 hg14 ?_
      refine ev_lcmp d_Seater_nearestColumn_81 ?_
      by_cases hc15 : (mg s.2.2.2 (cI (mg s.2.2.2 (cI a0) 3)) (s.2.2.1 : Int).toNat) ≤ x12
      · replace h := itp hc15 h
        refine ev_if_ge_t (tgt := 102) d_Seater_nearestColumn_82 (by decide) ((lC_ge _ _).mpr hc15) ?_
        refine ev_less (L' := [(0, (9, a0)), (1, (0, a1)), (2, (0, a2)), (3, (0, z3)), (4, (1, s.1)), (6, (0, s.2.1)), (7, (0, s.2.2.1))]) [1, 2, 3, 4, 5, 6, 7] rfl ?_
        exact cj_Seater_nearestColumn_102_18 hd hn_a0 h hk1 hk2
      · replace h := itn hc15 h
        refine ev_if_ge_f d_Seater_nearestColumn_82 (by decide) (fun z => hc15 ((lC_ge _ _).mp z)) ?_
        refine ev_aload_n 1 d_Seater_nearestColumn_85 rfl (by decide) rfl ?_
        refine ev_get (t := 9) (k := 3) (by decide) (by decide) rfl i_Seater (by decide) rfl rfl tw_256 d_Seater_nearestColumn_86 hn_a0 ?_
        refine ev_iload 7 d_Seater_nearestColumn_89 rfl ?_
        refine ev_lload 0 d_Seater_nearestColumn_91 rfl ?_
        obtain ⟨M22, hM22, h⟩ := ltx h
        refine ev_last' d_Seater_nearestColumn_93 hz13 hg14 hM22 ?_
        refine ev_aload_n 1 d_Seater_nearestColumn_94 rfl (by decide) rfl ?_
        refine ev_get (t := 9) (k := 5) (by decide) (by decide) rfl i_Seater (by decide) rfl rfl tw_258 d_Seater_nearestColumn_95 hn_a0 ?_
        refine ev_iload 7 d_Seater_nearestColumn_98 rfl ?_
        refine ev_iload_n 2 d_Seater_nearestColumn_100 rfl rfl ?_
        obtain ⟨hz23, h⟩ := gx h
        obtain ⟨hg24, h⟩ := gx h
        obtain ⟨M25, hM25, h⟩ := ltx h
        refine ev_iast' d_Seater_nearestColumn_101 hz23 hg24 hM25 ?_
        refine ev_less (L' := [(0, (9, a0)), (1, (0, a1)), (2, (0, a2)), (3, (0, z3)), (4, (1, s.1)), (6, (0, s.2.1)), (7, (0, s.2.2.1))]) [1, 2, 3, 4, 5, 6, 7] rfl ?_
        exact cj_Seater_nearestColumn_102_18 hd hn_a0 h hk1 hk2
    · replace h := itn hc5 h
      refine ev_if_eq_f d_Seater_nearestColumn_33 (by decide) hc5 ?_
      refine ev_goto (tgt := 128) d_Seater_nearestColumn_36 (by decide) ?_
      obtain ⟨x26, hx26, h⟩ := ltx h
      refine ev_iinc' 6 (y := x26) (L' := [(7, (0, x26)), (0, (9, a0)), (1, (0, a1)), (2, (0, a2)), (3, (0, z3)), (4, (1, s.1)), (6, (0, s.2.1))]) d_Seater_nearestColumn_128 rfl (by decide) rfl hx26 ?_
      refine ev_goto (tgt := 18) d_Seater_nearestColumn_131 (by decide) ?_
      refine ev_less (L' := [(0, (9, a0)), (1, (0, a1)), (2, (0, a2)), (3, (0, z3)), (4, (1, s.1)), (6, (0, s.2.1)), (7, (0, x26))]) [1, 2, 3, 4, 5, 6, 0] rfl ?_
      cases h
      exact hk1 _ rfl
def f_Seater_nearestColumn (M : Mm) (a0 : Int) (a1 : Int) (a2 : Int) : Option (Int × Mm) :=
  if (mg M (cI a0) 4) ≠ 0 then
  if (0 : Int) ≤ a1 ∧ a1 < (ml M (cI (mg M (cI a0) 4)) : Int) then
  lt ((mg M (cI (mg M (cI a0) 4)) (a1 : Int).toNat)) (fun x3 : Int =>
  (loopN (l_Seater_nearestColumn_18 a0 a1 a2 x3) FU (9223372036854775807, 0, 1, M)).bind (fun t27 =>
  (f_Seater_shiftPrices t27.2.2 a0 a2 t27.1).bind (fun p28 =>
  some (t27.2.1, p28))))
  else none
  else none
theorem c_Seater_nearestColumn {X : XX} {d : Nat} (hd : 1 ≤ d) {M : Mm} {a0 : Int} {a1 : Int} {a2 : Int} (hn_a0 : a0 ≠ 0) {p : Int × Mm} (h : f_Seater_nearestColumn M a0 a1 a2 = some p) : Rn X d m_Seater_nearestColumn [(9, a0), (0, a1), (0, a2)] M (some (0, p.1)) p.2 := by
  refine Rn_of (by decide) rfl (Nat.le_of_ble_eq_true rfl) ?_
  unfold f_Seater_nearestColumn at h
  refine ev_less (L' := [(0, (9, a0)), (1, (0, a1)), (2, (0, a2))]) [0, 1, 2] rfl ?_
  refine ev_aload_n 0 d_Seater_nearestColumn_0 rfl (by decide) rfl ?_
  refine ev_get (t := 9) (k := 4) (by decide) (by decide) rfl i_Seater (by decide) rfl rfl tw_257 d_Seater_nearestColumn_1 hn_a0 ?_
  refine ev_iload_n 1 d_Seater_nearestColumn_4 rfl rfl ?_
  obtain ⟨hz1, h⟩ := gx h
  obtain ⟨hg2, h⟩ := gx h
  refine ev_iald d_Seater_nearestColumn_5 hz1 hg2 ?_
  obtain ⟨x3, hx3, h⟩ := ltx h
  refine ev_istore_n' (y := x3) (L' := [(3, (0, x3)), (0, (9, a0)), (1, (0, a1)), (2, (0, a2))]) d_Seater_nearestColumn_6 rfl (by decide) rfl hx3 ?_
  refine ev_ldc2 (v := 9223372036854775807) d_Seater_nearestColumn_7 tw_694 rfl ?_
  refine ev_lstore (L' := [(4, (1, 9223372036854775807)), (3, (0, x3)), (0, (9, a0)), (1, (0, a1)), (2, (0, a2))]) d_Seater_nearestColumn_10 (by decide) rfl ?_
  refine ev_iconst d_Seater_nearestColumn_12 rfl ?_
  refine ev_istore (L' := [(6, (0, 0)), (4, (1, 9223372036854775807)), (3, (0, x3)), (0, (9, a0)), (1, (0, a1)), (2, (0, a2))]) d_Seater_nearestColumn_13 (by decide) rfl ?_
  refine ev_iconst d_Seater_nearestColumn_15 rfl ?_
  refine ev_istore (L' := [(7, (0, 1)), (6, (0, 0)), (4, (1, 9223372036854775807)), (3, (0, x3)), (0, (9, a0)), (1, (0, a1)), (2, (0, a2))]) d_Seater_nearestColumn_16 (by decide) rfl ?_
  obtain ⟨t27, ht27, h⟩ := bx h
  refine ev_less (L' := [(0, (9, a0)), (1, (0, a1)), (2, (0, a2)), (3, (0, x3)), (4, (1, 9223372036854775807)), (6, (0, 0)), (7, (0, 1))]) [4, 5, 6, 3, 2, 1, 0] rfl ?_
  refine loop_ev (step := l_Seater_nearestColumn_18 a0 a1 a2 x3) (P := fun w : Int × Int × Int × Mm => Ev X m_Seater_nearestColumn d 18 [(0, (9, a0)), (1, (0, a1)), (2, (0, a2)), (3, (0, x3)), (4, (1, w.1)), (6, (0, w.2.1)), (7, (0, w.2.2.1))] [] w.2.2.2 (some (0, p.1)) p.2) (Q := fun w => Ev X m_Seater_nearestColumn d 134 [(0, (9, a0)), (2, (0, a2)), (4, (1, w.1)), (6, (0, w.2.1))] [] w.2.2 (some (0, p.1)) p.2) (fun w x hs k1 k2 => cs_l_Seater_nearestColumn_18 hd hn_a0 hs k1 k2) FU (9223372036854775807, 0, 1, M) t27 ht27 ?_
  refine ev_aload_n 0 d_Seater_nearestColumn_134 rfl (by decide) rfl ?_
  refine ev_iload_n 1 d_Seater_nearestColumn_135 rfl rfl ?_
  refine ev_lload 2 d_Seater_nearestColumn_136 rfl ?_
  obtain ⟨p28, hp28, h⟩ := bx h
  have hRp28 := c_Seater_shiftPrices (X := X) (d := d - 1) (by omega) hn_a0 hp28
  refine ev_callV2 (st2 := []) (as := [(0, a2), (1, t27.1)]) (rest := []) rfl (by decide) (by decide) rfl hn_a0 rfl (Nat.le_of_ble_eq_true rfl) k_Seater_shiftPrices ⟨tw_701, ts_49⟩ (by omega) tw_699 d_Seater_nearestColumn_138 hRp28 rfl ?_
  refine ev_iload 3 d_Seater_nearestColumn_141 rfl ?_
  cases h
  exact ev_ret d_Seater_nearestColumn_143 rfl
def l_Seater_placeRow_24 (a0 : Int) (s : Int × Int × Int × Mm) : Option ((Int × Int × Int × Mm) ⊕ (Int × Mm)) :=
  if (mg s.2.2.2 (cI a0) 6) < s.2.2.1 then
  some (.inr (s.2.1, s.2.2.2))
  else
  if (mg s.2.2.2 (cI a0) 4) ≠ 0 then
  if (0 : Int) ≤ s.2.1 ∧ s.2.1 < (ml s.2.2.2 (cI (mg s.2.2.2 (cI a0) 4)) : Int) then
  if (mg s.2.2.2 (cI (mg s.2.2.2 (cI a0) 4)) (s.2.1 : Int).toNat) = 0 then
  some (.inr (s.2.1, s.2.2.2))
  else
  lt ((bOr s.1 (bShl 1 s.2.1))) (fun x10 : Int =>
  (f_Seater_nearestColumn s.2.2.2 a0 s.2.1 x10).bind (fun p11 =>
  lt (w32 (s.2.2.1 + 1)) (fun x12 : Int =>
  some (.inl (x10, p11.1, x12, p11.2)))))
  else none
  else none
theorem cs_l_Seater_placeRow_24 {X : XX} {d : Nat} (hd : 2 ≤ d) {a0 : Int} (hn_a0 : a0 ≠ 0) {s : Int × Int × Int × Mm} {x : (Int × Int × Int × Mm) ⊕ (Int × Mm)} {r : Option AV} {M' : Mm} (h : l_Seater_placeRow_24 a0 s = some x) (hk1 : ∀ s : Int × Int × Int × Mm, x = .inl s → Ev X m_Seater_placeRow d 24 [(0, (9, a0)), (2, (0, s.1)), (3, (0, s.2.1)), (4, (0, s.2.2.1))] [] s.2.2.2 r M') (hk2 : ∀ t : Int × Mm, x = .inr t → Ev X m_Seater_placeRow d 61 [(0, (9, a0)), (3, (0, t.1))] [] t.2 r M') : Ev X m_Seater_placeRow d 24 [(0, (9, a0)), (2, (0, s.1)), (3, (0, s.2.1)), (4, (0, s.2.2.1))] [] s.2.2.2 r M' := by
  unfold l_Seater_placeRow_24 at h
  refine ev_iload 3 d_Seater_placeRow_24 rfl ?_
  refine ev_aload_n 0 d_Seater_placeRow_26 rfl (by decide) rfl ?_
  refine ev_get (t := 9) (k := 6) (by decide) (by decide) rfl i_Seater (by decide) rfl rfl tw_259 d_Seater_placeRow_27 hn_a0 ?_
  by_cases hc6 : (mg s.2.2.2 (cI a0) 6) < s.2.2.1
  · replace h := itp hc6 h
    refine ev_icmp_gt_t (tgt := 61) d_Seater_placeRow_30 (by decide) hc6 ?_
    refine ev_less (L' := [(0, (9, a0)), (3, (0, s.2.1))]) [0, 2] rfl ?_
    cases h
    exact hk2 _ rfl
  · replace h := itn hc6 h
    refine ev_icmp_gt_f d_Seater_placeRow_30 (by decide) hc6 ?_
    refine ev_aload_n 0 d_Seater_placeRow_33 rfl (by decide) rfl ?_
    refine ev_get (t := 9) (k := 4) (by decide) (by decide) rfl i_Seater (by decide) rfl rfl tw_257 d_Seater_placeRow_34 hn_a0 ?_
    refine ev_iload_n 2 d_Seater_placeRow_37 rfl rfl ?_
    obtain ⟨hz7, h⟩ := gx h
    obtain ⟨hg8, h⟩ := gx h
    refine ev_iald d_Seater_placeRow_38 hz7 hg8 ?_
    by_cases hc9 : (mg s.2.2.2 (cI (mg s.2.2.2 (cI a0) 4)) (s.2.1 : Int).toNat) = 0
    · replace h := itp hc9 h
      refine ev_if_eq_t (tgt := 61) d_Seater_placeRow_39 (by decide) hc9 ?_
      refine ev_less (L' := [(0, (9, a0)), (3, (0, s.2.1))]) [0, 2] rfl ?_
      cases h
      exact hk2 _ rfl
    · replace h := itn hc9 h
      refine ev_if_eq_f d_Seater_placeRow_39 (by decide) hc9 ?_
      refine ev_iload_n 1 d_Seater_placeRow_42 rfl rfl ?_
      refine ev_iconst d_Seater_placeRow_43 rfl ?_
      refine ev_iload_n 2 d_Seater_placeRow_44 rfl rfl ?_
      refine ev_ishl d_Seater_placeRow_45 ?_
      refine ev_ior d_Seater_placeRow_46 ?_
      obtain ⟨x10, hx10, h⟩ := ltx h
      refine ev_istore_n' (y := x10) (L' := [(2, (0, x10)), (0, (9, a0)), (3, (0, s.2.1)), (4, (0, s.2.2.1))]) d_Seater_placeRow_47 rfl (by decide) rfl hx10 ?_
      refine ev_aload_n 1 d_Seater_placeRow_48 rfl (by decide) rfl ?_
      refine ev_iload_n 2 d_Seater_placeRow_49 rfl rfl ?_
      refine ev_iload_n 0 d_Seater_placeRow_50 rfl rfl ?_
      obtain ⟨p11, hp11, h⟩ := bx h
      have hRp11 := c_Seater_nearestColumn (X := X) (d := d - 1) (by omega) hn_a0 hp11
      refine ev_callV2 (st2 := [(0, p11.1)]) (as := [(0, s.2.1), (0, x10)]) (rest := []) rfl (by decide) (by decide) rfl hn_a0 rfl (Nat.le_of_ble_eq_true rfl) k_Seater_nearestColumn ⟨tw_697, ts_48⟩ (by omega) tw_695 d_Seater_placeRow_51 hRp11 rfl ?_
      refine ev_istore_n (L' := [(3, (0, p11.1)), (2, (0, x10)), (0, (9, a0)), (4, (0, s.2.2.1))]) d_Seater_placeRow_54 rfl (by decide) rfl ?_
      obtain ⟨x12, hx12, h⟩ := ltx h
      refine ev_iinc' 3 (y := x12) (L' := [(4, (0, x12)), (3, (0, p11.1)), (2, (0, x10)), (0, (9, a0))]) d_Seater_placeRow_55 rfl (by decide) rfl hx12 ?_
      refine ev_goto (tgt := 24) d_Seater_placeRow_58 (by decide) ?_
      refine ev_less (L' := [(0, (9, a0)), (2, (0, x10)), (3, (0, p11.1)), (4, (0, x12))]) [3, 2, 1, 0] rfl ?_
      cases h
      exact hk1 _ rfl
def l_Seater_placeRow_64 (a0 : Int) (s : Int × Int × Mm) : Option ((Int × Int × Mm) ⊕ (Mm)) :=
  if (mg s.2.2 (cI a0) 6) < s.2.1 then
  some (.inr s.2.2)
  else
  if s.1 = 0 then
  some (.inr s.2.2)
  else
  if (mg s.2.2 (cI a0) 5) ≠ 0 then
  if (0 : Int) ≤ s.1 ∧ s.1 < (ml s.2.2 (cI (mg s.2.2 (cI a0) 5)) : Int) then
  lt ((mg s.2.2 (cI (mg s.2.2 (cI a0) 5)) (s.1 : Int).toNat)) (fun x18 : Int =>
  if (mg s.2.2 (cI a0) 4) ≠ 0 then
  if (0 : Int) ≤ x18 ∧ x18 < (ml s.2.2 (cI (mg s.2.2 (cI a0) 4)) : Int) then
  if (0 : Int) ≤ s.1 ∧ s.1 < (ml s.2.2 (cI (mg s.2.2 (cI a0) 4)) : Int) then
  lt (mp s.2.2 (cI (mg s.2.2 (cI a0) 4)) (s.1 : Int).toNat (mg s.2.2 (cI (mg s.2.2 (cI a0) 4)) (x18 : Int).toNat)) (fun M22 =>
  lt (w32 (s.2.1 + 1)) (fun x23 : Int =>
  some (.inl (x18, x23, M22))))
  else none
  else none
  else none)
  else none
  else none
theorem cs_l_Seater_placeRow_64 {X : XX} {d : Nat} (hd : 2 ≤ d) {a0 : Int} (hn_a0 : a0 ≠ 0) {s : Int × Int × Mm} {x : (Int × Int × Mm) ⊕ (Mm)} {r : Option AV} {M' : Mm} (h : l_Seater_placeRow_64 a0 s = some x) (hk1 : ∀ s : Int × Int × Mm, x = .inl s → Ev X m_Seater_placeRow d 64 [(0, (9, a0)), (3, (0, s.1)), (4, (0, s.2.1))] [] s.2.2 r M') (hk2 : ∀ t : Mm, x = .inr t → Ev X m_Seater_placeRow d 107 [] [] t r M') : Ev X m_Seater_placeRow d 64 [(0, (9, a0)), (3, (0, s.1)), (4, (0, s.2.1))] [] s.2.2 r M' := by
  unfold l_Seater_placeRow_64 at h
  refine ev_iload 2 d_Seater_placeRow_64 rfl ?_
  refine ev_aload_n 0 d_Seater_placeRow_66 rfl (by decide) rfl ?_
  refine ev_get (t := 9) (k := 6) (by decide) (by decide) rfl i_Seater (by decide) rfl rfl tw_259 d_Seater_placeRow_67 hn_a0 ?_
  by_cases hc14 : (mg s.2.2 (cI a0) 6) < s.2.1
  · replace h := itp hc14 h
    refine ev_icmp_gt_t (tgt := 107) d_Seater_placeRow_70 (by decide) hc14 ?_
    refine ev_less (L' := []) [] rfl ?_
    cases h
    exact hk2 _ rfl
  · replace h := itn hc14 h
    refine ev_icmp_gt_f d_Seater_placeRow_70 (by decide) hc14 ?_
    refine ev_iload_n 1 d_Seater_placeRow_73 rfl rfl ?_
    by_cases hc15 : s.1 = 0
    · replace h := itp hc15 h
      refine ev_if_eq_t (tgt := 107) d_Seater_placeRow_74 (by decide) hc15 ?_
      refine ev_less (L' := []) [] rfl ?_
      cases h
      exact hk2 _ rfl
    · replace h := itn hc15 h
      refine ev_if_eq_f d_Seater_placeRow_74 (by decide) hc15 ?_
      refine ev_aload_n 0 d_Seater_placeRow_77 rfl (by decide) rfl ?_
      refine ev_get (t := 9) (k := 5) (by decide) (by decide) rfl i_Seater (by decide) rfl rfl tw_258 d_Seater_placeRow_78 hn_a0 ?_
      refine ev_iload_n 1 d_Seater_placeRow_81 rfl rfl ?_
      obtain ⟨hz16, h⟩ := gx h
      obtain ⟨hg17, h⟩ := gx h
      refine ev_iald d_Seater_placeRow_82 hz16 hg17 ?_
      obtain ⟨x18, hx18, h⟩ := ltx h
      refine ev_istore' (y := x18) (L' := [(5, (0, x18)), (0, (9, a0)), (3, (0, s.1)), (4, (0, s.2.1))]) d_Seater_placeRow_83 (by decide) rfl hx18 ?_
      refine ev_aload_n 1 d_Seater_placeRow_85 rfl (by decide) rfl ?_
      refine ev_get (t := 9) (k := 4) (by decide) (by decide) rfl i_Seater (by decide) rfl rfl tw_257 d_Seater_placeRow_86 hn_a0 ?_
      refine ev_iload_n 2 d_Seater_placeRow_89 rfl rfl ?_
      refine ev_aload_n 1 d_Seater_placeRow_90 rfl (by decide) rfl ?_
      refine ev_get (t := 9) (k := 4) (by decide) (by decide) rfl i_Seater (by decide) rfl rfl tw_257 d_Seater_placeRow_91 hn_a0 ?_
      refine ev_iload 0 d_Seater_placeRow_94 rfl ?_
      obtain ⟨hz19, h⟩ := gx h
      obtain ⟨hg20, h⟩ := gx h
      refine ev_iald d_Seater_placeRow_96 hz19 hg20 ?_
      obtain ⟨hg21, h⟩ := gx h
      obtain ⟨M22, hM22, h⟩ := ltx h
      refine ev_iast' d_Seater_placeRow_97 hz19 hg21 hM22 ?_
      refine ev_iload 0 d_Seater_placeRow_98 rfl ?_
      refine ev_istore_n (L' := [(3, (0, x18)), (5, (0, x18)), (0, (9, a0)), (4, (0, s.2.1))]) d_Seater_placeRow_100 rfl (by decide) rfl ?_
      obtain ⟨x23, hx23, h⟩ := ltx h
      refine ev_iinc' 3 (y := x23) (L' := [(4, (0, x23)), (3, (0, x18)), (5, (0, x18)), (0, (9, a0))]) d_Seater_placeRow_101 rfl (by decide) rfl hx23 ?_
      refine ev_goto (tgt := 64) d_Seater_placeRow_104 (by decide) ?_
      refine ev_less (L' := [(0, (9, a0)), (3, (0, x18)), (4, (0, x23))]) [3, 1, 0] rfl ?_
      cases h
      exact hk1 _ rfl
def j_Seater_placeRow_61 (M : Mm) (a0 : Int) (z3 : Int) : Option (Mm) :=
  (loopN (l_Seater_placeRow_64 a0) FU (z3, 0, M)).bind (fun t24 =>
  some t24)
theorem cj_Seater_placeRow_61 {X : XX} {d : Nat} (hd : 2 ≤ d) {M : Mm} {a0 : Int} {z3 : Int} (hn_a0 : a0 ≠ 0) {p : Mm} (h : j_Seater_placeRow_61 M a0 z3 = some p) : Ev X m_Seater_placeRow d 61 [(0, (9, a0)), (3, (0, z3))] [] M none p := by
  unfold j_Seater_placeRow_61 at h
  refine ev_iconst d_Seater_placeRow_61 rfl ?_
  refine ev_istore (L' := [(4, (0, 0)), (0, (9, a0)), (3, (0, z3))]) d_Seater_placeRow_62 (by decide) rfl ?_
  obtain ⟨t24, ht24, h⟩ := bx h
  refine ev_less (L' := [(0, (9, a0)), (3, (0, z3)), (4, (0, 0))]) [1, 2, 0] rfl ?_
  refine loop_ev (step := l_Seater_placeRow_64 a0) (P := fun w : Int × Int × Mm => Ev X m_Seater_placeRow d 64 [(0, (9, a0)), (3, (0, w.1)), (4, (0, w.2.1))] [] w.2.2 none p) (Q := fun w => Ev X m_Seater_placeRow d 107 [] [] w none p) (fun w x hs k1 k2 => cs_l_Seater_placeRow_64 hd hn_a0 hs k1 k2) FU (z3, 0, M) t24 ht24 ?_
  cases h
  exact ev_retV d_Seater_placeRow_107 rfl
def f_Seater_placeRow (M : Mm) (a0 : Int) (a1 : Int) : Option (Mm) :=
  if (mg M (cI a0) 4) ≠ 0 then
  if (0 : Int) ≤ 0 ∧ 0 < (ml M (cI (mg M (cI a0) 4)) : Int) then
  lt (mp M (cI (mg M (cI a0) 4)) (0 : Int).toNat a1) (fun M3 =>
  if (mg M3 (cI a0) 3) ≠ 0 then
  (f_Arrays_fillL M3 (mg M3 (cI a0) 3) 9223372036854775807).bind (fun p5 =>
  (loopN (l_Seater_placeRow_24 a0) FU (0, 0, 0, p5)).bind (fun t13 =>
  j_Seater_placeRow_61 t13.2 a0 t13.1))
  else none)
  else none
  else none
theorem c_Seater_placeRow {X : XX} {d : Nat} (hd : 2 ≤ d) {M : Mm} {a0 : Int} {a1 : Int} (hn_a0 : a0 ≠ 0) {p : Mm} (h : f_Seater_placeRow M a0 a1 = some p) : Rn X d m_Seater_placeRow [(9, a0), (0, a1)] M none p := by
  refine Rn_of (by decide) rfl (Nat.le_of_ble_eq_true rfl) ?_
  unfold f_Seater_placeRow at h
  refine ev_less (L' := [(0, (9, a0)), (1, (0, a1))]) [0, 1] rfl ?_
  refine ev_aload_n 0 d_Seater_placeRow_0 rfl (by decide) rfl ?_
  refine ev_get (t := 9) (k := 4) (by decide) (by decide) rfl i_Seater (by decide) rfl rfl tw_257 d_Seater_placeRow_1 hn_a0 ?_
  refine ev_iconst d_Seater_placeRow_4 rfl ?_
  refine ev_iload_n 1 d_Seater_placeRow_5 rfl rfl ?_
  obtain ⟨hz1, h⟩ := gx h
  obtain ⟨hg2, h⟩ := gx h
  obtain ⟨M3, hM3, h⟩ := ltx h
  refine ev_iast' d_Seater_placeRow_6 hz1 hg2 hM3 ?_
  refine ev_aload_n 0 d_Seater_placeRow_7 rfl (by decide) rfl ?_
  refine ev_get (t := 9) (k := 3) (by decide) (by decide) rfl i_Seater (by decide) rfl rfl tw_256 d_Seater_placeRow_8 hn_a0 ?_
  refine ev_ldc2 (v := 9223372036854775807) d_Seater_placeRow_11 tw_694 rfl ?_
  obtain ⟨hz4, h⟩ := gx h
  obtain ⟨p5, hp5, h⟩ := bx h
  have hRp5 := c_Arrays_fillL (X := X) (d := d - 1) (by omega) hz4 hp5
  refine ev_callS2 (st2 := []) (as := [(14, (mg M3 (cI a0) 3)), (1, 9223372036854775807)]) (rest := []) rfl rfl (Nat.le_of_ble_eq_true rfl) k_Arrays_fillL tw_687 (by omega) tw_686 d_Seater_placeRow_14 hRp5 rfl ?_
  refine ev_iconst d_Seater_placeRow_17 rfl ?_
  refine ev_istore_n (L' := [(2, (0, 0)), (0, (9, a0)), (1, (0, a1))]) d_Seater_placeRow_18 rfl (by decide) rfl ?_
  refine ev_iconst d_Seater_placeRow_19 rfl ?_
  refine ev_istore_n (L' := [(3, (0, 0)), (2, (0, 0)), (0, (9, a0)), (1, (0, a1))]) d_Seater_placeRow_20 rfl (by decide) rfl ?_
  refine ev_iconst d_Seater_placeRow_21 rfl ?_
  refine ev_istore (L' := [(4, (0, 0)), (3, (0, 0)), (2, (0, 0)), (0, (9, a0)), (1, (0, a1))]) d_Seater_placeRow_22 (by decide) rfl ?_
  obtain ⟨t13, ht13, h⟩ := bx h
  refine ev_less (L' := [(0, (9, a0)), (2, (0, 0)), (3, (0, 0)), (4, (0, 0))]) [3, 2, 1, 0] rfl ?_
  refine loop_ev (step := l_Seater_placeRow_24 a0) (P := fun w : Int × Int × Int × Mm => Ev X m_Seater_placeRow d 24 [(0, (9, a0)), (2, (0, w.1)), (3, (0, w.2.1)), (4, (0, w.2.2.1))] [] w.2.2.2 none p) (Q := fun w => Ev X m_Seater_placeRow d 61 [(0, (9, a0)), (3, (0, w.1))] [] w.2 none p) (fun w x hs k1 k2 => cs_l_Seater_placeRow_24 hd hn_a0 hs k1 k2) FU (0, 0, 0, p5) t13 ht13 ?_
  exact cj_Seater_placeRow_61 hd hn_a0 h
def l_Seater_match_33 (a0 : Int) (a1 : Int) (s : Int × Mm) : Option ((Int × Mm) ⊕ (Mm)) :=
  if a1 < s.1 then
  some (.inr s.2)
  else
  (f_Seater_placeRow s.2 a0 s.1).bind (fun p9 =>
  lt (w32 (s.1 + 1)) (fun x10 : Int =>
  some (.inl (x10, p9))))
theorem cs_l_Seater_match_33 {X : XX} {d : Nat} (hd : 3 ≤ d) {a0 : Int} {a1 : Int} (hn_a0 : a0 ≠ 0) {s : Int × Mm} {x : (Int × Mm) ⊕ (Mm)} {r : Option AV} {M' : Mm} (h : l_Seater_match_33 a0 a1 s = some x) (hk1 : ∀ s : Int × Mm, x = .inl s → Ev X m_Seater_match d 33 [(0, (9, a0)), (1, (0, a1)), (3, (0, s.1))] [] s.2 r M') (hk2 : ∀ t : Mm, x = .inr t → Ev X m_Seater_match d 49 [] [] t r M') : Ev X m_Seater_match d 33 [(0, (9, a0)), (1, (0, a1)), (3, (0, s.1))] [] s.2 r M' := by
  unfold l_Seater_match_33 at h
  refine ev_iload_n 2 d_Seater_match_33 rfl rfl ?_
  refine ev_iload_n 1 d_Seater_match_34 rfl rfl ?_
  by_cases hc8 : a1 < s.1
  · replace h := itp hc8 h
    refine ev_icmp_gt_t (tgt := 49) d_Seater_match_35 (by decide) hc8 ?_
    refine ev_less (L' := []) [] rfl ?_
    cases h
    exact hk2 _ rfl
  · replace h := itn hc8 h
    refine ev_icmp_gt_f d_Seater_match_35 (by decide) hc8 ?_
    refine ev_aload_n 0 d_Seater_match_38 rfl (by decide) rfl ?_
    refine ev_iload_n 2 d_Seater_match_39 rfl rfl ?_
    obtain ⟨p9, hp9, h⟩ := bx h
    have hRp9 := c_Seater_placeRow (X := X) (d := d - 1) (by omega) hn_a0 hp9
    refine ev_callV2 (st2 := []) (as := [(0, s.1)]) (rest := []) rfl (by decide) (by decide) rfl hn_a0 rfl (Nat.le_of_ble_eq_true rfl) k_Seater_placeRow ⟨tw_692, ts_47⟩ (by omega) tw_690 d_Seater_match_40 hRp9 rfl ?_
    obtain ⟨x10, hx10, h⟩ := ltx h
    refine ev_iinc' 2 (y := x10) (L' := [(3, (0, x10)), (0, (9, a0)), (1, (0, a1))]) d_Seater_match_43 rfl (by decide) rfl hx10 ?_
    refine ev_goto (tgt := 33) d_Seater_match_46 (by decide) ?_
    refine ev_less (L' := [(0, (9, a0)), (1, (0, a1)), (3, (0, x10))]) [1, 2, 0] rfl ?_
    cases h
    exact hk1 _ rfl
def f_Seater_match (M : Mm) (a0 : Int) (a1 : Int) (a2 : Int) : Option (Mm) :=
  lt (mp M (cI a0) 6 (w32 (a2 + a1))) (fun M1 =>
  if (mg M1 (cI a0) 1) ≠ 0 then
  (f_Arrays_fillL M1 (mg M1 (cI a0) 1) 0).bind (fun p3 =>
  if (mg p3 (cI a0) 2) ≠ 0 then
  (f_Arrays_fillL p3 (mg p3 (cI a0) 2) 0).bind (fun p5 =>
  if (mg p5 (cI a0) 4) ≠ 0 then
  (f_Arrays_fillI p5 (mg p5 (cI a0) 4) 0).bind (fun p7 =>
  (loopN (l_Seater_match_33 a0 a1) FU (1, p7)).bind (fun t11 =>
  some t11))
  else none)
  else none)
  else none)
theorem c_Seater_match {X : XX} {d : Nat} (hd : 3 ≤ d) {M : Mm} {a0 : Int} {a1 : Int} {a2 : Int} (hn_a0 : a0 ≠ 0) {p : Mm} (h : f_Seater_match M a0 a1 a2 = some p) : Rn X d m_Seater_match [(9, a0), (0, a1), (0, a2)] M none p := by
  refine Rn_of (by decide) rfl (Nat.le_of_ble_eq_true rfl) ?_
  unfold f_Seater_match at h
  refine ev_less (L' := [(0, (9, a0)), (1, (0, a1)), (2, (0, a2))]) [0, 1, 2] rfl ?_
  refine ev_aload_n 0 d_Seater_match_0 rfl (by decide) rfl ?_
  refine ev_iload_n 2 d_Seater_match_1 rfl rfl ?_
  refine ev_iload_n 1 d_Seater_match_2 rfl rfl ?_
  refine ev_iadd d_Seater_match_3 ?_
  obtain ⟨M1, hM1, h⟩ := ltx h
  refine ev_put' (t := 9) (k := 6) (by decide) (by decide) rfl i_Seater t_Seater_ok n_Seater (by decide) rfl rfl rfl rfl tw_259 d_Seater_match_4 hn_a0 hM1 ?_
  refine ev_aload_n 0 d_Seater_match_7 rfl (by decide) rfl ?_
  refine ev_get (t := 9) (k := 1) (by decide) (by decide) rfl i_Seater (by decide) rfl rfl tw_254 d_Seater_match_8 hn_a0 ?_
  refine ev_lconst (v := 0) d_Seater_match_11 rfl rfl ?_
  obtain ⟨hz2, h⟩ := gx h
  obtain ⟨p3, hp3, h⟩ := bx h
  have hRp3 := c_Arrays_fillL (X := X) (d := d - 1) (by omega) hz2 hp3
  refine ev_callS2 (st2 := []) (as := [(14, (mg M1 (cI a0) 1)), (1, 0)]) (rest := []) rfl rfl (Nat.le_of_ble_eq_true rfl) k_Arrays_fillL tw_687 (by omega) tw_686 d_Seater_match_12 hRp3 rfl ?_
  refine ev_aload_n 0 d_Seater_match_15 rfl (by decide) rfl ?_
  refine ev_get (t := 9) (k := 2) (by decide) (by decide) rfl i_Seater (by decide) rfl rfl tw_255 d_Seater_match_16 hn_a0 ?_
  refine ev_lconst (v := 0) d_Seater_match_19 rfl rfl ?_
  obtain ⟨hz4, h⟩ := gx h
  obtain ⟨p5, hp5, h⟩ := bx h
  have hRp5 := c_Arrays_fillL (X := X) (d := d - 1) (by omega) hz4 hp5
  refine ev_callS2 (st2 := []) (as := [(14, (mg p3 (cI a0) 2)), (1, 0)]) (rest := []) rfl rfl (Nat.le_of_ble_eq_true rfl) k_Arrays_fillL tw_687 (by omega) tw_686 d_Seater_match_20 hRp5 rfl ?_
  refine ev_aload_n 0 d_Seater_match_23 rfl (by decide) rfl ?_
  refine ev_get (t := 9) (k := 4) (by decide) (by decide) rfl i_Seater (by decide) rfl rfl tw_257 d_Seater_match_24 hn_a0 ?_
  refine ev_iconst d_Seater_match_27 rfl ?_
  obtain ⟨hz6, h⟩ := gx h
  obtain ⟨p7, hp7, h⟩ := bx h
  have hRp7 := c_Arrays_fillI (X := X) (d := d - 1) (by omega) hz6 hp7
  refine ev_callS2 (st2 := []) (as := [(13, (mg p5 (cI a0) 4)), (0, 0)]) (rest := []) rfl rfl (Nat.le_of_ble_eq_true rfl) k_Arrays_fillI tw_34 (by omega) tw_689 d_Seater_match_28 hRp7 rfl ?_
  refine ev_iconst d_Seater_match_31 rfl ?_
  refine ev_istore_n (L' := [(3, (0, 1)), (0, (9, a0)), (1, (0, a1)), (2, (0, a2))]) d_Seater_match_32 rfl (by decide) rfl ?_
  obtain ⟨t11, ht11, h⟩ := bx h
  refine ev_less (L' := [(0, (9, a0)), (1, (0, a1)), (3, (0, 1))]) [1, 2, 0] rfl ?_
  refine loop_ev (step := l_Seater_match_33 a0 a1) (P := fun w : Int × Mm => Ev X m_Seater_match d 33 [(0, (9, a0)), (1, (0, a1)), (3, (0, w.1))] [] w.2 none p) (Q := fun w => Ev X m_Seater_match d 49 [] [] w none p) (fun w x hs k1 k2 => cs_l_Seater_match_33 hd hn_a0 hs k1 k2) FU (1, p7) t11 ht11 ?_
  cases h
  exact ev_retV d_Seater_match_49 rfl
def j_Seater_takeChairs_51_5 (M : Mm) (a0 : Int) (a1 : Int) (a2 : Int) (z3 : Int) (z4 : Int) (z5 : Int) (y0 : Int) : Option ((Int × Int × Mm) ⊕ (Int × Mm)) :=
  if (mg M (cI a1) 2) ≠ 0 then
  if (0 : Int) ≤ z5 ∧ z5 < (ml M (cI (mg M (cI a1) 2)) : Int) then
  if (mg M (cI (mg M (cI a1) 2)) (z5 : Int).toNat) = y0 then
  lt (w32 (z4 + 1)) (fun x11 : Int =>
  some (.inl (z3, x11, M)))
  else
  lt (mp M (cI (mg M (cI a1) 2)) (z5 : Int).toNat y0) (fun M12 =>
  lt (w32 (z3 + 1)) (fun x13 : Int =>
  lt (w32 (z4 + 1)) (fun x14 : Int =>
  some (.inl (x13, x14, M12)))))
  else none
  else none
theorem cj_Seater_takeChairs_51_5 {X : XX} {d : Nat} (hd : 1 ≤ d) {M : Mm} {a0 : Int} {a1 : Int} {a2 : Int} {z3 : Int} {z4 : Int} {z5 : Int} {y0 : Int} (hn_a0 : a0 ≠ 0) (hn_a1 : a1 ≠ 0) {x : (Int × Int × Mm) ⊕ (Int × Mm)} {r : Option AV} {M' : Mm} (h : j_Seater_takeChairs_51_5 M a0 a1 a2 z3 z4 z5 y0 = some x) (hk1 : ∀ s : Int × Int × Mm, x = .inl s → Ev X m_Seater_takeChairs d 5 [(0, (9, a0)), (1, (5, a1)), (2, (0, a2)), (3, (0, s.1)), (4, (0, s.2.1))] [] s.2.2 r M') (hk2 : ∀ t : Int × Mm, x = .inr t → Ev X m_Seater_takeChairs d 83 [(3, (0, t.1))] [] t.2 r M') : Ev X m_Seater_takeChairs d 51 [(0, (9, a0)), (1, (5, a1)), (2, (0, a2)), (3, (0, z3)), (4, (0, z4)), (5, (0, z5))] [(0, y0)] M r M' := by
  unfold j_Seater_takeChairs_51_5 at h
  refine ev_istore (L' := [(6, (0, y0)), (0, (9, a0)), (1, (5, a1)), (2, (0, a2)), (3, (0, z3)), (4, (0, z4)), (5, (0, z5))]) d_Seater_takeChairs_51 (by decide) rfl ?_
  refine ev_aload_n 2 d_Seater_takeChairs_53 rfl (by decide) rfl ?_
  refine ev_getN (host := "TownBand") (t := 5) (k := 2) (by decide) (by decide) rfl i_Piece (by decide) rfl rfl tw_79 d_Seater_takeChairs_54 hn_a1 ?_
  refine ev_iload 6 d_Seater_takeChairs_57 rfl ?_
  obtain ⟨hz8, h⟩ := gx h
  obtain ⟨hg9, h⟩ := gx h
  refine ev_iald d_Seater_takeChairs_59 hz8 hg9 ?_
  refine ev_iload 0 d_Seater_takeChairs_60 rfl ?_
  by_cases hc10 : (mg M (cI (mg M (cI a1) 2)) (z5 : Int).toNat) = y0
  · replace h := itp hc10 h
    refine ev_icmp_eq_t (tgt := 77) d_Seater_takeChairs_62 (by decide) hc10 ?_
    obtain ⟨x11, hx11, h⟩ := ltx h
    refine ev_iinc' 5 (y := x11) (L' := [(4, (0, x11)), (6, (0, y0)), (0, (9, a0)), (1, (5, a1)), (2, (0, a2)), (3, (0, z3)), (5, (0, z5))]) d_Seater_takeChairs_77 rfl (by decide) rfl hx11 ?_
    refine ev_goto (tgt := 5) d_Seater_takeChairs_80 (by decide) ?_
    refine ev_less (L' := [(0, (9, a0)), (1, (5, a1)), (2, (0, a2)), (3, (0, z3)), (4, (0, x11))]) [2, 3, 4, 5, 0] rfl ?_
    cases h
    exact hk1 _ rfl
  · replace h := itn hc10 h
    refine ev_icmp_eq_f d_Seater_takeChairs_62 (by decide) hc10 ?_
    refine ev_aload_n 2 d_Seater_takeChairs_65 rfl (by decide) rfl ?_
    refine ev_getN (host := "TownBand") (t := 5) (k := 2) (by decide) (by decide) rfl i_Piece (by decide) rfl rfl tw_79 d_Seater_takeChairs_66 hn_a1 ?_
    refine ev_iload 6 d_Seater_takeChairs_69 rfl ?_
    refine ev_iload 0 d_Seater_takeChairs_71 rfl ?_
    obtain ⟨M12, hM12, h⟩ := ltx h
    refine ev_iast' d_Seater_takeChairs_73 hz8 hg9 hM12 ?_
    obtain ⟨x13, hx13, h⟩ := ltx h
    refine ev_iinc' 4 (y := x13) (L' := [(3, (0, x13)), (6, (0, y0)), (0, (9, a0)), (1, (5, a1)), (2, (0, a2)), (4, (0, z4)), (5, (0, z5))]) d_Seater_takeChairs_74 rfl (by decide) rfl hx13 ?_
    obtain ⟨x14, hx14, h⟩ := ltx h
    refine ev_iinc' 5 (y := x14) (L' := [(4, (0, x14)), (3, (0, x13)), (6, (0, y0)), (0, (9, a0)), (1, (5, a1)), (2, (0, a2)), (5, (0, z5))]) d_Seater_takeChairs_77 rfl (by decide) rfl hx14 ?_
    refine ev_goto (tgt := 5) d_Seater_takeChairs_80 (by decide) ?_
    refine ev_less (L' := [(0, (9, a0)), (1, (5, a1)), (2, (0, a2)), (3, (0, x13)), (4, (0, x14))]) [3, 4, 5, 1, 0] rfl ?_
    cases h
    exact hk1 _ rfl
def l_Seater_takeChairs_5 (a0 : Int) (a1 : Int) (a2 : Int) (s : Int × Int × Mm) : Option ((Int × Int × Mm) ⊕ (Int × Mm)) :=
  if (mg s.2.2 (cI a0) 6) < s.2.1 then
  some (.inr (s.1, s.2.2))
  else
  if (mg s.2.2 (cI a0) 4) ≠ 0 then
  if (0 : Int) ≤ s.2.1 ∧ s.2.1 < (ml s.2.2 (cI (mg s.2.2 (cI a0) 4)) : Int) then
  lt ((w32 ((mg s.2.2 (cI (mg s.2.2 (cI a0) 4)) (s.2.1 : Int).toNat) - 1))) (fun x4 : Int =>
  (f_Piece_hasPart s.2.2 a1 x4).bind (fun p5 =>
  if p5 ≠ 0 then
  if a2 < s.2.1 then
  j_Seater_takeChairs_51_5 s.2.2 a0 a1 a2 s.1 s.2.1 x4 (-1)
  else
  j_Seater_takeChairs_51_5 s.2.2 a0 a1 a2 s.1 s.2.1 x4 ((w32 (s.2.1 - 1)))
  else
  lt (w32 (s.2.1 + 1)) (fun x15 : Int =>
  some (.inl (s.1, x15, s.2.2)))))
  else none
  else none
theorem cs_l_Seater_takeChairs_5 {X : XX} {d : Nat} (hd : 1 ≤ d) {a0 : Int} {a1 : Int} {a2 : Int} (hn_a0 : a0 ≠ 0) (hn_a1 : a1 ≠ 0) {s : Int × Int × Mm} {x : (Int × Int × Mm) ⊕ (Int × Mm)} {r : Option AV} {M' : Mm} (h : l_Seater_takeChairs_5 a0 a1 a2 s = some x) (hk1 : ∀ s : Int × Int × Mm, x = .inl s → Ev X m_Seater_takeChairs d 5 [(0, (9, a0)), (1, (5, a1)), (2, (0, a2)), (3, (0, s.1)), (4, (0, s.2.1))] [] s.2.2 r M') (hk2 : ∀ t : Int × Mm, x = .inr t → Ev X m_Seater_takeChairs d 83 [(3, (0, t.1))] [] t.2 r M') : Ev X m_Seater_takeChairs d 5 [(0, (9, a0)), (1, (5, a1)), (2, (0, a2)), (3, (0, s.1)), (4, (0, s.2.1))] [] s.2.2 r M' := by
  unfold l_Seater_takeChairs_5 at h
  refine ev_iload 4 d_Seater_takeChairs_5 rfl ?_
  refine ev_aload_n 0 d_Seater_takeChairs_7 rfl (by decide) rfl ?_
  refine ev_get (t := 9) (k := 6) (by decide) (by decide) rfl i_Seater (by decide) rfl rfl tw_259 d_Seater_takeChairs_8 hn_a0 ?_
  by_cases hc1 : (mg s.2.2 (cI a0) 6) < s.2.1
  · replace h := itp hc1 h
    refine ev_icmp_gt_t (tgt := 83) d_Seater_takeChairs_11 (by decide) hc1 ?_
    refine ev_less (L' := [(3, (0, s.1))]) [3] rfl ?_
    cases h
    exact hk2 _ rfl
  · replace h := itn hc1 h
    refine ev_icmp_gt_f d_Seater_takeChairs_11 (by decide) hc1 ?_
    refine ev_aload_n 0 d_Seater_takeChairs_14 rfl (by decide) rfl ?_
    refine ev_get (t := 9) (k := 4) (by decide) (by decide) rfl i_Seater (by decide) rfl rfl tw_257 d_Seater_takeChairs_15 hn_a0 ?_
    refine ev_iload 4 d_Seater_takeChairs_18 rfl ?_
    obtain ⟨hz2, h⟩ := gx h
    obtain ⟨hg3, h⟩ := gx h
    refine ev_iald d_Seater_takeChairs_20 hz2 hg3 ?_
    refine ev_iconst d_Seater_takeChairs_21 rfl ?_
    refine ev_isub d_Seater_takeChairs_22 ?_
    obtain ⟨x4, hx4, h⟩ := ltx h
    refine ev_istore' (y := x4) (L' := [(5, (0, x4)), (0, (9, a0)), (1, (5, a1)), (2, (0, a2)), (3, (0, s.1)), (4, (0, s.2.1))]) d_Seater_takeChairs_23 (by decide) rfl hx4 ?_
    refine ev_aload_n 2 d_Seater_takeChairs_25 rfl (by decide) rfl ?_
    refine ev_iload 0 d_Seater_takeChairs_26 rfl ?_
    obtain ⟨p5, hp5, h⟩ := bx h
    have hRp5 := c_Piece_hasPart (X := X) (d := d - 1) (by omega) hn_a1 hp5
    refine ev_callVN2 (host := "TownBand") (st2 := [(0, p5)]) (as := [(0, x4)]) (rest := []) rfl (by decide) (by decide) rfl hn_a1 rfl (Nat.le_of_ble_eq_true rfl) k_Piece_hasPart ⟨tw_606, ts_34⟩ (by omega) tw_707 d_Seater_takeChairs_28 hRp5 rfl ?_
    by_cases hc6 : p5 ≠ 0
    · replace h := itp hc6 h
      refine ev_if_ne_t (tgt := 37) d_Seater_takeChairs_31 (by decide) hc6 ?_
      refine ev_iload 5 d_Seater_takeChairs_37 rfl ?_
      refine ev_iload_n 3 d_Seater_takeChairs_39 rfl rfl ?_
      by_cases hc7 : a2 < s.2.1
      · replace h := itp hc7 h
        refine ev_icmp_gt_t (tgt := 50) d_Seater_takeChairs_40 (by decide) hc7 ?_
        refine ev_iconst d_Seater_takeChairs_50 rfl ?_
        refine ev_less (L' := [(0, (9, a0)), (1, (5, a1)), (2, (0, a2)), (3, (0, s.1)), (4, (0, s.2.1)), (5, (0, x4))]) [1, 2, 3, 4, 5, 0] rfl ?_
        exact cj_Seater_takeChairs_51_5 hd hn_a0 hn_a1 h hk1 hk2
      · replace h := itn hc7 h
        refine ev_icmp_gt_f d_Seater_takeChairs_40 (by decide) hc7 ?_
        refine ev_iload 5 d_Seater_takeChairs_43 rfl ?_
        refine ev_iconst d_Seater_takeChairs_45 rfl ?_
        refine ev_isub d_Seater_takeChairs_46 ?_
        refine ev_goto (tgt := 51) d_Seater_takeChairs_47 (by decide) ?_
        refine ev_less (L' := [(0, (9, a0)), (1, (5, a1)), (2, (0, a2)), (3, (0, s.1)), (4, (0, s.2.1)), (5, (0, x4))]) [1, 2, 3, 4, 5, 0] rfl ?_
        exact cj_Seater_takeChairs_51_5 hd hn_a0 hn_a1 h hk1 hk2
    · replace h := itn hc6 h
      refine ev_if_ne_f d_Seater_takeChairs_31 (by decide) hc6 ?_
      refine ev_goto (tgt := 77) d_Seater_takeChairs_34 (by decide) ?_
      obtain ⟨x15, hx15, h⟩ := ltx h
      refine ev_iinc' 5 (y := x15) (L' := [(4, (0, x15)), (5, (0, x4)), (0, (9, a0)), (1, (5, a1)), (2, (0, a2)), (3, (0, s.1))]) d_Seater_takeChairs_77 rfl (by decide) rfl hx15 ?_
      refine ev_goto (tgt := 5) d_Seater_takeChairs_80 (by decide) ?_
      refine ev_less (L' := [(0, (9, a0)), (1, (5, a1)), (2, (0, a2)), (3, (0, s.1)), (4, (0, x15))]) [2, 3, 4, 5, 0] rfl ?_
      cases h
      exact hk1 _ rfl
def f_Seater_takeChairs (M : Mm) (a0 : Int) (a1 : Int) (a2 : Int) : Option (Int × Mm) :=
  (loopN (l_Seater_takeChairs_5 a0 a1 a2) FU (0, 1, M)).bind (fun t16 =>
  some (t16.1, t16.2))
theorem c_Seater_takeChairs {X : XX} {d : Nat} (hd : 1 ≤ d) {M : Mm} {a0 : Int} {a1 : Int} {a2 : Int} (hn_a0 : a0 ≠ 0) (hn_a1 : a1 ≠ 0) {p : Int × Mm} (h : f_Seater_takeChairs M a0 a1 a2 = some p) : Rn X d m_Seater_takeChairs [(9, a0), (5, a1), (0, a2)] M (some (0, p.1)) p.2 := by
  refine Rn_of (by decide) rfl (Nat.le_of_ble_eq_true rfl) ?_
  unfold f_Seater_takeChairs at h
  refine ev_less (L' := [(0, (9, a0)), (1, (5, a1)), (2, (0, a2))]) [0, 1, 2] rfl ?_
  refine ev_iconst d_Seater_takeChairs_0 rfl ?_
  refine ev_istore_n (L' := [(3, (0, 0)), (0, (9, a0)), (1, (5, a1)), (2, (0, a2))]) d_Seater_takeChairs_1 rfl (by decide) rfl ?_
  refine ev_iconst d_Seater_takeChairs_2 rfl ?_
  refine ev_istore (L' := [(4, (0, 1)), (3, (0, 0)), (0, (9, a0)), (1, (5, a1)), (2, (0, a2))]) d_Seater_takeChairs_3 (by decide) rfl ?_
  obtain ⟨t16, ht16, h⟩ := bx h
  refine ev_less (L' := [(0, (9, a0)), (1, (5, a1)), (2, (0, a2)), (3, (0, 0)), (4, (0, 1))]) [2, 3, 4, 1, 0] rfl ?_
  refine loop_ev (step := l_Seater_takeChairs_5 a0 a1 a2) (P := fun w : Int × Int × Mm => Ev X m_Seater_takeChairs d 5 [(0, (9, a0)), (1, (5, a1)), (2, (0, a2)), (3, (0, w.1)), (4, (0, w.2.1))] [] w.2.2 (some (0, p.1)) p.2) (Q := fun w => Ev X m_Seater_takeChairs d 83 [(3, (0, w.1))] [] w.2 (some (0, p.1)) p.2) (fun w x hs k1 k2 => cs_l_Seater_takeChairs_5 hd hn_a0 hn_a1 hs k1 k2) FU (0, 1, M) t16 ht16 ?_
  refine ev_iload_n 0 d_Seater_takeChairs_83 rfl rfl ?_
  cases h
  exact ev_ret d_Seater_takeChairs_84 rfl
def j_Seater_seatAnew_78_13 (M : Mm) (a0 : Int) (a1 : Int) (a2 : Int) (z3 : Int) (z4 : Int) (y0 : Int) (y1 : Int) (y2 : Int) (y3 : Int) : Option ((Int × Mm) ⊕ (Mm)) :=
  (f_Seater_weigh M y3 y2 y1 y0).bind (fun p7 =>
  lt (w32 (z4 + 1)) (fun x8 : Int =>
  some (.inl (x8, p7))))
theorem cj_Seater_seatAnew_78_13 {X : XX} {d : Nat} (hd : 4 ≤ d) {M : Mm} {a0 : Int} {a1 : Int} {a2 : Int} {z3 : Int} {z4 : Int} {y0 : Int} {y1 : Int} {y2 : Int} {y3 : Int} (hn_a0 : a0 ≠ 0) (hn_a1 : a1 ≠ 0) (hn_a2 : a2 ≠ 0) (hn_y3 : y3 ≠ 0) {x : (Int × Mm) ⊕ (Mm)} {r : Option AV} {M' : Mm} (h : j_Seater_seatAnew_78_13 M a0 a1 a2 z3 z4 y0 y1 y2 y3 = some x) (hk1 : ∀ s : Int × Mm, x = .inl s → Ev X m_Seater_seatAnew d 13 [(0, (9, a0)), (1, (5, a1)), (2, (7, a2)), (3, (0, z3)), (4, (0, s.1))] [] s.2 r M') (hk2 : ∀ t : Mm, x = .inr t → Ev X m_Seater_seatAnew d 87 [(0, (9, a0)), (1, (5, a1)), (2, (7, a2)), (3, (0, z3))] [] t r M') : Ev X m_Seater_seatAnew d 78 [(0, (9, a0)), (1, (5, a1)), (2, (7, a2)), (3, (0, z3)), (4, (0, z4))] [(1, y0), (0, y1), (0, y2), (9, y3)] M r M' := by
  unfold j_Seater_seatAnew_78_13 at h
  obtain ⟨p7, hp7, h⟩ := bx h
  have hRp7 := c_Seater_weigh (X := X) (d := d - 1) (by omega) hn_y3 hp7
  refine ev_callV2 (st2 := []) (as := [(0, y2), (0, y1), (1, y0)]) (rest := []) rfl (by decide) (by decide) rfl hn_y3 rfl (Nat.le_of_ble_eq_true rfl) k_Seater_weigh ⟨tw_673, ts_44⟩ (by omega) tw_671 d_Seater_seatAnew_78 hRp7 rfl ?_
  obtain ⟨x8, hx8, h⟩ := ltx h
  refine ev_iinc' 4 (y := x8) (L' := [(4, (0, x8)), (0, (9, a0)), (1, (5, a1)), (2, (7, a2)), (3, (0, z3))]) d_Seater_seatAnew_81 rfl (by decide) rfl hx8 ?_
  refine ev_goto (tgt := 13) d_Seater_seatAnew_84 (by decide) ?_
  refine ev_less (L' := [(0, (9, a0)), (1, (5, a1)), (2, (7, a2)), (3, (0, z3)), (4, (0, x8))]) [1, 2, 3, 4, 0] rfl ?_
  cases h
  exact hk1 _ rfl
def j_Seater_seatAnew_43_13 (M : Mm) (a0 : Int) (a1 : Int) (a2 : Int) (z3 : Int) (z4 : Int) (y0 : Int) : Option ((Int × Mm) ⊕ (Mm)) :=
  if y0 ≠ (-1) then
  if (0 : Int) ≤ z3 ∧ z3 < 10 then
  j_Seater_seatAnew_78_13 M a0 a1 a2 z3 z4 ((w64 ((w64 (y0 * 576650390625)) + (w64 (z4 * (dg1.getD (z3 : Int).toNat 0)))))) z4 z3 a0
  else none
  else
  j_Seater_seatAnew_78_13 M a0 a1 a2 z3 z4 5766503906250000 z4 z3 a0
theorem cj_Seater_seatAnew_43_13 {X : XX} {d : Nat} (hd : 4 ≤ d) {M : Mm} {a0 : Int} {a1 : Int} {a2 : Int} {z3 : Int} {z4 : Int} {y0 : Int} (hn_a0 : a0 ≠ 0) (hn_a1 : a1 ≠ 0) (hn_a2 : a2 ≠ 0) {x : (Int × Mm) ⊕ (Mm)} {r : Option AV} {M' : Mm} (h : j_Seater_seatAnew_43_13 M a0 a1 a2 z3 z4 y0 = some x) (hk1 : ∀ s : Int × Mm, x = .inl s → Ev X m_Seater_seatAnew d 13 [(0, (9, a0)), (1, (5, a1)), (2, (7, a2)), (3, (0, z3)), (4, (0, s.1))] [] s.2 r M') (hk2 : ∀ t : Mm, x = .inr t → Ev X m_Seater_seatAnew d 87 [(0, (9, a0)), (1, (5, a1)), (2, (7, a2)), (3, (0, z3))] [] t r M') : Ev X m_Seater_seatAnew d 43 [(0, (9, a0)), (1, (5, a1)), (2, (7, a2)), (3, (0, z3)), (4, (0, z4))] [(0, y0)] M r M' := by
  unfold j_Seater_seatAnew_43_13 at h
  refine ev_istore (L' := [(5, (0, y0)), (0, (9, a0)), (1, (5, a1)), (2, (7, a2)), (3, (0, z3)), (4, (0, z4))]) d_Seater_seatAnew_43 (by decide) rfl ?_
  refine ev_aload_n 1 d_Seater_seatAnew_45 rfl (by decide) rfl ?_
  refine ev_iload_n 4 d_Seater_seatAnew_46 rfl rfl ?_
  refine ev_iload 5 d_Seater_seatAnew_47 rfl ?_
  refine ev_iload 0 d_Seater_seatAnew_49 rfl ?_
  refine ev_iconst d_Seater_seatAnew_51 rfl ?_
  by_cases hc5 : y0 ≠ (-1)
  · replace h := itp hc5 h
    refine ev_icmp_ne_t (tgt := 61) d_Seater_seatAnew_52 (by decide) hc5 ?_
    refine ev_iload 0 d_Seater_seatAnew_61 rfl ?_
    refine ev_i2l d_Seater_seatAnew_63 ?_
    refine ev_ldc2 (v := 576650390625) d_Seater_seatAnew_64 tw_668 rfl ?_
    refine ev_lmul d_Seater_seatAnew_67 ?_
    refine ev_iload 5 d_Seater_seatAnew_68 rfl ?_
    refine ev_i2l d_Seater_seatAnew_70 ?_
    refine ev_dig1 d_Seater_seatAnew_71 tw_669 ?_
    refine ev_iload_n 4 d_Seater_seatAnew_74 rfl rfl ?_
    obtain ⟨hg6, h⟩ := gx h
    refine ev_tl1 d_Seater_seatAnew_75 hg6 ?_
    refine ev_lmul d_Seater_seatAnew_76 ?_
    refine ev_ladd d_Seater_seatAnew_77 ?_
    refine ev_less (L' := [(0, (9, a0)), (1, (5, a1)), (2, (7, a2)), (3, (0, z3)), (4, (0, z4))]) [1, 2, 3, 4, 5] rfl ?_
    exact cj_Seater_seatAnew_78_13 hd hn_a0 hn_a1 hn_a2 hn_a0 h hk1 hk2
  · replace h := itn hc5 h
    refine ev_icmp_ne_f d_Seater_seatAnew_52 (by decide) hc5 ?_
    refine ev_ldc2 (v := 5766503906250000) d_Seater_seatAnew_55 tw_667 rfl ?_
    refine ev_goto (tgt := 78) d_Seater_seatAnew_58 (by decide) ?_
    refine ev_less (L' := [(0, (9, a0)), (1, (5, a1)), (2, (7, a2)), (3, (0, z3)), (4, (0, z4))]) [1, 2, 3, 4, 5] rfl ?_
    exact cj_Seater_seatAnew_78_13 hd hn_a0 hn_a1 hn_a2 hn_a0 h hk1 hk2
def l_Seater_seatAnew_13 (a0 : Int) (a1 : Int) (a2 : Int) (z3 : Int) (s : Int × Mm) : Option ((Int × Mm) ⊕ (Mm)) :=
  if (mg s.2 (cI a2) 4) ≤ s.1 then
  some (.inr s.2)
  else
  (f_Players_isPresent s.2 a2 s.1).bind (fun p3 =>
  if p3 = 0 then
  j_Seater_seatAnew_43_13 s.2 a0 a1 a2 z3 s.1 (-1)
  else
  (f_Players_partCost s.2 a2 s.1 a1 z3).bind (fun p9 =>
  j_Seater_seatAnew_43_13 s.2 a0 a1 a2 z3 s.1 p9))
theorem cs_l_Seater_seatAnew_13 {X : XX} {d : Nat} (hd : 4 ≤ d) {a0 : Int} {a1 : Int} {a2 : Int} {z3 : Int} (hn_a0 : a0 ≠ 0) (hn_a1 : a1 ≠ 0) (hn_a2 : a2 ≠ 0) {s : Int × Mm} {x : (Int × Mm) ⊕ (Mm)} {r : Option AV} {M' : Mm} (h : l_Seater_seatAnew_13 a0 a1 a2 z3 s = some x) (hk1 : ∀ s : Int × Mm, x = .inl s → Ev X m_Seater_seatAnew d 13 [(0, (9, a0)), (1, (5, a1)), (2, (7, a2)), (3, (0, z3)), (4, (0, s.1))] [] s.2 r M') (hk2 : ∀ t : Mm, x = .inr t → Ev X m_Seater_seatAnew d 87 [(0, (9, a0)), (1, (5, a1)), (2, (7, a2)), (3, (0, z3))] [] t r M') : Ev X m_Seater_seatAnew d 13 [(0, (9, a0)), (1, (5, a1)), (2, (7, a2)), (3, (0, z3)), (4, (0, s.1))] [] s.2 r M' := by
  unfold l_Seater_seatAnew_13 at h
  refine ev_iload 4 d_Seater_seatAnew_13 rfl ?_
  refine ev_aload_n 2 d_Seater_seatAnew_15 rfl (by decide) rfl ?_
  refine ev_getN (host := "TownBand") (t := 7) (k := 4) (by decide) (by decide) rfl i_Players (by decide) rfl rfl tw_44 d_Seater_seatAnew_16 hn_a2 ?_
  by_cases hc2 : (mg s.2 (cI a2) 4) ≤ s.1
  · replace h := itp hc2 h
    refine ev_icmp_ge_t (tgt := 87) d_Seater_seatAnew_19 (by decide) hc2 ?_
    refine ev_less (L' := [(0, (9, a0)), (1, (5, a1)), (2, (7, a2)), (3, (0, z3))]) [0, 1, 2, 3] rfl ?_
    cases h
    exact hk2 _ rfl
  · replace h := itn hc2 h
    refine ev_icmp_ge_f d_Seater_seatAnew_19 (by decide) hc2 ?_
    refine ev_aload_n 2 d_Seater_seatAnew_22 rfl (by decide) rfl ?_
    refine ev_iload 4 d_Seater_seatAnew_23 rfl ?_
    obtain ⟨p3, hp3, h⟩ := bx h
    have hRp3 := c_Players_isPresent (X := X) (d := d - 1) (by omega) hn_a2 hp3
    refine ev_callVN2 (host := "TownBand") (st2 := [(0, p3)]) (as := [(0, s.1)]) (rest := []) rfl (by decide) (by decide) rfl hn_a2 rfl (Nat.le_of_ble_eq_true rfl) k_Players_isPresent ⟨tw_630, ts_39⟩ (by omega) tw_665 d_Seater_seatAnew_25 hRp3 rfl ?_
    by_cases hc4 : p3 = 0
    · replace h := itp hc4 h
      refine ev_if_eq_t (tgt := 42) d_Seater_seatAnew_28 (by decide) hc4 ?_
      refine ev_iconst d_Seater_seatAnew_42 rfl ?_
      exact cj_Seater_seatAnew_43_13 hd hn_a0 hn_a1 hn_a2 h hk1 hk2
    · replace h := itn hc4 h
      refine ev_if_eq_f d_Seater_seatAnew_28 (by decide) hc4 ?_
      refine ev_aload_n 2 d_Seater_seatAnew_31 rfl (by decide) rfl ?_
      refine ev_iload 4 d_Seater_seatAnew_32 rfl ?_
      refine ev_aload_n 1 d_Seater_seatAnew_34 rfl (by decide) rfl ?_
      refine ev_iload_n 3 d_Seater_seatAnew_35 rfl rfl ?_
      obtain ⟨p9, hp9, h⟩ := bx h
      have hRp9 := c_Players_partCost (X := X) (d := d - 1) (by omega) hn_a2 hn_a1 hp9
      refine ev_callVN2 (host := "TownBand") (st2 := [(0, p9)]) (as := [(0, s.1), (5, a1), (0, z3)]) (rest := []) rfl (by decide) (by decide) rfl hn_a2 rfl (Nat.le_of_ble_eq_true rfl) k_Players_partCost ⟨tw_634, ts_40⟩ (by omega) tw_666 d_Seater_seatAnew_36 hRp9 rfl ?_
      refine ev_goto (tgt := 43) d_Seater_seatAnew_39 (by decide) ?_
      exact cj_Seater_seatAnew_43_13 hd hn_a0 hn_a1 hn_a2 h hk1 hk2
def l_Seater_seatAnew_2 (a0 : Int) (a1 : Int) (a2 : Int) (s : Int × Mm) : Option ((Int × Mm) ⊕ (Mm)) :=
  if (mg s.2 (cI a1) 7) ≤ s.1 then
  some (.inr s.2)
  else
  (loopN (l_Seater_seatAnew_13 a0 a1 a2 s.1) FU (0, s.2)).bind (fun t10 =>
  (f_Seater_weighEmpty t10 a0 a1 a2 s.1 57665039062500).bind (fun p11 =>
  lt (w32 (s.1 + 1)) (fun x12 : Int =>
  some (.inl (x12, p11)))))
theorem cs_l_Seater_seatAnew_2 {X : XX} {d : Nat} (hd : 4 ≤ d) {a0 : Int} {a1 : Int} {a2 : Int} (hn_a0 : a0 ≠ 0) (hn_a1 : a1 ≠ 0) (hn_a2 : a2 ≠ 0) {s : Int × Mm} {x : (Int × Mm) ⊕ (Mm)} {r : Option AV} {M' : Mm} (h : l_Seater_seatAnew_2 a0 a1 a2 s = some x) (hk1 : ∀ s : Int × Mm, x = .inl s → Ev X m_Seater_seatAnew d 2 [(0, (9, a0)), (1, (5, a1)), (2, (7, a2)), (3, (0, s.1))] [] s.2 r M') (hk2 : ∀ t : Mm, x = .inr t → Ev X m_Seater_seatAnew d 103 [(0, (9, a0)), (1, (5, a1)), (2, (7, a2))] [] t r M') : Ev X m_Seater_seatAnew d 2 [(0, (9, a0)), (1, (5, a1)), (2, (7, a2)), (3, (0, s.1))] [] s.2 r M' := by
  unfold l_Seater_seatAnew_2 at h
  refine ev_iload_n 3 d_Seater_seatAnew_2 rfl rfl ?_
  refine ev_aload_n 1 d_Seater_seatAnew_3 rfl (by decide) rfl ?_
  refine ev_getN (host := "TownBand") (t := 5) (k := 7) (by decide) (by decide) rfl i_Piece (by decide) rfl rfl tw_93 d_Seater_seatAnew_4 hn_a1 ?_
  by_cases hc1 : (mg s.2 (cI a1) 7) ≤ s.1
  · replace h := itp hc1 h
    refine ev_icmp_ge_t (tgt := 103) d_Seater_seatAnew_7 (by decide) hc1 ?_
    refine ev_less (L' := [(0, (9, a0)), (1, (5, a1)), (2, (7, a2))]) [0, 1, 2] rfl ?_
    cases h
    exact hk2 _ rfl
  · replace h := itn hc1 h
    refine ev_icmp_ge_f d_Seater_seatAnew_7 (by decide) hc1 ?_
    refine ev_iconst d_Seater_seatAnew_10 rfl ?_
    refine ev_istore (L' := [(4, (0, 0)), (0, (9, a0)), (1, (5, a1)), (2, (7, a2)), (3, (0, s.1))]) d_Seater_seatAnew_11 (by decide) rfl ?_
    obtain ⟨t10, ht10, h⟩ := bx h
    refine ev_less (L' := [(0, (9, a0)), (1, (5, a1)), (2, (7, a2)), (3, (0, s.1)), (4, (0, 0))]) [1, 2, 3, 4, 0] rfl ?_
    refine loop_ev (step := l_Seater_seatAnew_13 a0 a1 a2 s.1) (P := fun w : Int × Mm => Ev X m_Seater_seatAnew d 13 [(0, (9, a0)), (1, (5, a1)), (2, (7, a2)), (3, (0, s.1)), (4, (0, w.1))] [] w.2 r M') (Q := fun w => Ev X m_Seater_seatAnew d 87 [(0, (9, a0)), (1, (5, a1)), (2, (7, a2)), (3, (0, s.1))] [] w r M') (fun w x hs k1 k2 => cs_l_Seater_seatAnew_13 hd hn_a0 hn_a1 hn_a2 hs k1 k2) FU (0, s.2) t10 ht10 ?_
    refine ev_aload_n 0 d_Seater_seatAnew_87 rfl (by decide) rfl ?_
    refine ev_aload_n 1 d_Seater_seatAnew_88 rfl (by decide) rfl ?_
    refine ev_aload_n 2 d_Seater_seatAnew_89 rfl (by decide) rfl ?_
    refine ev_iload_n 3 d_Seater_seatAnew_90 rfl rfl ?_
    refine ev_ldc2 (v := 57665039062500) d_Seater_seatAnew_91 tw_675 rfl ?_
    obtain ⟨p11, hp11, h⟩ := bx h
    have hRp11 := c_Seater_weighEmpty (X := X) (d := d - 1) (by omega) hn_a0 hn_a1 hn_a2 hp11
    refine ev_callV2 (st2 := []) (as := [(5, a1), (7, a2), (0, s.1), (1, 57665039062500)]) (rest := []) rfl (by decide) (by decide) rfl hn_a0 rfl (Nat.le_of_ble_eq_true rfl) k_Seater_weighEmpty ⟨tw_678, ts_45⟩ (by omega) tw_676 d_Seater_seatAnew_94 hRp11 rfl ?_
    obtain ⟨x12, hx12, h⟩ := ltx h
    refine ev_iinc' 3 (y := x12) (L' := [(3, (0, x12)), (0, (9, a0)), (1, (5, a1)), (2, (7, a2))]) d_Seater_seatAnew_97 rfl (by decide) rfl hx12 ?_
    refine ev_goto (tgt := 2) d_Seater_seatAnew_100 (by decide) ?_
    refine ev_less (L' := [(0, (9, a0)), (1, (5, a1)), (2, (7, a2)), (3, (0, x12))]) [1, 2, 3, 0] rfl ?_
    cases h
    exact hk1 _ rfl
def f_Seater_seatAnew (M : Mm) (a0 : Int) (a1 : Int) (a2 : Int) : Option (Mm) :=
  (loopN (l_Seater_seatAnew_2 a0 a1 a2) FU (0, M)).bind (fun t13 =>
  (f_Seater_match t13 a0 (mg t13 (cI a1) 7) (mg t13 (cI a2) 4)).bind (fun p14 =>
  (f_Seater_takeChairs p14 a0 a1 (mg p14 (cI a2) 4)).bind (fun p15 =>
  some p15.2)))
theorem c_Seater_seatAnew {X : XX} {d : Nat} (hd : 4 ≤ d) {M : Mm} {a0 : Int} {a1 : Int} {a2 : Int} (hn_a0 : a0 ≠ 0) (hn_a1 : a1 ≠ 0) (hn_a2 : a2 ≠ 0) {p : Mm} (h : f_Seater_seatAnew M a0 a1 a2 = some p) : Rn X d m_Seater_seatAnew [(9, a0), (5, a1), (7, a2)] M none p := by
  refine Rn_of (by decide) rfl (Nat.le_of_ble_eq_true rfl) ?_
  unfold f_Seater_seatAnew at h
  refine ev_less (L' := [(0, (9, a0)), (1, (5, a1)), (2, (7, a2))]) [0, 1, 2] rfl ?_
  refine ev_iconst d_Seater_seatAnew_0 rfl ?_
  refine ev_istore_n (L' := [(3, (0, 0)), (0, (9, a0)), (1, (5, a1)), (2, (7, a2))]) d_Seater_seatAnew_1 rfl (by decide) rfl ?_
  obtain ⟨t13, ht13, h⟩ := bx h
  refine ev_less (L' := [(0, (9, a0)), (1, (5, a1)), (2, (7, a2)), (3, (0, 0))]) [1, 2, 3, 0] rfl ?_
  refine loop_ev (step := l_Seater_seatAnew_2 a0 a1 a2) (P := fun w : Int × Mm => Ev X m_Seater_seatAnew d 2 [(0, (9, a0)), (1, (5, a1)), (2, (7, a2)), (3, (0, w.1))] [] w.2 none p) (Q := fun w => Ev X m_Seater_seatAnew d 103 [(0, (9, a0)), (1, (5, a1)), (2, (7, a2))] [] w none p) (fun w x hs k1 k2 => cs_l_Seater_seatAnew_2 hd hn_a0 hn_a1 hn_a2 hs k1 k2) FU (0, M) t13 ht13 ?_
  refine ev_aload_n 0 d_Seater_seatAnew_103 rfl (by decide) rfl ?_
  refine ev_aload_n 1 d_Seater_seatAnew_104 rfl (by decide) rfl ?_
  refine ev_getN (host := "TownBand") (t := 5) (k := 7) (by decide) (by decide) rfl i_Piece (by decide) rfl rfl tw_93 d_Seater_seatAnew_105 hn_a1 ?_
  refine ev_aload_n 2 d_Seater_seatAnew_108 rfl (by decide) rfl ?_
  refine ev_getN (host := "TownBand") (t := 7) (k := 4) (by decide) (by decide) rfl i_Players (by decide) rfl rfl tw_44 d_Seater_seatAnew_109 hn_a2 ?_
  obtain ⟨p14, hp14, h⟩ := bx h
  have hRp14 := c_Seater_match (X := X) (d := d - 1) (by omega) hn_a0 hp14
  refine ev_callV2 (st2 := []) (as := [(0, (mg t13 (cI a1) 7)), (0, (mg t13 (cI a2) 4))]) (rest := []) rfl (by decide) (by decide) rfl hn_a0 rfl (Nat.le_of_ble_eq_true rfl) k_Seater_match ⟨tw_684, ts_46⟩ (by omega) tw_682 d_Seater_seatAnew_112 hRp14 rfl ?_
  refine ev_aload_n 0 d_Seater_seatAnew_115 rfl (by decide) rfl ?_
  refine ev_aload_n 1 d_Seater_seatAnew_116 rfl (by decide) rfl ?_
  refine ev_aload_n 2 d_Seater_seatAnew_117 rfl (by decide) rfl ?_
  refine ev_getN (host := "TownBand") (t := 7) (k := 4) (by decide) (by decide) rfl i_Players (by decide) rfl rfl tw_44 d_Seater_seatAnew_118 hn_a2 ?_
  obtain ⟨p15, hp15, h⟩ := bx h
  have hRp15 := c_Seater_takeChairs (X := X) (d := d - 1) (by omega) hn_a0 hn_a1 hp15
  refine ev_callV2 (st2 := [(0, p15.1)]) (as := [(5, a1), (0, (mg p14 (cI a2) 4))]) (rest := []) rfl (by decide) (by decide) rfl hn_a0 rfl (Nat.le_of_ble_eq_true rfl) k_Seater_takeChairs ⟨tw_705, ts_50⟩ (by omega) tw_703 d_Seater_seatAnew_121 hRp15 rfl ?_
  refine ev_pop d_Seater_seatAnew_124 (Nat.ne_of_beq_eq_false rfl) ?_
  cases h
  exact ev_retV d_Seater_seatAnew_125 rfl
end
