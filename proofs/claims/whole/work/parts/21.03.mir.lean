noncomputable section
def f_Planner_offer (M : Mm) (a0 : Int) (a1 : Int) (a2 : Int) : Option (Mm) :=
  if (mg M (cI a0) 7) < 10 then
  if (mg M (cI a0) 3) ≠ 0 then
  if (0 : Int) ≤ (mg M (cI a0) 7) ∧ (mg M (cI a0) 7) < (ml M (cI (mg M (cI a0) 3)) : Int) then
  lt (mp M (cI (mg M (cI a0) 3)) ((mg M (cI a0) 7) : Int).toNat a1) (fun M4 =>
  if (mg M4 (cI a0) 4) ≠ 0 then
  if (0 : Int) ≤ (mg M4 (cI a0) 7) ∧ (mg M4 (cI a0) 7) < (ml M4 (cI (mg M4 (cI a0) 4)) : Int) then
  lt (mp M4 (cI (mg M4 (cI a0) 4)) ((mg M4 (cI a0) 7) : Int).toNat (mg M4 (cI a2) 4)) (fun M7 =>
  if (mg M7 (cI a0) 5) ≠ 0 then
  if (0 : Int) ≤ (mg M7 (cI a0) 7) ∧ (mg M7 (cI a0) 7) < (ml M7 (cI (mg M7 (cI a0) 5)) : Int) then
  lt (mp M7 (cI (mg M7 (cI a0) 5)) ((mg M7 (cI a0) 7) : Int).toNat (mg M7 (cI a2) 5)) (fun M10 =>
  if (mg M10 (cI a0) 6) ≠ 0 then
  if (0 : Int) ≤ (mg M10 (cI a0) 7) ∧ (mg M10 (cI a0) 7) < (ml M10 (cI (mg M10 (cI a0) 6)) : Int) then
  lt (mp M10 (cI (mg M10 (cI a0) 6)) ((mg M10 (cI a0) 7) : Int).toNat (mg M10 (cI a2) 6)) (fun M13 =>
  lt (mp M13 (cI a0) 7 (w32 ((mg M13 (cI a0) 7) + 1))) (fun M14 =>
  some M14))
  else none
  else none)
  else none
  else none)
  else none
  else none)
  else none
  else none
  else
  some M
theorem c_Planner_offer {X : XX} {d : Nat} (hd : 0 ≤ d) {M : Mm} {a0 : Int} {a1 : Int} {a2 : Int} (hn_a0 : a0 ≠ 0) (hn_a2 : a2 ≠ 0) {p : Mm} (h : f_Planner_offer M a0 a1 a2 = some p) : Rn X d m_Planner_offer [(6, a0), (0, a1), (5, a2)] M none p := by
  refine Rn_of (by decide) rfl (Nat.le_of_ble_eq_true rfl) ?_
  unfold f_Planner_offer at h
  refine ev_less (L' := [(0, (6, a0)), (1, (0, a1)), (2, (5, a2))]) [0, 1, 2] rfl ?_
  refine ev_aload_n 0 d_Planner_offer_0 rfl (by decide) rfl ?_
  refine ev_get (t := 6) (k := 7) (by decide) (by decide) rfl i_Planner (by decide) rfl rfl tw_292 d_Planner_offer_1 hn_a0 ?_
  refine ev_bipush d_Planner_offer_4 rfl ?_
  by_cases hc1 : (mg M (cI a0) 7) < 10
  · replace h := itp hc1 h
    refine ev_icmp_lt_t (tgt := 10) d_Planner_offer_6 (by decide) hc1 ?_
    refine ev_aload_n 0 d_Planner_offer_10 rfl (by decide) rfl ?_
    refine ev_get (t := 6) (k := 3) (by decide) (by decide) rfl i_Planner (by decide) rfl rfl tw_288 d_Planner_offer_11 hn_a0 ?_
    refine ev_aload_n 0 d_Planner_offer_14 rfl (by decide) rfl ?_
    refine ev_get (t := 6) (k := 7) (by decide) (by decide) rfl i_Planner (by decide) rfl rfl tw_292 d_Planner_offer_15 hn_a0 ?_
    refine ev_iload_n 1 d_Planner_offer_18 rfl rfl ?_
    obtain ⟨hz2, h⟩ := gx h
    obtain ⟨hg3, h⟩ := gx h
    obtain ⟨M4, hM4, h⟩ := ltx h
    refine ev_iast' d_Planner_offer_19 hz2 hg3 hM4 ?_
    refine ev_aload_n 0 d_Planner_offer_20 rfl (by decide) rfl ?_
    refine ev_get (t := 6) (k := 4) (by decide) (by decide) rfl i_Planner (by decide) rfl rfl tw_289 d_Planner_offer_21 hn_a0 ?_
    refine ev_aload_n 0 d_Planner_offer_24 rfl (by decide) rfl ?_
    refine ev_get (t := 6) (k := 7) (by decide) (by decide) rfl i_Planner (by decide) rfl rfl tw_292 d_Planner_offer_25 hn_a0 ?_
    refine ev_aload_n 2 d_Planner_offer_28 rfl (by decide) rfl ?_
    refine ev_getN (host := "TownBand") (t := 5) (k := 4) (by decide) (by decide) rfl i_Piece (by decide) rfl rfl tw_83 d_Planner_offer_29 hn_a2 ?_
    obtain ⟨hz5, h⟩ := gx h
    obtain ⟨hg6, h⟩ := gx h
    obtain ⟨M7, hM7, h⟩ := ltx h
    refine ev_iast' d_Planner_offer_32 hz5 hg6 hM7 ?_
    refine ev_aload_n 0 d_Planner_offer_33 rfl (by decide) rfl ?_
    refine ev_get (t := 6) (k := 5) (by decide) (by decide) rfl i_Planner (by decide) rfl rfl tw_290 d_Planner_offer_34 hn_a0 ?_
    refine ev_aload_n 0 d_Planner_offer_37 rfl (by decide) rfl ?_
    refine ev_get (t := 6) (k := 7) (by decide) (by decide) rfl i_Planner (by decide) rfl rfl tw_292 d_Planner_offer_38 hn_a0 ?_
    refine ev_aload_n 2 d_Planner_offer_41 rfl (by decide) rfl ?_
    refine ev_getN (host := "TownBand") (t := 5) (k := 5) (by decide) (by decide) rfl i_Piece (by decide) rfl rfl tw_86 d_Planner_offer_42 hn_a2 ?_
    obtain ⟨hz8, h⟩ := gx h
    obtain ⟨hg9, h⟩ := gx h
    obtain ⟨M10, hM10, h⟩ := ltx h
    refine ev_iast' d_Planner_offer_45 hz8 hg9 hM10 ?_
    refine ev_aload_n 0 d_Planner_offer_46 rfl (by decide) rfl ?_
    refine ev_get (t := 6) (k := 6) (by decide) (by decide) rfl i_Planner (by decide) rfl rfl tw_291 d_Planner_offer_47 hn_a0 ?_
    refine ev_aload_n 0 d_Planner_offer_50 rfl (by decide) rfl ?_
    refine ev_get (t := 6) (k := 7) (by decide) (by decide) rfl i_Planner (by decide) rfl rfl tw_292 d_Planner_offer_51 hn_a0 ?_
    refine ev_aload_n 2 d_Planner_offer_54 rfl (by decide) rfl ?_
    refine ev_getN (host := "TownBand") (t := 5) (k := 6) (by decide) (by decide) rfl i_Piece (by decide) rfl rfl tw_89 d_Planner_offer_55 hn_a2 ?_
    obtain ⟨hz11, h⟩ := gx h
    obtain ⟨hg12, h⟩ := gx h
    obtain ⟨M13, hM13, h⟩ := ltx h
    refine ev_iast' d_Planner_offer_58 hz11 hg12 hM13 ?_
    refine ev_aload_n 0 d_Planner_offer_59 rfl (by decide) rfl ?_
    refine ev_dup d_Planner_offer_60 (Nat.ne_of_beq_eq_false rfl) ?_
    refine ev_get (t := 6) (k := 7) (by decide) (by decide) rfl i_Planner (by decide) rfl rfl tw_292 d_Planner_offer_61 hn_a0 ?_
    refine ev_iconst d_Planner_offer_64 rfl ?_
    refine ev_iadd d_Planner_offer_65 ?_
    obtain ⟨M14, hM14, h⟩ := ltx h
    refine ev_put' (t := 6) (k := 7) (by decide) (by decide) rfl i_Planner t_Planner_ok n_Planner (by decide) rfl rfl rfl rfl tw_292 d_Planner_offer_66 hn_a0 hM14 ?_
    cases h
    exact ev_retV d_Planner_offer_69 rfl
  · replace h := itn hc1 h
    refine ev_icmp_lt_f d_Planner_offer_6 (by decide) hc1 ?_
    cases h
    exact ev_retV d_Planner_offer_9 rfl
def l_Planner_minutesOf_4 (M : Mm) (a0 : Int) (a1 : Int) (s : Int × Int) : Option ((Int × Int) ⊕ (Int)) :=
  if (mg M (cI a0) 7) ≤ s.2 then
  some (.inr s.1)
  else
  if (bAnd (bShr a1 s.2) 1) = 0 then
  lt (w32 (s.2 + 1)) (fun x3 : Int =>
  some (.inl (s.1, x3)))
  else
  if (mg M (cI a0) 4) ≠ 0 then
  if (0 : Int) ≤ s.2 ∧ s.2 < (ml M (cI (mg M (cI a0) 4)) : Int) then
  lt ((w32 (s.1 + (mg M (cI (mg M (cI a0) 4)) (s.2 : Int).toNat)))) (fun x6 : Int =>
  lt (w32 (s.2 + 1)) (fun x7 : Int =>
  some (.inl (x6, x7))))
  else none
  else none
theorem cs_l_Planner_minutesOf_4 {X : XX} {d : Nat} (hd : 0 ≤ d) {M : Mm} {a0 : Int} {a1 : Int} (hn_a0 : a0 ≠ 0) {s : Int × Int} {x : (Int × Int) ⊕ (Int)} {r : Option AV} {M' : Mm} (h : l_Planner_minutesOf_4 M a0 a1 s = some x) (hk1 : ∀ s : Int × Int, x = .inl s → Ev X m_Planner_minutesOf d 4 [(0, (6, a0)), (1, (0, a1)), (2, (0, s.1)), (3, (0, s.2))] [] M r M') (hk2 : ∀ t : Int, x = .inr t → Ev X m_Planner_minutesOf d 35 [(2, (0, t))] [] M r M') : Ev X m_Planner_minutesOf d 4 [(0, (6, a0)), (1, (0, a1)), (2, (0, s.1)), (3, (0, s.2))] [] M r M' := by
  unfold l_Planner_minutesOf_4 at h
  refine ev_iload_n 3 d_Planner_minutesOf_4 rfl rfl ?_
  refine ev_aload_n 0 d_Planner_minutesOf_5 rfl (by decide) rfl ?_
  refine ev_get (t := 6) (k := 7) (by decide) (by decide) rfl i_Planner (by decide) rfl rfl tw_292 d_Planner_minutesOf_6 hn_a0 ?_
  by_cases hc1 : (mg M (cI a0) 7) ≤ s.2
  · replace h := itp hc1 h
    refine ev_icmp_ge_t (tgt := 35) d_Planner_minutesOf_9 (by decide) hc1 ?_
    refine ev_less (L' := [(2, (0, s.1))]) [2] rfl ?_
    cases h
    exact hk2 _ rfl
  · replace h := itn hc1 h
    refine ev_icmp_ge_f d_Planner_minutesOf_9 (by decide) hc1 ?_
    refine ev_iload_n 1 d_Planner_minutesOf_12 rfl rfl ?_
    refine ev_iload_n 3 d_Planner_minutesOf_13 rfl rfl ?_
    refine ev_ishr d_Planner_minutesOf_14 ?_
    refine ev_iconst d_Planner_minutesOf_15 rfl ?_
    refine ev_iand d_Planner_minutesOf_16 ?_
    by_cases hc2 : (bAnd (bShr a1 s.2) 1) = 0
    · replace h := itp hc2 h
      refine ev_if_eq_t (tgt := 29) d_Planner_minutesOf_17 (by decide) hc2 ?_
      obtain ⟨x3, hx3, h⟩ := ltx h
      refine ev_iinc' 3 (y := x3) (L' := [(3, (0, x3)), (0, (6, a0)), (1, (0, a1)), (2, (0, s.1))]) d_Planner_minutesOf_29 rfl (by decide) rfl hx3 ?_
      refine ev_goto (tgt := 4) d_Planner_minutesOf_32 (by decide) ?_
      refine ev_less (L' := [(0, (6, a0)), (1, (0, a1)), (2, (0, s.1)), (3, (0, x3))]) [1, 2, 3, 0] rfl ?_
      cases h
      exact hk1 _ rfl
    · replace h := itn hc2 h
      refine ev_if_eq_f d_Planner_minutesOf_17 (by decide) hc2 ?_
      refine ev_iload_n 2 d_Planner_minutesOf_20 rfl rfl ?_
      refine ev_aload_n 0 d_Planner_minutesOf_21 rfl (by decide) rfl ?_
      refine ev_get (t := 6) (k := 4) (by decide) (by decide) rfl i_Planner (by decide) rfl rfl tw_289 d_Planner_minutesOf_22 hn_a0 ?_
      refine ev_iload_n 3 d_Planner_minutesOf_25 rfl rfl ?_
      obtain ⟨hz4, h⟩ := gx h
      obtain ⟨hg5, h⟩ := gx h
      refine ev_iald d_Planner_minutesOf_26 hz4 hg5 ?_
      refine ev_iadd d_Planner_minutesOf_27 ?_
      obtain ⟨x6, hx6, h⟩ := ltx h
      refine ev_istore_n' (y := x6) (L' := [(2, (0, x6)), (0, (6, a0)), (1, (0, a1)), (3, (0, s.2))]) d_Planner_minutesOf_28 rfl (by decide) rfl hx6 ?_
      obtain ⟨x7, hx7, h⟩ := ltx h
      refine ev_iinc' 3 (y := x7) (L' := [(3, (0, x7)), (2, (0, x6)), (0, (6, a0)), (1, (0, a1))]) d_Planner_minutesOf_29 rfl (by decide) rfl hx7 ?_
      refine ev_goto (tgt := 4) d_Planner_minutesOf_32 (by decide) ?_
      refine ev_less (L' := [(0, (6, a0)), (1, (0, a1)), (2, (0, x6)), (3, (0, x7))]) [2, 3, 1, 0] rfl ?_
      cases h
      exact hk1 _ rfl
def f_Planner_minutesOf (M : Mm) (a0 : Int) (a1 : Int) : Option (Int) :=
  (loopN (l_Planner_minutesOf_4 M a0 a1) FU (0, 0)).bind (fun t8 =>
  some t8)
theorem c_Planner_minutesOf {X : XX} {d : Nat} (hd : 0 ≤ d) {M : Mm} {a0 : Int} {a1 : Int} (hn_a0 : a0 ≠ 0) {p : Int} (h : f_Planner_minutesOf M a0 a1 = some p) : Rn X d m_Planner_minutesOf [(6, a0), (0, a1)] M (some (0, p)) M := by
  refine Rn_of (by decide) rfl (Nat.le_of_ble_eq_true rfl) ?_
  unfold f_Planner_minutesOf at h
  refine ev_less (L' := [(0, (6, a0)), (1, (0, a1))]) [0, 1] rfl ?_
  refine ev_iconst d_Planner_minutesOf_0 rfl ?_
  refine ev_istore_n (L' := [(2, (0, 0)), (0, (6, a0)), (1, (0, a1))]) d_Planner_minutesOf_1 rfl (by decide) rfl ?_
  refine ev_iconst d_Planner_minutesOf_2 rfl ?_
  refine ev_istore_n (L' := [(3, (0, 0)), (2, (0, 0)), (0, (6, a0)), (1, (0, a1))]) d_Planner_minutesOf_3 rfl (by decide) rfl ?_
  obtain ⟨t8, ht8, h⟩ := bx h
  refine ev_less (L' := [(0, (6, a0)), (1, (0, a1)), (2, (0, 0)), (3, (0, 0))]) [2, 3, 1, 0] rfl ?_
  refine loop_ev (step := l_Planner_minutesOf_4 M a0 a1) (P := fun w : Int × Int => Ev X m_Planner_minutesOf d 4 [(0, (6, a0)), (1, (0, a1)), (2, (0, w.1)), (3, (0, w.2))] [] M (some (0, p)) M) (Q := fun w => Ev X m_Planner_minutesOf d 35 [(2, (0, w))] [] M (some (0, p)) M) (fun w x hs k1 k2 => cs_l_Planner_minutesOf_4 hd hn_a0 hs k1 k2) FU (0, 0) t8 ht8 ?_
  refine ev_iload_n 0 d_Planner_minutesOf_35 rfl rfl ?_
  cases h
  exact ev_ret d_Planner_minutesOf_36 rfl
def f_Planner_keyGap (M : Mm) (a0 : Int) (a1 : Int) (a2 : Int) : Option (Int) :=
  if (mg M (cI a0) 6) ≠ 0 then
  if (0 : Int) ≤ a1 ∧ a1 < (ml M (cI (mg M (cI a0) 6)) : Int) then
  if (0 : Int) ≤ a2 ∧ a2 < (ml M (cI (mg M (cI a0) 6)) : Int) then
  lt ((iabs (w32 ((mg M (cI (mg M (cI a0) 6)) (a1 : Int).toNat) - (mg M (cI (mg M (cI a0) 6)) (a2 : Int).toNat))))) (fun x4 : Int =>
  some (imin x4 (w32 (12 - x4))))
  else none
  else none
  else none
theorem c_Planner_keyGap {X : XX} {d : Nat} (hd : 1 ≤ d) {M : Mm} {a0 : Int} {a1 : Int} {a2 : Int} (hn_a0 : a0 ≠ 0) {p : Int} (h : f_Planner_keyGap M a0 a1 a2 = some p) : Rn X d m_Planner_keyGap [(6, a0), (0, a1), (0, a2)] M (some (0, p)) M := by
  refine Rn_of (by decide) rfl (Nat.le_of_ble_eq_true rfl) ?_
  unfold f_Planner_keyGap at h
  refine ev_less (L' := [(0, (6, a0)), (1, (0, a1)), (2, (0, a2))]) [0, 1, 2] rfl ?_
  refine ev_aload_n 0 d_Planner_keyGap_0 rfl (by decide) rfl ?_
  refine ev_get (t := 6) (k := 6) (by decide) (by decide) rfl i_Planner (by decide) rfl rfl tw_291 d_Planner_keyGap_1 hn_a0 ?_
  refine ev_iload_n 1 d_Planner_keyGap_4 rfl rfl ?_
  obtain ⟨hz1, h⟩ := gx h
  obtain ⟨hg2, h⟩ := gx h
  refine ev_iald d_Planner_keyGap_5 hz1 hg2 ?_
  refine ev_aload_n 0 d_Planner_keyGap_6 rfl (by decide) rfl ?_
  refine ev_get (t := 6) (k := 6) (by decide) (by decide) rfl i_Planner (by decide) rfl rfl tw_291 d_Planner_keyGap_7 hn_a0 ?_
  refine ev_iload_n 2 d_Planner_keyGap_10 rfl rfl ?_
  obtain ⟨hg3, h⟩ := gx h
  refine ev_iald d_Planner_keyGap_11 hz1 hg3 ?_
  refine ev_isub d_Planner_keyGap_12 ?_
  refine ev_mabs (Nat.le_of_ble_eq_true rfl) (by omega) tw_786 tw_787 tw_18 tw_788 d_Planner_keyGap_13 ?_
  obtain ⟨x4, hx4, h⟩ := ltx h
  refine ev_istore_n' (y := x4) (L' := [(3, (0, x4)), (0, (6, a0)), (1, (0, a1)), (2, (0, a2))]) d_Planner_keyGap_16 rfl (by decide) rfl hx4 ?_
  refine ev_iload_n 0 d_Planner_keyGap_17 rfl rfl ?_
  refine ev_bipush d_Planner_keyGap_18 rfl ?_
  refine ev_iload_n 0 d_Planner_keyGap_20 rfl rfl ?_
  refine ev_isub d_Planner_keyGap_21 ?_
  refine ev_mmin (Nat.le_of_ble_eq_true rfl) (by omega) tw_789 tw_790 tw_18 tw_791 d_Planner_keyGap_22 ?_
  cases h
  exact ev_ret d_Planner_keyGap_25 rfl
def l_Planner_bestEndingWith_44 (M : Mm) (a0 : Int) (a2 : Int) (a3 : Int) (z4 : Int) (z5 : Int) (s : Int × Int) : Option ((Int × Int) ⊕ (Int)) :=
  if (mg M (cI a0) 7) ≤ s.2 then
  some (.inr s.1)
  else
  if (bAnd (bShr z4 s.2) 1) = 0 then
  lt (w32 (s.2 + 1)) (fun x10 : Int =>
  some (.inl (s.1, x10)))
  else
  if (mg M (cI a0) 5) ≠ 0 then
  if (0 : Int) ≤ s.2 ∧ s.2 < (ml M (cI (mg M (cI a0) 5)) : Int) then
  if (0 : Int) ≤ a2 ∧ a2 < (ml M (cI (mg M (cI a0) 5)) : Int) then
  if (w32 ((mg M (cI (mg M (cI a0) 5)) (s.2 : Int).toNat) + (mg M (cI (mg M (cI a0) 5)) (a2 : Int).toNat))) ≤ a3 then
  if (mg M (cI a0) 8) ≠ 0 then
  if (0 : Int) ≤ (w32 ((w32 (z4 * (mg M (cI a0) 7))) + s.2)) ∧ (w32 ((w32 (z4 * (mg M (cI a0) 7))) + s.2)) < (ml M (cI (mg M (cI a0) 8)) : Int) then
  lt ((mg M (cI (mg M (cI a0) 8)) ((w32 ((w32 (z4 * (mg M (cI a0) 7))) + s.2)) : Int).toNat)) (fun x17 : Int =>
  if x17 = 9223372036854775807 then
  lt (w32 (s.2 + 1)) (fun x19 : Int =>
  some (.inl (s.1, x19)))
  else
  (f_Planner_keyGap M a0 s.2 a2).bind (fun p20 =>
  lt ((imin s.1 (w64 ((w64 (x17 + (w64 (p20 * 10000000000)))) + z5)))) (fun x21 : Int =>
  lt (w32 (s.2 + 1)) (fun x22 : Int =>
  some (.inl (x21, x22))))))
  else none
  else none
  else
  lt (w32 (s.2 + 1)) (fun x23 : Int =>
  some (.inl (s.1, x23)))
  else none
  else none
  else none
theorem cs_l_Planner_bestEndingWith_44 {X : XX} {d : Nat} (hd : 2 ≤ d) {M : Mm} {a0 : Int} {a2 : Int} {a3 : Int} {z4 : Int} {z5 : Int} (hn_a0 : a0 ≠ 0) {s : Int × Int} {x : (Int × Int) ⊕ (Int)} {r : Option AV} {M' : Mm} (h : l_Planner_bestEndingWith_44 M a0 a2 a3 z4 z5 s = some x) (hk1 : ∀ s : Int × Int, x = .inl s → Ev X m_Planner_bestEndingWith d 44 [(0, (6, a0)), (2, (0, a2)), (3, (0, a3)), (4, (0, z4)), (5, (1, z5)), (7, (1, s.1)), (9, (0, s.2))] [] M r M') (hk2 : ∀ t : Int, x = .inr t → Ev X m_Planner_bestEndingWith d 141 [(7, (1, t))] [] M r M') : Ev X m_Planner_bestEndingWith d 44 [(0, (6, a0)), (2, (0, a2)), (3, (0, a3)), (4, (0, z4)), (5, (1, z5)), (7, (1, s.1)), (9, (0, s.2))] [] M r M' := by
  unfold l_Planner_bestEndingWith_44 at h
  refine ev_iload 6 d_Planner_bestEndingWith_44 rfl ?_
  refine ev_aload_n 0 d_Planner_bestEndingWith_46 rfl (by decide) rfl ?_
  refine ev_get (t := 6) (k := 7) (by decide) (by decide) rfl i_Planner (by decide) rfl rfl tw_292 d_Planner_bestEndingWith_47 hn_a0 ?_
  by_cases hc8 : (mg M (cI a0) 7) ≤ s.2
  · replace h := itp hc8 h
    refine ev_icmp_ge_t (tgt := 141) d_Planner_bestEndingWith_50 (by decide) hc8 ?_
    refine ev_less (L' := [(7, (1, s.1))]) [5] rfl ?_
    cases h
    exact hk2 _ rfl
  · replace h := itn hc8 h
    refine ev_icmp_ge_f d_Planner_bestEndingWith_50 (by decide) hc8 ?_
    refine ev_iload 3 d_Planner_bestEndingWith_53 rfl ?_
    refine ev_iload 6 d_Planner_bestEndingWith_55 rfl ?_
    refine ev_ishr d_Planner_bestEndingWith_57 ?_
    refine ev_iconst d_Planner_bestEndingWith_58 rfl ?_
    refine ev_iand d_Planner_bestEndingWith_59 ?_
    by_cases hc9 : (bAnd (bShr z4 s.2) 1) = 0
    · replace h := itp hc9 h
      refine ev_if_eq_t (tgt := 135) d_Planner_bestEndingWith_60 (by decide) hc9 ?_
      obtain ⟨x10, hx10, h⟩ := ltx h
      refine ev_iinc' 6 (y := x10) (L' := [(9, (0, x10)), (0, (6, a0)), (2, (0, a2)), (3, (0, a3)), (4, (0, z4)), (5, (1, z5)), (7, (1, s.1))]) d_Planner_bestEndingWith_135 rfl (by decide) rfl hx10 ?_
      refine ev_goto (tgt := 44) d_Planner_bestEndingWith_138 (by decide) ?_
      refine ev_less (L' := [(0, (6, a0)), (2, (0, a2)), (3, (0, a3)), (4, (0, z4)), (5, (1, z5)), (7, (1, s.1)), (9, (0, x10))]) [1, 2, 3, 4, 5, 6, 0] rfl ?_
      cases h
      exact hk1 _ rfl
    · replace h := itn hc9 h
      refine ev_if_eq_f d_Planner_bestEndingWith_60 (by decide) hc9 ?_
      refine ev_aload_n 0 d_Planner_bestEndingWith_63 rfl (by decide) rfl ?_
      refine ev_get (t := 6) (k := 5) (by decide) (by decide) rfl i_Planner (by decide) rfl rfl tw_290 d_Planner_bestEndingWith_64 hn_a0 ?_
      refine ev_iload 6 d_Planner_bestEndingWith_67 rfl ?_
      obtain ⟨hz11, h⟩ := gx h
      obtain ⟨hg12, h⟩ := gx h
      refine ev_iald d_Planner_bestEndingWith_69 hz11 hg12 ?_
      refine ev_aload_n 0 d_Planner_bestEndingWith_70 rfl (by decide) rfl ?_
      refine ev_get (t := 6) (k := 5) (by decide) (by decide) rfl i_Planner (by decide) rfl rfl tw_290 d_Planner_bestEndingWith_71 hn_a0 ?_
      refine ev_iload_n 1 d_Planner_bestEndingWith_74 rfl rfl ?_
      obtain ⟨hg13, h⟩ := gx h
      refine ev_iald d_Planner_bestEndingWith_75 hz11 hg13 ?_
      refine ev_iadd d_Planner_bestEndingWith_76 ?_
      refine ev_iload_n 2 d_Planner_bestEndingWith_77 rfl rfl ?_
      by_cases hc14 : (w32 ((mg M (cI (mg M (cI a0) 5)) (s.2 : Int).toNat) + (mg M (cI (mg M (cI a0) 5)) (a2 : Int).toNat))) ≤ a3
      · replace h := itp hc14 h
        refine ev_icmp_le_t (tgt := 84) d_Planner_bestEndingWith_78 (by decide) hc14 ?_
        refine ev_aload_n 0 d_Planner_bestEndingWith_84 rfl (by decide) rfl ?_
        refine ev_get (t := 6) (k := 8) (by decide) (by decide) rfl i_Planner (by decide) rfl rfl tw_293 d_Planner_bestEndingWith_85 hn_a0 ?_
        refine ev_iload 3 d_Planner_bestEndingWith_88 rfl ?_
        refine ev_aload_n 0 d_Planner_bestEndingWith_90 rfl (by decide) rfl ?_
        refine ev_get (t := 6) (k := 7) (by decide) (by decide) rfl i_Planner (by decide) rfl rfl tw_292 d_Planner_bestEndingWith_91 hn_a0 ?_
        refine ev_imul d_Planner_bestEndingWith_94 ?_
        refine ev_iload 6 d_Planner_bestEndingWith_95 rfl ?_
        refine ev_iadd d_Planner_bestEndingWith_97 ?_
        obtain ⟨hz15, h⟩ := gx h
        obtain ⟨hg16, h⟩ := gx h
        refine ev_lald d_Planner_bestEndingWith_98 hz15 hg16 ?_
        obtain ⟨x17, hx17, h⟩ := ltx h
        refine ev_lstore' (y := x17) (L' := [(10, (1, x17)), (0, (6, a0)), (2, (0, a2)), (3, (0, a3)), (4, (0, z4)), (5, (1, z5)), (7, (1, s.1)), (9, (0, s.2))]) d_Planner_bestEndingWith_99 (by decide) rfl hx17 ?_
        refine ev_lload 0 d_Planner_bestEndingWith_101 rfl ?_
        refine ev_ldc2 (v := 9223372036854775807) d_Planner_bestEndingWith_103 tw_774 rfl ?_
        refine ev_lcmp d_Planner_bestEndingWith_106 ?_
        by_cases hc18 : x17 = 9223372036854775807
        · replace h := itp hc18 h
          refine ev_if_eq_t (tgt := 135) d_Planner_bestEndingWith_107 (by decide) ((lC_eq _ _).mpr hc18) ?_
          obtain ⟨x19, hx19, h⟩ := ltx h
          refine ev_iinc' 7 (y := x19) (L' := [(9, (0, x19)), (10, (1, x17)), (0, (6, a0)), (2, (0, a2)), (3, (0, a3)), (4, (0, z4)), (5, (1, z5)), (7, (1, s.1))]) d_Planner_bestEndingWith_135 rfl (by decide) rfl hx19 ?_
          refine ev_goto (tgt := 44) d_Planner_bestEndingWith_138 (by decide) ?_
          refine ev_less (L' := [(0, (6, a0)), (2, (0, a2)), (3, (0, a3)), (4, (0, z4)), (5, (1, z5)), (7, (1, s.1)), (9, (0, x19))]) [2, 3, 4, 5, 6, 7, 0] rfl ?_
          cases h
          exact hk1 _ rfl
        · replace h := itn hc18 h
          refine ev_if_eq_f d_Planner_bestEndingWith_107 (by decide) (fun z => hc18 ((lC_eq _ _).mp z)) ?_
          refine ev_lload 6 d_Planner_bestEndingWith_110 rfl ?_
          refine ev_lload 0 d_Planner_bestEndingWith_112 rfl ?_
          refine ev_aload_n 1 d_Planner_bestEndingWith_114 rfl (by decide) rfl ?_
          refine ev_iload 7 d_Planner_bestEndingWith_115 rfl ?_
          refine ev_iload_n 2 d_Planner_bestEndingWith_117 rfl rfl ?_
          obtain ⟨p20, hp20, h⟩ := bx h
          have hRp20 := c_Planner_keyGap (X := X) (d := d - 1) (by omega) hn_a0 hp20
          refine ev_callV2 (st2 := [(0, p20), (1, x17), (1, s.1)]) (as := [(0, s.2), (0, a2)]) (rest := [(1, x17), (1, s.1)]) rfl (by decide) (by decide) rfl hn_a0 rfl (Nat.le_of_ble_eq_true rfl) k_Planner_keyGap ⟨tw_784, ts_62⟩ (by omega) tw_782 d_Planner_bestEndingWith_118 hRp20 rfl ?_
          refine ev_i2l d_Planner_bestEndingWith_121 ?_
          refine ev_ldc2 (v := 10000000000) d_Planner_bestEndingWith_122 tw_792 rfl ?_
          refine ev_lmul d_Planner_bestEndingWith_125 ?_
          refine ev_ladd d_Planner_bestEndingWith_126 ?_
          refine ev_lload 5 d_Planner_bestEndingWith_127 rfl ?_
          refine ev_ladd d_Planner_bestEndingWith_129 ?_
          refine ev_mminL (Nat.le_of_ble_eq_true rfl) (by omega) tw_793 tw_794 tw_18 tw_795 d_Planner_bestEndingWith_130 ?_
          obtain ⟨x21, hx21, h⟩ := ltx h
          refine ev_lstore' (y := x21) (L' := [(7, (1, x21)), (10, (1, x17)), (0, (6, a0)), (2, (0, a2)), (3, (0, a3)), (4, (0, z4)), (5, (1, z5)), (9, (0, s.2))]) d_Planner_bestEndingWith_133 (by decide) rfl hx21 ?_
          obtain ⟨x22, hx22, h⟩ := ltx h
          refine ev_iinc' 7 (y := x22) (L' := [(9, (0, x22)), (7, (1, x21)), (10, (1, x17)), (0, (6, a0)), (2, (0, a2)), (3, (0, a3)), (4, (0, z4)), (5, (1, z5))]) d_Planner_bestEndingWith_135 rfl (by decide) rfl hx22 ?_
          refine ev_goto (tgt := 44) d_Planner_bestEndingWith_138 (by decide) ?_
          refine ev_less (L' := [(0, (6, a0)), (2, (0, a2)), (3, (0, a3)), (4, (0, z4)), (5, (1, z5)), (7, (1, x21)), (9, (0, x22))]) [3, 4, 5, 6, 7, 1, 0] rfl ?_
          cases h
          exact hk1 _ rfl
      · replace h := itn hc14 h
        refine ev_icmp_le_f d_Planner_bestEndingWith_78 (by decide) hc14 ?_
        refine ev_goto (tgt := 135) d_Planner_bestEndingWith_81 (by decide) ?_
        obtain ⟨x23, hx23, h⟩ := ltx h
        refine ev_iinc' 6 (y := x23) (L' := [(9, (0, x23)), (0, (6, a0)), (2, (0, a2)), (3, (0, a3)), (4, (0, z4)), (5, (1, z5)), (7, (1, s.1))]) d_Planner_bestEndingWith_135 rfl (by decide) rfl hx23 ?_
        refine ev_goto (tgt := 44) d_Planner_bestEndingWith_138 (by decide) ?_
        refine ev_less (L' := [(0, (6, a0)), (2, (0, a2)), (3, (0, a3)), (4, (0, z4)), (5, (1, z5)), (7, (1, s.1)), (9, (0, x23))]) [1, 2, 3, 4, 5, 6, 0] rfl ?_
        cases h
        exact hk1 _ rfl
def f_Planner_bestEndingWith (M : Mm) (a0 : Int) (a1 : Int) (a2 : Int) (a3 : Int) : Option (Int) :=
  lt ((bAnd a1 (bXor (bShl 1 a2) (-1)))) (fun x1 : Int =>
  if (mg M (cI a0) 3) ≠ 0 then
  if (0 : Int) ≤ a2 ∧ a2 < (ml M (cI (mg M (cI a0) 3)) : Int) then
  (f_Integer_bitCount M x1).bind (fun p4 =>
  if (0 : Int) ≤ p4 ∧ p4 < 10 then
  lt ((w64 ((mg M (cI (mg M (cI a0) 3)) (a2 : Int).toNat) * (dg2.getD (p4 : Int).toNat 0)))) (fun x6 : Int =>
  if x1 ≠ 0 then
  (loopN (l_Planner_bestEndingWith_44 M a0 a2 a3 x1 x6) FU (9223372036854775807, 0)).bind (fun t24 =>
  some t24)
  else
  some x6)
  else none)
  else none
  else none)
theorem c_Planner_bestEndingWith {X : XX} {d : Nat} (hd : 2 ≤ d) {M : Mm} {a0 : Int} {a1 : Int} {a2 : Int} {a3 : Int} (hn_a0 : a0 ≠ 0) {p : Int} (h : f_Planner_bestEndingWith M a0 a1 a2 a3 = some p) : Rn X d m_Planner_bestEndingWith [(6, a0), (0, a1), (0, a2), (0, a3)] M (some (1, p)) M := by
  refine Rn_of (by decide) rfl (Nat.le_of_ble_eq_true rfl) ?_
  unfold f_Planner_bestEndingWith at h
  refine ev_less (L' := [(0, (6, a0)), (1, (0, a1)), (2, (0, a2)), (3, (0, a3))]) [0, 1, 2, 3] rfl ?_
  refine ev_iload_n 1 d_Planner_bestEndingWith_0 rfl rfl ?_
  refine ev_iconst d_Planner_bestEndingWith_1 rfl ?_
  refine ev_iload_n 2 d_Planner_bestEndingWith_2 rfl rfl ?_
  refine ev_ishl d_Planner_bestEndingWith_3 ?_
  refine ev_iconst d_Planner_bestEndingWith_4 rfl ?_
  refine ev_ixor d_Planner_bestEndingWith_5 ?_
  refine ev_iand d_Planner_bestEndingWith_6 ?_
  obtain ⟨x1, hx1, h⟩ := ltx h
  refine ev_istore' (y := x1) (L' := [(4, (0, x1)), (0, (6, a0)), (1, (0, a1)), (2, (0, a2)), (3, (0, a3))]) d_Planner_bestEndingWith_7 (by decide) rfl hx1 ?_
  refine ev_aload_n 1 d_Planner_bestEndingWith_9 rfl (by decide) rfl ?_
  refine ev_get (t := 6) (k := 3) (by decide) (by decide) rfl i_Planner (by decide) rfl rfl tw_288 d_Planner_bestEndingWith_10 hn_a0 ?_
  refine ev_iload_n 3 d_Planner_bestEndingWith_13 rfl rfl ?_
  obtain ⟨hz2, h⟩ := gx h
  obtain ⟨hg3, h⟩ := gx h
  refine ev_iald d_Planner_bestEndingWith_14 hz2 hg3 ?_
  refine ev_i2l d_Planner_bestEndingWith_15 ?_
  refine ev_dig2 d_Planner_bestEndingWith_16 tw_779 ?_
  refine ev_iload 0 d_Planner_bestEndingWith_19 rfl ?_
  obtain ⟨p4, hp4, h⟩ := bx h
  have hRp4 := c_Integer_bitCount (X := X) (d := d - 1) (by omega)  hp4
  refine ev_callS2 (st2 := [(0, p4), (19, 1), (1, (mg M (cI (mg M (cI a0) 3)) (a2 : Int).toNat))]) (as := [(0, x1)]) (rest := [(19, 1), (1, (mg M (cI (mg M (cI a0) 3)) (a2 : Int).toNat))]) rfl rfl (Nat.le_of_ble_eq_true rfl) k_Integer_bitCount tw_652 (by omega) tw_781 d_Planner_bestEndingWith_21 hRp4 rfl ?_
  obtain ⟨hg5, h⟩ := gx h
  refine ev_tl2 d_Planner_bestEndingWith_24 hg5 ?_
  refine ev_lmul d_Planner_bestEndingWith_25 ?_
  obtain ⟨x6, hx6, h⟩ := ltx h
  refine ev_lstore' (y := x6) (L' := [(5, (1, x6)), (4, (0, x1)), (0, (6, a0)), (1, (0, a1)), (2, (0, a2)), (3, (0, a3))]) d_Planner_bestEndingWith_26 (by decide) rfl hx6 ?_
  refine ev_iload 1 d_Planner_bestEndingWith_28 rfl ?_
  by_cases hc7 : x1 ≠ 0
  · replace h := itp hc7 h
    refine ev_if_ne_t (tgt := 36) d_Planner_bestEndingWith_30 (by decide) hc7 ?_
    refine ev_ldc2 (v := 9223372036854775807) d_Planner_bestEndingWith_36 tw_774 rfl ?_
    refine ev_lstore (L' := [(7, (1, 9223372036854775807)), (5, (1, x6)), (4, (0, x1)), (0, (6, a0)), (1, (0, a1)), (2, (0, a2)), (3, (0, a3))]) d_Planner_bestEndingWith_39 (by decide) rfl ?_
    refine ev_iconst d_Planner_bestEndingWith_41 rfl ?_
    refine ev_istore (L' := [(9, (0, 0)), (7, (1, 9223372036854775807)), (5, (1, x6)), (4, (0, x1)), (0, (6, a0)), (1, (0, a1)), (2, (0, a2)), (3, (0, a3))]) d_Planner_bestEndingWith_42 (by decide) rfl ?_
    obtain ⟨t24, ht24, h⟩ := bx h
    refine ev_less (L' := [(0, (6, a0)), (2, (0, a2)), (3, (0, a3)), (4, (0, x1)), (5, (1, x6)), (7, (1, 9223372036854775807)), (9, (0, 0))]) [4, 6, 7, 3, 2, 1, 0] rfl ?_
    refine loop_ev (step := l_Planner_bestEndingWith_44 M a0 a2 a3 x1 x6) (P := fun w : Int × Int => Ev X m_Planner_bestEndingWith d 44 [(0, (6, a0)), (2, (0, a2)), (3, (0, a3)), (4, (0, x1)), (5, (1, x6)), (7, (1, w.1)), (9, (0, w.2))] [] M (some (1, p)) M) (Q := fun w => Ev X m_Planner_bestEndingWith d 141 [(7, (1, w))] [] M (some (1, p)) M) (fun w x hs k1 k2 => cs_l_Planner_bestEndingWith_44 hd hn_a0 hs k1 k2) FU (9223372036854775807, 0) t24 ht24 ?_
    refine ev_lload 0 d_Planner_bestEndingWith_141 rfl ?_
    cases h
    exact ev_retL d_Planner_bestEndingWith_143 rfl
  · replace h := itn hc7 h
    refine ev_if_ne_f d_Planner_bestEndingWith_30 (by decide) hc7 ?_
    refine ev_lload 0 d_Planner_bestEndingWith_33 rfl ?_
    cases h
    exact ev_retL d_Planner_bestEndingWith_35 rfl
def j_Planner_fillSet_56_8 (M : Mm) (a0 : Int) (a1 : Int) (a2 : Int) (a3 : Int) (z4 : Int) (z6 : Int) (y0 : Int) : Option ((Int × Int × Mm) ⊕ (Int × Mm)) :=
  if (mg M (cI a0) 8) ≠ 0 then
  if (0 : Int) ≤ (w32 ((w32 (a1 * (mg M (cI a0) 7))) + z6)) ∧ (w32 ((w32 (a1 * (mg M (cI a0) 7))) + z6)) < (ml M (cI (mg M (cI a0) 8)) : Int) then
  lt (mp M (cI (mg M (cI a0) 8)) ((w32 ((w32 (a1 * (mg M (cI a0) 7))) + z6)) : Int).toNat y0) (fun M6 =>
  lt ((imin z4 y0)) (fun x7 : Int =>
  lt (w32 (z6 + 1)) (fun x8 : Int =>
  some (.inl (x7, x8, M6)))))
  else none
  else none
theorem cj_Planner_fillSet_56_8 {X : XX} {d : Nat} (hd : 3 ≤ d) {M : Mm} {a0 : Int} {a1 : Int} {a2 : Int} {a3 : Int} {z4 : Int} {z6 : Int} {y0 : Int} (hn_a0 : a0 ≠ 0) {x : (Int × Int × Mm) ⊕ (Int × Mm)} {r : Option AV} {M' : Mm} (h : j_Planner_fillSet_56_8 M a0 a1 a2 a3 z4 z6 y0 = some x) (hk1 : ∀ s : Int × Int × Mm, x = .inl s → Ev X m_Planner_fillSet d 8 [(0, (6, a0)), (1, (0, a1)), (2, (0, a2)), (3, (0, a3)), (4, (1, s.1)), (6, (0, s.2.1))] [] s.2.2 r M') (hk2 : ∀ t : Int × Mm, x = .inr t → Ev X m_Planner_fillSet d 89 [(4, (1, t.1))] [] t.2 r M') : Ev X m_Planner_fillSet d 56 [(0, (6, a0)), (1, (0, a1)), (2, (0, a2)), (3, (0, a3)), (4, (1, z4)), (6, (0, z6))] [(1, y0)] M r M' := by
  unfold j_Planner_fillSet_56_8 at h
  refine ev_lstore (L' := [(8, (1, y0)), (0, (6, a0)), (1, (0, a1)), (2, (0, a2)), (3, (0, a3)), (4, (1, z4)), (6, (0, z6))]) d_Planner_fillSet_56 (by decide) rfl ?_
  refine ev_aload_n 1 d_Planner_fillSet_58 rfl (by decide) rfl ?_
  refine ev_get (t := 6) (k := 8) (by decide) (by decide) rfl i_Planner (by decide) rfl rfl tw_293 d_Planner_fillSet_59 hn_a0 ?_
  refine ev_iload_n 2 d_Planner_fillSet_62 rfl rfl ?_
  refine ev_aload_n 1 d_Planner_fillSet_63 rfl (by decide) rfl ?_
  refine ev_get (t := 6) (k := 7) (by decide) (by decide) rfl i_Planner (by decide) rfl rfl tw_292 d_Planner_fillSet_64 hn_a0 ?_
  refine ev_imul d_Planner_fillSet_67 ?_
  refine ev_iload 6 d_Planner_fillSet_68 rfl ?_
  refine ev_iadd d_Planner_fillSet_70 ?_
  refine ev_lload 0 d_Planner_fillSet_71 rfl ?_
  obtain ⟨hz4, h⟩ := gx h
  obtain ⟨hg5, h⟩ := gx h
  obtain ⟨M6, hM6, h⟩ := ltx h
  refine ev_last' d_Planner_fillSet_73 hz4 hg5 hM6 ?_
  refine ev_lload 5 d_Planner_fillSet_74 rfl ?_
  refine ev_lload 0 d_Planner_fillSet_76 rfl ?_
  refine ev_mminL (Nat.le_of_ble_eq_true rfl) (by omega) tw_793 tw_794 tw_18 tw_795 d_Planner_fillSet_78 ?_
  obtain ⟨x7, hx7, h⟩ := ltx h
  refine ev_lstore' (y := x7) (L' := [(4, (1, x7)), (8, (1, y0)), (0, (6, a0)), (1, (0, a1)), (2, (0, a2)), (3, (0, a3)), (6, (0, z6))]) d_Planner_fillSet_81 (by decide) rfl hx7 ?_
  obtain ⟨x8, hx8, h⟩ := ltx h
  refine ev_iinc' 6 (y := x8) (L' := [(6, (0, x8)), (4, (1, x7)), (8, (1, y0)), (0, (6, a0)), (1, (0, a1)), (2, (0, a2)), (3, (0, a3))]) d_Planner_fillSet_83 rfl (by decide) rfl hx8 ?_
  refine ev_goto (tgt := 8) d_Planner_fillSet_86 (by decide) ?_
  refine ev_less (L' := [(0, (6, a0)), (1, (0, a1)), (2, (0, a2)), (3, (0, a3)), (4, (1, x7)), (6, (0, x8))]) [3, 4, 5, 6, 1, 0] rfl ?_
  cases h
  exact hk1 _ rfl
def j_Planner_fillSet_35_8 (M : Mm) (a0 : Int) (a1 : Int) (a2 : Int) (a3 : Int) (z4 : Int) (z6 : Int) (y0 : Int) : Option ((Int × Int × Mm) ⊕ (Int × Mm)) :=
  if y0 = 0 then
  j_Planner_fillSet_56_8 M a0 a1 a2 a3 z4 z6 9223372036854775807
  else
  (f_Planner_bestEndingWith M a0 a1 z6 a3).bind (fun p9 =>
  j_Planner_fillSet_56_8 M a0 a1 a2 a3 z4 z6 p9)
theorem cj_Planner_fillSet_35_8 {X : XX} {d : Nat} (hd : 3 ≤ d) {M : Mm} {a0 : Int} {a1 : Int} {a2 : Int} {a3 : Int} {z4 : Int} {z6 : Int} {y0 : Int} (hn_a0 : a0 ≠ 0) {x : (Int × Int × Mm) ⊕ (Int × Mm)} {r : Option AV} {M' : Mm} (h : j_Planner_fillSet_35_8 M a0 a1 a2 a3 z4 z6 y0 = some x) (hk1 : ∀ s : Int × Int × Mm, x = .inl s → Ev X m_Planner_fillSet d 8 [(0, (6, a0)), (1, (0, a1)), (2, (0, a2)), (3, (0, a3)), (4, (1, s.1)), (6, (0, s.2.1))] [] s.2.2 r M') (hk2 : ∀ t : Int × Mm, x = .inr t → Ev X m_Planner_fillSet d 89 [(4, (1, t.1))] [] t.2 r M') : Ev X m_Planner_fillSet d 35 [(0, (6, a0)), (1, (0, a1)), (2, (0, a2)), (3, (0, a3)), (4, (1, z4)), (6, (0, z6))] [(0, y0)] M r M' := by
  unfold j_Planner_fillSet_35_8 at h
  refine ev_istore (L' := [(7, (0, y0)), (0, (6, a0)), (1, (0, a1)), (2, (0, a2)), (3, (0, a3)), (4, (1, z4)), (6, (0, z6))]) d_Planner_fillSet_35 (by decide) rfl ?_
  refine ev_iload 0 d_Planner_fillSet_37 rfl ?_
  by_cases hc3 : y0 = 0
  · replace h := itp hc3 h
    refine ev_if_eq_t (tgt := 53) d_Planner_fillSet_39 (by decide) hc3 ?_
    refine ev_ldc2 (v := 9223372036854775807) d_Planner_fillSet_53 tw_774 rfl ?_
    refine ev_less (L' := [(0, (6, a0)), (1, (0, a1)), (2, (0, a2)), (3, (0, a3)), (4, (1, z4)), (6, (0, z6))]) [1, 2, 3, 4, 5, 6] rfl ?_
    exact cj_Planner_fillSet_56_8 hd hn_a0 h hk1 hk2
  · replace h := itn hc3 h
    refine ev_if_eq_f d_Planner_fillSet_39 (by decide) hc3 ?_
    refine ev_aload_n 1 d_Planner_fillSet_42 rfl (by decide) rfl ?_
    refine ev_iload_n 2 d_Planner_fillSet_43 rfl rfl ?_
    refine ev_iload 6 d_Planner_fillSet_44 rfl ?_
    refine ev_iload_n 4 d_Planner_fillSet_46 rfl rfl ?_
    obtain ⟨p9, hp9, h⟩ := bx h
    have hRp9 := c_Planner_bestEndingWith (X := X) (d := d - 1) (by omega) hn_a0 hp9
    refine ev_callV2 (st2 := [(1, p9)]) (as := [(0, a1), (0, z6), (0, a3)]) (rest := []) rfl (by decide) (by decide) rfl hn_a0 rfl (Nat.le_of_ble_eq_true rfl) k_Planner_bestEndingWith ⟨tw_777, ts_61⟩ (by omega) tw_775 d_Planner_fillSet_47 hRp9 rfl ?_
    refine ev_goto (tgt := 56) d_Planner_fillSet_50 (by decide) ?_
    refine ev_less (L' := [(0, (6, a0)), (1, (0, a1)), (2, (0, a2)), (3, (0, a3)), (4, (1, z4)), (6, (0, z6))]) [1, 2, 3, 4, 5, 6] rfl ?_
    exact cj_Planner_fillSet_56_8 hd hn_a0 h hk1 hk2
def j_Planner_fillSet_34_8 (M : Mm) (a0 : Int) (a1 : Int) (a2 : Int) (a3 : Int) (z4 : Int) (z6 : Int) : Option ((Int × Int × Mm) ⊕ (Int × Mm)) :=
  j_Planner_fillSet_35_8 M a0 a1 a2 a3 z4 z6 0
theorem cj_Planner_fillSet_34_8 {X : XX} {d : Nat} (hd : 3 ≤ d) {M : Mm} {a0 : Int} {a1 : Int} {a2 : Int} {a3 : Int} {z4 : Int} {z6 : Int} (hn_a0 : a0 ≠ 0) {x : (Int × Int × Mm) ⊕ (Int × Mm)} {r : Option AV} {M' : Mm} (h : j_Planner_fillSet_34_8 M a0 a1 a2 a3 z4 z6 = some x) (hk1 : ∀ s : Int × Int × Mm, x = .inl s → Ev X m_Planner_fillSet d 8 [(0, (6, a0)), (1, (0, a1)), (2, (0, a2)), (3, (0, a3)), (4, (1, s.1)), (6, (0, s.2.1))] [] s.2.2 r M') (hk2 : ∀ t : Int × Mm, x = .inr t → Ev X m_Planner_fillSet d 89 [(4, (1, t.1))] [] t.2 r M') : Ev X m_Planner_fillSet d 34 [(0, (6, a0)), (1, (0, a1)), (2, (0, a2)), (3, (0, a3)), (4, (1, z4)), (6, (0, z6))] [] M r M' := by
  unfold j_Planner_fillSet_34_8 at h
  refine ev_iconst d_Planner_fillSet_34 rfl ?_
  exact cj_Planner_fillSet_35_8 hd hn_a0 h hk1 hk2
def l_Planner_fillSet_8 (a0 : Int) (a1 : Int) (a2 : Int) (a3 : Int) (s : Int × Int × Mm) : Option ((Int × Int × Mm) ⊕ (Int × Mm)) :=
  if (mg s.2.2 (cI a0) 7) ≤ s.2.1 then
  some (.inr (s.1, s.2.2))
  else
  if a2 = 0 then
  j_Planner_fillSet_34_8 s.2.2 a0 a1 a2 a3 s.1 s.2.1
  else
  if (bAnd (bShr a1 s.2.1) 1) = 0 then
  j_Planner_fillSet_34_8 s.2.2 a0 a1 a2 a3 s.1 s.2.1
  else
  j_Planner_fillSet_35_8 s.2.2 a0 a1 a2 a3 s.1 s.2.1 1
theorem cs_l_Planner_fillSet_8 {X : XX} {d : Nat} (hd : 3 ≤ d) {a0 : Int} {a1 : Int} {a2 : Int} {a3 : Int} (hn_a0 : a0 ≠ 0) {s : Int × Int × Mm} {x : (Int × Int × Mm) ⊕ (Int × Mm)} {r : Option AV} {M' : Mm} (h : l_Planner_fillSet_8 a0 a1 a2 a3 s = some x) (hk1 : ∀ s : Int × Int × Mm, x = .inl s → Ev X m_Planner_fillSet d 8 [(0, (6, a0)), (1, (0, a1)), (2, (0, a2)), (3, (0, a3)), (4, (1, s.1)), (6, (0, s.2.1))] [] s.2.2 r M') (hk2 : ∀ t : Int × Mm, x = .inr t → Ev X m_Planner_fillSet d 89 [(4, (1, t.1))] [] t.2 r M') : Ev X m_Planner_fillSet d 8 [(0, (6, a0)), (1, (0, a1)), (2, (0, a2)), (3, (0, a3)), (4, (1, s.1)), (6, (0, s.2.1))] [] s.2.2 r M' := by
  unfold l_Planner_fillSet_8 at h
  refine ev_iload 5 d_Planner_fillSet_8 rfl ?_
  refine ev_aload_n 0 d_Planner_fillSet_10 rfl (by decide) rfl ?_
  refine ev_get (t := 6) (k := 7) (by decide) (by decide) rfl i_Planner (by decide) rfl rfl tw_292 d_Planner_fillSet_11 hn_a0 ?_
  by_cases hc1 : (mg s.2.2 (cI a0) 7) ≤ s.2.1
  · replace h := itp hc1 h
    refine ev_icmp_ge_t (tgt := 89) d_Planner_fillSet_14 (by decide) hc1 ?_
    refine ev_less (L' := [(4, (1, s.1))]) [4] rfl ?_
    cases h
    exact hk2 _ rfl
  · replace h := itn hc1 h
    refine ev_icmp_ge_f d_Planner_fillSet_14 (by decide) hc1 ?_
    refine ev_iload_n 2 d_Planner_fillSet_17 rfl rfl ?_
    by_cases hc2 : a2 = 0
    · replace h := itp hc2 h
      refine ev_if_eq_t (tgt := 34) d_Planner_fillSet_18 (by decide) hc2 ?_
      exact cj_Planner_fillSet_34_8 hd hn_a0 h hk1 hk2
    · replace h := itn hc2 h
      refine ev_if_eq_f d_Planner_fillSet_18 (by decide) hc2 ?_
      refine ev_iload_n 1 d_Planner_fillSet_21 rfl rfl ?_
      refine ev_iload 5 d_Planner_fillSet_22 rfl ?_
      refine ev_ishr d_Planner_fillSet_24 ?_
      refine ev_iconst d_Planner_fillSet_25 rfl ?_
      refine ev_iand d_Planner_fillSet_26 ?_
      by_cases hc10 : (bAnd (bShr a1 s.2.1) 1) = 0
      · replace h := itp hc10 h
        refine ev_if_eq_t (tgt := 34) d_Planner_fillSet_27 (by decide) hc10 ?_
        exact cj_Planner_fillSet_34_8 hd hn_a0 h hk1 hk2
      · replace h := itn hc10 h
        refine ev_if_eq_f d_Planner_fillSet_27 (by decide) hc10 ?_
        refine ev_iconst d_Planner_fillSet_30 rfl ?_
        refine ev_goto (tgt := 35) d_Planner_fillSet_31 (by decide) ?_
        exact cj_Planner_fillSet_35_8 hd hn_a0 h hk1 hk2
def f_Planner_fillSet (M : Mm) (a0 : Int) (a1 : Int) (a2 : Int) (a3 : Int) : Option (Int × Mm) :=
  (loopN (l_Planner_fillSet_8 a0 a1 a2 a3) FU (9223372036854775807, 0, M)).bind (fun t11 =>
  some (t11.1, t11.2))
theorem c_Planner_fillSet {X : XX} {d : Nat} (hd : 3 ≤ d) {M : Mm} {a0 : Int} {a1 : Int} {a2 : Int} {a3 : Int} (hn_a0 : a0 ≠ 0) {p : Int × Mm} (h : f_Planner_fillSet M a0 a1 a2 a3 = some p) : Rn X d m_Planner_fillSet [(6, a0), (0, a1), (0, a2), (0, a3)] M (some (1, p.1)) p.2 := by
  refine Rn_of (by decide) rfl (Nat.le_of_ble_eq_true rfl) ?_
  unfold f_Planner_fillSet at h
  refine ev_less (L' := [(0, (6, a0)), (1, (0, a1)), (2, (0, a2)), (3, (0, a3))]) [0, 1, 2, 3] rfl ?_
  refine ev_ldc2 (v := 9223372036854775807) d_Planner_fillSet_0 tw_774 rfl ?_
  refine ev_lstore (L' := [(4, (1, 9223372036854775807)), (0, (6, a0)), (1, (0, a1)), (2, (0, a2)), (3, (0, a3))]) d_Planner_fillSet_3 (by decide) rfl ?_
  refine ev_iconst d_Planner_fillSet_5 rfl ?_
  refine ev_istore (L' := [(6, (0, 0)), (4, (1, 9223372036854775807)), (0, (6, a0)), (1, (0, a1)), (2, (0, a2)), (3, (0, a3))]) d_Planner_fillSet_6 (by decide) rfl ?_
  obtain ⟨t11, ht11, h⟩ := bx h
  refine ev_less (L' := [(0, (6, a0)), (1, (0, a1)), (2, (0, a2)), (3, (0, a3)), (4, (1, 9223372036854775807)), (6, (0, 0))]) [2, 3, 4, 5, 1, 0] rfl ?_
  refine loop_ev (step := l_Planner_fillSet_8 a0 a1 a2 a3) (P := fun w : Int × Int × Mm => Ev X m_Planner_fillSet d 8 [(0, (6, a0)), (1, (0, a1)), (2, (0, a2)), (3, (0, a3)), (4, (1, w.1)), (6, (0, w.2.1))] [] w.2.2 (some (1, p.1)) p.2) (Q := fun w => Ev X m_Planner_fillSet d 89 [(4, (1, w.1))] [] w.2 (some (1, p.1)) p.2) (fun w x hs k1 k2 => cs_l_Planner_fillSet_8 hd hn_a0 hs k1 k2) FU (9223372036854775807, 0, M) t11 ht11 ?_
  refine ev_lload 0 d_Planner_fillSet_89 rfl ?_
  cases h
  exact ev_retL d_Planner_fillSet_91 rfl
def l_Planner_keepRow_18 (a0 : Int) (a1 : Int) (a2 : Int) (s : Int × Mm) : Option ((Int × Mm) ⊕ (Mm)) :=
  if a1 ≤ s.1 then
  some (.inr s.2)
  else
  if 10 ≤ s.1 then
  some (.inr s.2)
  else
  if (0 : Int) ≤ s.1 ∧ s.1 < 10 then
  if (dg2.getD (s.1 : Int).toNat 0) ≠ 0 then
  if (mg s.2 (cI a0) 0) ≠ 0 then
  if (0 : Int) ≤ s.1 ∧ s.1 < (ml s.2 (cI (mg s.2 (cI a0) 0)) : Int) then
  lt (mp s.2 (cI (mg s.2 (cI a0) 0)) (s.1 : Int).toNat (w32 (lRem (lDiv a2 (dg2.getD (s.1 : Int).toNat 0)) 10))) (fun M9 =>
  lt (w32 (s.1 + 1)) (fun x10 : Int =>
  some (.inl (x10, M9))))
  else none
  else none
  else none
  else none
theorem cs_l_Planner_keepRow_18 {X : XX} {d : Nat} (hd : 0 ≤ d) {a0 : Int} {a1 : Int} {a2 : Int} (hn_a0 : a0 ≠ 0) {s : Int × Mm} {x : (Int × Mm) ⊕ (Mm)} {r : Option AV} {M' : Mm} (h : l_Planner_keepRow_18 a0 a1 a2 s = some x) (hk1 : ∀ s : Int × Mm, x = .inl s → Ev X m_Planner_keepRow d 18 [(0, (6, a0)), (1, (0, a1)), (2, (1, a2)), (4, (0, s.1))] [] s.2 r M') (hk2 : ∀ t : Mm, x = .inr t → Ev X m_Planner_keepRow d 57 [] [] t r M') : Ev X m_Planner_keepRow d 18 [(0, (6, a0)), (1, (0, a1)), (2, (1, a2)), (4, (0, s.1))] [] s.2 r M' := by
  unfold l_Planner_keepRow_18 at h
  refine ev_iload 3 d_Planner_keepRow_18 rfl ?_
  refine ev_iload_n 1 d_Planner_keepRow_20 rfl rfl ?_
  by_cases hc3 : a1 ≤ s.1
  · replace h := itp hc3 h
    refine ev_icmp_ge_t (tgt := 57) d_Planner_keepRow_21 (by decide) hc3 ?_
    refine ev_less (L' := []) [] rfl ?_
    cases h
    exact hk2 _ rfl
  · replace h := itn hc3 h
    refine ev_icmp_ge_f d_Planner_keepRow_21 (by decide) hc3 ?_
    refine ev_iload 3 d_Planner_keepRow_24 rfl ?_
    refine ev_bipush d_Planner_keepRow_26 rfl ?_
    by_cases hc4 : 10 ≤ s.1
    · replace h := itp hc4 h
      refine ev_icmp_ge_t (tgt := 57) d_Planner_keepRow_28 (by decide) hc4 ?_
      refine ev_less (L' := []) [] rfl ?_
      cases h
      exact hk2 _ rfl
    · replace h := itn hc4 h
      refine ev_icmp_ge_f d_Planner_keepRow_28 (by decide) hc4 ?_
      refine ev_aload_n 0 d_Planner_keepRow_31 rfl (by decide) rfl ?_
      refine ev_get (t := 6) (k := 0) (by decide) (by decide) rfl i_Planner (by decide) rfl rfl tw_282 d_Planner_keepRow_32 hn_a0 ?_
      refine ev_iload 3 d_Planner_keepRow_35 rfl ?_
      refine ev_lload_n 2 d_Planner_keepRow_37 rfl rfl ?_
      refine ev_dig2 d_Planner_keepRow_38 tw_779 ?_
      refine ev_iload 3 d_Planner_keepRow_41 rfl ?_
      obtain ⟨hg5, h⟩ := gx h
      refine ev_tl2 d_Planner_keepRow_43 hg5 ?_
      obtain ⟨hz6, h⟩ := gx h
      refine ev_ldiv d_Planner_keepRow_44 hz6 ?_
      refine ev_ldc2 (v := 10) d_Planner_keepRow_45 tw_800 rfl ?_
      refine ev_lrem d_Planner_keepRow_48 (by decide) ?_
      refine ev_l2i d_Planner_keepRow_49 ?_
      obtain ⟨hz7, h⟩ := gx h
      obtain ⟨hg8, h⟩ := gx h
      obtain ⟨M9, hM9, h⟩ := ltx h
      refine ev_iast' d_Planner_keepRow_50 hz7 hg8 hM9 ?_
      obtain ⟨x10, hx10, h⟩ := ltx h
      refine ev_iinc' 3 (y := x10) (L' := [(4, (0, x10)), (0, (6, a0)), (1, (0, a1)), (2, (1, a2))]) d_Planner_keepRow_51 rfl (by decide) rfl hx10 ?_
      refine ev_goto (tgt := 18) d_Planner_keepRow_54 (by decide) ?_
      refine ev_less (L' := [(0, (6, a0)), (1, (0, a1)), (2, (1, a2)), (4, (0, x10))]) [1, 2, 3, 0] rfl ?_
      cases h
      exact hk1 _ rfl
def f_Planner_keepRow (M : Mm) (a0 : Int) (a1 : Int) (a2 : Int) : Option (Mm) :=
  lt (mp M (cI a0) 1 a1) (fun M1 =>
  lt (mp M1 (cI a0) 2 (w32 (lDiv a2 10000000000))) (fun M2 =>
  (loopN (l_Planner_keepRow_18 a0 a1 a2) FU (0, M2)).bind (fun t11 =>
  some t11)))
theorem c_Planner_keepRow {X : XX} {d : Nat} (hd : 0 ≤ d) {M : Mm} {a0 : Int} {a1 : Int} {a2 : Int} (hn_a0 : a0 ≠ 0) {p : Mm} (h : f_Planner_keepRow M a0 a1 a2 = some p) : Rn X d m_Planner_keepRow [(6, a0), (0, a1), (1, a2)] M none p := by
  refine Rn_of (by decide) rfl (Nat.le_of_ble_eq_true rfl) ?_
  unfold f_Planner_keepRow at h
  refine ev_less (L' := [(0, (6, a0)), (1, (0, a1)), (2, (1, a2))]) [0, 1, 2] rfl ?_
  refine ev_aload_n 0 d_Planner_keepRow_0 rfl (by decide) rfl ?_
  refine ev_iload_n 1 d_Planner_keepRow_1 rfl rfl ?_
  obtain ⟨M1, hM1, h⟩ := ltx h
  refine ev_put' (t := 6) (k := 1) (by decide) (by decide) rfl i_Planner t_Planner_ok n_Planner (by decide) rfl rfl rfl rfl tw_284 d_Planner_keepRow_2 hn_a0 hM1 ?_
  refine ev_aload_n 0 d_Planner_keepRow_5 rfl (by decide) rfl ?_
  refine ev_lload_n 2 d_Planner_keepRow_6 rfl rfl ?_
  refine ev_ldc2 (v := 10000000000) d_Planner_keepRow_7 tw_792 rfl ?_
  refine ev_ldiv d_Planner_keepRow_10 (by decide) ?_
  refine ev_l2i d_Planner_keepRow_11 ?_
  obtain ⟨M2, hM2, h⟩ := ltx h
  refine ev_put' (t := 6) (k := 2) (by decide) (by decide) rfl i_Planner t_Planner_ok n_Planner (by decide) rfl rfl rfl rfl tw_286 d_Planner_keepRow_12 hn_a0 hM2 ?_
  refine ev_iconst d_Planner_keepRow_15 rfl ?_
  refine ev_istore (L' := [(4, (0, 0)), (0, (6, a0)), (1, (0, a1)), (2, (1, a2))]) d_Planner_keepRow_16 (by decide) rfl ?_
  obtain ⟨t11, ht11, h⟩ := bx h
  refine ev_less (L' := [(0, (6, a0)), (1, (0, a1)), (2, (1, a2)), (4, (0, 0))]) [1, 2, 3, 0] rfl ?_
  refine loop_ev (step := l_Planner_keepRow_18 a0 a1 a2) (P := fun w : Int × Mm => Ev X m_Planner_keepRow d 18 [(0, (6, a0)), (1, (0, a1)), (2, (1, a2)), (4, (0, w.1))] [] w.2 none p) (Q := fun w => Ev X m_Planner_keepRow d 57 [] [] w none p) (fun w x hs k1 k2 => cs_l_Planner_keepRow_18 hd hn_a0 hs k1 k2) FU (0, M2) t11 ht11 ?_
  cases h
  exact ev_retV d_Planner_keepRow_57 rfl
def j_Planner_arrange_110_45 (M : Mm) (a0 : Int) (a1 : Int) (a2 : Int) (z3 : Int) (z8 : Int) (z9 : Int) (z10 : Int) : Option ((Int × Int × Int × Int × Mm) ⊕ (Int × Int × Int × Mm)) :=
  lt (w32 (z8 + 1)) (fun x11 : Int =>
  some (.inl (z9, z8, z10, x11, M)))
theorem cj_Planner_arrange_110_45 {X : XX} {d : Nat} (hd : 4 ≤ d) {M : Mm} {a0 : Int} {a1 : Int} {a2 : Int} {z3 : Int} {z8 : Int} {z9 : Int} {z10 : Int} (hn_a0 : a0 ≠ 0) {x : (Int × Int × Int × Int × Mm) ⊕ (Int × Int × Int × Mm)} {r : Option AV} {M' : Mm} (h : j_Planner_arrange_110_45 M a0 a1 a2 z3 z8 z9 z10 = some x) (hk1 : ∀ s : Int × Int × Int × Int × Mm, x = .inl s → Ev X m_Planner_arrange d 45 [(0, (6, a0)), (1, (0, a1)), (2, (0, a2)), (3, (0, z3)), (4, (0, s.1)), (5, (0, s.2.1)), (6, (1, s.2.2.1)), (8, (0, s.2.2.2.1))] [] s.2.2.2.2 r M') (hk2 : ∀ t : Int × Int × Int × Mm, x = .inr t → Ev X m_Planner_arrange d 128 [(0, (6, a0)), (4, (0, t.1)), (5, (0, t.2.1)), (6, (1, t.2.2.1))] [] t.2.2.2 r M') : Ev X m_Planner_arrange d 110 [(0, (6, a0)), (1, (0, a1)), (2, (0, a2)), (3, (0, z3)), (8, (0, z8)), (9, (0, z9)), (10, (1, z10))] [] M r M' := by
  unfold j_Planner_arrange_110_45 at h
  refine ev_iload 5 d_Planner_arrange_110 rfl ?_
  refine ev_istore (L' := [(4, (0, z9)), (0, (6, a0)), (1, (0, a1)), (2, (0, a2)), (3, (0, z3)), (8, (0, z8)), (9, (0, z9)), (10, (1, z10))]) d_Planner_arrange_112 (by decide) rfl ?_
  refine ev_iload 5 d_Planner_arrange_114 rfl ?_
  refine ev_istore (L' := [(5, (0, z8)), (4, (0, z9)), (0, (6, a0)), (1, (0, a1)), (2, (0, a2)), (3, (0, z3)), (8, (0, z8)), (9, (0, z9)), (10, (1, z10))]) d_Planner_arrange_116 (by decide) rfl ?_
  refine ev_lload 8 d_Planner_arrange_118 rfl ?_
  refine ev_lstore (L' := [(6, (1, z10)), (5, (0, z8)), (4, (0, z9)), (0, (6, a0)), (1, (0, a1)), (2, (0, a2)), (3, (0, z3)), (8, (0, z8)), (9, (0, z9)), (10, (1, z10))]) d_Planner_arrange_120 (by decide) rfl ?_
  obtain ⟨x11, hx11, h⟩ := ltx h
  refine ev_iinc' 7 (y := x11) (L' := [(8, (0, x11)), (6, (1, z10)), (5, (0, z8)), (4, (0, z9)), (0, (6, a0)), (1, (0, a1)), (2, (0, a2)), (3, (0, z3)), (9, (0, z9)), (10, (1, z10))]) d_Planner_arrange_122 rfl (by decide) rfl hx11 ?_
  refine ev_goto (tgt := 45) d_Planner_arrange_125 (by decide) ?_
  refine ev_less (L' := [(0, (6, a0)), (1, (0, a1)), (2, (0, a2)), (3, (0, z3)), (4, (0, z9)), (5, (0, z8)), (6, (1, z10)), (8, (0, x11))]) [4, 5, 6, 7, 3, 2, 1, 0] rfl ?_
  cases h
  exact hk1 _ rfl
def j_Planner_arrange_73_45 (M : Mm) (a0 : Int) (a1 : Int) (a2 : Int) (z3 : Int) (z4 : Int) (z5 : Int) (z6 : Int) (z8 : Int) (z9 : Int) (y0 : Int) (y1 : Int) (y2 : Int) : Option ((Int × Int × Int × Int × Mm) ⊕ (Int × Int × Int × Mm)) :=
  (f_Planner_fillSet M y2 y1 y0 a2).bind (fun p7 =>
  if p7.1 = 9223372036854775807 then
  lt (w32 (z8 + 1)) (fun x9 : Int =>
  some (.inl (z4, z5, z6, x9, p7.2)))
  else
  if z4 < z9 then
  j_Planner_arrange_110_45 p7.2 a0 a1 a2 z3 z8 z9 p7.1
  else
  if z9 ≠ z4 then
  lt (w32 (z8 + 1)) (fun x13 : Int =>
  some (.inl (z4, z5, z6, x13, p7.2)))
  else
  if z6 ≤ p7.1 then
  lt (w32 (z8 + 1)) (fun x15 : Int =>
  some (.inl (z4, z5, z6, x15, p7.2)))
  else
  j_Planner_arrange_110_45 p7.2 a0 a1 a2 z3 z8 z9 p7.1)
theorem cj_Planner_arrange_73_45 {X : XX} {d : Nat} (hd : 4 ≤ d) {M : Mm} {a0 : Int} {a1 : Int} {a2 : Int} {z3 : Int} {z4 : Int} {z5 : Int} {z6 : Int} {z8 : Int} {z9 : Int} {y0 : Int} {y1 : Int} {y2 : Int} (hn_a0 : a0 ≠ 0) (hn_y2 : y2 ≠ 0) {x : (Int × Int × Int × Int × Mm) ⊕ (Int × Int × Int × Mm)} {r : Option AV} {M' : Mm} (h : j_Planner_arrange_73_45 M a0 a1 a2 z3 z4 z5 z6 z8 z9 y0 y1 y2 = some x) (hk1 : ∀ s : Int × Int × Int × Int × Mm, x = .inl s → Ev X m_Planner_arrange d 45 [(0, (6, a0)), (1, (0, a1)), (2, (0, a2)), (3, (0, z3)), (4, (0, s.1)), (5, (0, s.2.1)), (6, (1, s.2.2.1)), (8, (0, s.2.2.2.1))] [] s.2.2.2.2 r M') (hk2 : ∀ t : Int × Int × Int × Mm, x = .inr t → Ev X m_Planner_arrange d 128 [(0, (6, a0)), (4, (0, t.1)), (5, (0, t.2.1)), (6, (1, t.2.2.1))] [] t.2.2.2 r M') : Ev X m_Planner_arrange d 73 [(0, (6, a0)), (1, (0, a1)), (2, (0, a2)), (3, (0, z3)), (4, (0, z4)), (5, (0, z5)), (6, (1, z6)), (8, (0, z8)), (9, (0, z9))] [(0, y0), (0, y1), (6, y2)] M r M' := by
  unfold j_Planner_arrange_73_45 at h
  refine ev_iload_n 2 d_Planner_arrange_73 rfl rfl ?_
  obtain ⟨p7, hp7, h⟩ := bx h
  have hRp7 := c_Planner_fillSet (X := X) (d := d - 1) (by omega) hn_y2 hp7
  refine ev_callV2 (st2 := [(1, p7.1)]) (as := [(0, y1), (0, y0), (0, a2)]) (rest := []) rfl (by decide) (by decide) rfl hn_y2 rfl (Nat.le_of_ble_eq_true rfl) k_Planner_fillSet ⟨tw_772, ts_60⟩ (by omega) tw_770 d_Planner_arrange_74 hRp7 rfl ?_
  refine ev_lstore (L' := [(10, (1, p7.1)), (0, (6, a0)), (1, (0, a1)), (2, (0, a2)), (3, (0, z3)), (4, (0, z4)), (5, (0, z5)), (6, (1, z6)), (8, (0, z8)), (9, (0, z9))]) d_Planner_arrange_77 (by decide) rfl ?_
  refine ev_lload 0 d_Planner_arrange_79 rfl ?_
  refine ev_ldc2 (v := 9223372036854775807) d_Planner_arrange_81 tw_774 rfl ?_
  refine ev_lcmp d_Planner_arrange_84 ?_
  by_cases hc8 : p7.1 = 9223372036854775807
  · replace h := itp hc8 h
    refine ev_if_eq_t (tgt := 122) d_Planner_arrange_85 (by decide) ((lC_eq _ _).mpr hc8) ?_
    obtain ⟨x9, hx9, h⟩ := ltx h
    refine ev_iinc' 8 (y := x9) (L' := [(8, (0, x9)), (10, (1, p7.1)), (0, (6, a0)), (1, (0, a1)), (2, (0, a2)), (3, (0, z3)), (4, (0, z4)), (5, (0, z5)), (6, (1, z6)), (9, (0, z9))]) d_Planner_arrange_122 rfl (by decide) rfl hx9 ?_
    refine ev_goto (tgt := 45) d_Planner_arrange_125 (by decide) ?_
    refine ev_less (L' := [(0, (6, a0)), (1, (0, a1)), (2, (0, a2)), (3, (0, z3)), (4, (0, z4)), (5, (0, z5)), (6, (1, z6)), (8, (0, x9))]) [2, 3, 4, 5, 6, 7, 8, 0] rfl ?_
    cases h
    exact hk1 _ rfl
  · replace h := itn hc8 h
    refine ev_if_eq_f d_Planner_arrange_85 (by decide) (fun z => hc8 ((lC_eq _ _).mp z)) ?_
    refine ev_iload 9 d_Planner_arrange_88 rfl ?_
    refine ev_iload 5 d_Planner_arrange_90 rfl ?_
    by_cases hc10 : z4 < z9
    · replace h := itp hc10 h
      refine ev_icmp_gt_t (tgt := 110) d_Planner_arrange_92 (by decide) hc10 ?_
      refine ev_less (L' := [(0, (6, a0)), (1, (0, a1)), (2, (0, a2)), (3, (0, z3)), (8, (0, z8)), (9, (0, z9)), (10, (1, p7.1))]) [1, 2, 3, 4, 8, 9, 0] rfl ?_
      exact cj_Planner_arrange_110_45 hd hn_a0 h hk1 hk2
    · replace h := itn hc10 h
      refine ev_icmp_gt_f d_Planner_arrange_92 (by decide) hc10 ?_
      refine ev_iload 9 d_Planner_arrange_95 rfl ?_
      refine ev_iload 5 d_Planner_arrange_97 rfl ?_
      by_cases hc12 : z9 ≠ z4
      · replace h := itp hc12 h
        refine ev_icmp_ne_t (tgt := 122) d_Planner_arrange_99 (by decide) hc12 ?_
        obtain ⟨x13, hx13, h⟩ := ltx h
        refine ev_iinc' 8 (y := x13) (L' := [(8, (0, x13)), (10, (1, p7.1)), (0, (6, a0)), (1, (0, a1)), (2, (0, a2)), (3, (0, z3)), (4, (0, z4)), (5, (0, z5)), (6, (1, z6)), (9, (0, z9))]) d_Planner_arrange_122 rfl (by decide) rfl hx13 ?_
        refine ev_goto (tgt := 45) d_Planner_arrange_125 (by decide) ?_
        refine ev_less (L' := [(0, (6, a0)), (1, (0, a1)), (2, (0, a2)), (3, (0, z3)), (4, (0, z4)), (5, (0, z5)), (6, (1, z6)), (8, (0, x13))]) [2, 3, 4, 5, 6, 7, 8, 0] rfl ?_
        cases h
        exact hk1 _ rfl
      · replace h := itn hc12 h
        refine ev_icmp_ne_f d_Planner_arrange_99 (by decide) hc12 ?_
        refine ev_lload 0 d_Planner_arrange_102 rfl ?_
        refine ev_lload 7 d_Planner_arrange_104 rfl ?_
        refine ev_lcmp d_Planner_arrange_106 ?_
        by_cases hc14 : z6 ≤ p7.1
        · replace h := itp hc14 h
          refine ev_if_ge_t (tgt := 122) d_Planner_arrange_107 (by decide) ((lC_ge _ _).mpr hc14) ?_
          obtain ⟨x15, hx15, h⟩ := ltx h
          refine ev_iinc' 8 (y := x15) (L' := [(8, (0, x15)), (10, (1, p7.1)), (0, (6, a0)), (1, (0, a1)), (2, (0, a2)), (3, (0, z3)), (4, (0, z4)), (5, (0, z5)), (6, (1, z6)), (9, (0, z9))]) d_Planner_arrange_122 rfl (by decide) rfl hx15 ?_
          refine ev_goto (tgt := 45) d_Planner_arrange_125 (by decide) ?_
          refine ev_less (L' := [(0, (6, a0)), (1, (0, a1)), (2, (0, a2)), (3, (0, z3)), (4, (0, z4)), (5, (0, z5)), (6, (1, z6)), (8, (0, x15))]) [2, 3, 4, 5, 6, 7, 8, 0] rfl ?_
          cases h
          exact hk1 _ rfl
        · replace h := itn hc14 h
          refine ev_if_ge_f d_Planner_arrange_107 (by decide) (fun z => hc14 ((lC_ge _ _).mp z)) ?_
          refine ev_less (L' := [(0, (6, a0)), (1, (0, a1)), (2, (0, a2)), (3, (0, z3)), (8, (0, z8)), (9, (0, z9)), (10, (1, p7.1))]) [1, 2, 3, 4, 8, 9, 0] rfl ?_
          exact cj_Planner_arrange_110_45 hd hn_a0 h hk1 hk2
def l_Planner_arrange_45 (a0 : Int) (a1 : Int) (a2 : Int) (z3 : Int) (s : Int × Int × Int × Int × Mm) : Option ((Int × Int × Int × Int × Mm) ⊕ (Int × Int × Int × Mm)) :=
  if z3 ≤ s.2.2.2.1 then
  some (.inr (s.1, s.2.1, s.2.2.1, s.2.2.2.2))
  else
  (f_Planner_minutesOf s.2.2.2.2 a0 s.2.2.2.1).bind (fun p5 =>
  if a1 < p5 then
  j_Planner_arrange_73_45 s.2.2.2.2 a0 a1 a2 z3 s.1 s.2.1 s.2.2.1 s.2.2.2.1 p5 0 s.2.2.2.1 a0
  else
  j_Planner_arrange_73_45 s.2.2.2.2 a0 a1 a2 z3 s.1 s.2.1 s.2.2.1 s.2.2.2.1 p5 1 s.2.2.2.1 a0)
theorem cs_l_Planner_arrange_45 {X : XX} {d : Nat} (hd : 4 ≤ d) {a0 : Int} {a1 : Int} {a2 : Int} {z3 : Int} (hn_a0 : a0 ≠ 0) {s : Int × Int × Int × Int × Mm} {x : (Int × Int × Int × Int × Mm) ⊕ (Int × Int × Int × Mm)} {r : Option AV} {M' : Mm} (h : l_Planner_arrange_45 a0 a1 a2 z3 s = some x) (hk1 : ∀ s : Int × Int × Int × Int × Mm, x = .inl s → Ev X m_Planner_arrange d 45 [(0, (6, a0)), (1, (0, a1)), (2, (0, a2)), (3, (0, z3)), (4, (0, s.1)), (5, (0, s.2.1)), (6, (1, s.2.2.1)), (8, (0, s.2.2.2.1))] [] s.2.2.2.2 r M') (hk2 : ∀ t : Int × Int × Int × Mm, x = .inr t → Ev X m_Planner_arrange d 128 [(0, (6, a0)), (4, (0, t.1)), (5, (0, t.2.1)), (6, (1, t.2.2.1))] [] t.2.2.2 r M') : Ev X m_Planner_arrange d 45 [(0, (6, a0)), (1, (0, a1)), (2, (0, a2)), (3, (0, z3)), (4, (0, s.1)), (5, (0, s.2.1)), (6, (1, s.2.2.1)), (8, (0, s.2.2.2.1))] [] s.2.2.2.2 r M' := by
  unfold l_Planner_arrange_45 at h
  refine ev_iload 7 d_Planner_arrange_45 rfl ?_
  refine ev_iload_n 3 d_Planner_arrange_47 rfl rfl ?_
  by_cases hc4 : z3 ≤ s.2.2.2.1
  · replace h := itp hc4 h
    refine ev_icmp_ge_t (tgt := 128) d_Planner_arrange_48 (by decide) hc4 ?_
    refine ev_less (L' := [(0, (6, a0)), (4, (0, s.1)), (5, (0, s.2.1)), (6, (1, s.2.2.1))]) [0, 4, 5, 6] rfl ?_
    cases h
    exact hk2 _ rfl
  · replace h := itn hc4 h
    refine ev_icmp_ge_f d_Planner_arrange_48 (by decide) hc4 ?_
    refine ev_aload_n 0 d_Planner_arrange_51 rfl (by decide) rfl ?_
    refine ev_iload 7 d_Planner_arrange_52 rfl ?_
    obtain ⟨p5, hp5, h⟩ := bx h
    have hRp5 := c_Planner_minutesOf (X := X) (d := d - 1) (by omega) hn_a0 hp5
    refine ev_callV2 (st2 := [(0, p5)]) (as := [(0, s.2.2.2.1)]) (rest := []) rfl (by decide) (by decide) rfl hn_a0 rfl (Nat.le_of_ble_eq_true rfl) k_Planner_minutesOf ⟨tw_768, ts_59⟩ (by omega) tw_766 d_Planner_arrange_54 hRp5 rfl ?_
    refine ev_istore (L' := [(9, (0, p5)), (0, (6, a0)), (1, (0, a1)), (2, (0, a2)), (3, (0, z3)), (4, (0, s.1)), (5, (0, s.2.1)), (6, (1, s.2.2.1)), (8, (0, s.2.2.2.1))]) d_Planner_arrange_57 (by decide) rfl ?_
    refine ev_aload_n 1 d_Planner_arrange_59 rfl (by decide) rfl ?_
    refine ev_iload 8 d_Planner_arrange_60 rfl ?_
    refine ev_iload 0 d_Planner_arrange_62 rfl ?_
    refine ev_iload_n 2 d_Planner_arrange_64 rfl rfl ?_
    by_cases hc6 : a1 < p5
    · replace h := itp hc6 h
      refine ev_icmp_gt_t (tgt := 72) d_Planner_arrange_65 (by decide) hc6 ?_
      refine ev_iconst d_Planner_arrange_72 rfl ?_
      refine ev_less (L' := [(0, (6, a0)), (1, (0, a1)), (2, (0, a2)), (3, (0, z3)), (4, (0, s.1)), (5, (0, s.2.1)), (6, (1, s.2.2.1)), (8, (0, s.2.2.2.1)), (9, (0, p5))]) [1, 2, 3, 4, 5, 6, 7, 8, 0] rfl ?_
      exact cj_Planner_arrange_73_45 hd hn_a0 hn_a0 h hk1 hk2
    · replace h := itn hc6 h
      refine ev_icmp_gt_f d_Planner_arrange_65 (by decide) hc6 ?_
      refine ev_iconst d_Planner_arrange_68 rfl ?_
      refine ev_goto (tgt := 73) d_Planner_arrange_69 (by decide) ?_
      refine ev_less (L' := [(0, (6, a0)), (1, (0, a1)), (2, (0, a2)), (3, (0, z3)), (4, (0, s.1)), (5, (0, s.2.1)), (6, (1, s.2.2.1)), (8, (0, s.2.2.2.1)), (9, (0, p5))]) [1, 2, 3, 4, 5, 6, 7, 8, 0] rfl ?_
      exact cj_Planner_arrange_73_45 hd hn_a0 hn_a0 h hk1 hk2
def j_Planner_arrange_33 (M : Mm) (a0 : Int) (a1 : Int) (a2 : Int) (z3 : Int) : Option (Int × Mm) :=
  (loopN (l_Planner_arrange_45 a0 a1 a2 z3) FU (0, 0, 0, 1, M)).bind (fun t16 =>
  (f_Integer_bitCount t16.2.2.2 t16.2.1).bind (fun p17 =>
  (f_Planner_keepRow t16.2.2.2 a0 p17 t16.2.2.1).bind (fun p18 =>
  some (t16.1, p18))))
theorem cj_Planner_arrange_33 {X : XX} {d : Nat} (hd : 4 ≤ d) {M : Mm} {a0 : Int} {a1 : Int} {a2 : Int} {z3 : Int} (hn_a0 : a0 ≠ 0) {p : Int × Mm} (h : j_Planner_arrange_33 M a0 a1 a2 z3 = some p) : Ev X m_Planner_arrange d 33 [(0, (6, a0)), (1, (0, a1)), (2, (0, a2)), (3, (0, z3))] [] M (some (0, p.1)) p.2 := by
  unfold j_Planner_arrange_33 at h
  refine ev_iconst d_Planner_arrange_33 rfl ?_
  refine ev_istore (L' := [(4, (0, 0)), (0, (6, a0)), (1, (0, a1)), (2, (0, a2)), (3, (0, z3))]) d_Planner_arrange_34 (by decide) rfl ?_
  refine ev_iconst d_Planner_arrange_36 rfl ?_
  refine ev_istore (L' := [(5, (0, 0)), (4, (0, 0)), (0, (6, a0)), (1, (0, a1)), (2, (0, a2)), (3, (0, z3))]) d_Planner_arrange_37 (by decide) rfl ?_
  refine ev_lconst (v := 0) d_Planner_arrange_39 rfl rfl ?_
  refine ev_lstore (L' := [(6, (1, 0)), (5, (0, 0)), (4, (0, 0)), (0, (6, a0)), (1, (0, a1)), (2, (0, a2)), (3, (0, z3))]) d_Planner_arrange_40 (by decide) rfl ?_
  refine ev_iconst d_Planner_arrange_42 rfl ?_
  refine ev_istore (L' := [(8, (0, 1)), (6, (1, 0)), (5, (0, 0)), (4, (0, 0)), (0, (6, a0)), (1, (0, a1)), (2, (0, a2)), (3, (0, z3))]) d_Planner_arrange_43 (by decide) rfl ?_
  obtain ⟨t16, ht16, h⟩ := bx h
  refine ev_less (L' := [(0, (6, a0)), (1, (0, a1)), (2, (0, a2)), (3, (0, z3)), (4, (0, 0)), (5, (0, 0)), (6, (1, 0)), (8, (0, 1))]) [4, 5, 6, 7, 3, 2, 1, 0] rfl ?_
  refine loop_ev (step := l_Planner_arrange_45 a0 a1 a2 z3) (P := fun w : Int × Int × Int × Int × Mm => Ev X m_Planner_arrange d 45 [(0, (6, a0)), (1, (0, a1)), (2, (0, a2)), (3, (0, z3)), (4, (0, w.1)), (5, (0, w.2.1)), (6, (1, w.2.2.1)), (8, (0, w.2.2.2.1))] [] w.2.2.2.2 (some (0, p.1)) p.2) (Q := fun w => Ev X m_Planner_arrange d 128 [(0, (6, a0)), (4, (0, w.1)), (5, (0, w.2.1)), (6, (1, w.2.2.1))] [] w.2.2.2 (some (0, p.1)) p.2) (fun w x hs k1 k2 => cs_l_Planner_arrange_45 hd hn_a0 hs k1 k2) FU (0, 0, 0, 1, M) t16 ht16 ?_
  refine ev_aload_n 0 d_Planner_arrange_128 rfl (by decide) rfl ?_
  refine ev_iload 2 d_Planner_arrange_129 rfl ?_
  obtain ⟨p17, hp17, h⟩ := bx h
  have hRp17 := c_Integer_bitCount (X := X) (d := d - 1) (by omega)  hp17
  refine ev_callS2 (st2 := [(0, p17), (6, a0)]) (as := [(0, t16.2.1)]) (rest := [(6, a0)]) rfl rfl (Nat.le_of_ble_eq_true rfl) k_Integer_bitCount tw_652 (by omega) tw_781 d_Planner_arrange_131 hRp17 rfl ?_
  refine ev_lload 3 d_Planner_arrange_134 rfl ?_
  obtain ⟨p18, hp18, h⟩ := bx h
  have hRp18 := c_Planner_keepRow (X := X) (d := d - 1) (by omega) hn_a0 hp18
  refine ev_callV2 (st2 := []) (as := [(0, p17), (1, t16.2.2.1)]) (rest := []) rfl (by decide) (by decide) rfl hn_a0 rfl (Nat.le_of_ble_eq_true rfl) k_Planner_keepRow ⟨tw_798, ts_63⟩ (by omega) tw_796 d_Planner_arrange_136 hRp18 rfl ?_
  refine ev_iload 1 d_Planner_arrange_139 rfl ?_
  cases h
  exact ev_ret d_Planner_arrange_141 rfl
def f_Planner_arrange (M : Mm) (a0 : Int) (a1 : Int) (a2 : Int) : Option (Int × Mm) :=
  lt ((bShl 1 (mg M (cI a0) 7))) (fun x1 : Int =>
  if (mg M (cI a0) 8) ≠ 0 then
  if (w32 (x1 * (mg M (cI a0) 7))) ≤ (ml M (cI (mg M (cI a0) 8)) : Int) then
  j_Planner_arrange_33 M a0 a1 a2 x1
  else
  if (0 : Int) ≤ (w32 (x1 * (mg M (cI a0) 7))) ∧ (w32 (x1 * (mg M (cI a0) 7))) < 1000000 then
  lt (mw M ((w32 (x1 * (mg M (cI a0) 7))) : Int).toNat) (fun M20 =>
  lt (mp M20 (cI a0) 8 ((mN M : Int) + 1)) (fun M21 =>
  j_Planner_arrange_33 M21 a0 a1 a2 x1))
  else none
  else none)
theorem c_Planner_arrange {X : XX} {d : Nat} (hd : 4 ≤ d) {M : Mm} {a0 : Int} {a1 : Int} {a2 : Int} (hn_a0 : a0 ≠ 0) {p : Int × Mm} (h : f_Planner_arrange M a0 a1 a2 = some p) : Rn X d m_Planner_arrange [(6, a0), (0, a1), (0, a2)] M (some (0, p.1)) p.2 := by
  refine Rn_of (by decide) rfl (Nat.le_of_ble_eq_true rfl) ?_
  unfold f_Planner_arrange at h
  refine ev_less (L' := [(0, (6, a0)), (1, (0, a1)), (2, (0, a2))]) [0, 1, 2] rfl ?_
  refine ev_iconst d_Planner_arrange_0 rfl ?_
  refine ev_aload_n 0 d_Planner_arrange_1 rfl (by decide) rfl ?_
  refine ev_get (t := 6) (k := 7) (by decide) (by decide) rfl i_Planner (by decide) rfl rfl tw_292 d_Planner_arrange_2 hn_a0 ?_
  refine ev_ishl d_Planner_arrange_5 ?_
  obtain ⟨x1, hx1, h⟩ := ltx h
  refine ev_istore_n' (y := x1) (L' := [(3, (0, x1)), (0, (6, a0)), (1, (0, a1)), (2, (0, a2))]) d_Planner_arrange_6 rfl (by decide) rfl hx1 ?_
  refine ev_aload_n 1 d_Planner_arrange_7 rfl (by decide) rfl ?_
  refine ev_get (t := 6) (k := 8) (by decide) (by decide) rfl i_Planner (by decide) rfl rfl tw_293 d_Planner_arrange_8 hn_a0 ?_
  obtain ⟨hz2, h⟩ := gx h
  refine ev_alen (by decide) (by decide) d_Planner_arrange_11 hz2 ?_
  refine ev_iload_n 0 d_Planner_arrange_12 rfl rfl ?_
  refine ev_aload_n 1 d_Planner_arrange_13 rfl (by decide) rfl ?_
  refine ev_get (t := 6) (k := 7) (by decide) (by decide) rfl i_Planner (by decide) rfl rfl tw_292 d_Planner_arrange_14 hn_a0 ?_
  refine ev_imul d_Planner_arrange_17 ?_
  by_cases hc3 : (w32 (x1 * (mg M (cI a0) 7))) ≤ (ml M (cI (mg M (cI a0) 8)) : Int)
  · replace h := itp hc3 h
    refine ev_icmp_ge_t (tgt := 33) d_Planner_arrange_18 (by decide) hc3 ?_
    refine ev_less (L' := [(0, (6, a0)), (1, (0, a1)), (2, (0, a2)), (3, (0, x1))]) [1, 2, 3, 0] rfl ?_
    exact cj_Planner_arrange_33 hd hn_a0 h
  · replace h := itn hc3 h
    refine ev_icmp_ge_f d_Planner_arrange_18 (by decide) hc3 ?_
    refine ev_aload_n 1 d_Planner_arrange_21 rfl (by decide) rfl ?_
    refine ev_iload_n 0 d_Planner_arrange_22 rfl rfl ?_
    refine ev_aload_n 1 d_Planner_arrange_23 rfl (by decide) rfl ?_
    refine ev_get (t := 6) (k := 7) (by decide) (by decide) rfl i_Planner (by decide) rfl rfl tw_292 d_Planner_arrange_24 hn_a0 ?_
    refine ev_imul d_Planner_arrange_27 ?_
    obtain ⟨hg19, h⟩ := gx h
    obtain ⟨M20, hM20, h⟩ := ltx h
    refine ev_newJ' tw_275 d_Planner_arrange_28 hg19 hM20 ?_
    obtain ⟨M21, hM21, h⟩ := ltx h
    refine ev_put' (t := 6) (k := 8) (by decide) (by decide) rfl i_Planner t_Planner_ok n_Planner (by decide) rfl rfl rfl rfl tw_293 d_Planner_arrange_30 hn_a0 hM21 ?_
    refine ev_less (L' := [(0, (6, a0)), (1, (0, a1)), (2, (0, a2)), (3, (0, x1))]) [1, 2, 3, 0] rfl ?_
    exact cj_Planner_arrange_33 hd hn_a0 h
def f_Players_init (M : Mm) (a0 : Int) : Option (Mm) :=
  lt (mw M (14 : Int).toNat) (fun M1 =>
  lt (mp M1 (cI a0) 0 ((mN M : Int) + 1)) (fun M2 =>
  lt (mw M2 (14 : Int).toNat) (fun M3 =>
  lt (mp M3 (cI a0) 1 ((mN M2 : Int) + 1)) (fun M4 =>
  lt (mw M4 (14 : Int).toNat) (fun M5 =>
  lt (mp M5 (cI a0) 2 ((mN M4 : Int) + 1)) (fun M6 =>
  lt (mw M6 (140 : Int).toNat) (fun M7 =>
  lt (mp M7 (cI a0) 3 ((mN M6 : Int) + 1)) (fun M8 =>
  if (mg M8 (cI a0) 3) ≠ 0 then
  (f_Arrays_fillI M8 (mg M8 (cI a0) 3) (-1)).bind (fun p10 =>
  some p10)
  else none))))))))
theorem c_Players_init {X : XX} {d : Nat} (hd : 1 ≤ d) {M : Mm} {a0 : Int} (hn_a0 : a0 ≠ 0) {p : Mm} (h : f_Players_init M a0 = some p) : Rn X d m_Players_init [(7, a0)] M none p := by
  refine Rn_of (by decide) rfl (Nat.le_of_ble_eq_true rfl) ?_
  unfold f_Players_init at h
  refine ev_less (L' := [(0, (7, a0))]) [0] rfl ?_
  refine ev_aload_n 0 d_Players_init_0 rfl (by decide) rfl ?_
  refine ev_objInit (t := 7) (by decide) (by decide) hn_a0 (Nat.le_of_ble_eq_true rfl) (by omega) tw_32 tw_25 tw_26 d_Players_init_1 ?_
  refine ev_aload_n 0 d_Players_init_4 rfl (by decide) rfl ?_
  refine ev_bipush d_Players_init_5 rfl ?_
  obtain ⟨M1, hM1, h⟩ := ltx h
  refine ev_newI' tw_61 d_Players_init_7 ⟨by decide, by decide⟩ hM1 ?_
  obtain ⟨M2, hM2, h⟩ := ltx h
  refine ev_putF' (t := 7) (k := 0) (by decide) (by decide) rfl i_Players t_Players_ok n_Players (by decide) rfl rfl rfl rfl rfl rfl tw_36 d_Players_init_9 hn_a0 hM2 ?_
  refine ev_aload_n 0 d_Players_init_12 rfl (by decide) rfl ?_
  refine ev_bipush d_Players_init_13 rfl ?_
  obtain ⟨M3, hM3, h⟩ := ltx h
  refine ev_newI' tw_61 d_Players_init_15 ⟨by decide, by decide⟩ hM3 ?_
  obtain ⟨M4, hM4, h⟩ := ltx h
  refine ev_putF' (t := 7) (k := 1) (by decide) (by decide) rfl i_Players t_Players_ok n_Players (by decide) rfl rfl rfl rfl rfl rfl tw_38 d_Players_init_17 hn_a0 hM4 ?_
  refine ev_aload_n 0 d_Players_init_20 rfl (by decide) rfl ?_
  refine ev_bipush d_Players_init_21 rfl ?_
  obtain ⟨M5, hM5, h⟩ := ltx h
  refine ev_newI' tw_61 d_Players_init_23 ⟨by decide, by decide⟩ hM5 ?_
  obtain ⟨M6, hM6, h⟩ := ltx h
  refine ev_putF' (t := 7) (k := 2) (by decide) (by decide) rfl i_Players t_Players_ok n_Players (by decide) rfl rfl rfl rfl rfl rfl tw_40 d_Players_init_25 hn_a0 hM6 ?_
  refine ev_aload_n 0 d_Players_init_28 rfl (by decide) rfl ?_
  refine ev_sipush d_Players_init_29 rfl ?_
  obtain ⟨M7, hM7, h⟩ := ltx h
  refine ev_newI' tw_61 d_Players_init_32 ⟨by decide, by decide⟩ hM7 ?_
  obtain ⟨M8, hM8, h⟩ := ltx h
  refine ev_putF' (t := 7) (k := 3) (by decide) (by decide) rfl i_Players t_Players_ok n_Players (by decide) rfl rfl rfl rfl rfl rfl tw_42 d_Players_init_34 hn_a0 hM8 ?_
  refine ev_aload_n 0 d_Players_init_37 rfl (by decide) rfl ?_
  refine ev_get (t := 7) (k := 3) (by decide) (by decide) rfl i_Players (by decide) rfl rfl tw_42 d_Players_init_38 hn_a0 ?_
  refine ev_iconst d_Players_init_41 rfl ?_
  obtain ⟨hz9, h⟩ := gx h
  obtain ⟨p10, hp10, h⟩ := bx h
  have hRp10 := c_Arrays_fillI (X := X) (d := d - 1) (by omega) hz9 hp10
  refine ev_callS2 (st2 := []) (as := [(13, (mg M8 (cI a0) 3)), (0, (-1))]) (rest := []) rfl rfl (Nat.le_of_ble_eq_true rfl) k_Arrays_fillI tw_34 (by omega) tw_33 d_Players_init_42 hRp10 rfl ?_
  cases h
  exact ev_retV d_Players_init_45 rfl
def f_Players_has (M : Mm) (a0 : Int) (a1 : Int) : Option (Int) :=
  if a1 < 0 then
  some 0
  else
  if (mg M (cI a0) 4) ≤ a1 then
  some 0
  else
  some 1
theorem c_Players_has {X : XX} {d : Nat} (hd : 0 ≤ d) {M : Mm} {a0 : Int} {a1 : Int} (hn_a0 : a0 ≠ 0) {p : Int} (h : f_Players_has M a0 a1 = some p) : Rn X d m_Players_has [(7, a0), (0, a1)] M (some (0, p)) M := by
  refine Rn_of (by decide) rfl (Nat.le_of_ble_eq_true rfl) ?_
  unfold f_Players_has at h
  refine ev_less (L' := [(0, (7, a0)), (1, (0, a1))]) [0, 1] rfl ?_
  refine ev_iload_n 1 d_Players_has_0 rfl rfl ?_
  by_cases hc1 : a1 < 0
  · replace h := itp hc1 h
    refine ev_if_lt_t (tgt := 16) d_Players_has_1 (by decide) hc1 ?_
    refine ev_iconst d_Players_has_16 rfl ?_
    cases h
    exact ev_retZ d_Players_has_17 rfl (Or.inl rfl)
  · replace h := itn hc1 h
    refine ev_if_lt_f d_Players_has_1 (by decide) hc1 ?_
    refine ev_iload_n 1 d_Players_has_4 rfl rfl ?_
    refine ev_aload_n 0 d_Players_has_5 rfl (by decide) rfl ?_
    refine ev_get (t := 7) (k := 4) (by decide) (by decide) rfl i_Players (by decide) rfl rfl tw_43 d_Players_has_6 hn_a0 ?_
    by_cases hc2 : (mg M (cI a0) 4) ≤ a1
    · replace h := itp hc2 h
      refine ev_icmp_ge_t (tgt := 16) d_Players_has_9 (by decide) hc2 ?_
      refine ev_iconst d_Players_has_16 rfl ?_
      cases h
      exact ev_retZ d_Players_has_17 rfl (Or.inl rfl)
    · replace h := itn hc2 h
      refine ev_icmp_ge_f d_Players_has_9 (by decide) hc2 ?_
      refine ev_iconst d_Players_has_12 rfl ?_
      refine ev_goto (tgt := 17) d_Players_has_13 (by decide) ?_
      cases h
      exact ev_retZ d_Players_has_17 rfl (Or.inr rfl)
def f_Players_join (M : Mm) (a0 : Int) (a1 : Int) (a2 : Int) : Option (Int × Mm) :=
  if (mg M (cI a0) 4) < 14 then
  if (mg M (cI a0) 0) ≠ 0 then
  if (0 : Int) ≤ (mg M (cI a0) 4) ∧ (mg M (cI a0) 4) < (ml M (cI (mg M (cI a0) 0)) : Int) then
  lt (mp M (cI (mg M (cI a0) 0)) ((mg M (cI a0) 4) : Int).toNat a1) (fun M4 =>
  if (mg M4 (cI a0) 1) ≠ 0 then
  if (0 : Int) ≤ (mg M4 (cI a0) 4) ∧ (mg M4 (cI a0) 4) < (ml M4 (cI (mg M4 (cI a0) 1)) : Int) then
  lt (mp M4 (cI (mg M4 (cI a0) 1)) ((mg M4 (cI a0) 4) : Int).toNat a2) (fun M7 =>
  lt (mp M7 (cI a0) 4 (w32 ((mg M7 (cI a0) 4) + 1))) (fun M8 =>
  some ((w32 ((mg M8 (cI a0) 4) - 1)), M8)))
  else none
  else none)
  else none
  else none
  else
  some ((-1), M)
theorem c_Players_join {X : XX} {d : Nat} (hd : 0 ≤ d) {M : Mm} {a0 : Int} {a1 : Int} {a2 : Int} (hn_a0 : a0 ≠ 0) {p : Int × Mm} (h : f_Players_join M a0 a1 a2 = some p) : Rn X d m_Players_join [(7, a0), (0, a1), (0, a2)] M (some (0, p.1)) p.2 := by
  refine Rn_of (by decide) rfl (Nat.le_of_ble_eq_true rfl) ?_
  unfold f_Players_join at h
  refine ev_less (L' := [(0, (7, a0)), (1, (0, a1)), (2, (0, a2))]) [0, 1, 2] rfl ?_
  refine ev_aload_n 0 d_Players_join_0 rfl (by decide) rfl ?_
  refine ev_get (t := 7) (k := 4) (by decide) (by decide) rfl i_Players (by decide) rfl rfl tw_43 d_Players_join_1 hn_a0 ?_
  refine ev_bipush d_Players_join_4 rfl ?_
  by_cases hc1 : (mg M (cI a0) 4) < 14
  · replace h := itp hc1 h
    refine ev_icmp_lt_t (tgt := 11) d_Players_join_6 (by decide) hc1 ?_
    refine ev_aload_n 0 d_Players_join_11 rfl (by decide) rfl ?_
    refine ev_get (t := 7) (k := 0) (by decide) (by decide) rfl i_Players (by decide) rfl rfl tw_36 d_Players_join_12 hn_a0 ?_
    refine ev_aload_n 0 d_Players_join_15 rfl (by decide) rfl ?_
    refine ev_get (t := 7) (k := 4) (by decide) (by decide) rfl i_Players (by decide) rfl rfl tw_43 d_Players_join_16 hn_a0 ?_
    refine ev_iload_n 1 d_Players_join_19 rfl rfl ?_
    obtain ⟨hz2, h⟩ := gx h
    obtain ⟨hg3, h⟩ := gx h
    obtain ⟨M4, hM4, h⟩ := ltx h
    refine ev_iast' d_Players_join_20 hz2 hg3 hM4 ?_
    refine ev_aload_n 0 d_Players_join_21 rfl (by decide) rfl ?_
    refine ev_get (t := 7) (k := 1) (by decide) (by decide) rfl i_Players (by decide) rfl rfl tw_38 d_Players_join_22 hn_a0 ?_
    refine ev_aload_n 0 d_Players_join_25 rfl (by decide) rfl ?_
    refine ev_get (t := 7) (k := 4) (by decide) (by decide) rfl i_Players (by decide) rfl rfl tw_43 d_Players_join_26 hn_a0 ?_
    refine ev_iload_n 2 d_Players_join_29 rfl rfl ?_
    obtain ⟨hz5, h⟩ := gx h
    obtain ⟨hg6, h⟩ := gx h
    obtain ⟨M7, hM7, h⟩ := ltx h
    refine ev_iast' d_Players_join_30 hz5 hg6 hM7 ?_
    refine ev_aload_n 0 d_Players_join_31 rfl (by decide) rfl ?_
    refine ev_dup d_Players_join_32 (Nat.ne_of_beq_eq_false rfl) ?_
    refine ev_get (t := 7) (k := 4) (by decide) (by decide) rfl i_Players (by decide) rfl rfl tw_43 d_Players_join_33 hn_a0 ?_
    refine ev_iconst d_Players_join_36 rfl ?_
    refine ev_iadd d_Players_join_37 ?_
    obtain ⟨M8, hM8, h⟩ := ltx h
    refine ev_put' (t := 7) (k := 4) (by decide) (by decide) rfl i_Players t_Players_ok n_Players (by decide) rfl rfl rfl rfl tw_43 d_Players_join_38 hn_a0 hM8 ?_
    refine ev_aload_n 0 d_Players_join_41 rfl (by decide) rfl ?_
    refine ev_get (t := 7) (k := 4) (by decide) (by decide) rfl i_Players (by decide) rfl rfl tw_43 d_Players_join_42 hn_a0 ?_
    refine ev_iconst d_Players_join_45 rfl ?_
    refine ev_isub d_Players_join_46 ?_
    cases h
    exact ev_ret d_Players_join_47 rfl
  · replace h := itn hc1 h
    refine ev_icmp_lt_f d_Players_join_6 (by decide) hc1 ?_
    refine ev_iconst d_Players_join_9 rfl ?_
    cases h
    exact ev_ret d_Players_join_10 rfl
def f_Players_learn (M : Mm) (a0 : Int) (a1 : Int) (a2 : Int) (a3 : Int) : Option (Mm) :=
  if (mg M (cI a0) 3) ≠ 0 then
  if (0 : Int) ≤ (w32 ((w32 (a1 * 10)) + a2)) ∧ (w32 ((w32 (a1 * 10)) + a2)) < (ml M (cI (mg M (cI a0) 3)) : Int) then
  lt (mp M (cI (mg M (cI a0) 3)) ((w32 ((w32 (a1 * 10)) + a2)) : Int).toNat a3) (fun M3 =>
  some M3)
  else none
  else none
theorem c_Players_learn {X : XX} {d : Nat} (hd : 0 ≤ d) {M : Mm} {a0 : Int} {a1 : Int} {a2 : Int} {a3 : Int} (hn_a0 : a0 ≠ 0) {p : Mm} (h : f_Players_learn M a0 a1 a2 a3 = some p) : Rn X d m_Players_learn [(7, a0), (0, a1), (0, a2), (0, a3)] M none p := by
  refine Rn_of (by decide) rfl (Nat.le_of_ble_eq_true rfl) ?_
  unfold f_Players_learn at h
  refine ev_less (L' := [(0, (7, a0)), (1, (0, a1)), (2, (0, a2)), (3, (0, a3))]) [0, 1, 2, 3] rfl ?_
  refine ev_aload_n 0 d_Players_learn_0 rfl (by decide) rfl ?_
  refine ev_get (t := 7) (k := 3) (by decide) (by decide) rfl i_Players (by decide) rfl rfl tw_42 d_Players_learn_1 hn_a0 ?_
  refine ev_iload_n 1 d_Players_learn_4 rfl rfl ?_
  refine ev_bipush d_Players_learn_5 rfl ?_
  refine ev_imul d_Players_learn_7 ?_
  refine ev_iload_n 2 d_Players_learn_8 rfl rfl ?_
  refine ev_iadd d_Players_learn_9 ?_
  refine ev_iload_n 3 d_Players_learn_10 rfl rfl ?_
  obtain ⟨hz1, h⟩ := gx h
  obtain ⟨hg2, h⟩ := gx h
  obtain ⟨M3, hM3, h⟩ := ltx h
  refine ev_iast' d_Players_learn_11 hz1 hg2 hM3 ?_
  cases h
  exact ev_retV d_Players_learn_12 rfl
def j_Players_mark_26 (M : Mm) (y0 : Int) (y1 : Int) : Option (Mm) :=
  lt (mp M (cI y1) 5 y0) (fun M3 =>
  some M3)
theorem cj_Players_mark_26 {X : XX} {d : Nat} (hd : 0 ≤ d) {M : Mm} {y0 : Int} {y1 : Int} (hn_y1 : y1 ≠ 0) {p : Mm} (h : j_Players_mark_26 M y0 y1 = some p) : Ev X m_Players_mark d 26 [] [(0, y0), (7, y1)] M none p := by
  unfold j_Players_mark_26 at h
  obtain ⟨M3, hM3, h⟩ := ltx h
  refine ev_put' (t := 7) (k := 5) (by decide) (by decide) rfl i_Players t_Players_ok n_Players (by decide) rfl rfl rfl rfl tw_46 d_Players_mark_26 hn_y1 hM3 ?_
  cases h
  exact ev_retV d_Players_mark_29 rfl
def f_Players_mark (M : Mm) (a0 : Int) (a1 : Int) (a2 : Int) : Option (Mm) :=
  lt ((bShl 1 a1)) (fun x1 : Int =>
  if a2 = 0 then
  j_Players_mark_26 M ((bAnd (mg M (cI a0) 5) (bXor x1 (-1)))) a0
  else
  j_Players_mark_26 M ((bOr (mg M (cI a0) 5) x1)) a0)
theorem c_Players_mark {X : XX} {d : Nat} (hd : 0 ≤ d) {M : Mm} {a0 : Int} {a1 : Int} {a2 : Int} (hn_a0 : a0 ≠ 0) {p : Mm} (h : f_Players_mark M a0 a1 a2 = some p) : Rn X d m_Players_mark [(7, a0), (0, a1), (0, a2)] M none p := by
  refine Rn_of (by decide) rfl (Nat.le_of_ble_eq_true rfl) ?_
  unfold f_Players_mark at h
  refine ev_less (L' := [(0, (7, a0)), (1, (0, a1)), (2, (0, a2))]) [0, 1, 2] rfl ?_
  refine ev_iconst d_Players_mark_0 rfl ?_
  refine ev_iload_n 1 d_Players_mark_1 rfl rfl ?_
  refine ev_ishl d_Players_mark_2 ?_
  obtain ⟨x1, hx1, h⟩ := ltx h
  refine ev_istore_n' (y := x1) (L' := [(3, (0, x1)), (0, (7, a0)), (1, (0, a1)), (2, (0, a2))]) d_Players_mark_3 rfl (by decide) rfl hx1 ?_
  refine ev_aload_n 1 d_Players_mark_4 rfl (by decide) rfl ?_
  refine ev_iload_n 3 d_Players_mark_5 rfl rfl ?_
  by_cases hc2 : a2 = 0
  · replace h := itp hc2 h
    refine ev_if_eq_t (tgt := 18) d_Players_mark_6 (by decide) hc2 ?_
    refine ev_aload_n 1 d_Players_mark_18 rfl (by decide) rfl ?_
    refine ev_get (t := 7) (k := 5) (by decide) (by decide) rfl i_Players (by decide) rfl rfl tw_46 d_Players_mark_19 hn_a0 ?_
    refine ev_iload_n 0 d_Players_mark_22 rfl rfl ?_
    refine ev_iconst d_Players_mark_23 rfl ?_
    refine ev_ixor d_Players_mark_24 ?_
    refine ev_iand d_Players_mark_25 ?_
    refine ev_less (L' := []) [] rfl ?_
    exact cj_Players_mark_26 hd hn_a0 h
  · replace h := itn hc2 h
    refine ev_if_eq_f d_Players_mark_6 (by decide) hc2 ?_
    refine ev_aload_n 1 d_Players_mark_9 rfl (by decide) rfl ?_
    refine ev_get (t := 7) (k := 5) (by decide) (by decide) rfl i_Players (by decide) rfl rfl tw_46 d_Players_mark_10 hn_a0 ?_
    refine ev_iload_n 0 d_Players_mark_13 rfl rfl ?_
    refine ev_ior d_Players_mark_14 ?_
    refine ev_goto (tgt := 26) d_Players_mark_15 (by decide) ?_
    refine ev_less (L' := []) [] rfl ?_
    exact cj_Players_mark_26 hd hn_a0 h
def f_Players_compete (M : Mm) (a0 : Int) (a1 : Int) : Option (Int × Mm) :=
  if (mg M (cI a0) 2) ≠ 0 then
  if (0 : Int) ≤ a1 ∧ a1 < (ml M (cI (mg M (cI a0) 2)) : Int) then
  if (mg M (cI (mg M (cI a0) 2)) (a1 : Int).toNat) < 1000 then
  lt (mp M (cI (mg M (cI a0) 2)) (a1 : Int).toNat (w32 ((mg M (cI (mg M (cI a0) 2)) (a1 : Int).toNat) + 1))) (fun M4 =>
  if (mg M4 (cI a0) 2) ≠ 0 then
  if (0 : Int) ≤ a1 ∧ a1 < (ml M4 (cI (mg M4 (cI a0) 2)) : Int) then
  some ((mg M4 (cI (mg M4 (cI a0) 2)) (a1 : Int).toNat), M4)
  else none
  else none)
  else
  some ((-1), M)
  else none
  else none
theorem c_Players_compete {X : XX} {d : Nat} (hd : 0 ≤ d) {M : Mm} {a0 : Int} {a1 : Int} (hn_a0 : a0 ≠ 0) {p : Int × Mm} (h : f_Players_compete M a0 a1 = some p) : Rn X d m_Players_compete [(7, a0), (0, a1)] M (some (0, p.1)) p.2 := by
  refine Rn_of (by decide) rfl (Nat.le_of_ble_eq_true rfl) ?_
  unfold f_Players_compete at h
  refine ev_less (L' := [(0, (7, a0)), (1, (0, a1))]) [0, 1] rfl ?_
  refine ev_aload_n 0 d_Players_compete_0 rfl (by decide) rfl ?_
  refine ev_get (t := 7) (k := 2) (by decide) (by decide) rfl i_Players (by decide) rfl rfl tw_40 d_Players_compete_1 hn_a0 ?_
  refine ev_iload_n 1 d_Players_compete_4 rfl rfl ?_
  obtain ⟨hz1, h⟩ := gx h
  obtain ⟨hg2, h⟩ := gx h
  refine ev_iald d_Players_compete_5 hz1 hg2 ?_
  refine ev_sipush d_Players_compete_6 rfl ?_
  by_cases hc3 : (mg M (cI (mg M (cI a0) 2)) (a1 : Int).toNat) < 1000
  · replace h := itp hc3 h
    refine ev_icmp_lt_t (tgt := 14) d_Players_compete_9 (by decide) hc3 ?_
    refine ev_aload_n 0 d_Players_compete_14 rfl (by decide) rfl ?_
    refine ev_get (t := 7) (k := 2) (by decide) (by decide) rfl i_Players (by decide) rfl rfl tw_40 d_Players_compete_15 hn_a0 ?_
    refine ev_iload_n 1 d_Players_compete_18 rfl rfl ?_
    refine ev_dup2 d_Players_compete_19 (Nat.ne_of_beq_eq_false rfl) (Nat.ne_of_beq_eq_false rfl) ?_
    refine ev_iald d_Players_compete_20 hz1 hg2 ?_
    refine ev_iconst d_Players_compete_21 rfl ?_
    refine ev_iadd d_Players_compete_22 ?_
    obtain ⟨M4, hM4, h⟩ := ltx h
    refine ev_iast' d_Players_compete_23 hz1 hg2 hM4 ?_
    refine ev_aload_n 0 d_Players_compete_24 rfl (by decide) rfl ?_
    refine ev_get (t := 7) (k := 2) (by decide) (by decide) rfl i_Players (by decide) rfl rfl tw_40 d_Players_compete_25 hn_a0 ?_
    refine ev_iload_n 1 d_Players_compete_28 rfl rfl ?_
    obtain ⟨hz5, h⟩ := gx h
    obtain ⟨hg6, h⟩ := gx h
    refine ev_iald d_Players_compete_29 hz5 hg6 ?_
    cases h
    exact ev_ret d_Players_compete_30 rfl
  · replace h := itn hc3 h
    refine ev_icmp_lt_f d_Players_compete_9 (by decide) hc3 ?_
    refine ev_iconst d_Players_compete_12 rfl ?_
    cases h
    exact ev_ret d_Players_compete_13 rfl
def l_Players_seatingCost_4 (M : Mm) (a0 : Int) (a1 : Int) (s : Int × Int) : Option ((Int × Int) ⊕ (Int)) :=
  if (mg M (cI a1) 7) ≤ s.2 then
  some (.inr s.1)
  else
  if (mg M (cI a1) 2) ≠ 0 then
  if (0 : Int) ≤ s.2 ∧ s.2 < (ml M (cI (mg M (cI a1) 2)) : Int) then
  lt ((mg M (cI (mg M (cI a1) 2)) (s.2 : Int).toNat)) (fun x4 : Int =>
  (f_Players_has M a0 x4).bind (fun p5 =>
  if p5 = 0 then
  lt (w32 (s.2 + 1)) (fun x7 : Int =>
  some (.inl (s.1, x7)))
  else
  (f_Players_partCost M a0 x4 a1 s.2).bind (fun p8 =>
  lt ((w32 (s.1 + (imax 0 p8)))) (fun x9 : Int =>
  lt (w32 (s.2 + 1)) (fun x10 : Int =>
  some (.inl (x9, x10)))))))
  else none
  else none
theorem cs_l_Players_seatingCost_4 {X : XX} {d : Nat} (hd : 2 ≤ d) {M : Mm} {a0 : Int} {a1 : Int} (hn_a0 : a0 ≠ 0) (hn_a1 : a1 ≠ 0) {s : Int × Int} {x : (Int × Int) ⊕ (Int)} {r : Option AV} {M' : Mm} (h : l_Players_seatingCost_4 M a0 a1 s = some x) (hk1 : ∀ s : Int × Int, x = .inl s → Ev X m_Players_seatingCost d 4 [(0, (7, a0)), (1, (5, a1)), (2, (0, s.1)), (3, (0, s.2))] [] M r M') (hk2 : ∀ t : Int, x = .inr t → Ev X m_Players_seatingCost d 50 [(2, (0, t))] [] M r M') : Ev X m_Players_seatingCost d 4 [(0, (7, a0)), (1, (5, a1)), (2, (0, s.1)), (3, (0, s.2))] [] M r M' := by
  unfold l_Players_seatingCost_4 at h
  refine ev_iload_n 3 d_Players_seatingCost_4 rfl rfl ?_
  refine ev_aload_n 1 d_Players_seatingCost_5 rfl (by decide) rfl ?_
  refine ev_getN (host := "TownBand") (t := 5) (k := 7) (by decide) (by decide) rfl i_Piece (by decide) rfl rfl tw_96 d_Players_seatingCost_6 hn_a1 ?_
  by_cases hc1 : (mg M (cI a1) 7) ≤ s.2
  · replace h := itp hc1 h
    refine ev_icmp_ge_t (tgt := 50) d_Players_seatingCost_9 (by decide) hc1 ?_
    refine ev_less (L' := [(2, (0, s.1))]) [2] rfl ?_
    cases h
    exact hk2 _ rfl
  · replace h := itn hc1 h
    refine ev_icmp_ge_f d_Players_seatingCost_9 (by decide) hc1 ?_
    refine ev_aload_n 1 d_Players_seatingCost_12 rfl (by decide) rfl ?_
    refine ev_getN (host := "TownBand") (t := 5) (k := 2) (by decide) (by decide) rfl i_Piece (by decide) rfl rfl tw_80 d_Players_seatingCost_13 hn_a1 ?_
    refine ev_iload_n 3 d_Players_seatingCost_16 rfl rfl ?_
    obtain ⟨hz2, h⟩ := gx h
    obtain ⟨hg3, h⟩ := gx h
    refine ev_iald d_Players_seatingCost_17 hz2 hg3 ?_
    obtain ⟨x4, hx4, h⟩ := ltx h
    refine ev_istore' (y := x4) (L' := [(4, (0, x4)), (0, (7, a0)), (1, (5, a1)), (2, (0, s.1)), (3, (0, s.2))]) d_Players_seatingCost_18 (by decide) rfl hx4 ?_
    refine ev_aload_n 1 d_Players_seatingCost_20 rfl (by decide) rfl ?_
    refine ev_iload 0 d_Players_seatingCost_21 rfl ?_
    obtain ⟨p5, hp5, h⟩ := bx h
    have hRp5 := c_Players_has (X := X) (d := d - 1) (by omega) hn_a0 hp5
    refine ev_callV2 (st2 := [(0, p5)]) (as := [(0, x4)]) (rest := []) rfl (by decide) (by decide) rfl hn_a0 rfl (Nat.le_of_ble_eq_true rfl) k_Players_has ⟨tw_358, ts_1⟩ (by omega) tw_742 d_Players_seatingCost_23 hRp5 rfl ?_
    by_cases hc6 : p5 = 0
    · replace h := itp hc6 h
      refine ev_if_eq_t (tgt := 44) d_Players_seatingCost_26 (by decide) hc6 ?_
      obtain ⟨x7, hx7, h⟩ := ltx h
      refine ev_iinc' 4 (y := x7) (L' := [(3, (0, x7)), (4, (0, x4)), (0, (7, a0)), (1, (5, a1)), (2, (0, s.1))]) d_Players_seatingCost_44 rfl (by decide) rfl hx7 ?_
      refine ev_goto (tgt := 4) d_Players_seatingCost_47 (by decide) ?_
      refine ev_less (L' := [(0, (7, a0)), (1, (5, a1)), (2, (0, s.1)), (3, (0, x7))]) [2, 3, 4, 0] rfl ?_
      cases h
      exact hk1 _ rfl
    · replace h := itn hc6 h
      refine ev_if_eq_f d_Players_seatingCost_26 (by decide) hc6 ?_
      refine ev_iload_n 3 d_Players_seatingCost_29 rfl rfl ?_
      refine ev_iconst d_Players_seatingCost_30 rfl ?_
      refine ev_aload_n 1 d_Players_seatingCost_31 rfl (by decide) rfl ?_
      refine ev_iload 0 d_Players_seatingCost_32 rfl ?_
      refine ev_aload_n 2 d_Players_seatingCost_34 rfl (by decide) rfl ?_
      refine ev_iload_n 4 d_Players_seatingCost_35 rfl rfl ?_
      obtain ⟨p8, hp8, h⟩ := bx h
      have hRp8 := c_Players_partCost (X := X) (d := d - 1) (by omega) hn_a0 hn_a1 hp8
      refine ev_callV2 (st2 := [(0, p8), (0, 0), (0, s.1)]) (as := [(0, x4), (5, a1), (0, s.2)]) (rest := [(0, 0), (0, s.1)]) rfl (by decide) (by decide) rfl hn_a0 rfl (Nat.le_of_ble_eq_true rfl) k_Players_partCost ⟨tw_634, ts_40⟩ (by omega) tw_632 d_Players_seatingCost_36 hRp8 rfl ?_
      refine ev_mmax (Nat.le_of_ble_eq_true rfl) (by omega) tw_743 tw_744 tw_18 tw_745 d_Players_seatingCost_39 ?_
      refine ev_iadd d_Players_seatingCost_42 ?_
      obtain ⟨x9, hx9, h⟩ := ltx h
      refine ev_istore_n' (y := x9) (L' := [(2, (0, x9)), (4, (0, x4)), (0, (7, a0)), (1, (5, a1)), (3, (0, s.2))]) d_Players_seatingCost_43 rfl (by decide) rfl hx9 ?_
      obtain ⟨x10, hx10, h⟩ := ltx h
      refine ev_iinc' 4 (y := x10) (L' := [(3, (0, x10)), (2, (0, x9)), (4, (0, x4)), (0, (7, a0)), (1, (5, a1))]) d_Players_seatingCost_44 rfl (by decide) rfl hx10 ?_
      refine ev_goto (tgt := 4) d_Players_seatingCost_47 (by decide) ?_
      refine ev_less (L' := [(0, (7, a0)), (1, (5, a1)), (2, (0, x9)), (3, (0, x10))]) [3, 4, 1, 0] rfl ?_
      cases h
      exact hk1 _ rfl
def f_Players_seatingCost (M : Mm) (a0 : Int) (a1 : Int) : Option (Int) :=
  (loopN (l_Players_seatingCost_4 M a0 a1) FU (0, 0)).bind (fun t11 =>
  some t11)
theorem c_Players_seatingCost {X : XX} {d : Nat} (hd : 2 ≤ d) {M : Mm} {a0 : Int} {a1 : Int} (hn_a0 : a0 ≠ 0) (hn_a1 : a1 ≠ 0) {p : Int} (h : f_Players_seatingCost M a0 a1 = some p) : Rn X d m_Players_seatingCost [(7, a0), (5, a1)] M (some (0, p)) M := by
  refine Rn_of (by decide) rfl (Nat.le_of_ble_eq_true rfl) ?_
  unfold f_Players_seatingCost at h
  refine ev_less (L' := [(0, (7, a0)), (1, (5, a1))]) [0, 1] rfl ?_
  refine ev_iconst d_Players_seatingCost_0 rfl ?_
  refine ev_istore_n (L' := [(2, (0, 0)), (0, (7, a0)), (1, (5, a1))]) d_Players_seatingCost_1 rfl (by decide) rfl ?_
  refine ev_iconst d_Players_seatingCost_2 rfl ?_
  refine ev_istore_n (L' := [(3, (0, 0)), (2, (0, 0)), (0, (7, a0)), (1, (5, a1))]) d_Players_seatingCost_3 rfl (by decide) rfl ?_
  obtain ⟨t11, ht11, h⟩ := bx h
  refine ev_less (L' := [(0, (7, a0)), (1, (5, a1)), (2, (0, 0)), (3, (0, 0))]) [2, 3, 1, 0] rfl ?_
  refine loop_ev (step := l_Players_seatingCost_4 M a0 a1) (P := fun w : Int × Int => Ev X m_Players_seatingCost d 4 [(0, (7, a0)), (1, (5, a1)), (2, (0, w.1)), (3, (0, w.2))] [] M (some (0, p)) M) (Q := fun w => Ev X m_Players_seatingCost d 50 [(2, (0, w))] [] M (some (0, p)) M) (fun w x hs k1 k2 => cs_l_Players_seatingCost_4 hd hn_a0 hn_a1 hs k1 k2) FU (0, 0) t11 ht11 ?_
  refine ev_iload_n 0 d_Players_seatingCost_50 rfl rfl ?_
  cases h
  exact ev_ret d_Players_seatingCost_51 rfl
end
