noncomputable section
def l_Model_sumOf_4 (M : Mm) (a0 : Int) (a1 : Int) (s : Int × Int) : Option ((Int × Int) ⊕ (Int)) :=
  if (mg M (cI a0) 7) ≤ s.2 then
  some (.inr s.1)
  else
  if (bAnd (bShr a1 s.2) 1) ≠ 1 then
  lt (w32 (s.2 + 1)) (fun x3 : Int =>
  some (.inl (s.1, x3)))
  else
  if (mg M (cI a0) 9) ≠ 0 then
  if (0 : Int) ≤ s.2 ∧ s.2 < (ml M (cI (mg M (cI a0) 9)) : Int) then
  lt ((w32 (s.1 + (mg M (cI (mg M (cI a0) 9)) (s.2 : Int).toNat)))) (fun x6 : Int =>
  lt (w32 (s.2 + 1)) (fun x7 : Int =>
  some (.inl (x6, x7))))
  else none
  else none
theorem cs_l_Model_sumOf_4 {X : XX} {d : Nat} (hd : 0 ≤ d) {M : Mm} {a0 : Int} {a1 : Int} (hn_a0 : a0 ≠ 0) {s : Int × Int} {x : (Int × Int) ⊕ (Int)} {r : Option AV} {M' : Mm} (h : l_Model_sumOf_4 M a0 a1 s = some x) (hk1 : ∀ s : Int × Int, x = .inl s → Ev X m_Model_sumOf d 4 [(0, (12, a0)), (1, (0, a1)), (2, (0, s.1)), (3, (0, s.2))] [] M r M') (hk2 : ∀ t : Int, x = .inr t → Ev X m_Model_sumOf d 36 [(2, (0, t))] [] M r M') : Ev X m_Model_sumOf d 4 [(0, (12, a0)), (1, (0, a1)), (2, (0, s.1)), (3, (0, s.2))] [] M r M' := by
  unfold l_Model_sumOf_4 at h
  refine ev_iload_n 3 d_Model_sumOf_4 rfl rfl ?_
  refine ev_aload_n 0 d_Model_sumOf_5 rfl (by decide) rfl ?_
  refine ev_get (t := 12) (k := 7) (by decide) (by decide) rfl i_Model (by decide) rfl rfl tw_907 d_Model_sumOf_6 hn_a0 ?_
  by_cases hc1 : (mg M (cI a0) 7) ≤ s.2
  · replace h := itp hc1 h
    refine ev_icmp_ge_t (tgt := 36) d_Model_sumOf_9 (by decide) hc1 ?_
    refine ev_less (L' := [(2, (0, s.1))]) [2] rfl ?_
    cases h
    exact hk2 _ rfl
  · replace h := itn hc1 h
    refine ev_icmp_ge_f d_Model_sumOf_9 (by decide) hc1 ?_
    refine ev_iload_n 1 d_Model_sumOf_12 rfl rfl ?_
    refine ev_iload_n 3 d_Model_sumOf_13 rfl rfl ?_
    refine ev_ishr d_Model_sumOf_14 ?_
    refine ev_iconst d_Model_sumOf_15 rfl ?_
    refine ev_iand d_Model_sumOf_16 ?_
    refine ev_iconst d_Model_sumOf_17 rfl ?_
    by_cases hc2 : (bAnd (bShr a1 s.2) 1) ≠ 1
    · replace h := itp hc2 h
      refine ev_icmp_ne_t (tgt := 30) d_Model_sumOf_18 (by decide) hc2 ?_
      obtain ⟨x3, hx3, h⟩ := ltx h
      refine ev_iinc' 3 (y := x3) (L' := [(3, (0, x3)), (0, (12, a0)), (1, (0, a1)), (2, (0, s.1))]) d_Model_sumOf_30 rfl (by decide) rfl hx3 ?_
      refine ev_goto (tgt := 4) d_Model_sumOf_33 (by decide) ?_
      refine ev_less (L' := [(0, (12, a0)), (1, (0, a1)), (2, (0, s.1)), (3, (0, x3))]) [1, 2, 3, 0] rfl ?_
      cases h
      exact hk1 _ rfl
    · replace h := itn hc2 h
      refine ev_icmp_ne_f d_Model_sumOf_18 (by decide) hc2 ?_
      refine ev_iload_n 2 d_Model_sumOf_21 rfl rfl ?_
      refine ev_aload_n 0 d_Model_sumOf_22 rfl (by decide) rfl ?_
      refine ev_get (t := 12) (k := 9) (by decide) (by decide) rfl i_Model (by decide) rfl rfl tw_909 d_Model_sumOf_23 hn_a0 ?_
      refine ev_iload_n 3 d_Model_sumOf_26 rfl rfl ?_
      obtain ⟨hz4, h⟩ := gx h
      obtain ⟨hg5, h⟩ := gx h
      refine ev_iald d_Model_sumOf_27 hz4 hg5 ?_
      refine ev_iadd d_Model_sumOf_28 ?_
      obtain ⟨x6, hx6, h⟩ := ltx h
      refine ev_istore_n' (y := x6) (L' := [(2, (0, x6)), (0, (12, a0)), (1, (0, a1)), (3, (0, s.2))]) d_Model_sumOf_29 rfl (by decide) rfl hx6 ?_
      obtain ⟨x7, hx7, h⟩ := ltx h
      refine ev_iinc' 3 (y := x7) (L' := [(3, (0, x7)), (2, (0, x6)), (0, (12, a0)), (1, (0, a1))]) d_Model_sumOf_30 rfl (by decide) rfl hx7 ?_
      refine ev_goto (tgt := 4) d_Model_sumOf_33 (by decide) ?_
      refine ev_less (L' := [(0, (12, a0)), (1, (0, a1)), (2, (0, x6)), (3, (0, x7))]) [2, 3, 1, 0] rfl ?_
      cases h
      exact hk1 _ rfl
def f_Model_sumOf (M : Mm) (a0 : Int) (a1 : Int) : Option (Int) :=
  (loopN (l_Model_sumOf_4 M a0 a1) FU (0, 0)).bind (fun t8 =>
  some t8)
theorem c_Model_sumOf {X : XX} {d : Nat} (hd : 0 ≤ d) {M : Mm} {a0 : Int} {a1 : Int} (hn_a0 : a0 ≠ 0) {p : Int} (h : f_Model_sumOf M a0 a1 = some p) : Rn X d m_Model_sumOf [(12, a0), (0, a1)] M (some (0, p)) M := by
  refine Rn_of (by decide) rfl (Nat.le_of_ble_eq_true rfl) ?_
  unfold f_Model_sumOf at h
  refine ev_less (L' := [(0, (12, a0)), (1, (0, a1))]) [0, 1] rfl ?_
  refine ev_iconst d_Model_sumOf_0 rfl ?_
  refine ev_istore_n (L' := [(2, (0, 0)), (0, (12, a0)), (1, (0, a1))]) d_Model_sumOf_1 rfl (by decide) rfl ?_
  refine ev_iconst d_Model_sumOf_2 rfl ?_
  refine ev_istore_n (L' := [(3, (0, 0)), (2, (0, 0)), (0, (12, a0)), (1, (0, a1))]) d_Model_sumOf_3 rfl (by decide) rfl ?_
  obtain ⟨t8, ht8, h⟩ := bx h
  refine ev_less (L' := [(0, (12, a0)), (1, (0, a1)), (2, (0, 0)), (3, (0, 0))]) [2, 3, 1, 0] rfl ?_
  refine loop_ev (step := l_Model_sumOf_4 M a0 a1) (P := fun w : Int × Int => Ev X m_Model_sumOf d 4 [(0, (12, a0)), (1, (0, a1)), (2, (0, w.1)), (3, (0, w.2))] [] M (some (0, p)) M) (Q := fun w => Ev X m_Model_sumOf d 36 [(2, (0, w))] [] M (some (0, p)) M) (fun w x hs k1 k2 => cs_l_Model_sumOf_4 hd hn_a0 hs k1 k2) FU (0, 0) t8 ht8 ?_
  refine ev_iload_n 0 d_Model_sumOf_36 rfl rfl ?_
  cases h
  exact ev_ret d_Model_sumOf_37 rfl
def j_Model_strainOf_44 (M : Mm) (y0 : Int) : Option (Int) :=
  if y0 ≤ 6 then
  some y0
  else
  some (w32 (12 - y0))
theorem cj_Model_strainOf_44 {X : XX} {d : Nat} (hd : 0 ≤ d) {M : Mm} {y0 : Int} {p : Int} (h : j_Model_strainOf_44 M y0 = some p) : Ev X m_Model_strainOf d 44 [] [(0, y0)] M (some (0, p)) M := by
  unfold j_Model_strainOf_44 at h
  refine ev_istore_n (L' := [(3, (0, y0))]) d_Model_strainOf_44 rfl (by decide) rfl ?_
  refine ev_iload_n 0 d_Model_strainOf_45 rfl rfl ?_
  refine ev_bipush d_Model_strainOf_46 rfl ?_
  by_cases hc5 : y0 ≤ 6
  · replace h := itp hc5 h
    refine ev_icmp_le_t (tgt := 58) d_Model_strainOf_48 (by decide) hc5 ?_
    refine ev_iload_n 0 d_Model_strainOf_58 rfl rfl ?_
    cases h
    exact ev_ret d_Model_strainOf_59 rfl
  · replace h := itn hc5 h
    refine ev_icmp_le_f d_Model_strainOf_48 (by decide) hc5 ?_
    refine ev_bipush d_Model_strainOf_51 rfl ?_
    refine ev_iload_n 0 d_Model_strainOf_53 rfl rfl ?_
    refine ev_isub d_Model_strainOf_54 ?_
    refine ev_goto (tgt := 59) d_Model_strainOf_55 (by decide) ?_
    cases h
    exact ev_ret d_Model_strainOf_59 rfl
def f_Model_strainOf (M : Mm) (a0 : Int) (a1 : Int) (a2 : Int) : Option (Int) :=
  if (mg M (cI a0) 11) ≠ 0 then
  if (0 : Int) ≤ a1 ∧ a1 < (ml M (cI (mg M (cI a0) 11)) : Int) then
  if (0 : Int) ≤ a2 ∧ a2 < (ml M (cI (mg M (cI a0) 11)) : Int) then
  if (mg M (cI (mg M (cI a0) 11)) (a2 : Int).toNat) ≤ (mg M (cI (mg M (cI a0) 11)) (a1 : Int).toNat) then
  j_Model_strainOf_44 M ((w32 ((mg M (cI (mg M (cI a0) 11)) (a1 : Int).toNat) - (mg M (cI (mg M (cI a0) 11)) (a2 : Int).toNat))))
  else
  j_Model_strainOf_44 M ((w32 ((mg M (cI (mg M (cI a0) 11)) (a2 : Int).toNat) - (mg M (cI (mg M (cI a0) 11)) (a1 : Int).toNat))))
  else none
  else none
  else none
theorem c_Model_strainOf {X : XX} {d : Nat} (hd : 0 ≤ d) {M : Mm} {a0 : Int} {a1 : Int} {a2 : Int} (hn_a0 : a0 ≠ 0) {p : Int} (h : f_Model_strainOf M a0 a1 a2 = some p) : Rn X d m_Model_strainOf [(12, a0), (0, a1), (0, a2)] M (some (0, p)) M := by
  refine Rn_of (by decide) rfl (Nat.le_of_ble_eq_true rfl) ?_
  unfold f_Model_strainOf at h
  refine ev_less (L' := [(0, (12, a0)), (1, (0, a1)), (2, (0, a2))]) [0, 1, 2] rfl ?_
  refine ev_aload_n 0 d_Model_strainOf_0 rfl (by decide) rfl ?_
  refine ev_get (t := 12) (k := 11) (by decide) (by decide) rfl i_Model (by decide) rfl rfl tw_911 d_Model_strainOf_1 hn_a0 ?_
  refine ev_iload_n 1 d_Model_strainOf_4 rfl rfl ?_
  obtain ⟨hz1, h⟩ := gx h
  obtain ⟨hg2, h⟩ := gx h
  refine ev_iald d_Model_strainOf_5 hz1 hg2 ?_
  refine ev_aload_n 0 d_Model_strainOf_6 rfl (by decide) rfl ?_
  refine ev_get (t := 12) (k := 11) (by decide) (by decide) rfl i_Model (by decide) rfl rfl tw_911 d_Model_strainOf_7 hn_a0 ?_
  refine ev_iload_n 2 d_Model_strainOf_10 rfl rfl ?_
  obtain ⟨hg3, h⟩ := gx h
  refine ev_iald d_Model_strainOf_11 hz1 hg3 ?_
  by_cases hc4 : (mg M (cI (mg M (cI a0) 11)) (a2 : Int).toNat) ≤ (mg M (cI (mg M (cI a0) 11)) (a1 : Int).toNat)
  · replace h := itp hc4 h
    refine ev_icmp_ge_t (tgt := 31) d_Model_strainOf_12 (by decide) hc4 ?_
    refine ev_aload_n 0 d_Model_strainOf_31 rfl (by decide) rfl ?_
    refine ev_get (t := 12) (k := 11) (by decide) (by decide) rfl i_Model (by decide) rfl rfl tw_911 d_Model_strainOf_32 hn_a0 ?_
    refine ev_iload_n 1 d_Model_strainOf_35 rfl rfl ?_
    refine ev_iald d_Model_strainOf_36 hz1 hg2 ?_
    refine ev_aload_n 0 d_Model_strainOf_37 rfl (by decide) rfl ?_
    refine ev_get (t := 12) (k := 11) (by decide) (by decide) rfl i_Model (by decide) rfl rfl tw_911 d_Model_strainOf_38 hn_a0 ?_
    refine ev_iload_n 2 d_Model_strainOf_41 rfl rfl ?_
    refine ev_iald d_Model_strainOf_42 hz1 hg3 ?_
    refine ev_isub d_Model_strainOf_43 ?_
    refine ev_less (L' := []) [] rfl ?_
    exact cj_Model_strainOf_44 hd h
  · replace h := itn hc4 h
    refine ev_icmp_ge_f d_Model_strainOf_12 (by decide) hc4 ?_
    refine ev_aload_n 0 d_Model_strainOf_15 rfl (by decide) rfl ?_
    refine ev_get (t := 12) (k := 11) (by decide) (by decide) rfl i_Model (by decide) rfl rfl tw_911 d_Model_strainOf_16 hn_a0 ?_
    refine ev_iload_n 2 d_Model_strainOf_19 rfl rfl ?_
    refine ev_iald d_Model_strainOf_20 hz1 hg3 ?_
    refine ev_aload_n 0 d_Model_strainOf_21 rfl (by decide) rfl ?_
    refine ev_get (t := 12) (k := 11) (by decide) (by decide) rfl i_Model (by decide) rfl rfl tw_911 d_Model_strainOf_22 hn_a0 ?_
    refine ev_iload_n 1 d_Model_strainOf_25 rfl rfl ?_
    refine ev_iald d_Model_strainOf_26 hz1 hg2 ?_
    refine ev_isub d_Model_strainOf_27 ?_
    refine ev_goto (tgt := 44) d_Model_strainOf_28 (by decide) ?_
    refine ev_less (L' := []) [] rfl ?_
    exact cj_Model_strainOf_44 hd h
def f_Model_goes (M : Mm) (a0 : Int) (a1 : Int) (a2 : Int) (a3 : Int) (a4 : Int) : Option (Int) :=
  if (bAnd (bShr a1 a3) 1) ≠ 0 then
  some 0
  else
  if (mg M (cI a0) 23) ≠ 0 then
  if (0 : Int) ≤ a3 ∧ a3 < (ml M (cI (mg M (cI a0) 23)) : Int) then
  if (mg M (cI (mg M (cI a0) 23)) (a3 : Int).toNat) = 0 then
  some 0
  else
  if a1 = 0 then
  some 1
  else
  if (mg M (cI a0) 10) ≠ 0 then
  if (0 : Int) ≤ a2 ∧ a2 < (ml M (cI (mg M (cI a0) 10)) : Int) then
  if (0 : Int) ≤ a3 ∧ a3 < (ml M (cI (mg M (cI a0) 10)) : Int) then
  if a4 < (w32 ((mg M (cI (mg M (cI a0) 10)) (a2 : Int).toNat) + (mg M (cI (mg M (cI a0) 10)) (a3 : Int).toNat))) then
  some 0
  else
  some 1
  else none
  else none
  else none
  else none
  else none
theorem c_Model_goes {X : XX} {d : Nat} (hd : 0 ≤ d) {M : Mm} {a0 : Int} {a1 : Int} {a2 : Int} {a3 : Int} {a4 : Int} (hn_a0 : a0 ≠ 0) {p : Int} (h : f_Model_goes M a0 a1 a2 a3 a4 = some p) : Rn X d m_Model_goes [(12, a0), (0, a1), (0, a2), (0, a3), (0, a4)] M (some (0, p)) M := by
  refine Rn_of (by decide) rfl (Nat.le_of_ble_eq_true rfl) ?_
  unfold f_Model_goes at h
  refine ev_less (L' := [(0, (12, a0)), (1, (0, a1)), (2, (0, a2)), (3, (0, a3)), (4, (0, a4))]) [0, 1, 2, 3, 4] rfl ?_
  refine ev_iload_n 1 d_Model_goes_0 rfl rfl ?_
  refine ev_iload_n 3 d_Model_goes_1 rfl rfl ?_
  refine ev_ishr d_Model_goes_2 ?_
  refine ev_iconst d_Model_goes_3 rfl ?_
  refine ev_iand d_Model_goes_4 ?_
  by_cases hc1 : (bAnd (bShr a1 a3) 1) ≠ 0
  · replace h := itp hc1 h
    refine ev_if_ne_t (tgt := 43) d_Model_goes_5 (by decide) hc1 ?_
    refine ev_iconst d_Model_goes_43 rfl ?_
    cases h
    exact ev_retZ d_Model_goes_44 rfl (Or.inl rfl)
  · replace h := itn hc1 h
    refine ev_if_ne_f d_Model_goes_5 (by decide) hc1 ?_
    refine ev_aload_n 0 d_Model_goes_8 rfl (by decide) rfl ?_
    refine ev_get (t := 12) (k := 23) (by decide) (by decide) rfl i_Model (by decide) rfl rfl tw_923 d_Model_goes_9 hn_a0 ?_
    refine ev_iload_n 3 d_Model_goes_12 rfl rfl ?_
    obtain ⟨hz2, h⟩ := gx h
    obtain ⟨hg3, h⟩ := gx h
    refine ev_zald d_Model_goes_13 hz2 hg3 ?_
    by_cases hc4 : (mg M (cI (mg M (cI a0) 23)) (a3 : Int).toNat) = 0
    · replace h := itp hc4 h
      refine ev_if_eq_t (tgt := 43) d_Model_goes_14 (by decide) hc4 ?_
      refine ev_iconst d_Model_goes_43 rfl ?_
      cases h
      exact ev_retZ d_Model_goes_44 rfl (Or.inl rfl)
    · replace h := itn hc4 h
      refine ev_if_eq_f d_Model_goes_14 (by decide) hc4 ?_
      refine ev_iload_n 1 d_Model_goes_17 rfl rfl ?_
      by_cases hc5 : a1 = 0
      · replace h := itp hc5 h
        refine ev_if_eq_t (tgt := 39) d_Model_goes_18 (by decide) hc5 ?_
        refine ev_iconst d_Model_goes_39 rfl ?_
        refine ev_goto (tgt := 44) d_Model_goes_40 (by decide) ?_
        cases h
        exact ev_retZ d_Model_goes_44 rfl (Or.inr rfl)
      · replace h := itn hc5 h
        refine ev_if_eq_f d_Model_goes_18 (by decide) hc5 ?_
        refine ev_aload_n 0 d_Model_goes_21 rfl (by decide) rfl ?_
        refine ev_get (t := 12) (k := 10) (by decide) (by decide) rfl i_Model (by decide) rfl rfl tw_910 d_Model_goes_22 hn_a0 ?_
        refine ev_iload_n 2 d_Model_goes_25 rfl rfl ?_
        obtain ⟨hz6, h⟩ := gx h
        obtain ⟨hg7, h⟩ := gx h
        refine ev_iald d_Model_goes_26 hz6 hg7 ?_
        refine ev_aload_n 0 d_Model_goes_27 rfl (by decide) rfl ?_
        refine ev_get (t := 12) (k := 10) (by decide) (by decide) rfl i_Model (by decide) rfl rfl tw_910 d_Model_goes_28 hn_a0 ?_
        refine ev_iload_n 3 d_Model_goes_31 rfl rfl ?_
        obtain ⟨hg8, h⟩ := gx h
        refine ev_iald d_Model_goes_32 hz6 hg8 ?_
        refine ev_iadd d_Model_goes_33 ?_
        refine ev_iload 4 d_Model_goes_34 rfl ?_
        by_cases hc9 : a4 < (w32 ((mg M (cI (mg M (cI a0) 10)) (a2 : Int).toNat) + (mg M (cI (mg M (cI a0) 10)) (a3 : Int).toNat)))
        · replace h := itp hc9 h
          refine ev_icmp_gt_t (tgt := 43) d_Model_goes_36 (by decide) hc9 ?_
          refine ev_iconst d_Model_goes_43 rfl ?_
          cases h
          exact ev_retZ d_Model_goes_44 rfl (Or.inl rfl)
        · replace h := itn hc9 h
          refine ev_icmp_gt_f d_Model_goes_36 (by decide) hc9 ?_
          refine ev_iconst d_Model_goes_39 rfl ?_
          refine ev_goto (tgt := 44) d_Model_goes_40 (by decide) ?_
          cases h
          exact ev_retZ d_Model_goes_44 rfl (Or.inr rfl)
def j_Model_programme_67_38 (M : Mm) (a0 : Int) (a1 : Int) (a2 : Int) (z3 : Int) (z4 : Int) (y0 : Int) (y1 : Int) (y2 : Int) : Option ((Int × Mm) ⊕ (Mm)) :=
  if y2 ≠ 0 then
  if y0 = 0 ∨ y0 = 1 then
  if (0 : Int) ≤ y1 ∧ y1 < (ml M (cI y2) : Int) then
  lt (mp M (cI y2) (y1 : Int).toNat y0) (fun M13 =>
  lt (w32 (z4 + 1)) (fun x14 : Int =>
  some (.inl (x14, M13))))
  else none
  else none
  else none
theorem cj_Model_programme_67_38 {X : XX} {d : Nat} (hd : 2 ≤ d) {M : Mm} {a0 : Int} {a1 : Int} {a2 : Int} {z3 : Int} {z4 : Int} {y0 : Int} {y1 : Int} {y2 : Int} (hn_a0 : a0 ≠ 0) {x : (Int × Mm) ⊕ (Mm)} {r : Option AV} {M' : Mm} (h : j_Model_programme_67_38 M a0 a1 a2 z3 z4 y0 y1 y2 = some x) (hk1 : ∀ s : Int × Mm, x = .inl s → Ev X m_Model_programme d 38 [(0, (12, a0)), (1, (0, a1)), (2, (0, a2)), (3, (0, z3)), (4, (0, s.1))] [] s.2 r M') (hk2 : ∀ t : Mm, x = .inr t → Ev X m_Model_programme d 74 [(0, (12, a0)), (1, (0, a1)), (2, (0, a2)), (3, (0, z3))] [] t r M') : Ev X m_Model_programme d 67 [(0, (12, a0)), (1, (0, a1)), (2, (0, a2)), (3, (0, z3)), (4, (0, z4))] [(0, y0), (0, y1), (15, y2)] M r M' := by
  unfold j_Model_programme_67_38 at h
  obtain ⟨hz10, h⟩ := gx h
  obtain ⟨hb11, h⟩ := gx h
  obtain ⟨hg12, h⟩ := gx h
  obtain ⟨M13, hM13, h⟩ := ltx h
  refine ev_zast' d_Model_programme_67 hz10 hg12 hb11 hM13 ?_
  obtain ⟨x14, hx14, h⟩ := ltx h
  refine ev_iinc' 4 (y := x14) (L' := [(4, (0, x14)), (0, (12, a0)), (1, (0, a1)), (2, (0, a2)), (3, (0, z3))]) d_Model_programme_68 rfl (by decide) rfl hx14 ?_
  refine ev_goto (tgt := 38) d_Model_programme_71 (by decide) ?_
  refine ev_less (L' := [(0, (12, a0)), (1, (0, a1)), (2, (0, a2)), (3, (0, z3)), (4, (0, x14))]) [1, 2, 3, 4, 0] rfl ?_
  cases h
  exact hk1 _ rfl
def l_Model_programme_38 (a0 : Int) (a1 : Int) (a2 : Int) (z3 : Int) (s : Int × Mm) : Option ((Int × Mm) ⊕ (Mm)) :=
  if (mg s.2 (cI a0) 7) ≤ s.1 then
  some (.inr s.2)
  else
  (f_Model_lacking s.2 a0 s.1).bind (fun p8 =>
  if p8 ≠ 0 then
  j_Model_programme_67_38 s.2 a0 a1 a2 z3 s.1 0 s.1 ((mg s.2 (cI a0) 23))
  else
  j_Model_programme_67_38 s.2 a0 a1 a2 z3 s.1 1 s.1 ((mg s.2 (cI a0) 23)))
theorem cs_l_Model_programme_38 {X : XX} {d : Nat} (hd : 2 ≤ d) {a0 : Int} {a1 : Int} {a2 : Int} {z3 : Int} (hn_a0 : a0 ≠ 0) {s : Int × Mm} {x : (Int × Mm) ⊕ (Mm)} {r : Option AV} {M' : Mm} (h : l_Model_programme_38 a0 a1 a2 z3 s = some x) (hk1 : ∀ s : Int × Mm, x = .inl s → Ev X m_Model_programme d 38 [(0, (12, a0)), (1, (0, a1)), (2, (0, a2)), (3, (0, z3)), (4, (0, s.1))] [] s.2 r M') (hk2 : ∀ t : Mm, x = .inr t → Ev X m_Model_programme d 74 [(0, (12, a0)), (1, (0, a1)), (2, (0, a2)), (3, (0, z3))] [] t r M') : Ev X m_Model_programme d 38 [(0, (12, a0)), (1, (0, a1)), (2, (0, a2)), (3, (0, z3)), (4, (0, s.1))] [] s.2 r M' := by
  unfold l_Model_programme_38 at h
  refine ev_iload 4 d_Model_programme_38 rfl ?_
  refine ev_aload_n 0 d_Model_programme_40 rfl (by decide) rfl ?_
  refine ev_get (t := 12) (k := 7) (by decide) (by decide) rfl i_Model (by decide) rfl rfl tw_907 d_Model_programme_41 hn_a0 ?_
  by_cases hc7 : (mg s.2 (cI a0) 7) ≤ s.1
  · replace h := itp hc7 h
    refine ev_icmp_ge_t (tgt := 74) d_Model_programme_44 (by decide) hc7 ?_
    refine ev_less (L' := [(0, (12, a0)), (1, (0, a1)), (2, (0, a2)), (3, (0, z3))]) [0, 1, 2, 3] rfl ?_
    cases h
    exact hk2 _ rfl
  · replace h := itn hc7 h
    refine ev_icmp_ge_f d_Model_programme_44 (by decide) hc7 ?_
    refine ev_aload_n 0 d_Model_programme_47 rfl (by decide) rfl ?_
    refine ev_get (t := 12) (k := 23) (by decide) (by decide) rfl i_Model (by decide) rfl rfl tw_923 d_Model_programme_48 hn_a0 ?_
    refine ev_iload 4 d_Model_programme_51 rfl ?_
    refine ev_aload_n 0 d_Model_programme_53 rfl (by decide) rfl ?_
    refine ev_iload 4 d_Model_programme_54 rfl ?_
    obtain ⟨p8, hp8, h⟩ := bx h
    have hRp8 := c_Model_lacking (X := X) (d := d - 1) (by omega) hn_a0 hp8
    refine ev_callV2 (st2 := [(0, p8), (0, s.1), (15, (mg s.2 (cI a0) 23))]) (as := [(0, s.1)]) (rest := [(0, s.1), (15, (mg s.2 (cI a0) 23))]) rfl (by decide) (by decide) rfl hn_a0 rfl (Nat.le_of_ble_eq_true rfl) k_Model_lacking ⟨tw_1084, ts_80⟩ (by omega) tw_1082 d_Model_programme_56 hRp8 rfl ?_
    by_cases hc9 : p8 ≠ 0
    · replace h := itp hc9 h
      refine ev_if_ne_t (tgt := 66) d_Model_programme_59 (by decide) hc9 ?_
      refine ev_iconst d_Model_programme_66 rfl ?_
      exact cj_Model_programme_67_38 hd hn_a0 h hk1 hk2
    · replace h := itn hc9 h
      refine ev_if_ne_f d_Model_programme_59 (by decide) hc9 ?_
      refine ev_iconst d_Model_programme_62 rfl ?_
      refine ev_goto (tgt := 67) d_Model_programme_63 (by decide) ?_
      exact cj_Model_programme_67_38 hd hn_a0 h hk1 hk2
def l_Model_programme_77 (a0 : Int) (a1 : Int) (a2 : Int) (z3 : Int) (s : Int × Mm) : Option ((Int × Mm) ⊕ (Mm)) :=
  if 10240 ≤ s.1 then
  some (.inr s.2)
  else
  if (mg s.2 (cI a0) 22) ≠ 0 then
  if (0 : Int) ≤ s.1 ∧ s.1 < (ml s.2 (cI (mg s.2 (cI a0) 22)) : Int) then
  lt (mp s.2 (cI (mg s.2 (cI a0) 22)) (s.1 : Int).toNat 0) (fun M19 =>
  lt (w32 (s.1 + 1)) (fun x20 : Int =>
  some (.inl (x20, M19))))
  else none
  else none
theorem cs_l_Model_programme_77 {X : XX} {d : Nat} (hd : 2 ≤ d) {a0 : Int} {a1 : Int} {a2 : Int} {z3 : Int} (hn_a0 : a0 ≠ 0) {s : Int × Mm} {x : (Int × Mm) ⊕ (Mm)} {r : Option AV} {M' : Mm} (h : l_Model_programme_77 a0 a1 a2 z3 s = some x) (hk1 : ∀ s : Int × Mm, x = .inl s → Ev X m_Model_programme d 77 [(0, (12, a0)), (1, (0, a1)), (2, (0, a2)), (3, (0, z3)), (4, (0, s.1))] [] s.2 r M') (hk2 : ∀ t : Mm, x = .inr t → Ev X m_Model_programme d 99 [(0, (12, a0)), (1, (0, a1)), (2, (0, a2)), (3, (0, z3))] [] t r M') : Ev X m_Model_programme d 77 [(0, (12, a0)), (1, (0, a1)), (2, (0, a2)), (3, (0, z3)), (4, (0, s.1))] [] s.2 r M' := by
  unfold l_Model_programme_77 at h
  refine ev_iload 4 d_Model_programme_77 rfl ?_
  refine ev_sipush d_Model_programme_79 rfl ?_
  by_cases hc16 : 10240 ≤ s.1
  · replace h := itp hc16 h
    refine ev_icmp_ge_t (tgt := 99) d_Model_programme_82 (by decide) hc16 ?_
    refine ev_less (L' := [(0, (12, a0)), (1, (0, a1)), (2, (0, a2)), (3, (0, z3))]) [0, 1, 2, 3] rfl ?_
    cases h
    exact hk2 _ rfl
  · replace h := itn hc16 h
    refine ev_icmp_ge_f d_Model_programme_82 (by decide) hc16 ?_
    refine ev_aload_n 0 d_Model_programme_85 rfl (by decide) rfl ?_
    refine ev_get (t := 12) (k := 22) (by decide) (by decide) rfl i_Model (by decide) rfl rfl tw_922 d_Model_programme_86 hn_a0 ?_
    refine ev_iload 4 d_Model_programme_89 rfl ?_
    refine ev_iconst d_Model_programme_91 rfl ?_
    obtain ⟨hz17, h⟩ := gx h
    obtain ⟨hg18, h⟩ := gx h
    obtain ⟨M19, hM19, h⟩ := ltx h
    refine ev_zast' d_Model_programme_92 hz17 hg18 (Or.inl rfl) hM19 ?_
    obtain ⟨x20, hx20, h⟩ := ltx h
    refine ev_iinc' 4 (y := x20) (L' := [(4, (0, x20)), (0, (12, a0)), (1, (0, a1)), (2, (0, a2)), (3, (0, z3))]) d_Model_programme_93 rfl (by decide) rfl hx20 ?_
    refine ev_goto (tgt := 77) d_Model_programme_96 (by decide) ?_
    refine ev_less (L' := [(0, (12, a0)), (1, (0, a1)), (2, (0, a2)), (3, (0, z3)), (4, (0, x20))]) [1, 2, 3, 4, 0] rfl ?_
    cases h
    exact hk1 _ rfl
def l_Model_programme_169 (a0 : Int) (a1 : Int) (a2 : Int) (z3 : Int) (z4 : Int) (z5 : Int) (z6 : Int) (s : Int × Mm) : Option ((Int × Mm) ⊕ (Mm)) :=
  if (mg s.2 (cI a0) 7) ≤ s.1 then
  some (.inr s.2)
  else
  (f_Model_goes s.2 a0 z5 z6 s.1 a2).bind (fun p33 =>
  if p33 = 0 then
  lt (w32 (s.1 + 1)) (fun x35 : Int =>
  some (.inl (x35, s.2)))
  else
  (f_Model_sumOf s.2 a0 (bOr z5 (bShl 1 s.1))).bind (fun p36 =>
  if a1 < p36 then
  lt (w32 (s.1 + 1)) (fun x38 : Int =>
  some (.inl (x38, s.2)))
  else
  if (mg s.2 (cI a0) 22) ≠ 0 then
  if (0 : Int) ≤ (w32 ((w32 (10 * (bOr z5 (bShl 1 s.1)))) + s.1)) ∧ (w32 ((w32 (10 * (bOr z5 (bShl 1 s.1)))) + s.1)) < (ml s.2 (cI (mg s.2 (cI a0) 22)) : Int) then
  lt (mp s.2 (cI (mg s.2 (cI a0) 22)) ((w32 ((w32 (10 * (bOr z5 (bShl 1 s.1)))) + s.1)) : Int).toNat 1) (fun M41 =>
  lt (w32 (s.1 + 1)) (fun x42 : Int =>
  some (.inl (x42, M41))))
  else none
  else none))
theorem cs_l_Model_programme_169 {X : XX} {d : Nat} (hd : 2 ≤ d) {a0 : Int} {a1 : Int} {a2 : Int} {z3 : Int} {z4 : Int} {z5 : Int} {z6 : Int} (hn_a0 : a0 ≠ 0) {s : Int × Mm} {x : (Int × Mm) ⊕ (Mm)} {r : Option AV} {M' : Mm} (h : l_Model_programme_169 a0 a1 a2 z3 z4 z5 z6 s = some x) (hk1 : ∀ s : Int × Mm, x = .inl s → Ev X m_Model_programme d 169 [(0, (12, a0)), (1, (0, a1)), (2, (0, a2)), (3, (0, z3)), (4, (0, z4)), (5, (0, z5)), (6, (0, z6)), (7, (0, s.1))] [] s.2 r M') (hk2 : ∀ t : Mm, x = .inr t → Ev X m_Model_programme d 232 [(0, (12, a0)), (1, (0, a1)), (2, (0, a2)), (3, (0, z3)), (4, (0, z4)), (5, (0, z5)), (6, (0, z6))] [] t r M') : Ev X m_Model_programme d 169 [(0, (12, a0)), (1, (0, a1)), (2, (0, a2)), (3, (0, z3)), (4, (0, z4)), (5, (0, z5)), (6, (0, z6)), (7, (0, s.1))] [] s.2 r M' := by
  unfold l_Model_programme_169 at h
  refine ev_iload 7 d_Model_programme_169 rfl ?_
  refine ev_aload_n 0 d_Model_programme_171 rfl (by decide) rfl ?_
  refine ev_get (t := 12) (k := 7) (by decide) (by decide) rfl i_Model (by decide) rfl rfl tw_907 d_Model_programme_172 hn_a0 ?_
  by_cases hc32 : (mg s.2 (cI a0) 7) ≤ s.1
  · replace h := itp hc32 h
    refine ev_icmp_ge_t (tgt := 232) d_Model_programme_175 (by decide) hc32 ?_
    refine ev_less (L' := [(0, (12, a0)), (1, (0, a1)), (2, (0, a2)), (3, (0, z3)), (4, (0, z4)), (5, (0, z5)), (6, (0, z6))]) [0, 1, 2, 3, 4, 5, 6] rfl ?_
    cases h
    exact hk2 _ rfl
  · replace h := itn hc32 h
    refine ev_icmp_ge_f d_Model_programme_175 (by decide) hc32 ?_
    refine ev_aload_n 0 d_Model_programme_178 rfl (by decide) rfl ?_
    refine ev_iload 5 d_Model_programme_179 rfl ?_
    refine ev_iload 6 d_Model_programme_181 rfl ?_
    refine ev_iload 7 d_Model_programme_183 rfl ?_
    refine ev_iload_n 2 d_Model_programme_185 rfl rfl ?_
    obtain ⟨p33, hp33, h⟩ := bx h
    have hRp33 := c_Model_goes (X := X) (d := d - 1) (by omega) hn_a0 hp33
    refine ev_callV2 (st2 := [(0, p33)]) (as := [(0, z5), (0, z6), (0, s.1), (0, a2)]) (rest := []) rfl (by decide) (by decide) rfl hn_a0 rfl (Nat.le_of_ble_eq_true rfl) k_Model_goes ⟨tw_1157, ts_91⟩ (by omega) tw_1155 d_Model_programme_186 hRp33 rfl ?_
    by_cases hc34 : p33 = 0
    · replace h := itp hc34 h
      refine ev_if_eq_t (tgt := 226) d_Model_programme_189 (by decide) hc34 ?_
      obtain ⟨x35, hx35, h⟩ := ltx h
      refine ev_iinc' 7 (y := x35) (L' := [(7, (0, x35)), (0, (12, a0)), (1, (0, a1)), (2, (0, a2)), (3, (0, z3)), (4, (0, z4)), (5, (0, z5)), (6, (0, z6))]) d_Model_programme_226 rfl (by decide) rfl hx35 ?_
      refine ev_goto (tgt := 169) d_Model_programme_229 (by decide) ?_
      refine ev_less (L' := [(0, (12, a0)), (1, (0, a1)), (2, (0, a2)), (3, (0, z3)), (4, (0, z4)), (5, (0, z5)), (6, (0, z6)), (7, (0, x35))]) [1, 2, 3, 4, 5, 6, 7, 0] rfl ?_
      cases h
      exact hk1 _ rfl
    · replace h := itn hc34 h
      refine ev_if_eq_f d_Model_programme_189 (by decide) hc34 ?_
      refine ev_aload_n 0 d_Model_programme_192 rfl (by decide) rfl ?_
      refine ev_iload 5 d_Model_programme_193 rfl ?_
      refine ev_iconst d_Model_programme_195 rfl ?_
      refine ev_iload 7 d_Model_programme_196 rfl ?_
      refine ev_ishl d_Model_programme_198 ?_
      refine ev_ior d_Model_programme_199 ?_
      obtain ⟨p36, hp36, h⟩ := bx h
      have hRp36 := c_Model_sumOf (X := X) (d := d - 1) (by omega) hn_a0 hp36
      refine ev_callV2 (st2 := [(0, p36)]) (as := [(0, (bOr z5 (bShl 1 s.1)))]) (rest := []) rfl (by decide) (by decide) rfl hn_a0 rfl (Nat.le_of_ble_eq_true rfl) k_Model_sumOf ⟨tw_1153, ts_90⟩ (by omega) tw_1151 d_Model_programme_200 hRp36 rfl ?_
      refine ev_iload_n 1 d_Model_programme_203 rfl rfl ?_
      by_cases hc37 : a1 < p36
      · replace h := itp hc37 h
        refine ev_icmp_gt_t (tgt := 226) d_Model_programme_204 (by decide) hc37 ?_
        obtain ⟨x38, hx38, h⟩ := ltx h
        refine ev_iinc' 7 (y := x38) (L' := [(7, (0, x38)), (0, (12, a0)), (1, (0, a1)), (2, (0, a2)), (3, (0, z3)), (4, (0, z4)), (5, (0, z5)), (6, (0, z6))]) d_Model_programme_226 rfl (by decide) rfl hx38 ?_
        refine ev_goto (tgt := 169) d_Model_programme_229 (by decide) ?_
        refine ev_less (L' := [(0, (12, a0)), (1, (0, a1)), (2, (0, a2)), (3, (0, z3)), (4, (0, z4)), (5, (0, z5)), (6, (0, z6)), (7, (0, x38))]) [1, 2, 3, 4, 5, 6, 7, 0] rfl ?_
        cases h
        exact hk1 _ rfl
      · replace h := itn hc37 h
        refine ev_icmp_gt_f d_Model_programme_204 (by decide) hc37 ?_
        refine ev_aload_n 0 d_Model_programme_207 rfl (by decide) rfl ?_
        refine ev_get (t := 12) (k := 22) (by decide) (by decide) rfl i_Model (by decide) rfl rfl tw_922 d_Model_programme_208 hn_a0 ?_
        refine ev_bipush d_Model_programme_211 rfl ?_
        refine ev_iload 5 d_Model_programme_213 rfl ?_
        refine ev_iconst d_Model_programme_215 rfl ?_
        refine ev_iload 7 d_Model_programme_216 rfl ?_
        refine ev_ishl d_Model_programme_218 ?_
        refine ev_ior d_Model_programme_219 ?_
        refine ev_imul d_Model_programme_220 ?_
        refine ev_iload 7 d_Model_programme_221 rfl ?_
        refine ev_iadd d_Model_programme_223 ?_
        refine ev_iconst d_Model_programme_224 rfl ?_
        obtain ⟨hz39, h⟩ := gx h
        obtain ⟨hg40, h⟩ := gx h
        obtain ⟨M41, hM41, h⟩ := ltx h
        refine ev_zast' d_Model_programme_225 hz39 hg40 (Or.inr rfl) hM41 ?_
        obtain ⟨x42, hx42, h⟩ := ltx h
        refine ev_iinc' 7 (y := x42) (L' := [(7, (0, x42)), (0, (12, a0)), (1, (0, a1)), (2, (0, a2)), (3, (0, z3)), (4, (0, z4)), (5, (0, z5)), (6, (0, z6))]) d_Model_programme_226 rfl (by decide) rfl hx42 ?_
        refine ev_goto (tgt := 169) d_Model_programme_229 (by decide) ?_
        refine ev_less (L' := [(0, (12, a0)), (1, (0, a1)), (2, (0, a2)), (3, (0, z3)), (4, (0, z4)), (5, (0, z5)), (6, (0, z6)), (7, (0, x42))]) [1, 2, 3, 4, 5, 6, 7, 0] rfl ?_
        cases h
        exact hk1 _ rfl
def j_Model_programme_166_121 (M : Mm) (a0 : Int) (a1 : Int) (a2 : Int) (z3 : Int) (z4 : Int) (z5 : Int) (z6 : Int) : Option ((Int × Int × Mm) ⊕ (Int × Mm)) :=
  (loopN (l_Model_programme_169 a0 a1 a2 z3 z4 z5 z6) FU (0, M)).bind (fun t43 =>
  lt (w32 (z6 + 1)) (fun x44 : Int =>
  some (.inl (z4, x44, t43))))
theorem cj_Model_programme_166_121 {X : XX} {d : Nat} (hd : 2 ≤ d) {M : Mm} {a0 : Int} {a1 : Int} {a2 : Int} {z3 : Int} {z4 : Int} {z5 : Int} {z6 : Int} (hn_a0 : a0 ≠ 0) {x : (Int × Int × Mm) ⊕ (Int × Mm)} {r : Option AV} {M' : Mm} (h : j_Model_programme_166_121 M a0 a1 a2 z3 z4 z5 z6 = some x) (hk1 : ∀ s : Int × Int × Mm, x = .inl s → Ev X m_Model_programme d 121 [(0, (12, a0)), (1, (0, a1)), (2, (0, a2)), (3, (0, z3)), (4, (0, s.1)), (5, (0, z5)), (6, (0, s.2.1))] [] s.2.2 r M') (hk2 : ∀ t : Int × Mm, x = .inr t → Ev X m_Model_programme d 238 [(0, (12, a0)), (1, (0, a1)), (2, (0, a2)), (3, (0, z3)), (4, (0, t.1)), (5, (0, z5))] [] t.2 r M') : Ev X m_Model_programme d 166 [(0, (12, a0)), (1, (0, a1)), (2, (0, a2)), (3, (0, z3)), (4, (0, z4)), (5, (0, z5)), (6, (0, z6))] [] M r M' := by
  unfold j_Model_programme_166_121 at h
  refine ev_iconst d_Model_programme_166 rfl ?_
  refine ev_istore (L' := [(7, (0, 0)), (0, (12, a0)), (1, (0, a1)), (2, (0, a2)), (3, (0, z3)), (4, (0, z4)), (5, (0, z5)), (6, (0, z6))]) d_Model_programme_167 (by decide) rfl ?_
  obtain ⟨t43, ht43, h⟩ := bx h
  refine ev_less (L' := [(0, (12, a0)), (1, (0, a1)), (2, (0, a2)), (3, (0, z3)), (4, (0, z4)), (5, (0, z5)), (6, (0, z6)), (7, (0, 0))]) [1, 2, 3, 4, 5, 6, 7, 0] rfl ?_
  refine loop_ev (step := l_Model_programme_169 a0 a1 a2 z3 z4 z5 z6) (P := fun w : Int × Mm => Ev X m_Model_programme d 169 [(0, (12, a0)), (1, (0, a1)), (2, (0, a2)), (3, (0, z3)), (4, (0, z4)), (5, (0, z5)), (6, (0, z6)), (7, (0, w.1))] [] w.2 r M') (Q := fun w => Ev X m_Model_programme d 232 [(0, (12, a0)), (1, (0, a1)), (2, (0, a2)), (3, (0, z3)), (4, (0, z4)), (5, (0, z5)), (6, (0, z6))] [] w r M') (fun w x hs k1 k2 => cs_l_Model_programme_169 hd hn_a0 hs k1 k2) FU (0, M) t43 ht43 ?_
  obtain ⟨x44, hx44, h⟩ := ltx h
  refine ev_iinc' 6 (y := x44) (L' := [(6, (0, x44)), (0, (12, a0)), (1, (0, a1)), (2, (0, a2)), (3, (0, z3)), (4, (0, z4)), (5, (0, z5))]) d_Model_programme_232 rfl (by decide) rfl hx44 ?_
  refine ev_goto (tgt := 121) d_Model_programme_235 (by decide) ?_
  refine ev_less (L' := [(0, (12, a0)), (1, (0, a1)), (2, (0, a2)), (3, (0, z3)), (4, (0, z4)), (5, (0, z5)), (6, (0, x44))]) [1, 2, 3, 4, 5, 6, 0] rfl ?_
  cases h
  exact hk1 _ rfl
def l_Model_programme_121 (a0 : Int) (a1 : Int) (a2 : Int) (z3 : Int) (z5 : Int) (s : Int × Int × Mm) : Option ((Int × Int × Mm) ⊕ (Int × Mm)) :=
  if 10 ≤ s.2.1 then
  some (.inr (s.1, s.2.2))
  else
  if (mg s.2.2 (cI a0) 22) ≠ 0 then
  if (0 : Int) ≤ (w32 ((w32 (10 * z5)) + s.2.1)) ∧ (w32 ((w32 (10 * z5)) + s.2.1)) < (ml s.2.2 (cI (mg s.2.2 (cI a0) 22)) : Int) then
  if (mg s.2.2 (cI (mg s.2.2 (cI a0) 22)) ((w32 ((w32 (10 * z5)) + s.2.1)) : Int).toNat) ≠ 0 then
  (f_Model_sumOf s.2.2 a0 z5).bind (fun p30 =>
  if p30 ≤ s.1 then
  j_Model_programme_166_121 s.2.2 a0 a1 a2 z3 s.1 z5 s.2.1
  else
  (f_Model_sumOf s.2.2 a0 z5).bind (fun p45 =>
  j_Model_programme_166_121 s.2.2 a0 a1 a2 z3 p45 z5 s.2.1))
  else
  lt (w32 (s.2.1 + 1)) (fun x46 : Int =>
  some (.inl (s.1, x46, s.2.2)))
  else none
  else none
theorem cs_l_Model_programme_121 {X : XX} {d : Nat} (hd : 2 ≤ d) {a0 : Int} {a1 : Int} {a2 : Int} {z3 : Int} {z5 : Int} (hn_a0 : a0 ≠ 0) {s : Int × Int × Mm} {x : (Int × Int × Mm) ⊕ (Int × Mm)} {r : Option AV} {M' : Mm} (h : l_Model_programme_121 a0 a1 a2 z3 z5 s = some x) (hk1 : ∀ s : Int × Int × Mm, x = .inl s → Ev X m_Model_programme d 121 [(0, (12, a0)), (1, (0, a1)), (2, (0, a2)), (3, (0, z3)), (4, (0, s.1)), (5, (0, z5)), (6, (0, s.2.1))] [] s.2.2 r M') (hk2 : ∀ t : Int × Mm, x = .inr t → Ev X m_Model_programme d 238 [(0, (12, a0)), (1, (0, a1)), (2, (0, a2)), (3, (0, z3)), (4, (0, t.1)), (5, (0, z5))] [] t.2 r M') : Ev X m_Model_programme d 121 [(0, (12, a0)), (1, (0, a1)), (2, (0, a2)), (3, (0, z3)), (4, (0, s.1)), (5, (0, z5)), (6, (0, s.2.1))] [] s.2.2 r M' := by
  unfold l_Model_programme_121 at h
  refine ev_iload 6 d_Model_programme_121 rfl ?_
  refine ev_bipush d_Model_programme_123 rfl ?_
  by_cases hc26 : 10 ≤ s.2.1
  · replace h := itp hc26 h
    refine ev_icmp_ge_t (tgt := 238) d_Model_programme_125 (by decide) hc26 ?_
    refine ev_less (L' := [(0, (12, a0)), (1, (0, a1)), (2, (0, a2)), (3, (0, z3)), (4, (0, s.1)), (5, (0, z5))]) [0, 1, 2, 3, 4, 5] rfl ?_
    cases h
    exact hk2 _ rfl
  · replace h := itn hc26 h
    refine ev_icmp_ge_f d_Model_programme_125 (by decide) hc26 ?_
    refine ev_aload_n 0 d_Model_programme_128 rfl (by decide) rfl ?_
    refine ev_get (t := 12) (k := 22) (by decide) (by decide) rfl i_Model (by decide) rfl rfl tw_922 d_Model_programme_129 hn_a0 ?_
    refine ev_bipush d_Model_programme_132 rfl ?_
    refine ev_iload 5 d_Model_programme_134 rfl ?_
    refine ev_imul d_Model_programme_136 ?_
    refine ev_iload 6 d_Model_programme_137 rfl ?_
    refine ev_iadd d_Model_programme_139 ?_
    obtain ⟨hz27, h⟩ := gx h
    obtain ⟨hg28, h⟩ := gx h
    refine ev_zald d_Model_programme_140 hz27 hg28 ?_
    by_cases hc29 : (mg s.2.2 (cI (mg s.2.2 (cI a0) 22)) ((w32 ((w32 (10 * z5)) + s.2.1)) : Int).toNat) ≠ 0
    · replace h := itp hc29 h
      refine ev_if_ne_t (tgt := 147) d_Model_programme_141 (by decide) hc29 ?_
      refine ev_aload_n 0 d_Model_programme_147 rfl (by decide) rfl ?_
      refine ev_iload 5 d_Model_programme_148 rfl ?_
      obtain ⟨p30, hp30, h⟩ := bx h
      have hRp30 := c_Model_sumOf (X := X) (d := d - 1) (by omega) hn_a0 hp30
      refine ev_callV2 (st2 := [(0, p30)]) (as := [(0, z5)]) (rest := []) rfl (by decide) (by decide) rfl hn_a0 rfl (Nat.le_of_ble_eq_true rfl) k_Model_sumOf ⟨tw_1153, ts_90⟩ (by omega) tw_1151 d_Model_programme_150 hRp30 rfl ?_
      refine ev_iload 4 d_Model_programme_153 rfl ?_
      by_cases hc31 : p30 ≤ s.1
      · replace h := itp hc31 h
        refine ev_icmp_le_t (tgt := 166) d_Model_programme_155 (by decide) hc31 ?_
        exact cj_Model_programme_166_121 hd hn_a0 h hk1 hk2
      · replace h := itn hc31 h
        refine ev_icmp_le_f d_Model_programme_155 (by decide) hc31 ?_
        refine ev_aload_n 0 d_Model_programme_158 rfl (by decide) rfl ?_
        refine ev_iload 5 d_Model_programme_159 rfl ?_
        obtain ⟨p45, hp45, h⟩ := bx h
        have hRp45 := c_Model_sumOf (X := X) (d := d - 1) (by omega) hn_a0 hp45
        refine ev_callV2 (st2 := [(0, p45)]) (as := [(0, z5)]) (rest := []) rfl (by decide) (by decide) rfl hn_a0 rfl (Nat.le_of_ble_eq_true rfl) k_Model_sumOf ⟨tw_1153, ts_90⟩ (by omega) tw_1151 d_Model_programme_161 hRp45 rfl ?_
        refine ev_istore (L' := [(4, (0, p45)), (0, (12, a0)), (1, (0, a1)), (2, (0, a2)), (3, (0, z3)), (5, (0, z5)), (6, (0, s.2.1))]) d_Model_programme_164 (by decide) rfl ?_
        refine ev_less (L' := [(0, (12, a0)), (1, (0, a1)), (2, (0, a2)), (3, (0, z3)), (4, (0, p45)), (5, (0, z5)), (6, (0, s.2.1))]) [1, 2, 3, 4, 0, 5, 6] rfl ?_
        exact cj_Model_programme_166_121 hd hn_a0 h hk1 hk2
    · replace h := itn hc29 h
      refine ev_if_ne_f d_Model_programme_141 (by decide) hc29 ?_
      refine ev_goto (tgt := 232) d_Model_programme_144 (by decide) ?_
      obtain ⟨x46, hx46, h⟩ := ltx h
      refine ev_iinc' 6 (y := x46) (L' := [(6, (0, x46)), (0, (12, a0)), (1, (0, a1)), (2, (0, a2)), (3, (0, z3)), (4, (0, s.1)), (5, (0, z5))]) d_Model_programme_232 rfl (by decide) rfl hx46 ?_
      refine ev_goto (tgt := 121) d_Model_programme_235 (by decide) ?_
      refine ev_less (L' := [(0, (12, a0)), (1, (0, a1)), (2, (0, a2)), (3, (0, z3)), (4, (0, s.1)), (5, (0, z5)), (6, (0, x46))]) [1, 2, 3, 4, 5, 6, 0] rfl ?_
      cases h
      exact hk1 _ rfl
def l_Model_programme_112 (a0 : Int) (a1 : Int) (a2 : Int) (z3 : Int) (s : Int × Int × Mm) : Option ((Int × Int × Mm) ⊕ (Int × Mm)) :=
  if z3 ≤ s.2.1 then
  some (.inr (s.1, s.2.2))
  else
  (loopN (l_Model_programme_121 a0 a1 a2 z3 s.2.1) FU (s.1, 0, s.2.2)).bind (fun t47 =>
  lt (w32 (s.2.1 + 1)) (fun x48 : Int =>
  some (.inl (t47.1, x48, t47.2))))
theorem cs_l_Model_programme_112 {X : XX} {d : Nat} (hd : 2 ≤ d) {a0 : Int} {a1 : Int} {a2 : Int} {z3 : Int} (hn_a0 : a0 ≠ 0) {s : Int × Int × Mm} {x : (Int × Int × Mm) ⊕ (Int × Mm)} {r : Option AV} {M' : Mm} (h : l_Model_programme_112 a0 a1 a2 z3 s = some x) (hk1 : ∀ s : Int × Int × Mm, x = .inl s → Ev X m_Model_programme d 112 [(0, (12, a0)), (1, (0, a1)), (2, (0, a2)), (3, (0, z3)), (4, (0, s.1)), (5, (0, s.2.1))] [] s.2.2 r M') (hk2 : ∀ t : Int × Mm, x = .inr t → Ev X m_Model_programme d 244 [(0, (12, a0)), (2, (0, a2)), (3, (0, z3)), (4, (0, t.1))] [] t.2 r M') : Ev X m_Model_programme d 112 [(0, (12, a0)), (1, (0, a1)), (2, (0, a2)), (3, (0, z3)), (4, (0, s.1)), (5, (0, s.2.1))] [] s.2.2 r M' := by
  unfold l_Model_programme_112 at h
  refine ev_iload 5 d_Model_programme_112 rfl ?_
  refine ev_iload_n 3 d_Model_programme_114 rfl rfl ?_
  by_cases hc25 : z3 ≤ s.2.1
  · replace h := itp hc25 h
    refine ev_icmp_ge_t (tgt := 244) d_Model_programme_115 (by decide) hc25 ?_
    refine ev_less (L' := [(0, (12, a0)), (2, (0, a2)), (3, (0, z3)), (4, (0, s.1))]) [0, 2, 3, 4] rfl ?_
    cases h
    exact hk2 _ rfl
  · replace h := itn hc25 h
    refine ev_icmp_ge_f d_Model_programme_115 (by decide) hc25 ?_
    refine ev_iconst d_Model_programme_118 rfl ?_
    refine ev_istore (L' := [(6, (0, 0)), (0, (12, a0)), (1, (0, a1)), (2, (0, a2)), (3, (0, z3)), (4, (0, s.1)), (5, (0, s.2.1))]) d_Model_programme_119 (by decide) rfl ?_
    obtain ⟨t47, ht47, h⟩ := bx h
    refine ev_less (L' := [(0, (12, a0)), (1, (0, a1)), (2, (0, a2)), (3, (0, z3)), (4, (0, s.1)), (5, (0, s.2.1)), (6, (0, 0))]) [1, 2, 3, 4, 5, 6, 0] rfl ?_
    refine loop_ev (step := l_Model_programme_121 a0 a1 a2 z3 s.2.1) (P := fun w : Int × Int × Mm => Ev X m_Model_programme d 121 [(0, (12, a0)), (1, (0, a1)), (2, (0, a2)), (3, (0, z3)), (4, (0, w.1)), (5, (0, s.2.1)), (6, (0, w.2.1))] [] w.2.2 r M') (Q := fun w => Ev X m_Model_programme d 238 [(0, (12, a0)), (1, (0, a1)), (2, (0, a2)), (3, (0, z3)), (4, (0, w.1)), (5, (0, s.2.1))] [] w.2 r M') (fun w x hs k1 k2 => cs_l_Model_programme_121 hd hn_a0 hs k1 k2) FU (s.1, 0, s.2.2) t47 ht47 ?_
    obtain ⟨x48, hx48, h⟩ := ltx h
    refine ev_iinc' 5 (y := x48) (L' := [(5, (0, x48)), (0, (12, a0)), (1, (0, a1)), (2, (0, a2)), (3, (0, z3)), (4, (0, t47.1))]) d_Model_programme_238 rfl (by decide) rfl hx48 ?_
    refine ev_goto (tgt := 112) d_Model_programme_241 (by decide) ?_
    refine ev_less (L' := [(0, (12, a0)), (1, (0, a1)), (2, (0, a2)), (3, (0, z3)), (4, (0, t47.1)), (5, (0, x48))]) [1, 2, 3, 4, 5, 0] rfl ?_
    cases h
    exact hk1 _ rfl
def j_Model_programme_368_286 (M : Mm) (a0 : Int) (a2 : Int) (z4 : Int) (z5 : Int) (z6 : Int) (z7 : Int) (z8 : Int) (y0 : Int) (y1 : Int) : Option ((Int × Int) ⊕ (Int)) :=
  lt ((w32 (y1 + y0))) (fun x66 : Int =>
  if z7 ≤ x66 then
  lt (w32 (z8 + 1)) (fun x68 : Int =>
  some (.inl (z7, x68)))
  else
  lt (w32 (z8 + 1)) (fun x69 : Int =>
  some (.inl (x66, x69))))
theorem cj_Model_programme_368_286 {X : XX} {d : Nat} (hd : 2 ≤ d) {M : Mm} {a0 : Int} {a2 : Int} {z4 : Int} {z5 : Int} {z6 : Int} {z7 : Int} {z8 : Int} {y0 : Int} {y1 : Int} (hn_a0 : a0 ≠ 0) {x : (Int × Int) ⊕ (Int)} {r : Option AV} {M' : Mm} (h : j_Model_programme_368_286 M a0 a2 z4 z5 z6 z7 z8 y0 y1 = some x) (hk1 : ∀ s : Int × Int, x = .inl s → Ev X m_Model_programme d 286 [(0, (12, a0)), (2, (0, a2)), (4, (0, z4)), (5, (0, z5)), (6, (0, z6)), (7, (0, s.1)), (8, (0, s.2))] [] M r M') (hk2 : ∀ t : Int, x = .inr t → Ev X m_Model_programme d 388 [(0, (12, a0)), (2, (0, a2)), (4, (0, z4)), (5, (0, z5)), (6, (0, z6)), (7, (0, t))] [] M r M') : Ev X m_Model_programme d 368 [(0, (12, a0)), (2, (0, a2)), (4, (0, z4)), (5, (0, z5)), (6, (0, z6)), (7, (0, z7)), (8, (0, z8))] [(0, y0), (0, y1)] M r M' := by
  unfold j_Model_programme_368_286 at h
  refine ev_iadd d_Model_programme_368 ?_
  obtain ⟨x66, hx66, h⟩ := ltx h
  refine ev_istore' (y := x66) (L' := [(9, (0, x66)), (0, (12, a0)), (2, (0, a2)), (4, (0, z4)), (5, (0, z5)), (6, (0, z6)), (7, (0, z7)), (8, (0, z8))]) d_Model_programme_369 (by decide) rfl hx66 ?_
  refine ev_iload 0 d_Model_programme_371 rfl ?_
  refine ev_iload 6 d_Model_programme_373 rfl ?_
  by_cases hc67 : z7 ≤ x66
  · replace h := itp hc67 h
    refine ev_icmp_ge_t (tgt := 382) d_Model_programme_375 (by decide) hc67 ?_
    obtain ⟨x68, hx68, h⟩ := ltx h
    refine ev_iinc' 7 (y := x68) (L' := [(8, (0, x68)), (9, (0, x66)), (0, (12, a0)), (2, (0, a2)), (4, (0, z4)), (5, (0, z5)), (6, (0, z6)), (7, (0, z7))]) d_Model_programme_382 rfl (by decide) rfl hx68 ?_
    refine ev_goto (tgt := 286) d_Model_programme_385 (by decide) ?_
    refine ev_less (L' := [(0, (12, a0)), (2, (0, a2)), (4, (0, z4)), (5, (0, z5)), (6, (0, z6)), (7, (0, z7)), (8, (0, x68))]) [2, 3, 4, 5, 6, 7, 0] rfl ?_
    cases h
    exact hk1 _ rfl
  · replace h := itn hc67 h
    refine ev_icmp_ge_f d_Model_programme_375 (by decide) hc67 ?_
    refine ev_iload 0 d_Model_programme_378 rfl ?_
    refine ev_istore (L' := [(7, (0, x66)), (9, (0, x66)), (0, (12, a0)), (2, (0, a2)), (4, (0, z4)), (5, (0, z5)), (6, (0, z6)), (8, (0, z8))]) d_Model_programme_380 (by decide) rfl ?_
    obtain ⟨x69, hx69, h⟩ := ltx h
    refine ev_iinc' 7 (y := x69) (L' := [(8, (0, x69)), (7, (0, x66)), (9, (0, x66)), (0, (12, a0)), (2, (0, a2)), (4, (0, z4)), (5, (0, z5)), (6, (0, z6))]) d_Model_programme_382 rfl (by decide) rfl hx69 ?_
    refine ev_goto (tgt := 286) d_Model_programme_385 (by decide) ?_
    refine ev_less (L' := [(0, (12, a0)), (2, (0, a2)), (4, (0, z4)), (5, (0, z5)), (6, (0, z6)), (7, (0, x66)), (8, (0, x69))]) [3, 4, 5, 6, 7, 1, 0] rfl ?_
    cases h
    exact hk1 _ rfl
def l_Model_programme_286 (M : Mm) (a0 : Int) (a2 : Int) (z4 : Int) (z5 : Int) (z6 : Int) (s : Int × Int) : Option ((Int × Int) ⊕ (Int)) :=
  if (mg M (cI a0) 7) ≤ s.2 then
  some (.inr s.1)
  else
  if s.1 = 0 then
  some (.inr s.1)
  else
  (f_Model_goes M a0 z5 z6 s.2 a2).bind (fun p57 =>
  if p57 = 0 then
  lt (w32 (s.2 + 1)) (fun x59 : Int =>
  some (.inl (s.1, x59)))
  else
  (f_Model_sumOf M a0 (bOr z5 (bShl 1 s.2))).bind (fun p60 =>
  if p60 ≤ z4 then
  if (mg M (cI a0) 21) ≠ 0 then
  if (0 : Int) ≤ (w32 ((w32 (10 * (bOr z5 (bShl 1 s.2)))) + s.2)) ∧ (w32 ((w32 (10 * (bOr z5 (bShl 1 s.2)))) + s.2)) < (ml M (cI (mg M (cI a0) 21)) : Int) then
  if z5 ≠ 0 then
  (f_Model_strainOf M a0 z6 s.2).bind (fun p65 =>
  j_Model_programme_368_286 M a0 a2 z4 z5 z6 s.1 s.2 p65 ((mg M (cI (mg M (cI a0) 21)) ((w32 ((w32 (10 * (bOr z5 (bShl 1 s.2)))) + s.2)) : Int).toNat)))
  else
  j_Model_programme_368_286 M a0 a2 z4 z5 z6 s.1 s.2 0 ((mg M (cI (mg M (cI a0) 21)) ((w32 ((w32 (10 * (bOr z5 (bShl 1 s.2)))) + s.2)) : Int).toNat))
  else none
  else none
  else
  lt (w32 (s.2 + 1)) (fun x70 : Int =>
  some (.inl (s.1, x70)))))
theorem cs_l_Model_programme_286 {X : XX} {d : Nat} (hd : 2 ≤ d) {M : Mm} {a0 : Int} {a2 : Int} {z4 : Int} {z5 : Int} {z6 : Int} (hn_a0 : a0 ≠ 0) {s : Int × Int} {x : (Int × Int) ⊕ (Int)} {r : Option AV} {M' : Mm} (h : l_Model_programme_286 M a0 a2 z4 z5 z6 s = some x) (hk1 : ∀ s : Int × Int, x = .inl s → Ev X m_Model_programme d 286 [(0, (12, a0)), (2, (0, a2)), (4, (0, z4)), (5, (0, z5)), (6, (0, z6)), (7, (0, s.1)), (8, (0, s.2))] [] M r M') (hk2 : ∀ t : Int, x = .inr t → Ev X m_Model_programme d 388 [(0, (12, a0)), (2, (0, a2)), (4, (0, z4)), (5, (0, z5)), (6, (0, z6)), (7, (0, t))] [] M r M') : Ev X m_Model_programme d 286 [(0, (12, a0)), (2, (0, a2)), (4, (0, z4)), (5, (0, z5)), (6, (0, z6)), (7, (0, s.1)), (8, (0, s.2))] [] M r M' := by
  unfold l_Model_programme_286 at h
  refine ev_iload 6 d_Model_programme_286 rfl ?_
  refine ev_aload_n 0 d_Model_programme_288 rfl (by decide) rfl ?_
  refine ev_get (t := 12) (k := 7) (by decide) (by decide) rfl i_Model (by decide) rfl rfl tw_907 d_Model_programme_289 hn_a0 ?_
  by_cases hc55 : (mg M (cI a0) 7) ≤ s.2
  · replace h := itp hc55 h
    refine ev_icmp_ge_t (tgt := 388) d_Model_programme_292 (by decide) hc55 ?_
    refine ev_less (L' := [(0, (12, a0)), (2, (0, a2)), (4, (0, z4)), (5, (0, z5)), (6, (0, z6)), (7, (0, s.1))]) [0, 1, 2, 3, 4, 5] rfl ?_
    cases h
    exact hk2 _ rfl
  · replace h := itn hc55 h
    refine ev_icmp_ge_f d_Model_programme_292 (by decide) hc55 ?_
    refine ev_iload 5 d_Model_programme_295 rfl ?_
    by_cases hc56 : s.1 = 0
    · replace h := itp hc56 h
      refine ev_if_eq_t (tgt := 388) d_Model_programme_297 (by decide) hc56 ?_
      refine ev_less (L' := [(0, (12, a0)), (2, (0, a2)), (4, (0, z4)), (5, (0, z5)), (6, (0, z6)), (7, (0, s.1))]) [0, 1, 2, 3, 4, 5] rfl ?_
      cases h
      exact hk2 _ rfl
    · replace h := itn hc56 h
      refine ev_if_eq_f d_Model_programme_297 (by decide) hc56 ?_
      refine ev_aload_n 0 d_Model_programme_300 rfl (by decide) rfl ?_
      refine ev_iload 3 d_Model_programme_301 rfl ?_
      refine ev_iload 4 d_Model_programme_303 rfl ?_
      refine ev_iload 6 d_Model_programme_305 rfl ?_
      refine ev_iload_n 1 d_Model_programme_307 rfl rfl ?_
      obtain ⟨p57, hp57, h⟩ := bx h
      have hRp57 := c_Model_goes (X := X) (d := d - 1) (by omega) hn_a0 hp57
      refine ev_callV2 (st2 := [(0, p57)]) (as := [(0, z5), (0, z6), (0, s.2), (0, a2)]) (rest := []) rfl (by decide) (by decide) rfl hn_a0 rfl (Nat.le_of_ble_eq_true rfl) k_Model_goes ⟨tw_1157, ts_91⟩ (by omega) tw_1155 d_Model_programme_308 hRp57 rfl ?_
      by_cases hc58 : p57 = 0
      · replace h := itp hc58 h
        refine ev_if_eq_t (tgt := 382) d_Model_programme_311 (by decide) hc58 ?_
        obtain ⟨x59, hx59, h⟩ := ltx h
        refine ev_iinc' 6 (y := x59) (L' := [(8, (0, x59)), (0, (12, a0)), (2, (0, a2)), (4, (0, z4)), (5, (0, z5)), (6, (0, z6)), (7, (0, s.1))]) d_Model_programme_382 rfl (by decide) rfl hx59 ?_
        refine ev_goto (tgt := 286) d_Model_programme_385 (by decide) ?_
        refine ev_less (L' := [(0, (12, a0)), (2, (0, a2)), (4, (0, z4)), (5, (0, z5)), (6, (0, z6)), (7, (0, s.1)), (8, (0, x59))]) [1, 2, 3, 4, 5, 6, 0] rfl ?_
        cases h
        exact hk1 _ rfl
      · replace h := itn hc58 h
        refine ev_if_eq_f d_Model_programme_311 (by decide) hc58 ?_
        refine ev_aload_n 0 d_Model_programme_314 rfl (by decide) rfl ?_
        refine ev_iload 3 d_Model_programme_315 rfl ?_
        refine ev_iconst d_Model_programme_317 rfl ?_
        refine ev_iload 6 d_Model_programme_318 rfl ?_
        refine ev_ishl d_Model_programme_320 ?_
        refine ev_ior d_Model_programme_321 ?_
        obtain ⟨p60, hp60, h⟩ := bx h
        have hRp60 := c_Model_sumOf (X := X) (d := d - 1) (by omega) hn_a0 hp60
        refine ev_callV2 (st2 := [(0, p60)]) (as := [(0, (bOr z5 (bShl 1 s.2)))]) (rest := []) rfl (by decide) (by decide) rfl hn_a0 rfl (Nat.le_of_ble_eq_true rfl) k_Model_sumOf ⟨tw_1153, ts_90⟩ (by omega) tw_1151 d_Model_programme_322 hRp60 rfl ?_
        refine ev_iload 2 d_Model_programme_325 rfl ?_
        by_cases hc61 : p60 ≤ z4
        · replace h := itp hc61 h
          refine ev_icmp_le_t (tgt := 333) d_Model_programme_327 (by decide) hc61 ?_
          refine ev_aload_n 0 d_Model_programme_333 rfl (by decide) rfl ?_
          refine ev_get (t := 12) (k := 21) (by decide) (by decide) rfl i_Model (by decide) rfl rfl tw_921 d_Model_programme_334 hn_a0 ?_
          refine ev_bipush d_Model_programme_337 rfl ?_
          refine ev_iload 3 d_Model_programme_339 rfl ?_
          refine ev_iconst d_Model_programme_341 rfl ?_
          refine ev_iload 6 d_Model_programme_342 rfl ?_
          refine ev_ishl d_Model_programme_344 ?_
          refine ev_ior d_Model_programme_345 ?_
          refine ev_imul d_Model_programme_346 ?_
          refine ev_iload 6 d_Model_programme_347 rfl ?_
          refine ev_iadd d_Model_programme_349 ?_
          obtain ⟨hz62, h⟩ := gx h
          obtain ⟨hg63, h⟩ := gx h
          refine ev_iald d_Model_programme_350 hz62 hg63 ?_
          refine ev_iload 3 d_Model_programme_351 rfl ?_
          by_cases hc64 : z5 ≠ 0
          · replace h := itp hc64 h
            refine ev_if_ne_t (tgt := 360) d_Model_programme_353 (by decide) hc64 ?_
            refine ev_aload_n 0 d_Model_programme_360 rfl (by decide) rfl ?_
            refine ev_iload 4 d_Model_programme_361 rfl ?_
            refine ev_iload 6 d_Model_programme_363 rfl ?_
            obtain ⟨p65, hp65, h⟩ := bx h
            have hRp65 := c_Model_strainOf (X := X) (d := d - 1) (by omega) hn_a0 hp65
            refine ev_callV2 (st2 := [(0, p65), (0, (mg M (cI (mg M (cI a0) 21)) ((w32 ((w32 (10 * (bOr z5 (bShl 1 s.2)))) + s.2)) : Int).toNat))]) (as := [(0, z6), (0, s.2)]) (rest := [(0, (mg M (cI (mg M (cI a0) 21)) ((w32 ((w32 (10 * (bOr z5 (bShl 1 s.2)))) + s.2)) : Int).toNat))]) rfl (by decide) (by decide) rfl hn_a0 rfl (Nat.le_of_ble_eq_true rfl) k_Model_strainOf ⟨tw_1161, ts_92⟩ (by omega) tw_1159 d_Model_programme_365 hRp65 rfl ?_
            exact cj_Model_programme_368_286 hd hn_a0 h hk1 hk2
          · replace h := itn hc64 h
            refine ev_if_ne_f d_Model_programme_353 (by decide) hc64 ?_
            refine ev_iconst d_Model_programme_356 rfl ?_
            refine ev_goto (tgt := 368) d_Model_programme_357 (by decide) ?_
            exact cj_Model_programme_368_286 hd hn_a0 h hk1 hk2
        · replace h := itn hc61 h
          refine ev_icmp_le_f d_Model_programme_327 (by decide) hc61 ?_
          refine ev_goto (tgt := 382) d_Model_programme_330 (by decide) ?_
          obtain ⟨x70, hx70, h⟩ := ltx h
          refine ev_iinc' 6 (y := x70) (L' := [(8, (0, x70)), (0, (12, a0)), (2, (0, a2)), (4, (0, z4)), (5, (0, z5)), (6, (0, z6)), (7, (0, s.1))]) d_Model_programme_382 rfl (by decide) rfl hx70 ?_
          refine ev_goto (tgt := 286) d_Model_programme_385 (by decide) ?_
          refine ev_less (L' := [(0, (12, a0)), (2, (0, a2)), (4, (0, z4)), (5, (0, z5)), (6, (0, z6)), (7, (0, s.1)), (8, (0, x70))]) [1, 2, 3, 4, 5, 6, 0] rfl ?_
          cases h
          exact hk1 _ rfl
def j_Model_programme_417_257 (M : Mm) (a0 : Int) (a2 : Int) (z4 : Int) (z5 : Int) (z6 : Int) (y0 : Int) (y1 : Int) (y2 : Int) : Option ((Int × Mm) ⊕ (Mm)) :=
  if y2 ≠ 0 then
  if (0 : Int) ≤ y1 ∧ y1 < (ml M (cI y2) : Int) then
  lt (mp M (cI y2) (y1 : Int).toNat y0) (fun M76 =>
  lt (w32 (z6 + 1)) (fun x77 : Int =>
  some (.inl (x77, M76))))
  else none
  else none
theorem cj_Model_programme_417_257 {X : XX} {d : Nat} (hd : 2 ≤ d) {M : Mm} {a0 : Int} {a2 : Int} {z4 : Int} {z5 : Int} {z6 : Int} {y0 : Int} {y1 : Int} {y2 : Int} (hn_a0 : a0 ≠ 0) {x : (Int × Mm) ⊕ (Mm)} {r : Option AV} {M' : Mm} (h : j_Model_programme_417_257 M a0 a2 z4 z5 z6 y0 y1 y2 = some x) (hk1 : ∀ s : Int × Mm, x = .inl s → Ev X m_Model_programme d 257 [(0, (12, a0)), (2, (0, a2)), (4, (0, z4)), (5, (0, z5)), (6, (0, s.1))] [] s.2 r M') (hk2 : ∀ t : Mm, x = .inr t → Ev X m_Model_programme d 424 [(0, (12, a0)), (2, (0, a2)), (4, (0, z4)), (5, (0, z5))] [] t r M') : Ev X m_Model_programme d 417 [(0, (12, a0)), (2, (0, a2)), (4, (0, z4)), (5, (0, z5)), (6, (0, z6))] [(0, y0), (0, y1), (13, y2)] M r M' := by
  unfold j_Model_programme_417_257 at h
  obtain ⟨hz74, h⟩ := gx h
  obtain ⟨hg75, h⟩ := gx h
  obtain ⟨M76, hM76, h⟩ := ltx h
  refine ev_iast' d_Model_programme_417 hz74 hg75 hM76 ?_
  obtain ⟨x77, hx77, h⟩ := ltx h
  refine ev_iinc' 4 (y := x77) (L' := [(6, (0, x77)), (0, (12, a0)), (2, (0, a2)), (4, (0, z4)), (5, (0, z5))]) d_Model_programme_418 rfl (by decide) rfl hx77 ?_
  refine ev_goto (tgt := 257) d_Model_programme_421 (by decide) ?_
  refine ev_less (L' := [(0, (12, a0)), (2, (0, a2)), (4, (0, z4)), (5, (0, z5)), (6, (0, x77))]) [1, 2, 3, 4, 0] rfl ?_
  cases h
  exact hk1 _ rfl
def j_Model_programme_388_257 (M : Mm) (a0 : Int) (a2 : Int) (z4 : Int) (z5 : Int) (z6 : Int) (z7 : Int) : Option ((Int × Mm) ⊕ (Mm)) :=
  (f_Model_sumOf M a0 z5).bind (fun p72 =>
  if p72 ≠ z4 then
  j_Model_programme_417_257 M a0 a2 z4 z5 z6 z7 ((w32 ((w32 (10 * z5)) + z6))) ((mg M (cI a0) 21))
  else
  j_Model_programme_417_257 M a0 a2 z4 z5 z6 0 ((w32 ((w32 (10 * z5)) + z6))) ((mg M (cI a0) 21)))
theorem cj_Model_programme_388_257 {X : XX} {d : Nat} (hd : 2 ≤ d) {M : Mm} {a0 : Int} {a2 : Int} {z4 : Int} {z5 : Int} {z6 : Int} {z7 : Int} (hn_a0 : a0 ≠ 0) {x : (Int × Mm) ⊕ (Mm)} {r : Option AV} {M' : Mm} (h : j_Model_programme_388_257 M a0 a2 z4 z5 z6 z7 = some x) (hk1 : ∀ s : Int × Mm, x = .inl s → Ev X m_Model_programme d 257 [(0, (12, a0)), (2, (0, a2)), (4, (0, z4)), (5, (0, z5)), (6, (0, s.1))] [] s.2 r M') (hk2 : ∀ t : Mm, x = .inr t → Ev X m_Model_programme d 424 [(0, (12, a0)), (2, (0, a2)), (4, (0, z4)), (5, (0, z5))] [] t r M') : Ev X m_Model_programme d 388 [(0, (12, a0)), (2, (0, a2)), (4, (0, z4)), (5, (0, z5)), (6, (0, z6)), (7, (0, z7))] [] M r M' := by
  unfold j_Model_programme_388_257 at h
  refine ev_aload_n 0 d_Model_programme_388 rfl (by decide) rfl ?_
  refine ev_get (t := 12) (k := 21) (by decide) (by decide) rfl i_Model (by decide) rfl rfl tw_921 d_Model_programme_389 hn_a0 ?_
  refine ev_bipush d_Model_programme_392 rfl ?_
  refine ev_iload 3 d_Model_programme_394 rfl ?_
  refine ev_imul d_Model_programme_396 ?_
  refine ev_iload 4 d_Model_programme_397 rfl ?_
  refine ev_iadd d_Model_programme_399 ?_
  refine ev_aload_n 0 d_Model_programme_400 rfl (by decide) rfl ?_
  refine ev_iload 3 d_Model_programme_401 rfl ?_
  obtain ⟨p72, hp72, h⟩ := bx h
  have hRp72 := c_Model_sumOf (X := X) (d := d - 1) (by omega) hn_a0 hp72
  refine ev_callV2 (st2 := [(0, p72), (0, (w32 ((w32 (10 * z5)) + z6))), (13, (mg M (cI a0) 21))]) (as := [(0, z5)]) (rest := [(0, (w32 ((w32 (10 * z5)) + z6))), (13, (mg M (cI a0) 21))]) rfl (by decide) (by decide) rfl hn_a0 rfl (Nat.le_of_ble_eq_true rfl) k_Model_sumOf ⟨tw_1153, ts_90⟩ (by omega) tw_1151 d_Model_programme_403 hRp72 rfl ?_
  refine ev_iload 2 d_Model_programme_406 rfl ?_
  by_cases hc73 : p72 ≠ z4
  · replace h := itp hc73 h
    refine ev_icmp_ne_t (tgt := 415) d_Model_programme_408 (by decide) hc73 ?_
    refine ev_iload 5 d_Model_programme_415 rfl ?_
    refine ev_less (L' := [(0, (12, a0)), (2, (0, a2)), (4, (0, z4)), (5, (0, z5)), (6, (0, z6))]) [0, 1, 2, 3, 4] rfl ?_
    exact cj_Model_programme_417_257 hd hn_a0 h hk1 hk2
  · replace h := itn hc73 h
    refine ev_icmp_ne_f d_Model_programme_408 (by decide) hc73 ?_
    refine ev_iconst d_Model_programme_411 rfl ?_
    refine ev_goto (tgt := 417) d_Model_programme_412 (by decide) ?_
    refine ev_less (L' := [(0, (12, a0)), (2, (0, a2)), (4, (0, z4)), (5, (0, z5)), (6, (0, z6))]) [0, 1, 2, 3, 4] rfl ?_
    exact cj_Model_programme_417_257 hd hn_a0 h hk1 hk2
def j_Model_programme_281_257 (M : Mm) (a0 : Int) (a2 : Int) (z4 : Int) (z5 : Int) (z6 : Int) (y0 : Int) : Option ((Int × Mm) ⊕ (Mm)) :=
  (loopN (l_Model_programme_286 M a0 a2 z4 z5 z6) FU (y0, 0)).bind (fun t71 =>
  j_Model_programme_388_257 M a0 a2 z4 z5 z6 t71)
theorem cj_Model_programme_281_257 {X : XX} {d : Nat} (hd : 2 ≤ d) {M : Mm} {a0 : Int} {a2 : Int} {z4 : Int} {z5 : Int} {z6 : Int} {y0 : Int} (hn_a0 : a0 ≠ 0) {x : (Int × Mm) ⊕ (Mm)} {r : Option AV} {M' : Mm} (h : j_Model_programme_281_257 M a0 a2 z4 z5 z6 y0 = some x) (hk1 : ∀ s : Int × Mm, x = .inl s → Ev X m_Model_programme d 257 [(0, (12, a0)), (2, (0, a2)), (4, (0, z4)), (5, (0, z5)), (6, (0, s.1))] [] s.2 r M') (hk2 : ∀ t : Mm, x = .inr t → Ev X m_Model_programme d 424 [(0, (12, a0)), (2, (0, a2)), (4, (0, z4)), (5, (0, z5))] [] t r M') : Ev X m_Model_programme d 281 [(0, (12, a0)), (2, (0, a2)), (4, (0, z4)), (5, (0, z5)), (6, (0, z6))] [(0, y0)] M r M' := by
  unfold j_Model_programme_281_257 at h
  refine ev_istore (L' := [(7, (0, y0)), (0, (12, a0)), (2, (0, a2)), (4, (0, z4)), (5, (0, z5)), (6, (0, z6))]) d_Model_programme_281 (by decide) rfl ?_
  refine ev_iconst d_Model_programme_283 rfl ?_
  refine ev_istore (L' := [(8, (0, 0)), (7, (0, y0)), (0, (12, a0)), (2, (0, a2)), (4, (0, z4)), (5, (0, z5)), (6, (0, z6))]) d_Model_programme_284 (by decide) rfl ?_
  obtain ⟨t71, ht71, h⟩ := bx h
  refine ev_less (L' := [(0, (12, a0)), (2, (0, a2)), (4, (0, z4)), (5, (0, z5)), (6, (0, z6)), (7, (0, y0)), (8, (0, 0))]) [2, 3, 4, 5, 6, 1, 0] rfl ?_
  refine loop_ev (step := l_Model_programme_286 M a0 a2 z4 z5 z6) (P := fun w : Int × Int => Ev X m_Model_programme d 286 [(0, (12, a0)), (2, (0, a2)), (4, (0, z4)), (5, (0, z5)), (6, (0, z6)), (7, (0, w.1)), (8, (0, w.2))] [] M r M') (Q := fun w => Ev X m_Model_programme d 388 [(0, (12, a0)), (2, (0, a2)), (4, (0, z4)), (5, (0, z5)), (6, (0, z6)), (7, (0, w))] [] M r M') (fun w x hs k1 k2 => cs_l_Model_programme_286 hd hn_a0 hs k1 k2) FU (y0, 0) t71 ht71 ?_
  exact cj_Model_programme_388_257 hd hn_a0 h hk1 hk2
def l_Model_programme_257 (a0 : Int) (a2 : Int) (z4 : Int) (z5 : Int) (s : Int × Mm) : Option ((Int × Mm) ⊕ (Mm)) :=
  if 10 ≤ s.1 then
  some (.inr s.2)
  else
  (f_Model_sumOf s.2 a0 z5).bind (fun p53 =>
  if p53 ≠ z4 then
  j_Model_programme_281_257 s.2 a0 a2 z4 z5 s.1 1000000
  else
  j_Model_programme_281_257 s.2 a0 a2 z4 z5 s.1 0)
theorem cs_l_Model_programme_257 {X : XX} {d : Nat} (hd : 2 ≤ d) {a0 : Int} {a2 : Int} {z4 : Int} {z5 : Int} (hn_a0 : a0 ≠ 0) {s : Int × Mm} {x : (Int × Mm) ⊕ (Mm)} {r : Option AV} {M' : Mm} (h : l_Model_programme_257 a0 a2 z4 z5 s = some x) (hk1 : ∀ s : Int × Mm, x = .inl s → Ev X m_Model_programme d 257 [(0, (12, a0)), (2, (0, a2)), (4, (0, z4)), (5, (0, z5)), (6, (0, s.1))] [] s.2 r M') (hk2 : ∀ t : Mm, x = .inr t → Ev X m_Model_programme d 424 [(0, (12, a0)), (2, (0, a2)), (4, (0, z4)), (5, (0, z5))] [] t r M') : Ev X m_Model_programme d 257 [(0, (12, a0)), (2, (0, a2)), (4, (0, z4)), (5, (0, z5)), (6, (0, s.1))] [] s.2 r M' := by
  unfold l_Model_programme_257 at h
  refine ev_iload 4 d_Model_programme_257 rfl ?_
  refine ev_bipush d_Model_programme_259 rfl ?_
  by_cases hc52 : 10 ≤ s.1
  · replace h := itp hc52 h
    refine ev_icmp_ge_t (tgt := 424) d_Model_programme_261 (by decide) hc52 ?_
    refine ev_less (L' := [(0, (12, a0)), (2, (0, a2)), (4, (0, z4)), (5, (0, z5))]) [0, 1, 2, 3] rfl ?_
    cases h
    exact hk2 _ rfl
  · replace h := itn hc52 h
    refine ev_icmp_ge_f d_Model_programme_261 (by decide) hc52 ?_
    refine ev_aload_n 0 d_Model_programme_264 rfl (by decide) rfl ?_
    refine ev_iload 3 d_Model_programme_265 rfl ?_
    obtain ⟨p53, hp53, h⟩ := bx h
    have hRp53 := c_Model_sumOf (X := X) (d := d - 1) (by omega) hn_a0 hp53
    refine ev_callV2 (st2 := [(0, p53)]) (as := [(0, z5)]) (rest := []) rfl (by decide) (by decide) rfl hn_a0 rfl (Nat.le_of_ble_eq_true rfl) k_Model_sumOf ⟨tw_1153, ts_90⟩ (by omega) tw_1151 d_Model_programme_267 hRp53 rfl ?_
    refine ev_iload 2 d_Model_programme_270 rfl ?_
    by_cases hc54 : p53 ≠ z4
    · replace h := itp hc54 h
      refine ev_icmp_ne_t (tgt := 279) d_Model_programme_272 (by decide) hc54 ?_
      refine ev_ldc (v := 1000000) d_Model_programme_279 tw_1110 rfl ?_
      exact cj_Model_programme_281_257 hd hn_a0 h hk1 hk2
    · replace h := itn hc54 h
      refine ev_icmp_ne_f d_Model_programme_272 (by decide) hc54 ?_
      refine ev_iconst d_Model_programme_275 rfl ?_
      refine ev_goto (tgt := 281) d_Model_programme_276 (by decide) ?_
      exact cj_Model_programme_281_257 hd hn_a0 h hk1 hk2
def l_Model_programme_249 (a0 : Int) (a2 : Int) (z4 : Int) (s : Int × Mm) : Option ((Int × Mm) ⊕ (Mm)) :=
  if s.1 < 0 then
  some (.inr s.2)
  else
  (loopN (l_Model_programme_257 a0 a2 z4 s.1) FU (0, s.2)).bind (fun t78 =>
  lt (w32 (s.1 + (-1))) (fun x79 : Int =>
  some (.inl (x79, t78))))
theorem cs_l_Model_programme_249 {X : XX} {d : Nat} (hd : 2 ≤ d) {a0 : Int} {a2 : Int} {z4 : Int} (hn_a0 : a0 ≠ 0) {s : Int × Mm} {x : (Int × Mm) ⊕ (Mm)} {r : Option AV} {M' : Mm} (h : l_Model_programme_249 a0 a2 z4 s = some x) (hk1 : ∀ s : Int × Mm, x = .inl s → Ev X m_Model_programme d 249 [(0, (12, a0)), (2, (0, a2)), (4, (0, z4)), (5, (0, s.1))] [] s.2 r M') (hk2 : ∀ t : Mm, x = .inr t → Ev X m_Model_programme d 430 [(0, (12, a0)), (2, (0, a2)), (4, (0, z4))] [] t r M') : Ev X m_Model_programme d 249 [(0, (12, a0)), (2, (0, a2)), (4, (0, z4)), (5, (0, s.1))] [] s.2 r M' := by
  unfold l_Model_programme_249 at h
  refine ev_iload 3 d_Model_programme_249 rfl ?_
  by_cases hc51 : s.1 < 0
  · replace h := itp hc51 h
    refine ev_if_lt_t (tgt := 430) d_Model_programme_251 (by decide) hc51 ?_
    refine ev_less (L' := [(0, (12, a0)), (2, (0, a2)), (4, (0, z4))]) [0, 1, 2] rfl ?_
    cases h
    exact hk2 _ rfl
  · replace h := itn hc51 h
    refine ev_if_lt_f d_Model_programme_251 (by decide) hc51 ?_
    refine ev_iconst d_Model_programme_254 rfl ?_
    refine ev_istore (L' := [(6, (0, 0)), (0, (12, a0)), (2, (0, a2)), (4, (0, z4)), (5, (0, s.1))]) d_Model_programme_255 (by decide) rfl ?_
    obtain ⟨t78, ht78, h⟩ := bx h
    refine ev_less (L' := [(0, (12, a0)), (2, (0, a2)), (4, (0, z4)), (5, (0, s.1)), (6, (0, 0))]) [1, 2, 3, 4, 0] rfl ?_
    refine loop_ev (step := l_Model_programme_257 a0 a2 z4 s.1) (P := fun w : Int × Mm => Ev X m_Model_programme d 257 [(0, (12, a0)), (2, (0, a2)), (4, (0, z4)), (5, (0, s.1)), (6, (0, w.1))] [] w.2 r M') (Q := fun w => Ev X m_Model_programme d 424 [(0, (12, a0)), (2, (0, a2)), (4, (0, z4)), (5, (0, s.1))] [] w r M') (fun w x hs k1 k2 => cs_l_Model_programme_257 hd hn_a0 hs k1 k2) FU (0, s.2) t78 ht78 ?_
    obtain ⟨x79, hx79, h⟩ := ltx h
    refine ev_iinc' 3 (y := x79) (L' := [(5, (0, x79)), (0, (12, a0)), (2, (0, a2)), (4, (0, z4))]) d_Model_programme_424 rfl (by decide) rfl hx79 ?_
    refine ev_goto (tgt := 249) d_Model_programme_427 (by decide) ?_
    refine ev_less (L' := [(0, (12, a0)), (2, (0, a2)), (4, (0, z4)), (5, (0, x79))]) [1, 2, 3, 0] rfl ?_
    cases h
    exact hk1 _ rfl
def j_Model_programme_530_465 (M : Mm) (a0 : Int) (a2 : Int) (z4 : Int) (z5 : Int) (z6 : Int) (z7 : Int) (y0 : Int) (y1 : Int) : Option ((Int) ⊕ (Int)) :=
  if (mg M (cI a0) 21) ≠ 0 then
  if (0 : Int) ≤ (w32 ((w32 (10 * z5)) + z6)) ∧ (w32 ((w32 (10 * z5)) + z6)) < (ml M (cI (mg M (cI a0) 21)) : Int) then
  if (w32 (y1 + y0)) = (mg M (cI (mg M (cI a0) 21)) ((w32 ((w32 (10 * z5)) + z6)) : Int).toNat) then
  some (.inr z7)
  else
  lt ((w32 (z7 + 1))) (fun x100 : Int =>
  some (.inl x100))
  else none
  else none
theorem cj_Model_programme_530_465 {X : XX} {d : Nat} (hd : 2 ≤ d) {M : Mm} {a0 : Int} {a2 : Int} {z4 : Int} {z5 : Int} {z6 : Int} {z7 : Int} {y0 : Int} {y1 : Int} (hn_a0 : a0 ≠ 0) {x : (Int) ⊕ (Int)} {r : Option AV} {M' : Mm} (h : j_Model_programme_530_465 M a0 a2 z4 z5 z6 z7 y0 y1 = some x) (hk1 : ∀ s : Int, x = .inl s → Ev X m_Model_programme d 465 [(0, (12, a0)), (2, (0, a2)), (4, (0, z4)), (5, (0, z5)), (6, (0, z6)), (7, (0, s))] [] M r M') (hk2 : ∀ t : Int, x = .inr t → Ev X m_Model_programme d 556 [(0, (12, a0)), (2, (0, a2)), (4, (0, z4)), (5, (0, z5)), (7, (0, t))] [] M r M') : Ev X m_Model_programme d 530 [(0, (12, a0)), (2, (0, a2)), (4, (0, z4)), (5, (0, z5)), (6, (0, z6)), (7, (0, z7))] [(0, y0), (0, y1)] M r M' := by
  unfold j_Model_programme_530_465 at h
  refine ev_iadd d_Model_programme_530 ?_
  refine ev_aload_n 0 d_Model_programme_531 rfl (by decide) rfl ?_
  refine ev_get (t := 12) (k := 21) (by decide) (by decide) rfl i_Model (by decide) rfl rfl tw_921 d_Model_programme_532 hn_a0 ?_
  refine ev_bipush d_Model_programme_535 rfl ?_
  refine ev_iload 3 d_Model_programme_537 rfl ?_
  refine ev_imul d_Model_programme_539 ?_
  refine ev_iload 4 d_Model_programme_540 rfl ?_
  refine ev_iadd d_Model_programme_542 ?_
  obtain ⟨hz97, h⟩ := gx h
  obtain ⟨hg98, h⟩ := gx h
  refine ev_iald d_Model_programme_543 hz97 hg98 ?_
  by_cases hc99 : (w32 (y1 + y0)) = (mg M (cI (mg M (cI a0) 21)) ((w32 ((w32 (10 * z5)) + z6)) : Int).toNat)
  · replace h := itp hc99 h
    refine ev_icmp_eq_t (tgt := 556) d_Model_programme_544 (by decide) hc99 ?_
    refine ev_less (L' := [(0, (12, a0)), (2, (0, a2)), (4, (0, z4)), (5, (0, z5)), (7, (0, z7))]) [0, 1, 2, 3, 5] rfl ?_
    cases h
    exact hk2 _ rfl
  · replace h := itn hc99 h
    refine ev_icmp_eq_f d_Model_programme_544 (by decide) hc99 ?_
    refine ev_iload 5 d_Model_programme_547 rfl ?_
    refine ev_iconst d_Model_programme_549 rfl ?_
    refine ev_iadd d_Model_programme_550 ?_
    obtain ⟨x100, hx100, h⟩ := ltx h
    refine ev_istore' (y := x100) (L' := [(7, (0, x100)), (0, (12, a0)), (2, (0, a2)), (4, (0, z4)), (5, (0, z5)), (6, (0, z6))]) d_Model_programme_551 (by decide) rfl hx100 ?_
    refine ev_goto (tgt := 465) d_Model_programme_553 (by decide) ?_
    refine ev_less (L' := [(0, (12, a0)), (2, (0, a2)), (4, (0, z4)), (5, (0, z5)), (6, (0, z6)), (7, (0, x100))]) [1, 2, 3, 4, 5, 0] rfl ?_
    cases h
    exact hk1 _ rfl
def l_Model_programme_465 (M : Mm) (a0 : Int) (a2 : Int) (z4 : Int) (z5 : Int) (z6 : Int) (s : Int) : Option ((Int) ⊕ (Int)) :=
  (f_Model_goes M a0 z5 z6 s a2).bind (fun p87 =>
  if p87 = 0 then
  lt ((w32 (s + 1))) (fun x89 : Int =>
  some (.inl x89))
  else
  (f_Model_sumOf M a0 (bOr z5 (bShl 1 s))).bind (fun p90 =>
  if z4 < p90 then
  lt ((w32 (s + 1))) (fun x92 : Int =>
  some (.inl x92))
  else
  if (mg M (cI a0) 21) ≠ 0 then
  if (0 : Int) ≤ (w32 ((w32 (10 * (bOr z5 (bShl 1 s)))) + s)) ∧ (w32 ((w32 (10 * (bOr z5 (bShl 1 s)))) + s)) < (ml M (cI (mg M (cI a0) 21)) : Int) then
  if z5 ≠ 0 then
  (f_Model_strainOf M a0 z6 s).bind (fun p96 =>
  j_Model_programme_530_465 M a0 a2 z4 z5 z6 s p96 ((mg M (cI (mg M (cI a0) 21)) ((w32 ((w32 (10 * (bOr z5 (bShl 1 s)))) + s)) : Int).toNat)))
  else
  j_Model_programme_530_465 M a0 a2 z4 z5 z6 s 0 ((mg M (cI (mg M (cI a0) 21)) ((w32 ((w32 (10 * (bOr z5 (bShl 1 s)))) + s)) : Int).toNat))
  else none
  else none))
theorem cs_l_Model_programme_465 {X : XX} {d : Nat} (hd : 2 ≤ d) {M : Mm} {a0 : Int} {a2 : Int} {z4 : Int} {z5 : Int} {z6 : Int} (hn_a0 : a0 ≠ 0) {s : Int} {x : (Int) ⊕ (Int)} {r : Option AV} {M' : Mm} (h : l_Model_programme_465 M a0 a2 z4 z5 z6 s = some x) (hk1 : ∀ s : Int, x = .inl s → Ev X m_Model_programme d 465 [(0, (12, a0)), (2, (0, a2)), (4, (0, z4)), (5, (0, z5)), (6, (0, z6)), (7, (0, s))] [] M r M') (hk2 : ∀ t : Int, x = .inr t → Ev X m_Model_programme d 556 [(0, (12, a0)), (2, (0, a2)), (4, (0, z4)), (5, (0, z5)), (7, (0, t))] [] M r M') : Ev X m_Model_programme d 465 [(0, (12, a0)), (2, (0, a2)), (4, (0, z4)), (5, (0, z5)), (6, (0, z6)), (7, (0, s))] [] M r M' := by
  unfold l_Model_programme_465 at h
  refine ev_aload_n 0 d_Model_programme_465 rfl (by decide) rfl ?_
  refine ev_iload 3 d_Model_programme_466 rfl ?_
  refine ev_iload 4 d_Model_programme_468 rfl ?_
  refine ev_iload 5 d_Model_programme_470 rfl ?_
  refine ev_iload_n 1 d_Model_programme_472 rfl rfl ?_
  obtain ⟨p87, hp87, h⟩ := bx h
  have hRp87 := c_Model_goes (X := X) (d := d - 1) (by omega) hn_a0 hp87
  refine ev_callV2 (st2 := [(0, p87)]) (as := [(0, z5), (0, z6), (0, s), (0, a2)]) (rest := []) rfl (by decide) (by decide) rfl hn_a0 rfl (Nat.le_of_ble_eq_true rfl) k_Model_goes ⟨tw_1157, ts_91⟩ (by omega) tw_1155 d_Model_programme_473 hRp87 rfl ?_
  by_cases hc88 : p87 = 0
  · replace h := itp hc88 h
    refine ev_if_eq_t (tgt := 547) d_Model_programme_476 (by decide) hc88 ?_
    refine ev_iload 5 d_Model_programme_547 rfl ?_
    refine ev_iconst d_Model_programme_549 rfl ?_
    refine ev_iadd d_Model_programme_550 ?_
    obtain ⟨x89, hx89, h⟩ := ltx h
    refine ev_istore' (y := x89) (L' := [(7, (0, x89)), (0, (12, a0)), (2, (0, a2)), (4, (0, z4)), (5, (0, z5)), (6, (0, z6))]) d_Model_programme_551 (by decide) rfl hx89 ?_
    refine ev_goto (tgt := 465) d_Model_programme_553 (by decide) ?_
    refine ev_less (L' := [(0, (12, a0)), (2, (0, a2)), (4, (0, z4)), (5, (0, z5)), (6, (0, z6)), (7, (0, x89))]) [1, 2, 3, 4, 5, 0] rfl ?_
    cases h
    exact hk1 _ rfl
  · replace h := itn hc88 h
    refine ev_if_eq_f d_Model_programme_476 (by decide) hc88 ?_
    refine ev_aload_n 0 d_Model_programme_479 rfl (by decide) rfl ?_
    refine ev_iload 3 d_Model_programme_480 rfl ?_
    refine ev_iconst d_Model_programme_482 rfl ?_
    refine ev_iload 5 d_Model_programme_483 rfl ?_
    refine ev_ishl d_Model_programme_485 ?_
    refine ev_ior d_Model_programme_486 ?_
    obtain ⟨p90, hp90, h⟩ := bx h
    have hRp90 := c_Model_sumOf (X := X) (d := d - 1) (by omega) hn_a0 hp90
    refine ev_callV2 (st2 := [(0, p90)]) (as := [(0, (bOr z5 (bShl 1 s)))]) (rest := []) rfl (by decide) (by decide) rfl hn_a0 rfl (Nat.le_of_ble_eq_true rfl) k_Model_sumOf ⟨tw_1153, ts_90⟩ (by omega) tw_1151 d_Model_programme_487 hRp90 rfl ?_
    refine ev_iload 2 d_Model_programme_490 rfl ?_
    by_cases hc91 : z4 < p90
    · replace h := itp hc91 h
      refine ev_icmp_gt_t (tgt := 547) d_Model_programme_492 (by decide) hc91 ?_
      refine ev_iload 5 d_Model_programme_547 rfl ?_
      refine ev_iconst d_Model_programme_549 rfl ?_
      refine ev_iadd d_Model_programme_550 ?_
      obtain ⟨x92, hx92, h⟩ := ltx h
      refine ev_istore' (y := x92) (L' := [(7, (0, x92)), (0, (12, a0)), (2, (0, a2)), (4, (0, z4)), (5, (0, z5)), (6, (0, z6))]) d_Model_programme_551 (by decide) rfl hx92 ?_
      refine ev_goto (tgt := 465) d_Model_programme_553 (by decide) ?_
      refine ev_less (L' := [(0, (12, a0)), (2, (0, a2)), (4, (0, z4)), (5, (0, z5)), (6, (0, z6)), (7, (0, x92))]) [1, 2, 3, 4, 5, 0] rfl ?_
      cases h
      exact hk1 _ rfl
    · replace h := itn hc91 h
      refine ev_icmp_gt_f d_Model_programme_492 (by decide) hc91 ?_
      refine ev_aload_n 0 d_Model_programme_495 rfl (by decide) rfl ?_
      refine ev_get (t := 12) (k := 21) (by decide) (by decide) rfl i_Model (by decide) rfl rfl tw_921 d_Model_programme_496 hn_a0 ?_
      refine ev_bipush d_Model_programme_499 rfl ?_
      refine ev_iload 3 d_Model_programme_501 rfl ?_
      refine ev_iconst d_Model_programme_503 rfl ?_
      refine ev_iload 5 d_Model_programme_504 rfl ?_
      refine ev_ishl d_Model_programme_506 ?_
      refine ev_ior d_Model_programme_507 ?_
      refine ev_imul d_Model_programme_508 ?_
      refine ev_iload 5 d_Model_programme_509 rfl ?_
      refine ev_iadd d_Model_programme_511 ?_
      obtain ⟨hz93, h⟩ := gx h
      obtain ⟨hg94, h⟩ := gx h
      refine ev_iald d_Model_programme_512 hz93 hg94 ?_
      refine ev_iload 3 d_Model_programme_513 rfl ?_
      by_cases hc95 : z5 ≠ 0
      · replace h := itp hc95 h
        refine ev_if_ne_t (tgt := 522) d_Model_programme_515 (by decide) hc95 ?_
        refine ev_aload_n 0 d_Model_programme_522 rfl (by decide) rfl ?_
        refine ev_iload 4 d_Model_programme_523 rfl ?_
        refine ev_iload 5 d_Model_programme_525 rfl ?_
        obtain ⟨p96, hp96, h⟩ := bx h
        have hRp96 := c_Model_strainOf (X := X) (d := d - 1) (by omega) hn_a0 hp96
        refine ev_callV2 (st2 := [(0, p96), (0, (mg M (cI (mg M (cI a0) 21)) ((w32 ((w32 (10 * (bOr z5 (bShl 1 s)))) + s)) : Int).toNat))]) (as := [(0, z6), (0, s)]) (rest := [(0, (mg M (cI (mg M (cI a0) 21)) ((w32 ((w32 (10 * (bOr z5 (bShl 1 s)))) + s)) : Int).toNat))]) rfl (by decide) (by decide) rfl hn_a0 rfl (Nat.le_of_ble_eq_true rfl) k_Model_strainOf ⟨tw_1161, ts_92⟩ (by omega) tw_1159 d_Model_programme_527 hRp96 rfl ?_
        exact cj_Model_programme_530_465 hd hn_a0 h hk1 hk2
      · replace h := itn hc95 h
        refine ev_if_ne_f d_Model_programme_515 (by decide) hc95 ?_
        refine ev_iconst d_Model_programme_518 rfl ?_
        refine ev_goto (tgt := 530) d_Model_programme_519 (by decide) ?_
        exact cj_Model_programme_530_465 hd hn_a0 h hk1 hk2
def l_Model_programme_451 (a0 : Int) (a2 : Int) (z4 : Int) (s : Int × Int × Mm) : Option ((Int × Int × Mm) ⊕ (Mm)) :=
  (f_Model_sumOf s.2.2 a0 s.1).bind (fun p85 =>
  if z4 ≤ p85 then
  some (.inr s.2.2)
  else
  (loopN (l_Model_programme_465 s.2.2 a0 a2 z4 s.1 s.2.1) FU 0).bind (fun t101 =>
  if (mg s.2.2 (cI a0) 20) ≠ 0 then
  if (0 : Int) ≤ (mg s.2.2 (cI a0) 18) ∧ (mg s.2.2 (cI a0) 18) < (ml s.2.2 (cI (mg s.2.2 (cI a0) 20)) : Int) then
  lt (mp s.2.2 (cI (mg s.2.2 (cI a0) 20)) ((mg s.2.2 (cI a0) 18) : Int).toNat t101) (fun M104 =>
  lt (mp M104 (cI a0) 18 (w32 ((mg M104 (cI a0) 18) + 1))) (fun M105 =>
  lt ((bOr s.1 (bShl 1 t101))) (fun x106 : Int =>
  some (.inl (x106, t101, M105)))))
  else none
  else none))
theorem cs_l_Model_programme_451 {X : XX} {d : Nat} (hd : 2 ≤ d) {a0 : Int} {a2 : Int} {z4 : Int} (hn_a0 : a0 ≠ 0) {s : Int × Int × Mm} {x : (Int × Int × Mm) ⊕ (Mm)} {r : Option AV} {M' : Mm} (h : l_Model_programme_451 a0 a2 z4 s = some x) (hk1 : ∀ s : Int × Int × Mm, x = .inl s → Ev X m_Model_programme d 451 [(0, (12, a0)), (2, (0, a2)), (4, (0, z4)), (5, (0, s.1)), (6, (0, s.2.1))] [] s.2.2 r M') (hk2 : ∀ t : Mm, x = .inr t → Ev X m_Model_programme d 593 [(4, (0, z4))] [] t r M') : Ev X m_Model_programme d 451 [(0, (12, a0)), (2, (0, a2)), (4, (0, z4)), (5, (0, s.1)), (6, (0, s.2.1))] [] s.2.2 r M' := by
  unfold l_Model_programme_451 at h
  refine ev_aload_n 0 d_Model_programme_451 rfl (by decide) rfl ?_
  refine ev_iload 3 d_Model_programme_452 rfl ?_
  obtain ⟨p85, hp85, h⟩ := bx h
  have hRp85 := c_Model_sumOf (X := X) (d := d - 1) (by omega) hn_a0 hp85
  refine ev_callV2 (st2 := [(0, p85)]) (as := [(0, s.1)]) (rest := []) rfl (by decide) (by decide) rfl hn_a0 rfl (Nat.le_of_ble_eq_true rfl) k_Model_sumOf ⟨tw_1153, ts_90⟩ (by omega) tw_1151 d_Model_programme_454 hRp85 rfl ?_
  refine ev_iload 2 d_Model_programme_457 rfl ?_
  by_cases hc86 : z4 ≤ p85
  · replace h := itp hc86 h
    refine ev_icmp_ge_t (tgt := 593) d_Model_programme_459 (by decide) hc86 ?_
    refine ev_less (L' := [(4, (0, z4))]) [2] rfl ?_
    cases h
    exact hk2 _ rfl
  · replace h := itn hc86 h
    refine ev_icmp_ge_f d_Model_programme_459 (by decide) hc86 ?_
    refine ev_iconst d_Model_programme_462 rfl ?_
    refine ev_istore (L' := [(7, (0, 0)), (0, (12, a0)), (2, (0, a2)), (4, (0, z4)), (5, (0, s.1)), (6, (0, s.2.1))]) d_Model_programme_463 (by decide) rfl ?_
    obtain ⟨t101, ht101, h⟩ := bx h
    refine ev_less (L' := [(0, (12, a0)), (2, (0, a2)), (4, (0, z4)), (5, (0, s.1)), (6, (0, s.2.1)), (7, (0, 0))]) [1, 2, 3, 4, 5, 0] rfl ?_
    refine loop_ev (step := l_Model_programme_465 s.2.2 a0 a2 z4 s.1 s.2.1) (P := fun w : Int => Ev X m_Model_programme d 465 [(0, (12, a0)), (2, (0, a2)), (4, (0, z4)), (5, (0, s.1)), (6, (0, s.2.1)), (7, (0, w))] [] s.2.2 r M') (Q := fun w => Ev X m_Model_programme d 556 [(0, (12, a0)), (2, (0, a2)), (4, (0, z4)), (5, (0, s.1)), (7, (0, w))] [] s.2.2 r M') (fun w x hs k1 k2 => cs_l_Model_programme_465 hd hn_a0 hs k1 k2) FU 0 t101 ht101 ?_
    refine ev_aload_n 0 d_Model_programme_556 rfl (by decide) rfl ?_
    refine ev_get (t := 12) (k := 20) (by decide) (by decide) rfl i_Model (by decide) rfl rfl tw_920 d_Model_programme_557 hn_a0 ?_
    refine ev_aload_n 0 d_Model_programme_560 rfl (by decide) rfl ?_
    refine ev_get (t := 12) (k := 18) (by decide) (by decide) rfl i_Model (by decide) rfl rfl tw_918 d_Model_programme_561 hn_a0 ?_
    refine ev_iload 4 d_Model_programme_564 rfl ?_
    obtain ⟨hz102, h⟩ := gx h
    obtain ⟨hg103, h⟩ := gx h
    obtain ⟨M104, hM104, h⟩ := ltx h
    refine ev_iast' d_Model_programme_566 hz102 hg103 hM104 ?_
    refine ev_aload_n 0 d_Model_programme_567 rfl (by decide) rfl ?_
    refine ev_aload_n 0 d_Model_programme_568 rfl (by decide) rfl ?_
    refine ev_get (t := 12) (k := 18) (by decide) (by decide) rfl i_Model (by decide) rfl rfl tw_918 d_Model_programme_569 hn_a0 ?_
    refine ev_iconst d_Model_programme_572 rfl ?_
    refine ev_iadd d_Model_programme_573 ?_
    obtain ⟨M105, hM105, h⟩ := ltx h
    refine ev_put' (t := 12) (k := 18) (by decide) (by decide) rfl i_Model t_Model_ok n_Model (by decide) rfl rfl rfl rfl tw_918 d_Model_programme_574 hn_a0 hM105 ?_
    refine ev_iload 3 d_Model_programme_577 rfl ?_
    refine ev_iconst d_Model_programme_579 rfl ?_
    refine ev_iload 4 d_Model_programme_580 rfl ?_
    refine ev_ishl d_Model_programme_582 ?_
    refine ev_ior d_Model_programme_583 ?_
    obtain ⟨x106, hx106, h⟩ := ltx h
    refine ev_istore' (y := x106) (L' := [(5, (0, x106)), (0, (12, a0)), (2, (0, a2)), (4, (0, z4)), (7, (0, t101))]) d_Model_programme_584 (by decide) rfl hx106 ?_
    refine ev_iload 4 d_Model_programme_586 rfl ?_
    refine ev_istore (L' := [(6, (0, t101)), (5, (0, x106)), (0, (12, a0)), (2, (0, a2)), (4, (0, z4)), (7, (0, t101))]) d_Model_programme_588 (by decide) rfl ?_
    refine ev_goto (tgt := 451) d_Model_programme_590 (by decide) ?_
    refine ev_less (L' := [(0, (12, a0)), (2, (0, a2)), (4, (0, z4)), (5, (0, x106)), (6, (0, t101))]) [2, 3, 4, 1, 0] rfl ?_
    cases h
    exact hk1 _ rfl
def f_Model_programme (M : Mm) (a0 : Int) (a1 : Int) (a2 : Int) : Option (Int × Mm) :=
  lt (mp M (cI a0) 0 0) (fun M1 =>
  if a1 < 0 then
  some ((-1), M1)
  else
  if 600 < a1 then
  some ((-1), M1)
  else
  if a2 < 0 then
  some ((-1), M1)
  else
  if a2 ≤ 18 then
  lt ((bShl 1 (mg M1 (cI a0) 7))) (fun x6 : Int =>
  (loopN (l_Model_programme_38 a0 a1 a2 x6) FU (0, M1)).bind (fun t15 =>
  (loopN (l_Model_programme_77 a0 a1 a2 x6) FU (0, t15)).bind (fun t21 =>
  if (mg t21 (cI a0) 22) ≠ 0 then
  if (0 : Int) ≤ 0 ∧ 0 < (ml t21 (cI (mg t21 (cI a0) 22)) : Int) then
  lt (mp t21 (cI (mg t21 (cI a0) 22)) (0 : Int).toNat 1) (fun M24 =>
  (loopN (l_Model_programme_112 a0 a1 a2 x6) FU (0, 0, M24)).bind (fun t49 =>
  lt ((w32 (x6 - 1))) (fun x50 : Int =>
  (loopN (l_Model_programme_249 a0 a2 t49.1) FU (x50, t49.2)).bind (fun t80 =>
  if (mg t80 (cI a0) 21) ≠ 0 then
  if (0 : Int) ≤ 0 ∧ 0 < (ml t80 (cI (mg t80 (cI a0) 21)) : Int) then
  lt (mp t80 (cI a0) 19 (mg t80 (cI (mg t80 (cI a0) 21)) (0 : Int).toNat)) (fun M83 =>
  lt (mp M83 (cI a0) 18 0) (fun M84 =>
  (loopN (l_Model_programme_451 a0 a2 t49.1) FU (0, 0, M84)).bind (fun t107 =>
  some (t49.1, t107))))
  else none
  else none))))
  else none
  else none)))
  else
  some ((-1), M1))
theorem c_Model_programme {X : XX} {d : Nat} (hd : 2 ≤ d) {M : Mm} {a0 : Int} {a1 : Int} {a2 : Int} (hn_a0 : a0 ≠ 0) {p : Int × Mm} (h : f_Model_programme M a0 a1 a2 = some p) : Rn X d m_Model_programme [(12, a0), (0, a1), (0, a2)] M (some (0, p.1)) p.2 := by
  refine Rn_of (by decide) rfl (Nat.le_of_ble_eq_true rfl) ?_
  unfold f_Model_programme at h
  refine ev_less (L' := [(0, (12, a0)), (1, (0, a1)), (2, (0, a2))]) [0, 1, 2] rfl ?_
  refine ev_aload_n 0 d_Model_programme_0 rfl (by decide) rfl ?_
  refine ev_iconst d_Model_programme_1 rfl ?_
  obtain ⟨M1, hM1, h⟩ := ltx h
  refine ev_put' (t := 12) (k := 0) (by decide) (by decide) rfl i_Model t_Model_ok n_Model (by decide) rfl rfl rfl rfl tw_900 d_Model_programme_2 hn_a0 hM1 ?_
  refine ev_iload_n 1 d_Model_programme_5 rfl rfl ?_
  by_cases hc2 : a1 < 0
  · replace h := itp hc2 h
    refine ev_if_lt_t (tgt := 26) d_Model_programme_6 (by decide) hc2 ?_
    refine ev_iconst d_Model_programme_26 rfl ?_
    cases h
    exact ev_ret d_Model_programme_27 rfl
  · replace h := itn hc2 h
    refine ev_if_lt_f d_Model_programme_6 (by decide) hc2 ?_
    refine ev_iload_n 1 d_Model_programme_9 rfl rfl ?_
    refine ev_sipush d_Model_programme_10 rfl ?_
    by_cases hc3 : 600 < a1
    · replace h := itp hc3 h
      refine ev_icmp_gt_t (tgt := 26) d_Model_programme_13 (by decide) hc3 ?_
      refine ev_iconst d_Model_programme_26 rfl ?_
      cases h
      exact ev_ret d_Model_programme_27 rfl
    · replace h := itn hc3 h
      refine ev_icmp_gt_f d_Model_programme_13 (by decide) hc3 ?_
      refine ev_iload_n 2 d_Model_programme_16 rfl rfl ?_
      by_cases hc4 : a2 < 0
      · replace h := itp hc4 h
        refine ev_if_lt_t (tgt := 26) d_Model_programme_17 (by decide) hc4 ?_
        refine ev_iconst d_Model_programme_26 rfl ?_
        cases h
        exact ev_ret d_Model_programme_27 rfl
      · replace h := itn hc4 h
        refine ev_if_lt_f d_Model_programme_17 (by decide) hc4 ?_
        refine ev_iload_n 2 d_Model_programme_20 rfl rfl ?_
        refine ev_bipush d_Model_programme_21 rfl ?_
        by_cases hc5 : a2 ≤ 18
        · replace h := itp hc5 h
          refine ev_icmp_le_t (tgt := 28) d_Model_programme_23 (by decide) hc5 ?_
          refine ev_iconst d_Model_programme_28 rfl ?_
          refine ev_aload_n 0 d_Model_programme_29 rfl (by decide) rfl ?_
          refine ev_get (t := 12) (k := 7) (by decide) (by decide) rfl i_Model (by decide) rfl rfl tw_907 d_Model_programme_30 hn_a0 ?_
          refine ev_ishl d_Model_programme_33 ?_
          obtain ⟨x6, hx6, h⟩ := ltx h
          refine ev_istore_n' (y := x6) (L' := [(3, (0, x6)), (0, (12, a0)), (1, (0, a1)), (2, (0, a2))]) d_Model_programme_34 rfl (by decide) rfl hx6 ?_
          refine ev_iconst d_Model_programme_35 rfl ?_
          refine ev_istore (L' := [(4, (0, 0)), (3, (0, x6)), (0, (12, a0)), (1, (0, a1)), (2, (0, a2))]) d_Model_programme_36 (by decide) rfl ?_
          obtain ⟨t15, ht15, h⟩ := bx h
          refine ev_less (L' := [(0, (12, a0)), (1, (0, a1)), (2, (0, a2)), (3, (0, x6)), (4, (0, 0))]) [2, 3, 4, 1, 0] rfl ?_
          refine loop_ev (step := l_Model_programme_38 a0 a1 a2 x6) (P := fun w : Int × Mm => Ev X m_Model_programme d 38 [(0, (12, a0)), (1, (0, a1)), (2, (0, a2)), (3, (0, x6)), (4, (0, w.1))] [] w.2 (some (0, p.1)) p.2) (Q := fun w => Ev X m_Model_programme d 74 [(0, (12, a0)), (1, (0, a1)), (2, (0, a2)), (3, (0, x6))] [] w (some (0, p.1)) p.2) (fun w x hs k1 k2 => cs_l_Model_programme_38 hd hn_a0 hs k1 k2) FU (0, M1) t15 ht15 ?_
          refine ev_iconst d_Model_programme_74 rfl ?_
          refine ev_istore (L' := [(4, (0, 0)), (0, (12, a0)), (1, (0, a1)), (2, (0, a2)), (3, (0, x6))]) d_Model_programme_75 (by decide) rfl ?_
          obtain ⟨t21, ht21, h⟩ := bx h
          refine ev_less (L' := [(0, (12, a0)), (1, (0, a1)), (2, (0, a2)), (3, (0, x6)), (4, (0, 0))]) [1, 2, 3, 4, 0] rfl ?_
          refine loop_ev (step := l_Model_programme_77 a0 a1 a2 x6) (P := fun w : Int × Mm => Ev X m_Model_programme d 77 [(0, (12, a0)), (1, (0, a1)), (2, (0, a2)), (3, (0, x6)), (4, (0, w.1))] [] w.2 (some (0, p.1)) p.2) (Q := fun w => Ev X m_Model_programme d 99 [(0, (12, a0)), (1, (0, a1)), (2, (0, a2)), (3, (0, x6))] [] w (some (0, p.1)) p.2) (fun w x hs k1 k2 => cs_l_Model_programme_77 hd hn_a0 hs k1 k2) FU (0, t15) t21 ht21 ?_
          refine ev_aload_n 0 d_Model_programme_99 rfl (by decide) rfl ?_
          refine ev_get (t := 12) (k := 22) (by decide) (by decide) rfl i_Model (by decide) rfl rfl tw_922 d_Model_programme_100 hn_a0 ?_
          refine ev_iconst d_Model_programme_103 rfl ?_
          refine ev_iconst d_Model_programme_104 rfl ?_
          obtain ⟨hz22, h⟩ := gx h
          obtain ⟨hg23, h⟩ := gx h
          obtain ⟨M24, hM24, h⟩ := ltx h
          refine ev_zast' d_Model_programme_105 hz22 hg23 (Or.inr rfl) hM24 ?_
          refine ev_iconst d_Model_programme_106 rfl ?_
          refine ev_istore (L' := [(4, (0, 0)), (0, (12, a0)), (1, (0, a1)), (2, (0, a2)), (3, (0, x6))]) d_Model_programme_107 (by decide) rfl ?_
          refine ev_iconst d_Model_programme_109 rfl ?_
          refine ev_istore (L' := [(5, (0, 0)), (4, (0, 0)), (0, (12, a0)), (1, (0, a1)), (2, (0, a2)), (3, (0, x6))]) d_Model_programme_110 (by decide) rfl ?_
          obtain ⟨t49, ht49, h⟩ := bx h
          refine ev_less (L' := [(0, (12, a0)), (1, (0, a1)), (2, (0, a2)), (3, (0, x6)), (4, (0, 0)), (5, (0, 0))]) [2, 3, 4, 5, 1, 0] rfl ?_
          refine loop_ev (step := l_Model_programme_112 a0 a1 a2 x6) (P := fun w : Int × Int × Mm => Ev X m_Model_programme d 112 [(0, (12, a0)), (1, (0, a1)), (2, (0, a2)), (3, (0, x6)), (4, (0, w.1)), (5, (0, w.2.1))] [] w.2.2 (some (0, p.1)) p.2) (Q := fun w => Ev X m_Model_programme d 244 [(0, (12, a0)), (2, (0, a2)), (3, (0, x6)), (4, (0, w.1))] [] w.2 (some (0, p.1)) p.2) (fun w x hs k1 k2 => cs_l_Model_programme_112 hd hn_a0 hs k1 k2) FU (0, 0, M24) t49 ht49 ?_
          refine ev_iload_n 2 d_Model_programme_244 rfl rfl ?_
          refine ev_iconst d_Model_programme_245 rfl ?_
          refine ev_isub d_Model_programme_246 ?_
          obtain ⟨x50, hx50, h⟩ := ltx h
          refine ev_istore' (y := x50) (L' := [(5, (0, x50)), (0, (12, a0)), (2, (0, a2)), (3, (0, x6)), (4, (0, t49.1))]) d_Model_programme_247 (by decide) rfl hx50 ?_
          obtain ⟨t80, ht80, h⟩ := bx h
          refine ev_less (L' := [(0, (12, a0)), (2, (0, a2)), (4, (0, t49.1)), (5, (0, x50))]) [1, 2, 4, 0] rfl ?_
          refine loop_ev (step := l_Model_programme_249 a0 a2 t49.1) (P := fun w : Int × Mm => Ev X m_Model_programme d 249 [(0, (12, a0)), (2, (0, a2)), (4, (0, t49.1)), (5, (0, w.1))] [] w.2 (some (0, p.1)) p.2) (Q := fun w => Ev X m_Model_programme d 430 [(0, (12, a0)), (2, (0, a2)), (4, (0, t49.1))] [] w (some (0, p.1)) p.2) (fun w x hs k1 k2 => cs_l_Model_programme_249 hd hn_a0 hs k1 k2) FU (x50, t49.2) t80 ht80 ?_
          refine ev_aload_n 0 d_Model_programme_430 rfl (by decide) rfl ?_
          refine ev_aload_n 0 d_Model_programme_431 rfl (by decide) rfl ?_
          refine ev_get (t := 12) (k := 21) (by decide) (by decide) rfl i_Model (by decide) rfl rfl tw_921 d_Model_programme_432 hn_a0 ?_
          refine ev_iconst d_Model_programme_435 rfl ?_
          obtain ⟨hz81, h⟩ := gx h
          obtain ⟨hg82, h⟩ := gx h
          refine ev_iald d_Model_programme_436 hz81 hg82 ?_
          obtain ⟨M83, hM83, h⟩ := ltx h
          refine ev_put' (t := 12) (k := 19) (by decide) (by decide) rfl i_Model t_Model_ok n_Model (by decide) rfl rfl rfl rfl tw_919 d_Model_programme_437 hn_a0 hM83 ?_
          refine ev_aload_n 0 d_Model_programme_440 rfl (by decide) rfl ?_
          refine ev_iconst d_Model_programme_441 rfl ?_
          obtain ⟨M84, hM84, h⟩ := ltx h
          refine ev_put' (t := 12) (k := 18) (by decide) (by decide) rfl i_Model t_Model_ok n_Model (by decide) rfl rfl rfl rfl tw_918 d_Model_programme_442 hn_a0 hM84 ?_
          refine ev_iconst d_Model_programme_445 rfl ?_
          refine ev_istore (L' := [(5, (0, 0)), (0, (12, a0)), (2, (0, a2)), (4, (0, t49.1))]) d_Model_programme_446 (by decide) rfl ?_
          refine ev_iconst d_Model_programme_448 rfl ?_
          refine ev_istore (L' := [(6, (0, 0)), (5, (0, 0)), (0, (12, a0)), (2, (0, a2)), (4, (0, t49.1))]) d_Model_programme_449 (by decide) rfl ?_
          obtain ⟨t107, ht107, h⟩ := bx h
          refine ev_less (L' := [(0, (12, a0)), (2, (0, a2)), (4, (0, t49.1)), (5, (0, 0)), (6, (0, 0))]) [2, 3, 4, 1, 0] rfl ?_
          refine loop_ev (step := l_Model_programme_451 a0 a2 t49.1) (P := fun w : Int × Int × Mm => Ev X m_Model_programme d 451 [(0, (12, a0)), (2, (0, a2)), (4, (0, t49.1)), (5, (0, w.1)), (6, (0, w.2.1))] [] w.2.2 (some (0, p.1)) p.2) (Q := fun w => Ev X m_Model_programme d 593 [(4, (0, t49.1))] [] w (some (0, p.1)) p.2) (fun w x hs k1 k2 => cs_l_Model_programme_451 hd hn_a0 hs k1 k2) FU (0, 0, M84) t107 ht107 ?_
          refine ev_iload 0 d_Model_programme_593 rfl ?_
          cases h
          exact ev_ret d_Model_programme_595 rfl
        · replace h := itn hc5 h
          refine ev_icmp_le_f d_Model_programme_23 (by decide) hc5 ?_
          refine ev_iconst d_Model_programme_26 rfl ?_
          cases h
          exact ev_ret d_Model_programme_27 rfl
def f_Model_plan (M : Mm) (a0 : Int) (a1 : Int) : Option (Int × Mm) :=
  lt (mp M (cI a0) 0 0) (fun M1 =>
  if a1 < 0 then
  some ((-1), M1)
  else
  if (mg M1 (cI a0) 18) ≤ a1 then
  some ((-1), M1)
  else
  if (mg M1 (cI a0) 20) ≠ 0 then
  if (0 : Int) ≤ a1 ∧ a1 < (ml M1 (cI (mg M1 (cI a0) 20)) : Int) then
  some ((mg M1 (cI (mg M1 (cI a0) 20)) (a1 : Int).toNat), M1)
  else none
  else none)
theorem c_Model_plan {X : XX} {d : Nat} (hd : 0 ≤ d) {M : Mm} {a0 : Int} {a1 : Int} (hn_a0 : a0 ≠ 0) {p : Int × Mm} (h : f_Model_plan M a0 a1 = some p) : Rn X d m_Model_plan [(12, a0), (0, a1)] M (some (0, p.1)) p.2 := by
  refine Rn_of (by decide) rfl (Nat.le_of_ble_eq_true rfl) ?_
  unfold f_Model_plan at h
  refine ev_less (L' := [(0, (12, a0)), (1, (0, a1))]) [0, 1] rfl ?_
  refine ev_aload_n 0 d_Model_plan_0 rfl (by decide) rfl ?_
  refine ev_iconst d_Model_plan_1 rfl ?_
  obtain ⟨M1, hM1, h⟩ := ltx h
  refine ev_put' (t := 12) (k := 0) (by decide) (by decide) rfl i_Model t_Model_ok n_Model (by decide) rfl rfl rfl rfl tw_900 d_Model_plan_2 hn_a0 hM1 ?_
  refine ev_iload_n 1 d_Model_plan_5 rfl rfl ?_
  by_cases hc2 : a1 < 0
  · replace h := itp hc2 h
    refine ev_if_lt_t (tgt := 26) d_Model_plan_6 (by decide) hc2 ?_
    refine ev_iconst d_Model_plan_26 rfl ?_
    cases h
    exact ev_ret d_Model_plan_27 rfl
  · replace h := itn hc2 h
    refine ev_if_lt_f d_Model_plan_6 (by decide) hc2 ?_
    refine ev_iload_n 1 d_Model_plan_9 rfl rfl ?_
    refine ev_aload_n 0 d_Model_plan_10 rfl (by decide) rfl ?_
    refine ev_get (t := 12) (k := 18) (by decide) (by decide) rfl i_Model (by decide) rfl rfl tw_918 d_Model_plan_11 hn_a0 ?_
    by_cases hc3 : (mg M1 (cI a0) 18) ≤ a1
    · replace h := itp hc3 h
      refine ev_icmp_ge_t (tgt := 26) d_Model_plan_14 (by decide) hc3 ?_
      refine ev_iconst d_Model_plan_26 rfl ?_
      cases h
      exact ev_ret d_Model_plan_27 rfl
    · replace h := itn hc3 h
      refine ev_icmp_ge_f d_Model_plan_14 (by decide) hc3 ?_
      refine ev_aload_n 0 d_Model_plan_17 rfl (by decide) rfl ?_
      refine ev_get (t := 12) (k := 20) (by decide) (by decide) rfl i_Model (by decide) rfl rfl tw_920 d_Model_plan_18 hn_a0 ?_
      refine ev_iload_n 1 d_Model_plan_21 rfl rfl ?_
      obtain ⟨hz4, h⟩ := gx h
      obtain ⟨hg5, h⟩ := gx h
      refine ev_iald d_Model_plan_22 hz4 hg5 ?_
      refine ev_goto (tgt := 27) d_Model_plan_23 (by decide) ?_
      cases h
      exact ev_ret d_Model_plan_27 rfl
end
