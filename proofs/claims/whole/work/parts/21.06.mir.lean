noncomputable section
def j_Seater_seatWithFewestChanges_97_13 (M : Mm) (a0 : Int) (a1 : Int) (a2 : Int) (z3 : Int) (z4 : Int) (y0 : Int) (y1 : Int) (y2 : Int) (y3 : Int) : Option ((Int × Mm) ⊕ (Mm)) :=
  (f_Seater_weigh M y3 y2 y1 y0).bind (fun p9 =>
  lt (w32 (z4 + 1)) (fun x10 : Int =>
  some (.inl (x10, p9))))
theorem cj_Seater_seatWithFewestChanges_97_13 {X : XX} {d : Nat} (hd : 4 ≤ d) {M : Mm} {a0 : Int} {a1 : Int} {a2 : Int} {z3 : Int} {z4 : Int} {y0 : Int} {y1 : Int} {y2 : Int} {y3 : Int} (hn_a0 : a0 ≠ 0) (hn_a1 : a1 ≠ 0) (hn_a2 : a2 ≠ 0) (hn_y3 : y3 ≠ 0) {x : (Int × Mm) ⊕ (Mm)} {r : Option AV} {M' : Mm} (h : j_Seater_seatWithFewestChanges_97_13 M a0 a1 a2 z3 z4 y0 y1 y2 y3 = some x) (hk1 : ∀ s : Int × Mm, x = .inl s → Ev X m_Seater_seatWithFewestChanges d 13 [(0, (9, a0)), (1, (5, a1)), (2, (7, a2)), (3, (0, z3)), (4, (0, s.1))] [] s.2 r M') (hk2 : ∀ t : Mm, x = .inr t → Ev X m_Seater_seatWithFewestChanges d 106 [(0, (9, a0)), (1, (5, a1)), (2, (7, a2)), (3, (0, z3))] [] t r M') : Ev X m_Seater_seatWithFewestChanges d 97 [(0, (9, a0)), (1, (5, a1)), (2, (7, a2)), (3, (0, z3)), (4, (0, z4))] [(1, y0), (0, y1), (0, y2), (9, y3)] M r M' := by
  unfold j_Seater_seatWithFewestChanges_97_13 at h
  obtain ⟨p9, hp9, h⟩ := bx h
  have hRp9 := c_Seater_weigh (X := X) (d := d - 1) (by omega) hn_y3 hp9
  refine ev_callV2 (st2 := []) (as := [(0, y2), (0, y1), (1, y0)]) (rest := []) rfl (by decide) (by decide) rfl hn_y3 rfl (Nat.le_of_ble_eq_true rfl) k_Seater_weigh ⟨tw_673, ts_44⟩ (by omega) tw_671 d_Seater_seatWithFewestChanges_97 hRp9 rfl ?_
  obtain ⟨x10, hx10, h⟩ := ltx h
  refine ev_iinc' 4 (y := x10) (L' := [(4, (0, x10)), (0, (9, a0)), (1, (5, a1)), (2, (7, a2)), (3, (0, z3))]) d_Seater_seatWithFewestChanges_100 rfl (by decide) rfl hx10 ?_
  refine ev_goto (tgt := 13) d_Seater_seatWithFewestChanges_103 (by decide) ?_
  refine ev_less (L' := [(0, (9, a0)), (1, (5, a1)), (2, (7, a2)), (3, (0, z3)), (4, (0, x10))]) [1, 2, 3, 4, 0] rfl ?_
  cases h
  exact hk1 _ rfl
def j_Seater_seatWithFewestChanges_68_13 (M : Mm) (a0 : Int) (a1 : Int) (a2 : Int) (z3 : Int) (z4 : Int) (z5 : Int) (y0 : Int) : Option ((Int × Mm) ⊕ (Mm)) :=
  if z5 = 0 then
  j_Seater_seatWithFewestChanges_97_13 M a0 a1 a2 z3 z4 5766503906250000 z4 z3 a0
  else
  if (0 : Int) ≤ z3 ∧ z3 < 10 then
  j_Seater_seatWithFewestChanges_97_13 M a0 a1 a2 z3 z4 ((w64 (y0 + (w64 (z4 * (dg1.getD (z3 : Int).toNat 0)))))) z4 z3 a0
  else none
theorem cj_Seater_seatWithFewestChanges_68_13 {X : XX} {d : Nat} (hd : 4 ≤ d) {M : Mm} {a0 : Int} {a1 : Int} {a2 : Int} {z3 : Int} {z4 : Int} {z5 : Int} {y0 : Int} (hn_a0 : a0 ≠ 0) (hn_a1 : a1 ≠ 0) (hn_a2 : a2 ≠ 0) {x : (Int × Mm) ⊕ (Mm)} {r : Option AV} {M' : Mm} (h : j_Seater_seatWithFewestChanges_68_13 M a0 a1 a2 z3 z4 z5 y0 = some x) (hk1 : ∀ s : Int × Mm, x = .inl s → Ev X m_Seater_seatWithFewestChanges d 13 [(0, (9, a0)), (1, (5, a1)), (2, (7, a2)), (3, (0, z3)), (4, (0, s.1))] [] s.2 r M') (hk2 : ∀ t : Mm, x = .inr t → Ev X m_Seater_seatWithFewestChanges d 106 [(0, (9, a0)), (1, (5, a1)), (2, (7, a2)), (3, (0, z3))] [] t r M') : Ev X m_Seater_seatWithFewestChanges d 68 [(0, (9, a0)), (1, (5, a1)), (2, (7, a2)), (3, (0, z3)), (4, (0, z4)), (5, (0, z5))] [(1, y0)] M r M' := by
  unfold j_Seater_seatWithFewestChanges_68_13 at h
  refine ev_lstore (L' := [(6, (1, y0)), (0, (9, a0)), (1, (5, a1)), (2, (7, a2)), (3, (0, z3)), (4, (0, z4)), (5, (0, z5))]) d_Seater_seatWithFewestChanges_68 (by decide) rfl ?_
  refine ev_aload_n 1 d_Seater_seatWithFewestChanges_70 rfl (by decide) rfl ?_
  refine ev_iload_n 4 d_Seater_seatWithFewestChanges_71 rfl rfl ?_
  refine ev_iload 5 d_Seater_seatWithFewestChanges_72 rfl ?_
  refine ev_iload 6 d_Seater_seatWithFewestChanges_74 rfl ?_
  by_cases hc8 : z5 = 0
  · replace h := itp hc8 h
    refine ev_if_eq_t (tgt := 94) d_Seater_seatWithFewestChanges_76 (by decide) hc8 ?_
    refine ev_ldc2 (v := 5766503906250000) d_Seater_seatWithFewestChanges_94 tw_667 rfl ?_
    refine ev_less (L' := [(0, (9, a0)), (1, (5, a1)), (2, (7, a2)), (3, (0, z3)), (4, (0, z4))]) [1, 2, 3, 4, 5] rfl ?_
    exact cj_Seater_seatWithFewestChanges_97_13 hd hn_a0 hn_a1 hn_a2 hn_a0 h hk1 hk2
  · replace h := itn hc8 h
    refine ev_if_eq_f d_Seater_seatWithFewestChanges_76 (by decide) hc8 ?_
    refine ev_lload 0 d_Seater_seatWithFewestChanges_79 rfl ?_
    refine ev_iload 5 d_Seater_seatWithFewestChanges_81 rfl ?_
    refine ev_i2l d_Seater_seatWithFewestChanges_83 ?_
    refine ev_dig1 d_Seater_seatWithFewestChanges_84 tw_669 ?_
    refine ev_iload_n 4 d_Seater_seatWithFewestChanges_87 rfl rfl ?_
    obtain ⟨hg11, h⟩ := gx h
    refine ev_tl1 d_Seater_seatWithFewestChanges_88 hg11 ?_
    refine ev_lmul d_Seater_seatWithFewestChanges_89 ?_
    refine ev_ladd d_Seater_seatWithFewestChanges_90 ?_
    refine ev_goto (tgt := 97) d_Seater_seatWithFewestChanges_91 (by decide) ?_
    refine ev_less (L' := [(0, (9, a0)), (1, (5, a1)), (2, (7, a2)), (3, (0, z3)), (4, (0, z4))]) [1, 2, 3, 4, 5] rfl ?_
    exact cj_Seater_seatWithFewestChanges_97_13 hd hn_a0 hn_a1 hn_a2 hn_a0 h hk1 hk2
def j_Seater_seatWithFewestChanges_48_13 (M : Mm) (a0 : Int) (a1 : Int) (a2 : Int) (z3 : Int) (z4 : Int) (y0 : Int) : Option ((Int × Mm) ⊕ (Mm)) :=
  if (mg M (cI a1) 2) ≠ 0 then
  if (0 : Int) ≤ z3 ∧ z3 < (ml M (cI (mg M (cI a1) 2)) : Int) then
  if (mg M (cI (mg M (cI a1) 2)) (z3 : Int).toNat) ≠ z4 then
  j_Seater_seatWithFewestChanges_68_13 M a0 a1 a2 z3 z4 y0 576650390625
  else
  j_Seater_seatWithFewestChanges_68_13 M a0 a1 a2 z3 z4 y0 0
  else none
  else none
theorem cj_Seater_seatWithFewestChanges_48_13 {X : XX} {d : Nat} (hd : 4 ≤ d) {M : Mm} {a0 : Int} {a1 : Int} {a2 : Int} {z3 : Int} {z4 : Int} {y0 : Int} (hn_a0 : a0 ≠ 0) (hn_a1 : a1 ≠ 0) (hn_a2 : a2 ≠ 0) {x : (Int × Mm) ⊕ (Mm)} {r : Option AV} {M' : Mm} (h : j_Seater_seatWithFewestChanges_48_13 M a0 a1 a2 z3 z4 y0 = some x) (hk1 : ∀ s : Int × Mm, x = .inl s → Ev X m_Seater_seatWithFewestChanges d 13 [(0, (9, a0)), (1, (5, a1)), (2, (7, a2)), (3, (0, z3)), (4, (0, s.1))] [] s.2 r M') (hk2 : ∀ t : Mm, x = .inr t → Ev X m_Seater_seatWithFewestChanges d 106 [(0, (9, a0)), (1, (5, a1)), (2, (7, a2)), (3, (0, z3))] [] t r M') : Ev X m_Seater_seatWithFewestChanges d 48 [(0, (9, a0)), (1, (5, a1)), (2, (7, a2)), (3, (0, z3)), (4, (0, z4))] [(0, y0)] M r M' := by
  unfold j_Seater_seatWithFewestChanges_48_13 at h
  refine ev_istore (L' := [(5, (0, y0)), (0, (9, a0)), (1, (5, a1)), (2, (7, a2)), (3, (0, z3)), (4, (0, z4))]) d_Seater_seatWithFewestChanges_48 (by decide) rfl ?_
  refine ev_aload_n 2 d_Seater_seatWithFewestChanges_50 rfl (by decide) rfl ?_
  refine ev_getN (host := "TownBand") (t := 5) (k := 2) (by decide) (by decide) rfl i_Piece (by decide) rfl rfl tw_79 d_Seater_seatWithFewestChanges_51 hn_a1 ?_
  refine ev_iload_n 4 d_Seater_seatWithFewestChanges_54 rfl rfl ?_
  obtain ⟨hz5, h⟩ := gx h
  obtain ⟨hg6, h⟩ := gx h
  refine ev_iald d_Seater_seatWithFewestChanges_55 hz5 hg6 ?_
  refine ev_iload 5 d_Seater_seatWithFewestChanges_56 rfl ?_
  by_cases hc7 : (mg M (cI (mg M (cI a1) 2)) (z3 : Int).toNat) ≠ z4
  · replace h := itp hc7 h
    refine ev_icmp_ne_t (tgt := 65) d_Seater_seatWithFewestChanges_58 (by decide) hc7 ?_
    refine ev_ldc2 (v := 576650390625) d_Seater_seatWithFewestChanges_65 tw_668 rfl ?_
    refine ev_less (L' := [(0, (9, a0)), (1, (5, a1)), (2, (7, a2)), (3, (0, z3)), (4, (0, z4)), (5, (0, y0))]) [1, 2, 3, 4, 5, 0] rfl ?_
    exact cj_Seater_seatWithFewestChanges_68_13 hd hn_a0 hn_a1 hn_a2 h hk1 hk2
  · replace h := itn hc7 h
    refine ev_icmp_ne_f d_Seater_seatWithFewestChanges_58 (by decide) hc7 ?_
    refine ev_lconst (v := 0) d_Seater_seatWithFewestChanges_61 rfl rfl ?_
    refine ev_goto (tgt := 68) d_Seater_seatWithFewestChanges_62 (by decide) ?_
    refine ev_less (L' := [(0, (9, a0)), (1, (5, a1)), (2, (7, a2)), (3, (0, z3)), (4, (0, z4)), (5, (0, y0))]) [1, 2, 3, 4, 5, 0] rfl ?_
    exact cj_Seater_seatWithFewestChanges_68_13 hd hn_a0 hn_a1 hn_a2 h hk1 hk2
def j_Seater_seatWithFewestChanges_47_13 (M : Mm) (a0 : Int) (a1 : Int) (a2 : Int) (z3 : Int) (z4 : Int) : Option ((Int × Mm) ⊕ (Mm)) :=
  j_Seater_seatWithFewestChanges_48_13 M a0 a1 a2 z3 z4 0
theorem cj_Seater_seatWithFewestChanges_47_13 {X : XX} {d : Nat} (hd : 4 ≤ d) {M : Mm} {a0 : Int} {a1 : Int} {a2 : Int} {z3 : Int} {z4 : Int} (hn_a0 : a0 ≠ 0) (hn_a1 : a1 ≠ 0) (hn_a2 : a2 ≠ 0) {x : (Int × Mm) ⊕ (Mm)} {r : Option AV} {M' : Mm} (h : j_Seater_seatWithFewestChanges_47_13 M a0 a1 a2 z3 z4 = some x) (hk1 : ∀ s : Int × Mm, x = .inl s → Ev X m_Seater_seatWithFewestChanges d 13 [(0, (9, a0)), (1, (5, a1)), (2, (7, a2)), (3, (0, z3)), (4, (0, s.1))] [] s.2 r M') (hk2 : ∀ t : Mm, x = .inr t → Ev X m_Seater_seatWithFewestChanges d 106 [(0, (9, a0)), (1, (5, a1)), (2, (7, a2)), (3, (0, z3))] [] t r M') : Ev X m_Seater_seatWithFewestChanges d 47 [(0, (9, a0)), (1, (5, a1)), (2, (7, a2)), (3, (0, z3)), (4, (0, z4))] [] M r M' := by
  unfold j_Seater_seatWithFewestChanges_47_13 at h
  refine ev_iconst d_Seater_seatWithFewestChanges_47 rfl ?_
  exact cj_Seater_seatWithFewestChanges_48_13 hd hn_a0 hn_a1 hn_a2 h hk1 hk2
def l_Seater_seatWithFewestChanges_13 (a0 : Int) (a1 : Int) (a2 : Int) (z3 : Int) (s : Int × Mm) : Option ((Int × Mm) ⊕ (Mm)) :=
  if (mg s.2 (cI a2) 4) ≤ s.1 then
  some (.inr s.2)
  else
  (f_Players_isPresent s.2 a2 s.1).bind (fun p3 =>
  if p3 = 0 then
  j_Seater_seatWithFewestChanges_47_13 s.2 a0 a1 a2 z3 s.1
  else
  (f_Players_partCost s.2 a2 s.1 a1 z3).bind (fun p12 =>
  if p12 = (-1) then
  j_Seater_seatWithFewestChanges_47_13 s.2 a0 a1 a2 z3 s.1
  else
  j_Seater_seatWithFewestChanges_48_13 s.2 a0 a1 a2 z3 s.1 1))
theorem cs_l_Seater_seatWithFewestChanges_13 {X : XX} {d : Nat} (hd : 4 ≤ d) {a0 : Int} {a1 : Int} {a2 : Int} {z3 : Int} (hn_a0 : a0 ≠ 0) (hn_a1 : a1 ≠ 0) (hn_a2 : a2 ≠ 0) {s : Int × Mm} {x : (Int × Mm) ⊕ (Mm)} {r : Option AV} {M' : Mm} (h : l_Seater_seatWithFewestChanges_13 a0 a1 a2 z3 s = some x) (hk1 : ∀ s : Int × Mm, x = .inl s → Ev X m_Seater_seatWithFewestChanges d 13 [(0, (9, a0)), (1, (5, a1)), (2, (7, a2)), (3, (0, z3)), (4, (0, s.1))] [] s.2 r M') (hk2 : ∀ t : Mm, x = .inr t → Ev X m_Seater_seatWithFewestChanges d 106 [(0, (9, a0)), (1, (5, a1)), (2, (7, a2)), (3, (0, z3))] [] t r M') : Ev X m_Seater_seatWithFewestChanges d 13 [(0, (9, a0)), (1, (5, a1)), (2, (7, a2)), (3, (0, z3)), (4, (0, s.1))] [] s.2 r M' := by
  unfold l_Seater_seatWithFewestChanges_13 at h
  refine ev_iload 4 d_Seater_seatWithFewestChanges_13 rfl ?_
  refine ev_aload_n 2 d_Seater_seatWithFewestChanges_15 rfl (by decide) rfl ?_
  refine ev_getN (host := "TownBand") (t := 7) (k := 4) (by decide) (by decide) rfl i_Players (by decide) rfl rfl tw_44 d_Seater_seatWithFewestChanges_16 hn_a2 ?_
  by_cases hc2 : (mg s.2 (cI a2) 4) ≤ s.1
  · replace h := itp hc2 h
    refine ev_icmp_ge_t (tgt := 106) d_Seater_seatWithFewestChanges_19 (by decide) hc2 ?_
    refine ev_less (L' := [(0, (9, a0)), (1, (5, a1)), (2, (7, a2)), (3, (0, z3))]) [0, 1, 2, 3] rfl ?_
    cases h
    exact hk2 _ rfl
  · replace h := itn hc2 h
    refine ev_icmp_ge_f d_Seater_seatWithFewestChanges_19 (by decide) hc2 ?_
    refine ev_aload_n 2 d_Seater_seatWithFewestChanges_22 rfl (by decide) rfl ?_
    refine ev_iload 4 d_Seater_seatWithFewestChanges_23 rfl ?_
    obtain ⟨p3, hp3, h⟩ := bx h
    have hRp3 := c_Players_isPresent (X := X) (d := d - 1) (by omega) hn_a2 hp3
    refine ev_callVN2 (host := "TownBand") (st2 := [(0, p3)]) (as := [(0, s.1)]) (rest := []) rfl (by decide) (by decide) rfl hn_a2 rfl (Nat.le_of_ble_eq_true rfl) k_Players_isPresent ⟨tw_630, ts_39⟩ (by omega) tw_665 d_Seater_seatWithFewestChanges_25 hRp3 rfl ?_
    by_cases hc4 : p3 = 0
    · replace h := itp hc4 h
      refine ev_if_eq_t (tgt := 47) d_Seater_seatWithFewestChanges_28 (by decide) hc4 ?_
      exact cj_Seater_seatWithFewestChanges_47_13 hd hn_a0 hn_a1 hn_a2 h hk1 hk2
    · replace h := itn hc4 h
      refine ev_if_eq_f d_Seater_seatWithFewestChanges_28 (by decide) hc4 ?_
      refine ev_aload_n 2 d_Seater_seatWithFewestChanges_31 rfl (by decide) rfl ?_
      refine ev_iload 4 d_Seater_seatWithFewestChanges_32 rfl ?_
      refine ev_aload_n 1 d_Seater_seatWithFewestChanges_34 rfl (by decide) rfl ?_
      refine ev_iload_n 3 d_Seater_seatWithFewestChanges_35 rfl rfl ?_
      obtain ⟨p12, hp12, h⟩ := bx h
      have hRp12 := c_Players_partCost (X := X) (d := d - 1) (by omega) hn_a2 hn_a1 hp12
      refine ev_callVN2 (host := "TownBand") (st2 := [(0, p12)]) (as := [(0, s.1), (5, a1), (0, z3)]) (rest := []) rfl (by decide) (by decide) rfl hn_a2 rfl (Nat.le_of_ble_eq_true rfl) k_Players_partCost ⟨tw_634, ts_40⟩ (by omega) tw_666 d_Seater_seatWithFewestChanges_36 hRp12 rfl ?_
      refine ev_iconst d_Seater_seatWithFewestChanges_39 rfl ?_
      by_cases hc13 : p12 = (-1)
      · replace h := itp hc13 h
        refine ev_icmp_eq_t (tgt := 47) d_Seater_seatWithFewestChanges_40 (by decide) hc13 ?_
        exact cj_Seater_seatWithFewestChanges_47_13 hd hn_a0 hn_a1 hn_a2 h hk1 hk2
      · replace h := itn hc13 h
        refine ev_icmp_eq_f d_Seater_seatWithFewestChanges_40 (by decide) hc13 ?_
        refine ev_iconst d_Seater_seatWithFewestChanges_43 rfl ?_
        refine ev_goto (tgt := 48) d_Seater_seatWithFewestChanges_44 (by decide) ?_
        exact cj_Seater_seatWithFewestChanges_48_13 hd hn_a0 hn_a1 hn_a2 h hk1 hk2
def j_Seater_seatWithFewestChanges_127_2 (M : Mm) (a0 : Int) (a1 : Int) (a2 : Int) (z3 : Int) (y0 : Int) (y1 : Int) (y2 : Int) (y3 : Int) (y4 : Int) : Option ((Int × Mm) ⊕ (Mm)) :=
  (f_Seater_weighEmpty M y4 y3 y2 y1 y0).bind (fun p18 =>
  lt (w32 (z3 + 1)) (fun x19 : Int =>
  some (.inl (x19, p18))))
theorem cj_Seater_seatWithFewestChanges_127_2 {X : XX} {d : Nat} (hd : 4 ≤ d) {M : Mm} {a0 : Int} {a1 : Int} {a2 : Int} {z3 : Int} {y0 : Int} {y1 : Int} {y2 : Int} {y3 : Int} {y4 : Int} (hn_a0 : a0 ≠ 0) (hn_a1 : a1 ≠ 0) (hn_a2 : a2 ≠ 0) (hn_y2 : y2 ≠ 0) (hn_y3 : y3 ≠ 0) (hn_y4 : y4 ≠ 0) {x : (Int × Mm) ⊕ (Mm)} {r : Option AV} {M' : Mm} (h : j_Seater_seatWithFewestChanges_127_2 M a0 a1 a2 z3 y0 y1 y2 y3 y4 = some x) (hk1 : ∀ s : Int × Mm, x = .inl s → Ev X m_Seater_seatWithFewestChanges d 2 [(0, (9, a0)), (1, (5, a1)), (2, (7, a2)), (3, (0, s.1))] [] s.2 r M') (hk2 : ∀ t : Mm, x = .inr t → Ev X m_Seater_seatWithFewestChanges d 136 [(0, (9, a0)), (1, (5, a1)), (2, (7, a2))] [] t r M') : Ev X m_Seater_seatWithFewestChanges d 127 [(0, (9, a0)), (1, (5, a1)), (2, (7, a2)), (3, (0, z3))] [(1, y0), (0, y1), (7, y2), (5, y3), (9, y4)] M r M' := by
  unfold j_Seater_seatWithFewestChanges_127_2 at h
  obtain ⟨p18, hp18, h⟩ := bx h
  have hRp18 := c_Seater_weighEmpty (X := X) (d := d - 1) (by omega) hn_y4 hn_y3 hn_y2 hp18
  refine ev_callV2 (st2 := []) (as := [(5, y3), (7, y2), (0, y1), (1, y0)]) (rest := []) rfl (by decide) (by decide) rfl hn_y4 rfl (Nat.le_of_ble_eq_true rfl) k_Seater_weighEmpty ⟨tw_678, ts_45⟩ (by omega) tw_676 d_Seater_seatWithFewestChanges_127 hRp18 rfl ?_
  obtain ⟨x19, hx19, h⟩ := ltx h
  refine ev_iinc' 3 (y := x19) (L' := [(3, (0, x19)), (0, (9, a0)), (1, (5, a1)), (2, (7, a2))]) d_Seater_seatWithFewestChanges_130 rfl (by decide) rfl hx19 ?_
  refine ev_goto (tgt := 2) d_Seater_seatWithFewestChanges_133 (by decide) ?_
  refine ev_less (L' := [(0, (9, a0)), (1, (5, a1)), (2, (7, a2)), (3, (0, x19))]) [1, 2, 3, 0] rfl ?_
  cases h
  exact hk1 _ rfl
def l_Seater_seatWithFewestChanges_2 (a0 : Int) (a1 : Int) (a2 : Int) (s : Int × Mm) : Option ((Int × Mm) ⊕ (Mm)) :=
  if (mg s.2 (cI a1) 7) ≤ s.1 then
  some (.inr s.2)
  else
  (loopN (l_Seater_seatWithFewestChanges_13 a0 a1 a2 s.1) FU (0, s.2)).bind (fun t14 =>
  if (mg t14 (cI a1) 2) ≠ 0 then
  if (0 : Int) ≤ s.1 ∧ s.1 < (ml t14 (cI (mg t14 (cI a1) 2)) : Int) then
  if (mg t14 (cI (mg t14 (cI a1) 2)) (s.1 : Int).toNat) ≠ (-1) then
  j_Seater_seatWithFewestChanges_127_2 t14 a0 a1 a2 s.1 576650390625 s.1 a2 a1 a0
  else
  j_Seater_seatWithFewestChanges_127_2 t14 a0 a1 a2 s.1 0 s.1 a2 a1 a0
  else none
  else none)
theorem cs_l_Seater_seatWithFewestChanges_2 {X : XX} {d : Nat} (hd : 4 ≤ d) {a0 : Int} {a1 : Int} {a2 : Int} (hn_a0 : a0 ≠ 0) (hn_a1 : a1 ≠ 0) (hn_a2 : a2 ≠ 0) {s : Int × Mm} {x : (Int × Mm) ⊕ (Mm)} {r : Option AV} {M' : Mm} (h : l_Seater_seatWithFewestChanges_2 a0 a1 a2 s = some x) (hk1 : ∀ s : Int × Mm, x = .inl s → Ev X m_Seater_seatWithFewestChanges d 2 [(0, (9, a0)), (1, (5, a1)), (2, (7, a2)), (3, (0, s.1))] [] s.2 r M') (hk2 : ∀ t : Mm, x = .inr t → Ev X m_Seater_seatWithFewestChanges d 136 [(0, (9, a0)), (1, (5, a1)), (2, (7, a2))] [] t r M') : Ev X m_Seater_seatWithFewestChanges d 2 [(0, (9, a0)), (1, (5, a1)), (2, (7, a2)), (3, (0, s.1))] [] s.2 r M' := by
  unfold l_Seater_seatWithFewestChanges_2 at h
  refine ev_iload_n 3 d_Seater_seatWithFewestChanges_2 rfl rfl ?_
  refine ev_aload_n 1 d_Seater_seatWithFewestChanges_3 rfl (by decide) rfl ?_
  refine ev_getN (host := "TownBand") (t := 5) (k := 7) (by decide) (by decide) rfl i_Piece (by decide) rfl rfl tw_93 d_Seater_seatWithFewestChanges_4 hn_a1 ?_
  by_cases hc1 : (mg s.2 (cI a1) 7) ≤ s.1
  · replace h := itp hc1 h
    refine ev_icmp_ge_t (tgt := 136) d_Seater_seatWithFewestChanges_7 (by decide) hc1 ?_
    refine ev_less (L' := [(0, (9, a0)), (1, (5, a1)), (2, (7, a2))]) [0, 1, 2] rfl ?_
    cases h
    exact hk2 _ rfl
  · replace h := itn hc1 h
    refine ev_icmp_ge_f d_Seater_seatWithFewestChanges_7 (by decide) hc1 ?_
    refine ev_iconst d_Seater_seatWithFewestChanges_10 rfl ?_
    refine ev_istore (L' := [(4, (0, 0)), (0, (9, a0)), (1, (5, a1)), (2, (7, a2)), (3, (0, s.1))]) d_Seater_seatWithFewestChanges_11 (by decide) rfl ?_
    obtain ⟨t14, ht14, h⟩ := bx h
    refine ev_less (L' := [(0, (9, a0)), (1, (5, a1)), (2, (7, a2)), (3, (0, s.1)), (4, (0, 0))]) [1, 2, 3, 4, 0] rfl ?_
    refine loop_ev (step := l_Seater_seatWithFewestChanges_13 a0 a1 a2 s.1) (P := fun w : Int × Mm => Ev X m_Seater_seatWithFewestChanges d 13 [(0, (9, a0)), (1, (5, a1)), (2, (7, a2)), (3, (0, s.1)), (4, (0, w.1))] [] w.2 r M') (Q := fun w => Ev X m_Seater_seatWithFewestChanges d 106 [(0, (9, a0)), (1, (5, a1)), (2, (7, a2)), (3, (0, s.1))] [] w r M') (fun w x hs k1 k2 => cs_l_Seater_seatWithFewestChanges_13 hd hn_a0 hn_a1 hn_a2 hs k1 k2) FU (0, s.2) t14 ht14 ?_
    refine ev_aload_n 0 d_Seater_seatWithFewestChanges_106 rfl (by decide) rfl ?_
    refine ev_aload_n 1 d_Seater_seatWithFewestChanges_107 rfl (by decide) rfl ?_
    refine ev_aload_n 2 d_Seater_seatWithFewestChanges_108 rfl (by decide) rfl ?_
    refine ev_iload_n 3 d_Seater_seatWithFewestChanges_109 rfl rfl ?_
    refine ev_aload_n 1 d_Seater_seatWithFewestChanges_110 rfl (by decide) rfl ?_
    refine ev_getN (host := "TownBand") (t := 5) (k := 2) (by decide) (by decide) rfl i_Piece (by decide) rfl rfl tw_79 d_Seater_seatWithFewestChanges_111 hn_a1 ?_
    refine ev_iload_n 3 d_Seater_seatWithFewestChanges_114 rfl rfl ?_
    obtain ⟨hz15, h⟩ := gx h
    obtain ⟨hg16, h⟩ := gx h
    refine ev_iald d_Seater_seatWithFewestChanges_115 hz15 hg16 ?_
    refine ev_iconst d_Seater_seatWithFewestChanges_116 rfl ?_
    by_cases hc17 : (mg t14 (cI (mg t14 (cI a1) 2)) (s.1 : Int).toNat) ≠ (-1)
    · replace h := itp hc17 h
      refine ev_icmp_ne_t (tgt := 124) d_Seater_seatWithFewestChanges_117 (by decide) hc17 ?_
      refine ev_ldc2 (v := 576650390625) d_Seater_seatWithFewestChanges_124 tw_668 rfl ?_
      exact cj_Seater_seatWithFewestChanges_127_2 hd hn_a0 hn_a1 hn_a2 hn_a2 hn_a1 hn_a0 h hk1 hk2
    · replace h := itn hc17 h
      refine ev_icmp_ne_f d_Seater_seatWithFewestChanges_117 (by decide) hc17 ?_
      refine ev_lconst (v := 0) d_Seater_seatWithFewestChanges_120 rfl rfl ?_
      refine ev_goto (tgt := 127) d_Seater_seatWithFewestChanges_121 (by decide) ?_
      exact cj_Seater_seatWithFewestChanges_127_2 hd hn_a0 hn_a1 hn_a2 hn_a2 hn_a1 hn_a0 h hk1 hk2
def f_Seater_seatWithFewestChanges (M : Mm) (a0 : Int) (a1 : Int) (a2 : Int) : Option (Int × Mm) :=
  (loopN (l_Seater_seatWithFewestChanges_2 a0 a1 a2) FU (0, M)).bind (fun t20 =>
  (f_Seater_match t20 a0 (mg t20 (cI a1) 7) (mg t20 (cI a2) 4)).bind (fun p21 =>
  (f_Seater_takeChairs p21 a0 a1 (mg p21 (cI a2) 4)).bind (fun p22 =>
  some (p22.1, p22.2))))
theorem c_Seater_seatWithFewestChanges {X : XX} {d : Nat} (hd : 4 ≤ d) {M : Mm} {a0 : Int} {a1 : Int} {a2 : Int} (hn_a0 : a0 ≠ 0) (hn_a1 : a1 ≠ 0) (hn_a2 : a2 ≠ 0) {p : Int × Mm} (h : f_Seater_seatWithFewestChanges M a0 a1 a2 = some p) : Rn X d m_Seater_seatWithFewestChanges [(9, a0), (5, a1), (7, a2)] M (some (0, p.1)) p.2 := by
  refine Rn_of (by decide) rfl (Nat.le_of_ble_eq_true rfl) ?_
  unfold f_Seater_seatWithFewestChanges at h
  refine ev_less (L' := [(0, (9, a0)), (1, (5, a1)), (2, (7, a2))]) [0, 1, 2] rfl ?_
  refine ev_iconst d_Seater_seatWithFewestChanges_0 rfl ?_
  refine ev_istore_n (L' := [(3, (0, 0)), (0, (9, a0)), (1, (5, a1)), (2, (7, a2))]) d_Seater_seatWithFewestChanges_1 rfl (by decide) rfl ?_
  obtain ⟨t20, ht20, h⟩ := bx h
  refine ev_less (L' := [(0, (9, a0)), (1, (5, a1)), (2, (7, a2)), (3, (0, 0))]) [1, 2, 3, 0] rfl ?_
  refine loop_ev (step := l_Seater_seatWithFewestChanges_2 a0 a1 a2) (P := fun w : Int × Mm => Ev X m_Seater_seatWithFewestChanges d 2 [(0, (9, a0)), (1, (5, a1)), (2, (7, a2)), (3, (0, w.1))] [] w.2 (some (0, p.1)) p.2) (Q := fun w => Ev X m_Seater_seatWithFewestChanges d 136 [(0, (9, a0)), (1, (5, a1)), (2, (7, a2))] [] w (some (0, p.1)) p.2) (fun w x hs k1 k2 => cs_l_Seater_seatWithFewestChanges_2 hd hn_a0 hn_a1 hn_a2 hs k1 k2) FU (0, M) t20 ht20 ?_
  refine ev_aload_n 0 d_Seater_seatWithFewestChanges_136 rfl (by decide) rfl ?_
  refine ev_aload_n 1 d_Seater_seatWithFewestChanges_137 rfl (by decide) rfl ?_
  refine ev_getN (host := "TownBand") (t := 5) (k := 7) (by decide) (by decide) rfl i_Piece (by decide) rfl rfl tw_93 d_Seater_seatWithFewestChanges_138 hn_a1 ?_
  refine ev_aload_n 2 d_Seater_seatWithFewestChanges_141 rfl (by decide) rfl ?_
  refine ev_getN (host := "TownBand") (t := 7) (k := 4) (by decide) (by decide) rfl i_Players (by decide) rfl rfl tw_44 d_Seater_seatWithFewestChanges_142 hn_a2 ?_
  obtain ⟨p21, hp21, h⟩ := bx h
  have hRp21 := c_Seater_match (X := X) (d := d - 1) (by omega) hn_a0 hp21
  refine ev_callV2 (st2 := []) (as := [(0, (mg t20 (cI a1) 7)), (0, (mg t20 (cI a2) 4))]) (rest := []) rfl (by decide) (by decide) rfl hn_a0 rfl (Nat.le_of_ble_eq_true rfl) k_Seater_match ⟨tw_684, ts_46⟩ (by omega) tw_682 d_Seater_seatWithFewestChanges_145 hRp21 rfl ?_
  refine ev_aload_n 0 d_Seater_seatWithFewestChanges_148 rfl (by decide) rfl ?_
  refine ev_aload_n 1 d_Seater_seatWithFewestChanges_149 rfl (by decide) rfl ?_
  refine ev_aload_n 2 d_Seater_seatWithFewestChanges_150 rfl (by decide) rfl ?_
  refine ev_getN (host := "TownBand") (t := 7) (k := 4) (by decide) (by decide) rfl i_Players (by decide) rfl rfl tw_44 d_Seater_seatWithFewestChanges_151 hn_a2 ?_
  obtain ⟨p22, hp22, h⟩ := bx h
  have hRp22 := c_Seater_takeChairs (X := X) (d := d - 1) (by omega) hn_a0 hn_a1 hp22
  refine ev_callV2 (st2 := [(0, p22.1)]) (as := [(5, a1), (0, (mg p21 (cI a2) 4))]) (rest := []) rfl (by decide) (by decide) rfl hn_a0 rfl (Nat.le_of_ble_eq_true rfl) k_Seater_takeChairs ⟨tw_705, ts_50⟩ (by omega) tw_703 d_Seater_seatWithFewestChanges_154 hRp22 rfl ?_
  cases h
  exact ev_ret d_Seater_seatWithFewestChanges_157 rfl
def f_Tape_init (M : Mm) (a0 : Int) : Option (Mm) :=
  lt (mw M (800 : Int).toNat) (fun M1 =>
  lt (mp M1 (cI a0) 0 ((mN M : Int) + 1)) (fun M2 =>
  lt (mp M2 (cI a0) 4 (-4)) (fun M3 =>
  lt (mp M3 (cI a0) 9 (-1)) (fun M4 =>
  some M4))))
theorem c_Tape_init {X : XX} {d : Nat} (hd : 1 ≤ d) {M : Mm} {a0 : Int} (hn_a0 : a0 ≠ 0) {p : Mm} (h : f_Tape_init M a0 = some p) : Rn X d m_Tape_init [(10, a0)] M none p := by
  refine Rn_of (by decide) rfl (Nat.le_of_ble_eq_true rfl) ?_
  unfold f_Tape_init at h
  refine ev_less (L' := [(0, (10, a0))]) [0] rfl ?_
  refine ev_aload_n 0 d_Tape_init_0 rfl (by decide) rfl ?_
  refine ev_objInit (t := 10) (by decide) (by decide) hn_a0 (Nat.le_of_ble_eq_true rfl) (by omega) tw_134 tw_25 tw_26 d_Tape_init_1 ?_
  refine ev_aload_n 0 d_Tape_init_4 rfl (by decide) rfl ?_
  refine ev_sipush d_Tape_init_5 rfl ?_
  obtain ⟨M1, hM1, h⟩ := ltx h
  refine ev_newI' tw_61 d_Tape_init_8 ⟨by decide, by decide⟩ hM1 ?_
  obtain ⟨M2, hM2, h⟩ := ltx h
  refine ev_putF' (t := 10) (k := 0) (by decide) (by decide) rfl i_Tape t_Tape_ok n_Tape (by decide) rfl rfl rfl rfl rfl rfl tw_135 d_Tape_init_10 hn_a0 hM2 ?_
  refine ev_aload_n 0 d_Tape_init_13 rfl (by decide) rfl ?_
  refine ev_bipush d_Tape_init_14 rfl ?_
  obtain ⟨M3, hM3, h⟩ := ltx h
  refine ev_put' (t := 10) (k := 4) (by decide) (by decide) rfl i_Tape t_Tape_ok n_Tape (by decide) rfl rfl rfl rfl tw_140 d_Tape_init_16 hn_a0 hM3 ?_
  refine ev_aload_n 0 d_Tape_init_19 rfl (by decide) rfl ?_
  refine ev_iconst d_Tape_init_20 rfl ?_
  obtain ⟨M4, hM4, h⟩ := ltx h
  refine ev_put' (t := 10) (k := 9) (by decide) (by decide) rfl i_Tape t_Tape_ok n_Tape (by decide) rfl rfl rfl rfl tw_151 d_Tape_init_21 hn_a0 hM4 ?_
  cases h
  exact ev_retV d_Tape_init_24 rfl
def f_Tape_hasRoom (M : Mm) (a0 : Int) : Option (Int) :=
  if 800 < (w32 ((mg M (cI a0) 1) + 20)) then
  some 0
  else
  some 1
theorem c_Tape_hasRoom {X : XX} {d : Nat} (hd : 0 ≤ d) {M : Mm} {a0 : Int} (hn_a0 : a0 ≠ 0) {p : Int} (h : f_Tape_hasRoom M a0 = some p) : Rn X d m_Tape_hasRoom [(10, a0)] M (some (0, p)) M := by
  refine Rn_of (by decide) rfl (Nat.le_of_ble_eq_true rfl) ?_
  unfold f_Tape_hasRoom at h
  refine ev_less (L' := [(0, (10, a0))]) [0] rfl ?_
  refine ev_aload_n 0 d_Tape_hasRoom_0 rfl (by decide) rfl ?_
  refine ev_get (t := 10) (k := 1) (by decide) (by decide) rfl i_Tape (by decide) rfl rfl tw_136 d_Tape_hasRoom_1 hn_a0 ?_
  refine ev_bipush d_Tape_hasRoom_4 rfl ?_
  refine ev_iadd d_Tape_hasRoom_6 ?_
  refine ev_sipush d_Tape_hasRoom_7 rfl ?_
  by_cases hc1 : 800 < (w32 ((mg M (cI a0) 1) + 20))
  · replace h := itp hc1 h
    refine ev_icmp_gt_t (tgt := 17) d_Tape_hasRoom_10 (by decide) hc1 ?_
    refine ev_iconst d_Tape_hasRoom_17 rfl ?_
    cases h
    exact ev_retZ d_Tape_hasRoom_18 rfl (Or.inl rfl)
  · replace h := itn hc1 h
    refine ev_icmp_gt_f d_Tape_hasRoom_10 (by decide) hc1 ?_
    refine ev_iconst d_Tape_hasRoom_13 rfl ?_
    refine ev_goto (tgt := 18) d_Tape_hasRoom_14 (by decide) ?_
    cases h
    exact ev_retZ d_Tape_hasRoom_18 rfl (Or.inr rfl)
def l_Tape_append_3 (a0 : Int) (a1 : Int) (s : Int × Mm) : Option ((Int × Mm) ⊕ (Mm)) :=
  if s.1 < 0 then
  some (.inr s.2)
  else
  if 800 ≤ (mg s.2 (cI a0) 1) then
  some (.inr s.2)
  else
  if (mg s.2 (cI a0) 0) ≠ 0 then
  if (0 : Int) ≤ (mg s.2 (cI a0) 1) ∧ (mg s.2 (cI a0) 1) < (ml s.2 (cI (mg s.2 (cI a0) 0)) : Int) then
  lt (mp s.2 (cI (mg s.2 (cI a0) 0)) ((mg s.2 (cI a0) 1) : Int).toNat (bAnd (bUshr a1 s.1) 255)) (fun M5 =>
  lt (mp M5 (cI a0) 1 (w32 ((mg M5 (cI a0) 1) + 1))) (fun M6 =>
  lt (w32 (s.1 + (-8))) (fun x7 : Int =>
  some (.inl (x7, M6)))))
  else none
  else none
theorem cs_l_Tape_append_3 {X : XX} {d : Nat} (hd : 0 ≤ d) {a0 : Int} {a1 : Int} (hn_a0 : a0 ≠ 0) {s : Int × Mm} {x : (Int × Mm) ⊕ (Mm)} {r : Option AV} {M' : Mm} (h : l_Tape_append_3 a0 a1 s = some x) (hk1 : ∀ s : Int × Mm, x = .inl s → Ev X m_Tape_append d 3 [(0, (10, a0)), (1, (0, a1)), (2, (0, s.1))] [] s.2 r M') (hk2 : ∀ t : Mm, x = .inr t → Ev X m_Tape_append d 49 [] [] t r M') : Ev X m_Tape_append d 3 [(0, (10, a0)), (1, (0, a1)), (2, (0, s.1))] [] s.2 r M' := by
  unfold l_Tape_append_3 at h
  refine ev_iload_n 2 d_Tape_append_3 rfl rfl ?_
  by_cases hc1 : s.1 < 0
  · replace h := itp hc1 h
    refine ev_if_lt_t (tgt := 49) d_Tape_append_4 (by decide) hc1 ?_
    refine ev_less (L' := []) [] rfl ?_
    cases h
    exact hk2 _ rfl
  · replace h := itn hc1 h
    refine ev_if_lt_f d_Tape_append_4 (by decide) hc1 ?_
    refine ev_aload_n 0 d_Tape_append_7 rfl (by decide) rfl ?_
    refine ev_get (t := 10) (k := 1) (by decide) (by decide) rfl i_Tape (by decide) rfl rfl tw_136 d_Tape_append_8 hn_a0 ?_
    refine ev_sipush d_Tape_append_11 rfl ?_
    by_cases hc2 : 800 ≤ (mg s.2 (cI a0) 1)
    · replace h := itp hc2 h
      refine ev_icmp_ge_t (tgt := 49) d_Tape_append_14 (by decide) hc2 ?_
      refine ev_less (L' := []) [] rfl ?_
      cases h
      exact hk2 _ rfl
    · replace h := itn hc2 h
      refine ev_icmp_ge_f d_Tape_append_14 (by decide) hc2 ?_
      refine ev_aload_n 0 d_Tape_append_17 rfl (by decide) rfl ?_
      refine ev_get (t := 10) (k := 0) (by decide) (by decide) rfl i_Tape (by decide) rfl rfl tw_135 d_Tape_append_18 hn_a0 ?_
      refine ev_aload_n 0 d_Tape_append_21 rfl (by decide) rfl ?_
      refine ev_get (t := 10) (k := 1) (by decide) (by decide) rfl i_Tape (by decide) rfl rfl tw_136 d_Tape_append_22 hn_a0 ?_
      refine ev_iload_n 1 d_Tape_append_25 rfl rfl ?_
      refine ev_iload_n 2 d_Tape_append_26 rfl rfl ?_
      refine ev_iushr d_Tape_append_27 ?_
      refine ev_sipush d_Tape_append_28 rfl ?_
      refine ev_iand d_Tape_append_31 ?_
      obtain ⟨hz3, h⟩ := gx h
      obtain ⟨hg4, h⟩ := gx h
      obtain ⟨M5, hM5, h⟩ := ltx h
      refine ev_iast' d_Tape_append_32 hz3 hg4 hM5 ?_
      refine ev_aload_n 0 d_Tape_append_33 rfl (by decide) rfl ?_
      refine ev_dup d_Tape_append_34 (Nat.ne_of_beq_eq_false rfl) ?_
      refine ev_get (t := 10) (k := 1) (by decide) (by decide) rfl i_Tape (by decide) rfl rfl tw_136 d_Tape_append_35 hn_a0 ?_
      refine ev_iconst d_Tape_append_38 rfl ?_
      refine ev_iadd d_Tape_append_39 ?_
      obtain ⟨M6, hM6, h⟩ := ltx h
      refine ev_put' (t := 10) (k := 1) (by decide) (by decide) rfl i_Tape t_Tape_ok n_Tape (by decide) rfl rfl rfl rfl tw_136 d_Tape_append_40 hn_a0 hM6 ?_
      obtain ⟨x7, hx7, h⟩ := ltx h
      refine ev_iinc' 2 (y := x7) (L' := [(2, (0, x7)), (0, (10, a0)), (1, (0, a1))]) d_Tape_append_43 rfl (by decide) rfl hx7 ?_
      refine ev_goto (tgt := 3) d_Tape_append_46 (by decide) ?_
      refine ev_less (L' := [(0, (10, a0)), (1, (0, a1)), (2, (0, x7))]) [1, 2, 0] rfl ?_
      cases h
      exact hk1 _ rfl
def f_Tape_append (M : Mm) (a0 : Int) (a1 : Int) : Option (Mm) :=
  (loopN (l_Tape_append_3 a0 a1) FU (24, M)).bind (fun t8 =>
  some t8)
theorem c_Tape_append {X : XX} {d : Nat} (hd : 0 ≤ d) {M : Mm} {a0 : Int} {a1 : Int} (hn_a0 : a0 ≠ 0) {p : Mm} (h : f_Tape_append M a0 a1 = some p) : Rn X d m_Tape_append [(10, a0), (0, a1)] M none p := by
  refine Rn_of (by decide) rfl (Nat.le_of_ble_eq_true rfl) ?_
  unfold f_Tape_append at h
  refine ev_less (L' := [(0, (10, a0)), (1, (0, a1))]) [0, 1] rfl ?_
  refine ev_bipush d_Tape_append_0 rfl ?_
  refine ev_istore_n (L' := [(2, (0, 24)), (0, (10, a0)), (1, (0, a1))]) d_Tape_append_2 rfl (by decide) rfl ?_
  obtain ⟨t8, ht8, h⟩ := bx h
  refine ev_less (L' := [(0, (10, a0)), (1, (0, a1)), (2, (0, 24))]) [1, 2, 0] rfl ?_
  refine loop_ev (step := l_Tape_append_3 a0 a1) (P := fun w : Int × Mm => Ev X m_Tape_append d 3 [(0, (10, a0)), (1, (0, a1)), (2, (0, w.1))] [] w.2 none p) (Q := fun w => Ev X m_Tape_append d 49 [] [] w none p) (fun w x hs k1 k2 => cs_l_Tape_append_3 hd hn_a0 hs k1 k2) FU (24, M) t8 ht8 ?_
  cases h
  exact ev_retV d_Tape_append_49 rfl
def f_Band_init (M : Mm) (a0 : Int) : Option (Mm) :=
  lt (mw M 6) (fun M1 =>
  (f_Players_init M1 ((mN M : Int) + 1)).bind (fun p2 =>
  lt (mp p2 (cI a0) 0 ((mN M : Int) + 1)) (fun M3 =>
  lt (mw M3 3) (fun M4 =>
  (f_Library_init M4 ((mN M3 : Int) + 1)).bind (fun p5 =>
  lt (mp p5 (cI a0) 1 ((mN M3 : Int) + 1)) (fun M6 =>
  lt (mw M6 10) (fun M7 =>
  (f_Tape_init M7 ((mN M6 : Int) + 1)).bind (fun p8 =>
  lt (mp p8 (cI a0) 2 ((mN M6 : Int) + 1)) (fun M9 =>
  lt (mw M9 7) (fun M10 =>
  (f_Rule_init M10 ((mN M9 : Int) + 1)).bind (fun p11 =>
  lt (mp p11 (cI a0) 3 ((mN M9 : Int) + 1)) (fun M12 =>
  lt (mw M12 6) (fun M13 =>
  (f_Loans_init M13 ((mN M12 : Int) + 1)).bind (fun p14 =>
  lt (mp p14 (cI a0) 4 ((mN M12 : Int) + 1)) (fun M15 =>
  lt (mw M15 4) (fun M16 =>
  (f_Cover_init M16 ((mN M15 : Int) + 1)).bind (fun p17 =>
  lt (mp p17 (cI a0) 5 ((mN M15 : Int) + 1)) (fun M18 =>
  lt (mw M18 7) (fun M19 =>
  (f_Seater_init M19 ((mN M18 : Int) + 1)).bind (fun p20 =>
  lt (mp p20 (cI a0) 6 ((mN M18 : Int) + 1)) (fun M21 =>
  lt (mw M21 9) (fun M22 =>
  (f_Planner_init M22 ((mN M21 : Int) + 1)).bind (fun p23 =>
  lt (mp p23 (cI a0) 7 ((mN M21 : Int) + 1)) (fun M24 =>
  some M24))))))))))))))))))))))))
theorem c_Band_init {X : XX} {d : Nat} (hd : 3 ≤ d) {M : Mm} {a0 : Int} (hn_a0 : a0 ≠ 0) {p : Mm} (h : f_Band_init M a0 = some p) : Rn X d m_Band_init [(11, a0)] M none p := by
  refine Rn_of (by decide) rfl (Nat.le_of_ble_eq_true rfl) ?_
  unfold f_Band_init at h
  refine ev_less (L' := [(0, (11, a0))]) [0] rfl ?_
  refine ev_aload_n 0 d_Band_init_0 rfl (by decide) rfl ?_
  refine ev_objInit (t := 11) (by decide) (by decide) hn_a0 (Nat.le_of_ble_eq_true rfl) (by omega) tw_24 tw_25 tw_26 d_Band_init_1 ?_
  refine ev_aload_n 0 d_Band_init_4 rfl (by decide) rfl ?_
  obtain ⟨M1, hM1, h⟩ := ltx h
  refine ev_new' (t := 7) (by decide) (by decide) rfl i_Players t_Players_ok rfl (by decide) (by decide) tw_27 tw_28 tw_2 d_Band_init_5 hM1 ?_
  refine ev_dup d_Band_init_8 (Nat.ne_of_beq_eq_false rfl) ?_
  obtain ⟨p2, hp2, h⟩ := bx h
  have hRp2 := c_Players_init (X := X) (d := d - 1) (by omega) (nz M) hp2
  refine ev_callIN (host := "TownBand") (as := []) (rest := [(7, ((mN M : Int) + 1)), (11, a0)]) rfl (by decide) (by decide) (nz M) rfl (Nat.le_of_ble_eq_true rfl) k_Players_init tw_30 rfl rfl (by omega) tw_29 d_Band_init_9 hRp2 ?_
  obtain ⟨M3, hM3, h⟩ := ltx h
  refine ev_putF' (t := 11) (k := 0) (by decide) (by decide) rfl i_Band t_Band_ok n_Band (by decide) rfl rfl rfl rfl rfl rfl tw_313 d_Band_init_12 hn_a0 hM3 ?_
  refine ev_aload_n 0 d_Band_init_15 rfl (by decide) rfl ?_
  obtain ⟨M4, hM4, h⟩ := ltx h
  refine ev_new' (t := 3) (by decide) (by decide) rfl i_Library t_Library_ok rfl (by decide) (by decide) tw_62 tw_63 tw_4 d_Band_init_16 hM4 ?_
  refine ev_dup d_Band_init_19 (Nat.ne_of_beq_eq_false rfl) ?_
  obtain ⟨p5, hp5, h⟩ := bx h
  have hRp5 := c_Library_init (X := X) (d := d - 1) (by omega) (nz M3) hp5
  refine ev_callIN (host := "TownBand") (as := []) (rest := [(3, ((mN M3 : Int) + 1)), (11, a0)]) rfl (by decide) (by decide) (nz M3) rfl (Nat.le_of_ble_eq_true rfl) k_Library_init tw_65 rfl rfl (by omega) tw_64 d_Band_init_20 hRp5 ?_
  obtain ⟨M6, hM6, h⟩ := ltx h
  refine ev_putF' (t := 11) (k := 1) (by decide) (by decide) rfl i_Band t_Band_ok n_Band (by decide) rfl rfl rfl rfl rfl rfl tw_314 d_Band_init_23 hn_a0 hM6 ?_
  refine ev_aload_n 0 d_Band_init_26 rfl (by decide) rfl ?_
  obtain ⟨M7, hM7, h⟩ := ltx h
  refine ev_new' (t := 10) (by decide) (by decide) rfl i_Tape t_Tape_ok rfl (by decide) (by decide) tw_129 tw_130 tw_6 d_Band_init_27 hM7 ?_
  refine ev_dup d_Band_init_30 (Nat.ne_of_beq_eq_false rfl) ?_
  obtain ⟨p8, hp8, h⟩ := bx h
  have hRp8 := c_Tape_init (X := X) (d := d - 1) (by omega) (nz M6) hp8
  refine ev_callIN (host := "TownBand") (as := []) (rest := [(10, ((mN M6 : Int) + 1)), (11, a0)]) rfl (by decide) (by decide) (nz M6) rfl (Nat.le_of_ble_eq_true rfl) k_Tape_init tw_132 rfl rfl (by omega) tw_131 d_Band_init_31 hRp8 ?_
  obtain ⟨M9, hM9, h⟩ := ltx h
  refine ev_putF' (t := 11) (k := 2) (by decide) (by decide) rfl i_Band t_Band_ok n_Band (by decide) rfl rfl rfl rfl rfl rfl tw_315 d_Band_init_34 hn_a0 hM9 ?_
  refine ev_aload_n 0 d_Band_init_37 rfl (by decide) rfl ?_
  obtain ⟨M10, hM10, h⟩ := ltx h
  refine ev_new' (t := 8) (by decide) (by decide) rfl i_Rule t_Rule_ok rfl (by decide) (by decide) tw_174 tw_175 tw_7 d_Band_init_38 hM10 ?_
  refine ev_dup d_Band_init_41 (Nat.ne_of_beq_eq_false rfl) ?_
  obtain ⟨p11, hp11, h⟩ := bx h
  have hRp11 := c_Rule_init (X := X) (d := d - 1) (by omega) (nz M9) hp11
  refine ev_callIN (host := "TownBand") (as := []) (rest := [(8, ((mN M9 : Int) + 1)), (11, a0)]) rfl (by decide) (by decide) (nz M9) rfl (Nat.le_of_ble_eq_true rfl) k_Rule_init tw_177 rfl rfl (by omega) tw_176 d_Band_init_42 hRp11 ?_
  obtain ⟨M12, hM12, h⟩ := ltx h
  refine ev_putF' (t := 11) (k := 3) (by decide) (by decide) rfl i_Band t_Band_ok n_Band (by decide) rfl rfl rfl rfl rfl rfl tw_316 d_Band_init_45 hn_a0 hM12 ?_
  refine ev_aload_n 0 d_Band_init_48 rfl (by decide) rfl ?_
  obtain ⟨M13, hM13, h⟩ := ltx h
  refine ev_new' (t := 4) (by decide) (by decide) rfl i_Loans t_Loans_ok rfl (by decide) (by decide) tw_202 tw_203 tw_8 d_Band_init_49 hM13 ?_
  refine ev_dup d_Band_init_52 (Nat.ne_of_beq_eq_false rfl) ?_
  obtain ⟨p14, hp14, h⟩ := bx h
  have hRp14 := c_Loans_init (X := X) (d := d - 1) (by omega) (nz M12) hp14
  refine ev_callIN (host := "TownBand") (as := []) (rest := [(4, ((mN M12 : Int) + 1)), (11, a0)]) rfl (by decide) (by decide) (nz M12) rfl (Nat.le_of_ble_eq_true rfl) k_Loans_init tw_205 rfl rfl (by omega) tw_204 d_Band_init_53 hRp14 ?_
  obtain ⟨M15, hM15, h⟩ := ltx h
  refine ev_putF' (t := 11) (k := 4) (by decide) (by decide) rfl i_Band t_Band_ok n_Band (by decide) rfl rfl rfl rfl rfl rfl tw_317 d_Band_init_56 hn_a0 hM15 ?_
  refine ev_aload_n 0 d_Band_init_59 rfl (by decide) rfl ?_
  obtain ⟨M16, hM16, h⟩ := ltx h
  refine ev_new' (t := 2) (by decide) (by decide) rfl i_Cover t_Cover_ok rfl (by decide) (by decide) tw_228 tw_229 tw_9 d_Band_init_60 hM16 ?_
  refine ev_dup d_Band_init_63 (Nat.ne_of_beq_eq_false rfl) ?_
  obtain ⟨p17, hp17, h⟩ := bx h
  have hRp17 := c_Cover_init (X := X) (d := d - 1) (by omega) (nz M15) hp17
  refine ev_callIN (host := "TownBand") (as := []) (rest := [(2, ((mN M15 : Int) + 1)), (11, a0)]) rfl (by decide) (by decide) (nz M15) rfl (Nat.le_of_ble_eq_true rfl) k_Cover_init tw_231 rfl rfl (by omega) tw_230 d_Band_init_64 hRp17 ?_
  obtain ⟨M18, hM18, h⟩ := ltx h
  refine ev_putF' (t := 11) (k := 5) (by decide) (by decide) rfl i_Band t_Band_ok n_Band (by decide) rfl rfl rfl rfl rfl rfl tw_318 d_Band_init_67 hn_a0 hM18 ?_
  refine ev_aload_n 0 d_Band_init_70 rfl (by decide) rfl ?_
  obtain ⟨M19, hM19, h⟩ := ltx h
  refine ev_new' (t := 9) (by decide) (by decide) rfl i_Seater t_Seater_ok rfl (by decide) (by decide) tw_247 tw_248 tw_10 d_Band_init_71 hM19 ?_
  refine ev_dup d_Band_init_74 (Nat.ne_of_beq_eq_false rfl) ?_
  obtain ⟨p20, hp20, h⟩ := bx h
  have hRp20 := c_Seater_init (X := X) (d := d - 1) (by omega) (nz M18) hp20
  refine ev_callIN (host := "TownBand") (as := []) (rest := [(9, ((mN M18 : Int) + 1)), (11, a0)]) rfl (by decide) (by decide) (nz M18) rfl (Nat.le_of_ble_eq_true rfl) k_Seater_init tw_250 rfl rfl (by omega) tw_249 d_Band_init_75 hRp20 ?_
  obtain ⟨M21, hM21, h⟩ := ltx h
  refine ev_putF' (t := 11) (k := 6) (by decide) (by decide) rfl i_Band t_Band_ok n_Band (by decide) rfl rfl rfl rfl rfl rfl tw_319 d_Band_init_78 hn_a0 hM21 ?_
  refine ev_aload_n 0 d_Band_init_81 rfl (by decide) rfl ?_
  obtain ⟨M22, hM22, h⟩ := ltx h
  refine ev_new' (t := 6) (by decide) (by decide) rfl i_Planner t_Planner_ok rfl (by decide) (by decide) tw_276 tw_277 tw_11 d_Band_init_82 hM22 ?_
  refine ev_dup d_Band_init_85 (Nat.ne_of_beq_eq_false rfl) ?_
  obtain ⟨p23, hp23, h⟩ := bx h
  have hRp23 := c_Planner_init (X := X) (d := d - 1) (by omega) (nz M21) hp23
  refine ev_callIN (host := "TownBand") (as := []) (rest := [(6, ((mN M21 : Int) + 1)), (11, a0)]) rfl (by decide) (by decide) (nz M21) rfl (Nat.le_of_ble_eq_true rfl) k_Planner_init tw_279 rfl rfl (by omega) tw_278 d_Band_init_86 hRp23 ?_
  obtain ⟨M24, hM24, h⟩ := ltx h
  refine ev_putF' (t := 11) (k := 7) (by decide) (by decide) rfl i_Band t_Band_ok n_Band (by decide) rfl rfl rfl rfl rfl rfl tw_320 d_Band_init_89 hn_a0 hM24 ?_
  cases h
  exact ev_retV d_Band_init_92 rfl
def f_Band_isDay (M : Mm) (a0 : Int) : Option (Int) :=
  (f_Band_isWithin M a0 0 999).bind (fun p1 =>
  some p1)
theorem c_Band_isDay {X : XX} {d : Nat} (hd : 1 ≤ d) {M : Mm} {a0 : Int} {p : Int} (h : f_Band_isDay M a0 = some p) : Rn X d m_Band_isDay [(0, a0)] M (some (0, p)) M := by
  refine Rn_of (by decide) rfl (Nat.le_of_ble_eq_true rfl) ?_
  unfold f_Band_isDay at h
  refine ev_less (L' := [(0, (0, a0))]) [0] rfl ?_
  refine ev_iload_n 0 d_Band_isDay_0 rfl rfl ?_
  refine ev_iconst d_Band_isDay_1 rfl ?_
  refine ev_sipush d_Band_isDay_2 rfl ?_
  obtain ⟨p1, hp1, h⟩ := bx h
  have hRp1 := c_Band_isWithin (X := X) (d := d - 1) (by omega)  hp1
  refine ev_callS2 (st2 := [(0, p1)]) (as := [(0, a0), (0, 0), (0, 999)]) (rest := []) rfl rfl (Nat.le_of_ble_eq_true rfl) k_Band_isWithin tw_343 (by omega) tw_342 d_Band_isDay_5 hRp1 rfl ?_
  cases h
  exact ev_retZ d_Band_isDay_8 rfl (hRp1.2.1 _ rfl rfl)
def f_Band_player (M : Mm) (a0 : Int) (a1 : Int) (a2 : Int) : Option (Int × Mm) :=
  (f_Band_isWithin M a1 0 99).bind (fun p1 =>
  if p1 = 0 then
  some ((-1), M)
  else
  (f_Band_isDay M a2).bind (fun p3 =>
  if p3 ≠ 0 then
  if (mg M (cI a0) 0) ≠ 0 then
  (f_Players_join M (mg M (cI a0) 0) a1 a2).bind (fun p6 =>
  some (p6.1, p6.2))
  else none
  else
  some ((-1), M)))
theorem c_Band_player {X : XX} {d : Nat} (hd : 2 ≤ d) {M : Mm} {a0 : Int} {a1 : Int} {a2 : Int} (hn_a0 : a0 ≠ 0) {p : Int × Mm} (h : f_Band_player M a0 a1 a2 = some p) : Rn X d m_Band_player [(11, a0), (0, a1), (0, a2)] M (some (0, p.1)) p.2 := by
  refine Rn_of (by decide) rfl (Nat.le_of_ble_eq_true rfl) ?_
  unfold f_Band_player at h
  refine ev_less (L' := [(0, (11, a0)), (1, (0, a1)), (2, (0, a2))]) [0, 1, 2] rfl ?_
  refine ev_iload_n 1 d_Band_player_0 rfl rfl ?_
  refine ev_iconst d_Band_player_1 rfl ?_
  refine ev_bipush d_Band_player_2 rfl ?_
  obtain ⟨p1, hp1, h⟩ := bx h
  have hRp1 := c_Band_isWithin (X := X) (d := d - 1) (by omega)  hp1
  refine ev_callS2 (st2 := [(0, p1)]) (as := [(0, a1), (0, 0), (0, 99)]) (rest := []) rfl rfl (Nat.le_of_ble_eq_true rfl) k_Band_isWithin tw_343 (by omega) tw_342 d_Band_player_4 hRp1 rfl ?_
  by_cases hc2 : p1 = 0
  · replace h := itp hc2 h
    refine ev_if_eq_t (tgt := 17) d_Band_player_7 (by decide) hc2 ?_
    refine ev_iconst d_Band_player_17 rfl ?_
    cases h
    exact ev_ret d_Band_player_18 rfl
  · replace h := itn hc2 h
    refine ev_if_eq_f d_Band_player_7 (by decide) hc2 ?_
    refine ev_iload_n 2 d_Band_player_10 rfl rfl ?_
    obtain ⟨p3, hp3, h⟩ := bx h
    have hRp3 := c_Band_isDay (X := X) (d := d - 1) (by omega)  hp3
    refine ev_callS2 (st2 := [(0, p3)]) (as := [(0, a2)]) (rest := []) rfl rfl (Nat.le_of_ble_eq_true rfl) k_Band_isDay tw_346 (by omega) tw_345 d_Band_player_11 hRp3 rfl ?_
    by_cases hc4 : p3 ≠ 0
    · replace h := itp hc4 h
      refine ev_if_ne_t (tgt := 19) d_Band_player_14 (by decide) hc4 ?_
      refine ev_aload_n 0 d_Band_player_19 rfl (by decide) rfl ?_
      refine ev_get (t := 11) (k := 0) (by decide) (by decide) rfl i_Band (by decide) rfl rfl tw_313 d_Band_player_20 hn_a0 ?_
      refine ev_iload_n 1 d_Band_player_23 rfl rfl ?_
      refine ev_iload_n 2 d_Band_player_24 rfl rfl ?_
      obtain ⟨hz5, h⟩ := gx h
      obtain ⟨p6, hp6, h⟩ := bx h
      have hRp6 := c_Players_join (X := X) (d := d - 1) (by omega) hz5 hp6
      refine ev_callVN2 (host := "TownBand") (st2 := [(0, p6.1)]) (as := [(0, a1), (0, a2)]) (rest := []) rfl (by decide) (by decide) rfl hz5 rfl (Nat.le_of_ble_eq_true rfl) k_Players_join ⟨tw_350, ts_0⟩ (by omega) tw_348 d_Band_player_25 hRp6 rfl ?_
      cases h
      exact ev_ret d_Band_player_28 rfl
    · replace h := itn hc4 h
      refine ev_if_ne_f d_Band_player_14 (by decide) hc4 ?_
      refine ev_iconst d_Band_player_17 rfl ?_
      cases h
      exact ev_ret d_Band_player_18 rfl
def f_Band_isInstrument (M : Mm) (a0 : Int) : Option (Int) :=
  (f_Band_isWithin M a0 0 9).bind (fun p1 =>
  some p1)
theorem c_Band_isInstrument {X : XX} {d : Nat} (hd : 1 ≤ d) {M : Mm} {a0 : Int} {p : Int} (h : f_Band_isInstrument M a0 = some p) : Rn X d m_Band_isInstrument [(0, a0)] M (some (0, p)) M := by
  refine Rn_of (by decide) rfl (Nat.le_of_ble_eq_true rfl) ?_
  unfold f_Band_isInstrument at h
  refine ev_less (L' := [(0, (0, a0))]) [0] rfl ?_
  refine ev_iload_n 0 d_Band_isInstrument_0 rfl rfl ?_
  refine ev_iconst d_Band_isInstrument_1 rfl ?_
  refine ev_bipush d_Band_isInstrument_2 rfl ?_
  obtain ⟨p1, hp1, h⟩ := bx h
  have hRp1 := c_Band_isWithin (X := X) (d := d - 1) (by omega)  hp1
  refine ev_callS2 (st2 := [(0, p1)]) (as := [(0, a0), (0, 0), (0, 9)]) (rest := []) rfl rfl (Nat.le_of_ble_eq_true rfl) k_Band_isWithin tw_343 (by omega) tw_342 d_Band_isInstrument_4 hRp1 rfl ?_
  cases h
  exact ev_retZ d_Band_isInstrument_7 rfl (hRp1.2.1 _ rfl rfl)
def f_Band_plays (M : Mm) (a0 : Int) (a1 : Int) (a2 : Int) (a3 : Int) : Option (Int × Mm) :=
  if (mg M (cI a0) 0) ≠ 0 then
  (f_Players_has M (mg M (cI a0) 0) a1).bind (fun p2 =>
  if p2 = 0 then
  some (0, M)
  else
  (f_Band_isInstrument M a2).bind (fun p4 =>
  if p4 = 0 then
  some (0, M)
  else
  (f_Band_isWithin M a3 (-1) 9).bind (fun p6 =>
  if p6 ≠ 0 then
  (f_Players_learn M (mg M (cI a0) 0) a1 a2 a3).bind (fun p8 =>
  some (1, p8))
  else
  some (0, M))))
  else none
theorem c_Band_plays {X : XX} {d : Nat} (hd : 2 ≤ d) {M : Mm} {a0 : Int} {a1 : Int} {a2 : Int} {a3 : Int} (hn_a0 : a0 ≠ 0) {p : Int × Mm} (h : f_Band_plays M a0 a1 a2 a3 = some p) : Rn X d m_Band_plays [(11, a0), (0, a1), (0, a2), (0, a3)] M (some (0, p.1)) p.2 := by
  refine Rn_of (by decide) rfl (Nat.le_of_ble_eq_true rfl) ?_
  unfold f_Band_plays at h
  refine ev_less (L' := [(0, (11, a0)), (1, (0, a1)), (2, (0, a2)), (3, (0, a3))]) [0, 1, 2, 3] rfl ?_
  refine ev_aload_n 0 d_Band_plays_0 rfl (by decide) rfl ?_
  refine ev_get (t := 11) (k := 0) (by decide) (by decide) rfl i_Band (by decide) rfl rfl tw_313 d_Band_plays_1 hn_a0 ?_
  refine ev_iload_n 1 d_Band_plays_4 rfl rfl ?_
  obtain ⟨hz1, h⟩ := gx h
  obtain ⟨p2, hp2, h⟩ := bx h
  have hRp2 := c_Players_has (X := X) (d := d - 1) (by omega) hz1 hp2
  refine ev_callVN2 (host := "TownBand") (st2 := [(0, p2)]) (as := [(0, a1)]) (rest := []) rfl (by decide) (by decide) rfl hz1 rfl (Nat.le_of_ble_eq_true rfl) k_Players_has ⟨tw_358, ts_1⟩ (by omega) tw_356 d_Band_plays_5 hRp2 rfl ?_
  by_cases hc3 : p2 = 0
  · replace h := itp hc3 h
    refine ev_if_eq_t (tgt := 28) d_Band_plays_8 (by decide) hc3 ?_
    refine ev_iconst d_Band_plays_28 rfl ?_
    cases h
    exact ev_retZ d_Band_plays_29 rfl (Or.inl rfl)
  · replace h := itn hc3 h
    refine ev_if_eq_f d_Band_plays_8 (by decide) hc3 ?_
    refine ev_iload_n 2 d_Band_plays_11 rfl rfl ?_
    obtain ⟨p4, hp4, h⟩ := bx h
    have hRp4 := c_Band_isInstrument (X := X) (d := d - 1) (by omega)  hp4
    refine ev_callS2 (st2 := [(0, p4)]) (as := [(0, a2)]) (rest := []) rfl rfl (Nat.le_of_ble_eq_true rfl) k_Band_isInstrument tw_361 (by omega) tw_360 d_Band_plays_12 hRp4 rfl ?_
    by_cases hc5 : p4 = 0
    · replace h := itp hc5 h
      refine ev_if_eq_t (tgt := 28) d_Band_plays_15 (by decide) hc5 ?_
      refine ev_iconst d_Band_plays_28 rfl ?_
      cases h
      exact ev_retZ d_Band_plays_29 rfl (Or.inl rfl)
    · replace h := itn hc5 h
      refine ev_if_eq_f d_Band_plays_15 (by decide) hc5 ?_
      refine ev_iload_n 3 d_Band_plays_18 rfl rfl ?_
      refine ev_iconst d_Band_plays_19 rfl ?_
      refine ev_bipush d_Band_plays_20 rfl ?_
      obtain ⟨p6, hp6, h⟩ := bx h
      have hRp6 := c_Band_isWithin (X := X) (d := d - 1) (by omega)  hp6
      refine ev_callS2 (st2 := [(0, p6)]) (as := [(0, a3), (0, (-1)), (0, 9)]) (rest := []) rfl rfl (Nat.le_of_ble_eq_true rfl) k_Band_isWithin tw_343 (by omega) tw_342 d_Band_plays_22 hRp6 rfl ?_
      by_cases hc7 : p6 ≠ 0
      · replace h := itp hc7 h
        refine ev_if_ne_t (tgt := 30) d_Band_plays_25 (by decide) hc7 ?_
        refine ev_aload_n 0 d_Band_plays_30 rfl (by decide) rfl ?_
        refine ev_get (t := 11) (k := 0) (by decide) (by decide) rfl i_Band (by decide) rfl rfl tw_313 d_Band_plays_31 hn_a0 ?_
        refine ev_iload_n 1 d_Band_plays_34 rfl rfl ?_
        refine ev_iload_n 2 d_Band_plays_35 rfl rfl ?_
        refine ev_iload_n 3 d_Band_plays_36 rfl rfl ?_
        obtain ⟨p8, hp8, h⟩ := bx h
        have hRp8 := c_Players_learn (X := X) (d := d - 1) (by omega) hz1 hp8
        refine ev_callVN2 (host := "TownBand") (st2 := []) (as := [(0, a1), (0, a2), (0, a3)]) (rest := []) rfl (by decide) (by decide) rfl hz1 rfl (Nat.le_of_ble_eq_true rfl) k_Players_learn ⟨tw_365, ts_2⟩ (by omega) tw_363 d_Band_plays_37 hRp8 rfl ?_
        refine ev_iconst d_Band_plays_40 rfl ?_
        cases h
        exact ev_retZ d_Band_plays_41 rfl (Or.inr rfl)
      · replace h := itn hc7 h
        refine ev_if_ne_f d_Band_plays_25 (by decide) hc7 ?_
        refine ev_iconst d_Band_plays_28 rfl ?_
        cases h
        exact ev_retZ d_Band_plays_29 rfl (Or.inl rfl)
def f_Band_cost (M : Mm) (a0 : Int) (a1 : Int) (a2 : Int) : Option (Int) :=
  if (mg M (cI a0) 0) ≠ 0 then
  (f_Players_has M (mg M (cI a0) 0) a1).bind (fun p2 =>
  if p2 = 0 then
  some (-1)
  else
  (f_Band_isInstrument M a2).bind (fun p4 =>
  if p4 ≠ 0 then
  (f_Players_costOf M (mg M (cI a0) 0) a1 a2).bind (fun p6 =>
  some p6)
  else
  some (-1)))
  else none
theorem c_Band_cost {X : XX} {d : Nat} (hd : 2 ≤ d) {M : Mm} {a0 : Int} {a1 : Int} {a2 : Int} (hn_a0 : a0 ≠ 0) {p : Int} (h : f_Band_cost M a0 a1 a2 = some p) : Rn X d m_Band_cost [(11, a0), (0, a1), (0, a2)] M (some (0, p)) M := by
  refine Rn_of (by decide) rfl (Nat.le_of_ble_eq_true rfl) ?_
  unfold f_Band_cost at h
  refine ev_less (L' := [(0, (11, a0)), (1, (0, a1)), (2, (0, a2))]) [0, 1, 2] rfl ?_
  refine ev_aload_n 0 d_Band_cost_0 rfl (by decide) rfl ?_
  refine ev_get (t := 11) (k := 0) (by decide) (by decide) rfl i_Band (by decide) rfl rfl tw_313 d_Band_cost_1 hn_a0 ?_
  refine ev_iload_n 1 d_Band_cost_4 rfl rfl ?_
  obtain ⟨hz1, h⟩ := gx h
  obtain ⟨p2, hp2, h⟩ := bx h
  have hRp2 := c_Players_has (X := X) (d := d - 1) (by omega) hz1 hp2
  refine ev_callVN2 (host := "TownBand") (st2 := [(0, p2)]) (as := [(0, a1)]) (rest := []) rfl (by decide) (by decide) rfl hz1 rfl (Nat.le_of_ble_eq_true rfl) k_Players_has ⟨tw_358, ts_1⟩ (by omega) tw_356 d_Band_cost_5 hRp2 rfl ?_
  by_cases hc3 : p2 = 0
  · replace h := itp hc3 h
    refine ev_if_eq_t (tgt := 18) d_Band_cost_8 (by decide) hc3 ?_
    refine ev_iconst d_Band_cost_18 rfl ?_
    cases h
    exact ev_ret d_Band_cost_19 rfl
  · replace h := itn hc3 h
    refine ev_if_eq_f d_Band_cost_8 (by decide) hc3 ?_
    refine ev_iload_n 2 d_Band_cost_11 rfl rfl ?_
    obtain ⟨p4, hp4, h⟩ := bx h
    have hRp4 := c_Band_isInstrument (X := X) (d := d - 1) (by omega)  hp4
    refine ev_callS2 (st2 := [(0, p4)]) (as := [(0, a2)]) (rest := []) rfl rfl (Nat.le_of_ble_eq_true rfl) k_Band_isInstrument tw_361 (by omega) tw_360 d_Band_cost_12 hRp4 rfl ?_
    by_cases hc5 : p4 ≠ 0
    · replace h := itp hc5 h
      refine ev_if_ne_t (tgt := 20) d_Band_cost_15 (by decide) hc5 ?_
      refine ev_aload_n 0 d_Band_cost_20 rfl (by decide) rfl ?_
      refine ev_get (t := 11) (k := 0) (by decide) (by decide) rfl i_Band (by decide) rfl rfl tw_313 d_Band_cost_21 hn_a0 ?_
      refine ev_iload_n 1 d_Band_cost_24 rfl rfl ?_
      refine ev_iload_n 2 d_Band_cost_25 rfl rfl ?_
      obtain ⟨p6, hp6, h⟩ := bx h
      have hRp6 := c_Players_costOf (X := X) (d := d - 1) (by omega) hz1 hp6
      refine ev_callVN2 (host := "TownBand") (st2 := [(0, p6)]) (as := [(0, a1), (0, a2)]) (rest := []) rfl (by decide) (by decide) rfl hz1 rfl (Nat.le_of_ble_eq_true rfl) k_Players_costOf ⟨tw_373, ts_3⟩ (by omega) tw_371 d_Band_cost_26 hRp6 rfl ?_
      cases h
      exact ev_ret d_Band_cost_29 rfl
    · replace h := itn hc5 h
      refine ev_if_ne_f d_Band_cost_15 (by decide) hc5 ?_
      refine ev_iconst d_Band_cost_18 rfl ?_
      cases h
      exact ev_ret d_Band_cost_19 rfl
def f_Band_here (M : Mm) (a0 : Int) (a1 : Int) (a2 : Int) : Option (Int × Mm) :=
  if (mg M (cI a0) 0) ≠ 0 then
  (f_Players_has M (mg M (cI a0) 0) a1).bind (fun p2 =>
  if p2 ≠ 0 then
  (f_Players_mark M (mg M (cI a0) 0) a1 a2).bind (fun p4 =>
  some (1, p4))
  else
  some (0, M))
  else none
theorem c_Band_here {X : XX} {d : Nat} (hd : 1 ≤ d) {M : Mm} {a0 : Int} {a1 : Int} {a2 : Int} (hn_a0 : a0 ≠ 0) {p : Int × Mm} (h : f_Band_here M a0 a1 a2 = some p) : Rn X d m_Band_here [(11, a0), (0, a1), (0, a2)] M (some (0, p.1)) p.2 := by
  refine Rn_of (by decide) rfl (Nat.le_of_ble_eq_true rfl) ?_
  unfold f_Band_here at h
  refine ev_less (L' := [(0, (11, a0)), (1, (0, a1)), (2, (0, a2))]) [0, 1, 2] rfl ?_
  refine ev_aload_n 0 d_Band_here_0 rfl (by decide) rfl ?_
  refine ev_get (t := 11) (k := 0) (by decide) (by decide) rfl i_Band (by decide) rfl rfl tw_313 d_Band_here_1 hn_a0 ?_
  refine ev_iload_n 1 d_Band_here_4 rfl rfl ?_
  obtain ⟨hz1, h⟩ := gx h
  obtain ⟨p2, hp2, h⟩ := bx h
  have hRp2 := c_Players_has (X := X) (d := d - 1) (by omega) hz1 hp2
  refine ev_callVN2 (host := "TownBand") (st2 := [(0, p2)]) (as := [(0, a1)]) (rest := []) rfl (by decide) (by decide) rfl hz1 rfl (Nat.le_of_ble_eq_true rfl) k_Players_has ⟨tw_358, ts_1⟩ (by omega) tw_356 d_Band_here_5 hRp2 rfl ?_
  by_cases hc3 : p2 ≠ 0
  · replace h := itp hc3 h
    refine ev_if_ne_t (tgt := 13) d_Band_here_8 (by decide) hc3 ?_
    refine ev_aload_n 0 d_Band_here_13 rfl (by decide) rfl ?_
    refine ev_get (t := 11) (k := 0) (by decide) (by decide) rfl i_Band (by decide) rfl rfl tw_313 d_Band_here_14 hn_a0 ?_
    refine ev_iload_n 1 d_Band_here_17 rfl rfl ?_
    refine ev_iload_n 2 d_Band_here_18 rfl rfl ?_
    obtain ⟨p4, hp4, h⟩ := bx h
    have hRp4 := c_Players_mark (X := X) (d := d - 1) (by omega) hz1 hp4
    refine ev_callVN2 (host := "TownBand") (st2 := []) (as := [(0, a1), (0, a2)]) (rest := []) rfl (by decide) (by decide) rfl hz1 rfl (Nat.le_of_ble_eq_true rfl) k_Players_mark ⟨tw_381, ts_4⟩ (by omega) tw_379 d_Band_here_19 hRp4 rfl ?_
    refine ev_iconst d_Band_here_22 rfl ?_
    cases h
    exact ev_retZ d_Band_here_23 rfl (Or.inr rfl)
  · replace h := itn hc3 h
    refine ev_if_ne_f d_Band_here_8 (by decide) hc3 ?_
    refine ev_iconst d_Band_here_11 rfl ?_
    cases h
    exact ev_retZ d_Band_here_12 rfl (Or.inl rfl)
def f_Band_feed (M : Mm) (a0 : Int) (a1 : Int) (a2 : Int) (a3 : Int) (a4 : Int) (a5 : Int) : Option (Int × Mm) :=
  if (mg M (cI a0) 2) ≠ 0 then
  (f_Tape_hasRoom M (mg M (cI a0) 2)).bind (fun p2 =>
  if p2 ≠ 0 then
  (f_Tape_append M (mg M (cI a0) 2) a1).bind (fun p4 =>
  if (mg p4 (cI a0) 2) ≠ 0 then
  (f_Tape_append p4 (mg p4 (cI a0) 2) a2).bind (fun p6 =>
  if (mg p6 (cI a0) 2) ≠ 0 then
  (f_Tape_append p6 (mg p6 (cI a0) 2) a3).bind (fun p8 =>
  if (mg p8 (cI a0) 2) ≠ 0 then
  (f_Tape_append p8 (mg p8 (cI a0) 2) a4).bind (fun p10 =>
  if (mg p10 (cI a0) 2) ≠ 0 then
  (f_Tape_append p10 (mg p10 (cI a0) 2) a5).bind (fun p12 =>
  if (mg p12 (cI a0) 2) ≠ 0 then
  some ((mg p12 (cI (mg p12 (cI a0) 2)) 1), p12)
  else none)
  else none)
  else none)
  else none)
  else none)
  else
  some ((-1), M))
  else none
theorem c_Band_feed {X : XX} {d : Nat} (hd : 1 ≤ d) {M : Mm} {a0 : Int} {a1 : Int} {a2 : Int} {a3 : Int} {a4 : Int} {a5 : Int} (hn_a0 : a0 ≠ 0) {p : Int × Mm} (h : f_Band_feed M a0 a1 a2 a3 a4 a5 = some p) : Rn X d m_Band_feed [(11, a0), (0, a1), (0, a2), (0, a3), (0, a4), (0, a5)] M (some (0, p.1)) p.2 := by
  refine Rn_of (by decide) rfl (Nat.le_of_ble_eq_true rfl) ?_
  unfold f_Band_feed at h
  refine ev_less (L' := [(0, (11, a0)), (1, (0, a1)), (2, (0, a2)), (3, (0, a3)), (4, (0, a4)), (5, (0, a5))]) [0, 1, 2, 3, 4, 5] rfl ?_
  refine ev_aload_n 0 d_Band_feed_0 rfl (by decide) rfl ?_
  refine ev_get (t := 11) (k := 2) (by decide) (by decide) rfl i_Band (by decide) rfl rfl tw_315 d_Band_feed_1 hn_a0 ?_
  obtain ⟨hz1, h⟩ := gx h
  obtain ⟨p2, hp2, h⟩ := bx h
  have hRp2 := c_Tape_hasRoom (X := X) (d := d - 1) (by omega) hz1 hp2
  refine ev_callVN2 (host := "TownBand") (st2 := [(0, p2)]) (as := []) (rest := []) rfl (by decide) (by decide) rfl hz1 rfl (Nat.le_of_ble_eq_true rfl) k_Tape_hasRoom ⟨tw_389, ts_5⟩ (by omega) tw_387 d_Band_feed_4 hRp2 rfl ?_
  by_cases hc3 : p2 ≠ 0
  · replace h := itp hc3 h
    refine ev_if_ne_t (tgt := 12) d_Band_feed_7 (by decide) hc3 ?_
    refine ev_aload_n 0 d_Band_feed_12 rfl (by decide) rfl ?_
    refine ev_get (t := 11) (k := 2) (by decide) (by decide) rfl i_Band (by decide) rfl rfl tw_315 d_Band_feed_13 hn_a0 ?_
    refine ev_iload_n 1 d_Band_feed_16 rfl rfl ?_
    obtain ⟨p4, hp4, h⟩ := bx h
    have hRp4 := c_Tape_append (X := X) (d := d - 1) (by omega) hz1 hp4
    refine ev_callVN2 (host := "TownBand") (st2 := []) (as := [(0, a1)]) (rest := []) rfl (by decide) (by decide) rfl hz1 rfl (Nat.le_of_ble_eq_true rfl) k_Tape_append ⟨tw_393, ts_6⟩ (by omega) tw_391 d_Band_feed_17 hRp4 rfl ?_
    refine ev_aload_n 0 d_Band_feed_20 rfl (by decide) rfl ?_
    refine ev_get (t := 11) (k := 2) (by decide) (by decide) rfl i_Band (by decide) rfl rfl tw_315 d_Band_feed_21 hn_a0 ?_
    refine ev_iload_n 2 d_Band_feed_24 rfl rfl ?_
    obtain ⟨hz5, h⟩ := gx h
    obtain ⟨p6, hp6, h⟩ := bx h
    have hRp6 := c_Tape_append (X := X) (d := d - 1) (by omega) hz5 hp6
    refine ev_callVN2 (host := "TownBand") (st2 := []) (as := [(0, a2)]) (rest := []) rfl (by decide) (by decide) rfl hz5 rfl (Nat.le_of_ble_eq_true rfl) k_Tape_append ⟨tw_393, ts_6⟩ (by omega) tw_391 d_Band_feed_25 hRp6 rfl ?_
    refine ev_aload_n 0 d_Band_feed_28 rfl (by decide) rfl ?_
    refine ev_get (t := 11) (k := 2) (by decide) (by decide) rfl i_Band (by decide) rfl rfl tw_315 d_Band_feed_29 hn_a0 ?_
    refine ev_iload_n 3 d_Band_feed_32 rfl rfl ?_
    obtain ⟨hz7, h⟩ := gx h
    obtain ⟨p8, hp8, h⟩ := bx h
    have hRp8 := c_Tape_append (X := X) (d := d - 1) (by omega) hz7 hp8
    refine ev_callVN2 (host := "TownBand") (st2 := []) (as := [(0, a3)]) (rest := []) rfl (by decide) (by decide) rfl hz7 rfl (Nat.le_of_ble_eq_true rfl) k_Tape_append ⟨tw_393, ts_6⟩ (by omega) tw_391 d_Band_feed_33 hRp8 rfl ?_
    refine ev_aload_n 0 d_Band_feed_36 rfl (by decide) rfl ?_
    refine ev_get (t := 11) (k := 2) (by decide) (by decide) rfl i_Band (by decide) rfl rfl tw_315 d_Band_feed_37 hn_a0 ?_
    refine ev_iload 4 d_Band_feed_40 rfl ?_
    obtain ⟨hz9, h⟩ := gx h
    obtain ⟨p10, hp10, h⟩ := bx h
    have hRp10 := c_Tape_append (X := X) (d := d - 1) (by omega) hz9 hp10
    refine ev_callVN2 (host := "TownBand") (st2 := []) (as := [(0, a4)]) (rest := []) rfl (by decide) (by decide) rfl hz9 rfl (Nat.le_of_ble_eq_true rfl) k_Tape_append ⟨tw_393, ts_6⟩ (by omega) tw_391 d_Band_feed_42 hRp10 rfl ?_
    refine ev_aload_n 0 d_Band_feed_45 rfl (by decide) rfl ?_
    refine ev_get (t := 11) (k := 2) (by decide) (by decide) rfl i_Band (by decide) rfl rfl tw_315 d_Band_feed_46 hn_a0 ?_
    refine ev_iload 5 d_Band_feed_49 rfl ?_
    obtain ⟨hz11, h⟩ := gx h
    obtain ⟨p12, hp12, h⟩ := bx h
    have hRp12 := c_Tape_append (X := X) (d := d - 1) (by omega) hz11 hp12
    refine ev_callVN2 (host := "TownBand") (st2 := []) (as := [(0, a5)]) (rest := []) rfl (by decide) (by decide) rfl hz11 rfl (Nat.le_of_ble_eq_true rfl) k_Tape_append ⟨tw_393, ts_6⟩ (by omega) tw_391 d_Band_feed_51 hRp12 rfl ?_
    refine ev_aload_n 0 d_Band_feed_54 rfl (by decide) rfl ?_
    refine ev_get (t := 11) (k := 2) (by decide) (by decide) rfl i_Band (by decide) rfl rfl tw_315 d_Band_feed_55 hn_a0 ?_
    obtain ⟨hz13, h⟩ := gx h
    refine ev_getN (host := "TownBand") (t := 10) (k := 1) (by decide) (by decide) rfl i_Tape (by decide) rfl rfl tw_137 d_Band_feed_58 hz13 ?_
    cases h
    exact ev_ret d_Band_feed_61 rfl
  · replace h := itn hc3 h
    refine ev_if_ne_f d_Band_feed_7 (by decide) hc3 ?_
    refine ev_iconst d_Band_feed_10 rfl ?_
    cases h
    exact ev_ret d_Band_feed_11 rfl
def f_Band_end (M : Mm) (a0 : Int) (a1 : Int) : Option (Int × Mm) :=
  if (mg M (cI a0) 2) ≠ 0 then
  (f_Band_isWithin M a1 0 (mg M (cI (mg M (cI a0) 2)) 1)).bind (fun p2 =>
  if p2 ≠ 0 then
  lt (mp M (cI (mg M (cI a0) 2)) 1 a1) (fun M4 =>
  some (a1, M4))
  else
  some ((-1), M))
  else none
theorem c_Band_end {X : XX} {d : Nat} (hd : 1 ≤ d) {M : Mm} {a0 : Int} {a1 : Int} (hn_a0 : a0 ≠ 0) {p : Int × Mm} (h : f_Band_end M a0 a1 = some p) : Rn X d m_Band_end [(11, a0), (0, a1)] M (some (0, p.1)) p.2 := by
  refine Rn_of (by decide) rfl (Nat.le_of_ble_eq_true rfl) ?_
  unfold f_Band_end at h
  refine ev_less (L' := [(0, (11, a0)), (1, (0, a1))]) [0, 1] rfl ?_
  refine ev_iload_n 1 d_Band_end_0 rfl rfl ?_
  refine ev_iconst d_Band_end_1 rfl ?_
  refine ev_aload_n 0 d_Band_end_2 rfl (by decide) rfl ?_
  refine ev_get (t := 11) (k := 2) (by decide) (by decide) rfl i_Band (by decide) rfl rfl tw_315 d_Band_end_3 hn_a0 ?_
  obtain ⟨hz1, h⟩ := gx h
  refine ev_getN (host := "TownBand") (t := 10) (k := 1) (by decide) (by decide) rfl i_Tape (by decide) rfl rfl tw_137 d_Band_end_6 hz1 ?_
  obtain ⟨p2, hp2, h⟩ := bx h
  have hRp2 := c_Band_isWithin (X := X) (d := d - 1) (by omega)  hp2
  refine ev_callS2 (st2 := [(0, p2)]) (as := [(0, a1), (0, 0), (0, (mg M (cI (mg M (cI a0) 2)) 1))]) (rest := []) rfl rfl (Nat.le_of_ble_eq_true rfl) k_Band_isWithin tw_343 (by omega) tw_342 d_Band_end_9 hRp2 rfl ?_
  by_cases hc3 : p2 ≠ 0
  · replace h := itp hc3 h
    refine ev_if_ne_t (tgt := 17) d_Band_end_12 (by decide) hc3 ?_
    refine ev_aload_n 0 d_Band_end_17 rfl (by decide) rfl ?_
    refine ev_get (t := 11) (k := 2) (by decide) (by decide) rfl i_Band (by decide) rfl rfl tw_315 d_Band_end_18 hn_a0 ?_
    refine ev_iload_n 1 d_Band_end_21 rfl rfl ?_
    obtain ⟨M4, hM4, h⟩ := ltx h
    refine ev_putN' (host := "TownBand") (t := 10) (k := 1) (by decide) (by decide) rfl i_Tape t_Tape_ok n_Tape (by decide) rfl rfl rfl rfl tw_137 d_Band_end_22 hz1 hM4 ?_
    refine ev_iload_n 1 d_Band_end_25 rfl rfl ?_
    cases h
    exact ev_ret d_Band_end_26 rfl
  · replace h := itn hc3 h
    refine ev_if_ne_f d_Band_end_12 (by decide) hc3 ?_
    refine ev_iconst d_Band_end_15 rfl ?_
    cases h
    exact ev_ret d_Band_end_16 rfl
def f_Band_load (M : Mm) (a0 : Int) : Option (Int × Mm) :=
  if (mg M (cI a0) 1) ≠ 0 then
  if (mg M (cI a0) 2) ≠ 0 then
  (f_Library_readText M (mg M (cI a0) 1) (mg M (cI a0) 2)).bind (fun p3 =>
  if p3.1 = 0 then
  some ((-1), p3.2)
  else
  if (mg p3.2 (cI a0) 1) ≠ 0 then
  some ((mg p3.2 (cI (mg p3.2 (cI a0) 1)) 1), p3.2)
  else none)
  else none
  else none
theorem c_Band_load {X : XX} {d : Nat} (hd : 10 ≤ d) {M : Mm} {a0 : Int} (hn_a0 : a0 ≠ 0) {p : Int × Mm} (h : f_Band_load M a0 = some p) : Rn X d m_Band_load [(11, a0)] M (some (0, p.1)) p.2 := by
  refine Rn_of (by decide) rfl (Nat.le_of_ble_eq_true rfl) ?_
  unfold f_Band_load at h
  refine ev_less (L' := [(0, (11, a0))]) [0] rfl ?_
  refine ev_aload_n 0 d_Band_load_0 rfl (by decide) rfl ?_
  refine ev_get (t := 11) (k := 1) (by decide) (by decide) rfl i_Band (by decide) rfl rfl tw_314 d_Band_load_1 hn_a0 ?_
  refine ev_aload_n 0 d_Band_load_4 rfl (by decide) rfl ?_
  refine ev_get (t := 11) (k := 2) (by decide) (by decide) rfl i_Band (by decide) rfl rfl tw_315 d_Band_load_5 hn_a0 ?_
  obtain ⟨hz1, h⟩ := gx h
  obtain ⟨hz2, h⟩ := gx h
  obtain ⟨p3, hp3, h⟩ := bx h
  have hRp3 := c_Library_readText (X := X) (d := d - 1) (by omega) hz1 hz2 hp3
  refine ev_callVN2 (host := "TownBand") (st2 := [(0, p3.1)]) (as := [(10, (mg M (cI a0) 2))]) (rest := []) rfl (by decide) (by decide) rfl hz1 rfl (Nat.le_of_ble_eq_true rfl) k_Library_readText ⟨tw_405, ts_7⟩ (by omega) tw_403 d_Band_load_8 hRp3 rfl ?_
  by_cases hc4 : p3.1 = 0
  · replace h := itp hc4 h
    refine ev_if_eq_t (tgt := 24) d_Band_load_11 (by decide) hc4 ?_
    refine ev_iconst d_Band_load_24 rfl ?_
    cases h
    exact ev_ret d_Band_load_25 rfl
  · replace h := itn hc4 h
    refine ev_if_eq_f d_Band_load_11 (by decide) hc4 ?_
    refine ev_aload_n 0 d_Band_load_14 rfl (by decide) rfl ?_
    refine ev_get (t := 11) (k := 1) (by decide) (by decide) rfl i_Band (by decide) rfl rfl tw_314 d_Band_load_15 hn_a0 ?_
    obtain ⟨hz5, h⟩ := gx h
    refine ev_getN (host := "TownBand") (t := 3) (k := 1) (by decide) (by decide) rfl i_Library (by decide) rfl rfl tw_120 d_Band_load_18 hz5 ?_
    refine ev_goto (tgt := 25) d_Band_load_21 (by decide) ?_
    cases h
    exact ev_ret d_Band_load_25 rfl
def f_Band_rule (M : Mm) (a0 : Int) : Option (Int × Mm) :=
  if (mg M (cI a0) 3) ≠ 0 then
  (f_Rule_beginDraft M (mg M (cI a0) 3)).bind (fun p2 =>
  if (mg p2 (cI a0) 2) ≠ 0 then
  (f_Tape_begin p2 (mg p2 (cI a0) 2) 4).bind (fun p4 =>
  if (mg p4 (cI a0) 3) ≠ 0 then
  if (mg p4 (cI a0) 2) ≠ 0 then
  (f_Rule_readEither (f_Rule_readOne 9) p4 (mg p4 (cI a0) 3) (mg p4 (cI a0) 2) 0).bind (fun p7 =>
  if (mg p7 (cI a0) 2) ≠ 0 then
  (f_Tape_finish p7 (mg p7 (cI a0) 2)).bind (fun p9 =>
  if p9.1 ≠ 0 then
  if (mg p9.2 (cI a0) 3) ≠ 0 then
  (f_Rule_adoptDraft p9.2 (mg p9.2 (cI a0) 3)).bind (fun p12 =>
  if (mg p12 (cI a0) 2) ≠ 0 then
  some ((mg p12 (cI (mg p12 (cI a0) 2)) 7), p12)
  else none)
  else none
  else
  some ((-1), p9.2))
  else none)
  else none
  else none)
  else none)
  else none
theorem c_Band_rule {X : XX} {d : Nat} (hd : 84 ≤ d) {M : Mm} {a0 : Int} (hn_a0 : a0 ≠ 0) {p : Int × Mm} (h : f_Band_rule M a0 = some p) : Rn X d m_Band_rule [(11, a0)] M (some (0, p.1)) p.2 := by
  refine Rn_of (by decide) rfl (Nat.le_of_ble_eq_true rfl) ?_
  unfold f_Band_rule at h
  refine ev_less (L' := [(0, (11, a0))]) [0] rfl ?_
  refine ev_aload_n 0 d_Band_rule_0 rfl (by decide) rfl ?_
  refine ev_get (t := 11) (k := 3) (by decide) (by decide) rfl i_Band (by decide) rfl rfl tw_316 d_Band_rule_1 hn_a0 ?_
  obtain ⟨hz1, h⟩ := gx h
  obtain ⟨p2, hp2, h⟩ := bx h
  have hRp2 := c_Rule_beginDraft (X := X) (d := d - 1) (by omega) hz1 hp2
  refine ev_callVN2 (host := "TownBand") (st2 := []) (as := []) (rest := []) rfl (by decide) (by decide) rfl hz1 rfl (Nat.le_of_ble_eq_true rfl) k_Rule_beginDraft ⟨tw_538, ts_22⟩ (by omega) tw_536 d_Band_rule_4 hRp2 rfl ?_
  refine ev_aload_n 0 d_Band_rule_7 rfl (by decide) rfl ?_
  refine ev_get (t := 11) (k := 2) (by decide) (by decide) rfl i_Band (by decide) rfl rfl tw_315 d_Band_rule_8 hn_a0 ?_
  refine ev_iconst d_Band_rule_11 rfl ?_
  obtain ⟨hz3, h⟩ := gx h
  obtain ⟨p4, hp4, h⟩ := bx h
  have hRp4 := c_Tape_begin (X := X) (d := d - 1) (by omega) hz3 hp4
  refine ev_callVN2 (host := "TownBand") (st2 := []) (as := [(0, 4)]) (rest := []) rfl (by decide) (by decide) rfl hz3 rfl (Nat.le_of_ble_eq_true rfl) k_Tape_begin ⟨tw_409, ts_8⟩ (by omega) tw_540 d_Band_rule_12 hRp4 rfl ?_
  refine ev_aload_n 0 d_Band_rule_15 rfl (by decide) rfl ?_
  refine ev_get (t := 11) (k := 3) (by decide) (by decide) rfl i_Band (by decide) rfl rfl tw_316 d_Band_rule_16 hn_a0 ?_
  refine ev_aload_n 0 d_Band_rule_19 rfl (by decide) rfl ?_
  refine ev_get (t := 11) (k := 2) (by decide) (by decide) rfl i_Band (by decide) rfl rfl tw_315 d_Band_rule_20 hn_a0 ?_
  refine ev_iconst d_Band_rule_23 rfl ?_
  obtain ⟨hz5, h⟩ := gx h
  obtain ⟨hz6, h⟩ := gx h
  obtain ⟨p7, hp7, h⟩ := bx h
  have hRp7 := c_Rule_readEither (X := X) (d := d - 1) (e := 81) (by omega) (fun M b0 b1 b2 q n0 n1 hq => c_Rule_readOne 9 (by omega) n0 n1 hq) hz5 hz6 hp7
  refine ev_callVN2 (host := "TownBand") (st2 := []) (as := [(10, (mg p4 (cI a0) 2)), (0, 0)]) (rest := []) rfl (by decide) (by decide) rfl hz5 rfl (Nat.le_of_ble_eq_true rfl) k_Rule_readEither ⟨tw_543, ts_23⟩ (by omega) tw_541 d_Band_rule_24 hRp7 rfl ?_
  refine ev_aload_n 0 d_Band_rule_27 rfl (by decide) rfl ?_
  refine ev_get (t := 11) (k := 2) (by decide) (by decide) rfl i_Band (by decide) rfl rfl tw_315 d_Band_rule_28 hn_a0 ?_
  obtain ⟨hz8, h⟩ := gx h
  obtain ⟨p9, hp9, h⟩ := bx h
  have hRp9 := c_Tape_finish (X := X) (d := d - 1) (by omega) hz8 hp9
  refine ev_callVN2 (host := "TownBand") (st2 := [(0, p9.1)]) (as := []) (rest := []) rfl (by decide) (by decide) rfl hz8 rfl (Nat.le_of_ble_eq_true rfl) k_Tape_finish ⟨tw_529, ts_21⟩ (by omega) tw_579 d_Band_rule_31 hRp9 rfl ?_
  by_cases hc10 : p9.1 ≠ 0
  · replace h := itp hc10 h
    refine ev_if_ne_t (tgt := 39) d_Band_rule_34 (by decide) hc10 ?_
    refine ev_aload_n 0 d_Band_rule_39 rfl (by decide) rfl ?_
    refine ev_get (t := 11) (k := 3) (by decide) (by decide) rfl i_Band (by decide) rfl rfl tw_316 d_Band_rule_40 hn_a0 ?_
    obtain ⟨hz11, h⟩ := gx h
    obtain ⟨p12, hp12, h⟩ := bx h
    have hRp12 := c_Rule_adoptDraft (X := X) (d := d - 1) (by omega) hz11 hp12
    refine ev_callVN2 (host := "TownBand") (st2 := []) (as := []) (rest := []) rfl (by decide) (by decide) rfl hz11 rfl (Nat.le_of_ble_eq_true rfl) k_Rule_adoptDraft ⟨tw_582, ts_30⟩ (by omega) tw_580 d_Band_rule_43 hRp12 rfl ?_
    refine ev_aload_n 0 d_Band_rule_46 rfl (by decide) rfl ?_
    refine ev_get (t := 11) (k := 2) (by decide) (by decide) rfl i_Band (by decide) rfl rfl tw_315 d_Band_rule_47 hn_a0 ?_
    obtain ⟨hz13, h⟩ := gx h
    refine ev_getN (host := "TownBand") (t := 10) (k := 7) (by decide) (by decide) rfl i_Tape (by decide) rfl rfl tw_148 d_Band_rule_50 hz13 ?_
    cases h
    exact ev_ret d_Band_rule_53 rfl
  · replace h := itn hc10 h
    refine ev_if_ne_f d_Band_rule_34 (by decide) hc10 ?_
    refine ev_iconst d_Band_rule_37 rfl ?_
    cases h
    exact ev_ret d_Band_rule_38 rfl
def f_Band_fault (M : Mm) (a0 : Int) (a1 : Int) : Option (Int) :=
  if a1 = 0 then
  if (mg M (cI a0) 2) ≠ 0 then
  some (mg M (cI (mg M (cI a0) 2)) 8)
  else none
  else
  if a1 = 1 then
  if (mg M (cI a0) 2) ≠ 0 then
  some (mg M (cI (mg M (cI a0) 2)) 9)
  else none
  else
  some (-1)
theorem c_Band_fault {X : XX} {d : Nat} (hd : 0 ≤ d) {M : Mm} {a0 : Int} {a1 : Int} (hn_a0 : a0 ≠ 0) {p : Int} (h : f_Band_fault M a0 a1 = some p) : Rn X d m_Band_fault [(11, a0), (0, a1)] M (some (0, p)) M := by
  refine Rn_of (by decide) rfl (Nat.le_of_ble_eq_true rfl) ?_
  unfold f_Band_fault at h
  refine ev_less (L' := [(0, (11, a0)), (1, (0, a1))]) [0, 1] rfl ?_
  refine ev_iload_n 1 d_Band_fault_0 rfl rfl ?_
  by_cases hc1 : a1 = 0
  · replace h := itp hc1 h
    refine ev_look (off := 27) (tgt := 28) d_Band_fault_1 (by decide) (by rw [hc1] <;> rfl) (by decide) ?_
    refine ev_aload_n 0 d_Band_fault_28 rfl (by decide) rfl ?_
    refine ev_get (t := 11) (k := 2) (by decide) (by decide) rfl i_Band (by decide) rfl rfl tw_315 d_Band_fault_29 hn_a0 ?_
    obtain ⟨hz2, h⟩ := gx h
    refine ev_getN (host := "TownBand") (t := 10) (k := 8) (by decide) (by decide) rfl i_Tape (by decide) rfl rfl tw_150 d_Band_fault_32 hz2 ?_
    cases h
    exact ev_ret d_Band_fault_35 rfl
  · replace h := itn hc1 h
    by_cases hc3 : a1 = 1
    · replace h := itp hc3 h
      refine ev_look (off := 35) (tgt := 36) d_Band_fault_1 (by decide) (by rw [hc3] <;> rfl) (by decide) ?_
      refine ev_aload_n 0 d_Band_fault_36 rfl (by decide) rfl ?_
      refine ev_get (t := 11) (k := 2) (by decide) (by decide) rfl i_Band (by decide) rfl rfl tw_315 d_Band_fault_37 hn_a0 ?_
      obtain ⟨hz4, h⟩ := gx h
      refine ev_getN (host := "TownBand") (t := 10) (k := 9) (by decide) (by decide) rfl i_Tape (by decide) rfl rfl tw_152 d_Band_fault_40 hz4 ?_
      cases h
      exact ev_ret d_Band_fault_43 rfl
    · replace h := itn hc3 h
      refine ev_look (off := 43) (tgt := 44) d_Band_fault_1 (by decide) (by simp [Op.lookupswitch.offset, hc1, hc3, Ne.symm hc1, Ne.symm hc3]) (by decide) ?_
      refine ev_iconst d_Band_fault_44 rfl ?_
      cases h
      exact ev_ret d_Band_fault_45 rfl
def f_Band_piece (M : Mm) (a0 : Int) (a1 : Int) (a2 : Int) : Option (Int) :=
  if (mg M (cI a0) 1) ≠ 0 then
  (f_Library_find M (mg M (cI a0) 1) a1).bind (fun p2 =>
  if p2 ≠ 0 then
  (f_Piece_detail M p2 a2).bind (fun p4 =>
  some p4)
  else
  some (-1))
  else none
theorem c_Band_piece {X : XX} {d : Nat} (hd : 3 ≤ d) {M : Mm} {a0 : Int} {a1 : Int} {a2 : Int} (hn_a0 : a0 ≠ 0) {p : Int} (h : f_Band_piece M a0 a1 a2 = some p) : Rn X d m_Band_piece [(11, a0), (0, a1), (0, a2)] M (some (0, p)) M := by
  refine Rn_of (by decide) rfl (Nat.le_of_ble_eq_true rfl) ?_
  unfold f_Band_piece at h
  refine ev_less (L' := [(0, (11, a0)), (1, (0, a1)), (2, (0, a2))]) [0, 1, 2] rfl ?_
  refine ev_aload_n 0 d_Band_piece_0 rfl (by decide) rfl ?_
  refine ev_get (t := 11) (k := 1) (by decide) (by decide) rfl i_Band (by decide) rfl rfl tw_314 d_Band_piece_1 hn_a0 ?_
  refine ev_iload_n 1 d_Band_piece_4 rfl rfl ?_
  obtain ⟨hz1, h⟩ := gx h
  obtain ⟨p2, hp2, h⟩ := bx h
  have hRp2 := c_Library_find (X := X) (d := d - 1) (by omega) hz1 hp2
  refine ev_callVN2 (host := "TownBand") (st2 := [(5, p2)]) (as := [(0, a1)]) (rest := []) rfl (by decide) (by decide) rfl hz1 rfl (Nat.le_of_ble_eq_true rfl) k_Library_find ⟨tw_594, ts_31⟩ (by omega) tw_592 d_Band_piece_5 hRp2 rfl ?_
  refine ev_astore_n (L' := [(3, (5, p2)), (0, (11, a0)), (1, (0, a1)), (2, (0, a2))]) d_Band_piece_8 rfl (by decide) (by decide) rfl ?_
  refine ev_aload_n 0 d_Band_piece_9 rfl (by decide) rfl ?_
  by_cases hc3 : p2 ≠ 0
  · replace h := itp hc3 h
    refine ev_ifnonnull_t (tgt := 17) (by decide) (by decide) d_Band_piece_10 (by decide) hc3 ?_
    refine ev_aload_n 0 d_Band_piece_17 rfl (by decide) rfl ?_
    refine ev_iload_n 3 d_Band_piece_18 rfl rfl ?_
    obtain ⟨p4, hp4, h⟩ := bx h
    have hRp4 := c_Piece_detail (X := X) (d := d - 1) (by omega) hc3 hp4
    refine ev_callVN2 (host := "TownBand") (st2 := [(0, p4)]) (as := [(0, a2)]) (rest := []) rfl (by decide) (by decide) rfl hc3 rfl (Nat.le_of_ble_eq_true rfl) k_Piece_detail ⟨tw_598, ts_32⟩ (by omega) tw_596 d_Band_piece_19 hRp4 rfl ?_
    cases h
    exact ev_ret d_Band_piece_22 rfl
  · replace h := itn hc3 h
    refine ev_ifnonnull_f (by decide) (by decide) d_Band_piece_10 hc3 ?_
    refine ev_iconst d_Band_piece_13 rfl ?_
    refine ev_goto (tgt := 22) d_Band_piece_14 (by decide) ?_
    cases h
    exact ev_ret d_Band_piece_22 rfl
def f_Band_playable (M : Mm) (a0 : Int) (a1 : Int) : Option (Int × Mm) :=
  if (mg M (cI a0) 1) ≠ 0 then
  (f_Library_find M (mg M (cI a0) 1) a1).bind (fun p2 =>
  if p2 ≠ 0 then
  if (mg M (cI a0) 5) ≠ 0 then
  if (mg M (cI a0) 0) ≠ 0 then
  (f_Cover_coversMust M (mg M (cI a0) 5) p2 (mg M (cI a0) 0)).bind (fun p6 =>
  if p6.1 = 0 then
  some (0, p6.2)
  else
  some (1, p6.2))
  else none
  else none
  else
  some ((-1), M))
  else none
theorem c_Band_playable {X : XX} {d : Nat} (hd : 14 ≤ d) {M : Mm} {a0 : Int} {a1 : Int} (hn_a0 : a0 ≠ 0) {p : Int × Mm} (h : f_Band_playable M a0 a1 = some p) : Rn X d m_Band_playable [(11, a0), (0, a1)] M (some (0, p.1)) p.2 := by
  refine Rn_of (by decide) rfl (Nat.le_of_ble_eq_true rfl) ?_
  unfold f_Band_playable at h
  refine ev_less (L' := [(0, (11, a0)), (1, (0, a1))]) [0, 1] rfl ?_
  refine ev_aload_n 0 d_Band_playable_0 rfl (by decide) rfl ?_
  refine ev_get (t := 11) (k := 1) (by decide) (by decide) rfl i_Band (by decide) rfl rfl tw_314 d_Band_playable_1 hn_a0 ?_
  refine ev_iload_n 1 d_Band_playable_4 rfl rfl ?_
  obtain ⟨hz1, h⟩ := gx h
  obtain ⟨p2, hp2, h⟩ := bx h
  have hRp2 := c_Library_find (X := X) (d := d - 1) (by omega) hz1 hp2
  refine ev_callVN2 (host := "TownBand") (st2 := [(5, p2)]) (as := [(0, a1)]) (rest := []) rfl (by decide) (by decide) rfl hz1 rfl (Nat.le_of_ble_eq_true rfl) k_Library_find ⟨tw_594, ts_31⟩ (by omega) tw_592 d_Band_playable_5 hRp2 rfl ?_
  refine ev_astore_n (L' := [(2, (5, p2)), (0, (11, a0)), (1, (0, a1))]) d_Band_playable_8 rfl (by decide) (by decide) rfl ?_
  refine ev_aload_n 0 d_Band_playable_9 rfl (by decide) rfl ?_
  by_cases hc3 : p2 ≠ 0
  · replace h := itp hc3 h
    refine ev_ifnonnull_t (tgt := 15) (by decide) (by decide) d_Band_playable_10 (by decide) hc3 ?_
    refine ev_aload_n 1 d_Band_playable_15 rfl (by decide) rfl ?_
    refine ev_get (t := 11) (k := 5) (by decide) (by decide) rfl i_Band (by decide) rfl rfl tw_318 d_Band_playable_16 hn_a0 ?_
    refine ev_aload_n 0 d_Band_playable_19 rfl (by decide) rfl ?_
    refine ev_aload_n 1 d_Band_playable_20 rfl (by decide) rfl ?_
    refine ev_get (t := 11) (k := 0) (by decide) (by decide) rfl i_Band (by decide) rfl rfl tw_313 d_Band_playable_21 hn_a0 ?_
    obtain ⟨hz4, h⟩ := gx h
    obtain ⟨hz5, h⟩ := gx h
    obtain ⟨p6, hp6, h⟩ := bx h
    have hRp6 := c_Cover_coversMust (X := X) (d := d - 1) (by omega) hz4 hc3 hz5 hp6
    refine ev_callVN2 (host := "TownBand") (st2 := [(0, p6.1)]) (as := [(5, p2), (7, (mg M (cI a0) 0))]) (rest := []) rfl (by decide) (by decide) rfl hz4 rfl (Nat.le_of_ble_eq_true rfl) k_Cover_coversMust ⟨tw_614, ts_35⟩ (by omega) tw_612 d_Band_playable_24 hRp6 rfl ?_
    by_cases hc7 : p6.1 = 0
    · replace h := itp hc7 h
      refine ev_if_eq_t (tgt := 34) d_Band_playable_27 (by decide) hc7 ?_
      refine ev_iconst d_Band_playable_34 rfl ?_
      cases h
      exact ev_ret d_Band_playable_35 rfl
    · replace h := itn hc7 h
      refine ev_if_eq_f d_Band_playable_27 (by decide) hc7 ?_
      refine ev_iconst d_Band_playable_30 rfl ?_
      refine ev_goto (tgt := 35) d_Band_playable_31 (by decide) ?_
      cases h
      exact ev_ret d_Band_playable_35 rfl
  · replace h := itn hc3 h
    refine ev_ifnonnull_f (by decide) (by decide) d_Band_playable_10 hc3 ?_
    refine ev_iconst d_Band_playable_13 rfl ?_
    cases h
    exact ev_ret d_Band_playable_14 rfl
def f_Band_lacks (M : Mm) (a0 : Int) (a1 : Int) : Option (Int × Mm) :=
  if (mg M (cI a0) 1) ≠ 0 then
  (f_Library_find M (mg M (cI a0) 1) a1).bind (fun p2 =>
  if p2 ≠ 0 then
  if (mg M (cI a0) 5) ≠ 0 then
  if (mg M (cI a0) 0) ≠ 0 then
  (f_Cover_leastLack M (mg M (cI a0) 5) p2 (mg M (cI a0) 0)).bind (fun p6 =>
  some (p6.1, p6.2))
  else none
  else none
  else
  some ((-1), M))
  else none
theorem c_Band_lacks {X : XX} {d : Nat} (hd : 5 ≤ d) {M : Mm} {a0 : Int} {a1 : Int} (hn_a0 : a0 ≠ 0) {p : Int × Mm} (h : f_Band_lacks M a0 a1 = some p) : Rn X d m_Band_lacks [(11, a0), (0, a1)] M (some (0, p.1)) p.2 := by
  refine Rn_of (by decide) rfl (Nat.le_of_ble_eq_true rfl) ?_
  unfold f_Band_lacks at h
  refine ev_less (L' := [(0, (11, a0)), (1, (0, a1))]) [0, 1] rfl ?_
  refine ev_aload_n 0 d_Band_lacks_0 rfl (by decide) rfl ?_
  refine ev_get (t := 11) (k := 1) (by decide) (by decide) rfl i_Band (by decide) rfl rfl tw_314 d_Band_lacks_1 hn_a0 ?_
  refine ev_iload_n 1 d_Band_lacks_4 rfl rfl ?_
  obtain ⟨hz1, h⟩ := gx h
  obtain ⟨p2, hp2, h⟩ := bx h
  have hRp2 := c_Library_find (X := X) (d := d - 1) (by omega) hz1 hp2
  refine ev_callVN2 (host := "TownBand") (st2 := [(5, p2)]) (as := [(0, a1)]) (rest := []) rfl (by decide) (by decide) rfl hz1 rfl (Nat.le_of_ble_eq_true rfl) k_Library_find ⟨tw_594, ts_31⟩ (by omega) tw_592 d_Band_lacks_5 hRp2 rfl ?_
  refine ev_astore_n (L' := [(2, (5, p2)), (0, (11, a0)), (1, (0, a1))]) d_Band_lacks_8 rfl (by decide) (by decide) rfl ?_
  refine ev_aload_n 0 d_Band_lacks_9 rfl (by decide) rfl ?_
  by_cases hc3 : p2 ≠ 0
  · replace h := itp hc3 h
    refine ev_ifnonnull_t (tgt := 17) (by decide) (by decide) d_Band_lacks_10 (by decide) hc3 ?_
    refine ev_aload_n 1 d_Band_lacks_17 rfl (by decide) rfl ?_
    refine ev_get (t := 11) (k := 5) (by decide) (by decide) rfl i_Band (by decide) rfl rfl tw_318 d_Band_lacks_18 hn_a0 ?_
    refine ev_aload_n 0 d_Band_lacks_21 rfl (by decide) rfl ?_
    refine ev_aload_n 1 d_Band_lacks_22 rfl (by decide) rfl ?_
    refine ev_get (t := 11) (k := 0) (by decide) (by decide) rfl i_Band (by decide) rfl rfl tw_313 d_Band_lacks_23 hn_a0 ?_
    obtain ⟨hz4, h⟩ := gx h
    obtain ⟨hz5, h⟩ := gx h
    obtain ⟨p6, hp6, h⟩ := bx h
    have hRp6 := c_Cover_leastLack (X := X) (d := d - 1) (by omega) hz4 hc3 hz5 hp6
    refine ev_callVN2 (host := "TownBand") (st2 := [(0, p6.1)]) (as := [(5, p2), (7, (mg M (cI a0) 0))]) (rest := []) rfl (by decide) (by decide) rfl hz4 rfl (Nat.le_of_ble_eq_true rfl) k_Cover_leastLack ⟨tw_649, ts_42⟩ (by omega) tw_647 d_Band_lacks_26 hRp6 rfl ?_
    cases h
    exact ev_ret d_Band_lacks_29 rfl
  · replace h := itn hc3 h
    refine ev_ifnonnull_f (by decide) (by decide) d_Band_lacks_10 hc3 ?_
    refine ev_iconst d_Band_lacks_13 rfl ?_
    refine ev_goto (tgt := 29) d_Band_lacks_14 (by decide) ?_
    cases h
    exact ev_ret d_Band_lacks_29 rfl
def f_Band_seat (M : Mm) (a0 : Int) (a1 : Int) : Option (Int × Mm) :=
  if (mg M (cI a0) 1) ≠ 0 then
  (f_Library_find M (mg M (cI a0) 1) a1).bind (fun p2 =>
  if p2 = 0 then
  some ((-1), M)
  else
  if (mg M (cI a0) 5) ≠ 0 then
  if (mg M (cI a0) 0) ≠ 0 then
  (f_Cover_coversMust M (mg M (cI a0) 5) p2 (mg M (cI a0) 0)).bind (fun p6 =>
  if p6.1 ≠ 0 then
  if (mg p6.2 (cI a0) 6) ≠ 0 then
  if (mg p6.2 (cI a0) 0) ≠ 0 then
  (f_Seater_seatAnew p6.2 (mg p6.2 (cI a0) 6) p2 (mg p6.2 (cI a0) 0)).bind (fun p10 =>
  (f_Piece_seated p10 p2).bind (fun p11 =>
  some (p11, p10)))
  else none
  else none
  else
  some ((-1), p6.2))
  else none
  else none)
  else none
theorem c_Band_seat {X : XX} {d : Nat} (hd : 14 ≤ d) {M : Mm} {a0 : Int} {a1 : Int} (hn_a0 : a0 ≠ 0) {p : Int × Mm} (h : f_Band_seat M a0 a1 = some p) : Rn X d m_Band_seat [(11, a0), (0, a1)] M (some (0, p.1)) p.2 := by
  refine Rn_of (by decide) rfl (Nat.le_of_ble_eq_true rfl) ?_
  unfold f_Band_seat at h
  refine ev_less (L' := [(0, (11, a0)), (1, (0, a1))]) [0, 1] rfl ?_
  refine ev_aload_n 0 d_Band_seat_0 rfl (by decide) rfl ?_
  refine ev_get (t := 11) (k := 1) (by decide) (by decide) rfl i_Band (by decide) rfl rfl tw_314 d_Band_seat_1 hn_a0 ?_
  refine ev_iload_n 1 d_Band_seat_4 rfl rfl ?_
  obtain ⟨hz1, h⟩ := gx h
  obtain ⟨p2, hp2, h⟩ := bx h
  have hRp2 := c_Library_find (X := X) (d := d - 1) (by omega) hz1 hp2
  refine ev_callVN2 (host := "TownBand") (st2 := [(5, p2)]) (as := [(0, a1)]) (rest := []) rfl (by decide) (by decide) rfl hz1 rfl (Nat.le_of_ble_eq_true rfl) k_Library_find ⟨tw_594, ts_31⟩ (by omega) tw_592 d_Band_seat_5 hRp2 rfl ?_
  refine ev_astore_n (L' := [(2, (5, p2)), (0, (11, a0)), (1, (0, a1))]) d_Band_seat_8 rfl (by decide) (by decide) rfl ?_
  refine ev_aload_n 0 d_Band_seat_9 rfl (by decide) rfl ?_
  by_cases hc3 : p2 = 0
  · replace h := itp hc3 h
    refine ev_ifnull_t (tgt := 28) (by decide) (by decide) d_Band_seat_10 (by decide) hc3 ?_
    refine ev_iconst d_Band_seat_28 rfl ?_
    cases h
    exact ev_ret d_Band_seat_29 rfl
  · replace h := itn hc3 h
    refine ev_ifnull_f (by decide) (by decide) d_Band_seat_10 hc3 ?_
    refine ev_aload_n 1 d_Band_seat_13 rfl (by decide) rfl ?_
    refine ev_get (t := 11) (k := 5) (by decide) (by decide) rfl i_Band (by decide) rfl rfl tw_318 d_Band_seat_14 hn_a0 ?_
    refine ev_aload_n 0 d_Band_seat_17 rfl (by decide) rfl ?_
    refine ev_aload_n 1 d_Band_seat_18 rfl (by decide) rfl ?_
    refine ev_get (t := 11) (k := 0) (by decide) (by decide) rfl i_Band (by decide) rfl rfl tw_313 d_Band_seat_19 hn_a0 ?_
    obtain ⟨hz4, h⟩ := gx h
    obtain ⟨hz5, h⟩ := gx h
    obtain ⟨p6, hp6, h⟩ := bx h
    have hRp6 := c_Cover_coversMust (X := X) (d := d - 1) (by omega) hz4 hc3 hz5 hp6
    refine ev_callVN2 (host := "TownBand") (st2 := [(0, p6.1)]) (as := [(5, p2), (7, (mg M (cI a0) 0))]) (rest := []) rfl (by decide) (by decide) rfl hz4 rfl (Nat.le_of_ble_eq_true rfl) k_Cover_coversMust ⟨tw_614, ts_35⟩ (by omega) tw_612 d_Band_seat_22 hRp6 rfl ?_
    by_cases hc7 : p6.1 ≠ 0
    · replace h := itp hc7 h
      refine ev_if_ne_t (tgt := 30) d_Band_seat_25 (by decide) hc7 ?_
      refine ev_aload_n 1 d_Band_seat_30 rfl (by decide) rfl ?_
      refine ev_get (t := 11) (k := 6) (by decide) (by decide) rfl i_Band (by decide) rfl rfl tw_319 d_Band_seat_31 hn_a0 ?_
      refine ev_aload_n 0 d_Band_seat_34 rfl (by decide) rfl ?_
      refine ev_aload_n 1 d_Band_seat_35 rfl (by decide) rfl ?_
      refine ev_get (t := 11) (k := 0) (by decide) (by decide) rfl i_Band (by decide) rfl rfl tw_313 d_Band_seat_36 hn_a0 ?_
      obtain ⟨hz8, h⟩ := gx h
      obtain ⟨hz9, h⟩ := gx h
      obtain ⟨p10, hp10, h⟩ := bx h
      have hRp10 := c_Seater_seatAnew (X := X) (d := d - 1) (by omega) hz8 hc3 hz9 hp10
      refine ev_callVN2 (host := "TownBand") (st2 := []) (as := [(5, p2), (7, (mg p6.2 (cI a0) 0))]) (rest := []) rfl (by decide) (by decide) rfl hz8 rfl (Nat.le_of_ble_eq_true rfl) k_Seater_seatAnew ⟨tw_663, ts_43⟩ (by omega) tw_661 d_Band_seat_39 hRp10 rfl ?_
      refine ev_aload_n 0 d_Band_seat_42 rfl (by decide) rfl ?_
      obtain ⟨p11, hp11, h⟩ := bx h
      have hRp11 := c_Piece_seated (X := X) (d := d - 1) (by omega) hc3 hp11
      refine ev_callVN2 (host := "TownBand") (st2 := [(0, p11)]) (as := []) (rest := []) rfl (by decide) (by decide) rfl hc3 rfl (Nat.le_of_ble_eq_true rfl) k_Piece_seated ⟨tw_710, ts_51⟩ (by omega) tw_708 d_Band_seat_43 hRp11 rfl ?_
      cases h
      exact ev_ret d_Band_seat_46 rfl
    · replace h := itn hc7 h
      refine ev_if_ne_f d_Band_seat_25 (by decide) hc7 ?_
      refine ev_iconst d_Band_seat_28 rfl ?_
      cases h
      exact ev_ret d_Band_seat_29 rfl
def f_Band_again (M : Mm) (a0 : Int) (a1 : Int) : Option (Int × Mm) :=
  if (mg M (cI a0) 1) ≠ 0 then
  (f_Library_find M (mg M (cI a0) 1) a1).bind (fun p2 =>
  if p2 = 0 then
  some ((-1), M)
  else
  if (mg M (cI a0) 5) ≠ 0 then
  if (mg M (cI a0) 0) ≠ 0 then
  (f_Cover_coversMust M (mg M (cI a0) 5) p2 (mg M (cI a0) 0)).bind (fun p6 =>
  if p6.1 ≠ 0 then
  if (mg p6.2 (cI a0) 6) ≠ 0 then
  if (mg p6.2 (cI a0) 0) ≠ 0 then
  (f_Seater_seatWithFewestChanges p6.2 (mg p6.2 (cI a0) 6) p2 (mg p6.2 (cI a0) 0)).bind (fun p10 =>
  some (p10.1, p10.2))
  else none
  else none
  else
  some ((-1), p6.2))
  else none
  else none)
  else none
theorem c_Band_again {X : XX} {d : Nat} (hd : 14 ≤ d) {M : Mm} {a0 : Int} {a1 : Int} (hn_a0 : a0 ≠ 0) {p : Int × Mm} (h : f_Band_again M a0 a1 = some p) : Rn X d m_Band_again [(11, a0), (0, a1)] M (some (0, p.1)) p.2 := by
  refine Rn_of (by decide) rfl (Nat.le_of_ble_eq_true rfl) ?_
  unfold f_Band_again at h
  refine ev_less (L' := [(0, (11, a0)), (1, (0, a1))]) [0, 1] rfl ?_
  refine ev_aload_n 0 d_Band_again_0 rfl (by decide) rfl ?_
  refine ev_get (t := 11) (k := 1) (by decide) (by decide) rfl i_Band (by decide) rfl rfl tw_314 d_Band_again_1 hn_a0 ?_
  refine ev_iload_n 1 d_Band_again_4 rfl rfl ?_
  obtain ⟨hz1, h⟩ := gx h
  obtain ⟨p2, hp2, h⟩ := bx h
  have hRp2 := c_Library_find (X := X) (d := d - 1) (by omega) hz1 hp2
  refine ev_callVN2 (host := "TownBand") (st2 := [(5, p2)]) (as := [(0, a1)]) (rest := []) rfl (by decide) (by decide) rfl hz1 rfl (Nat.le_of_ble_eq_true rfl) k_Library_find ⟨tw_594, ts_31⟩ (by omega) tw_592 d_Band_again_5 hRp2 rfl ?_
  refine ev_astore_n (L' := [(2, (5, p2)), (0, (11, a0)), (1, (0, a1))]) d_Band_again_8 rfl (by decide) (by decide) rfl ?_
  refine ev_aload_n 0 d_Band_again_9 rfl (by decide) rfl ?_
  by_cases hc3 : p2 = 0
  · replace h := itp hc3 h
    refine ev_ifnull_t (tgt := 28) (by decide) (by decide) d_Band_again_10 (by decide) hc3 ?_
    refine ev_iconst d_Band_again_28 rfl ?_
    cases h
    exact ev_ret d_Band_again_29 rfl
  · replace h := itn hc3 h
    refine ev_ifnull_f (by decide) (by decide) d_Band_again_10 hc3 ?_
    refine ev_aload_n 1 d_Band_again_13 rfl (by decide) rfl ?_
    refine ev_get (t := 11) (k := 5) (by decide) (by decide) rfl i_Band (by decide) rfl rfl tw_318 d_Band_again_14 hn_a0 ?_
    refine ev_aload_n 0 d_Band_again_17 rfl (by decide) rfl ?_
    refine ev_aload_n 1 d_Band_again_18 rfl (by decide) rfl ?_
    refine ev_get (t := 11) (k := 0) (by decide) (by decide) rfl i_Band (by decide) rfl rfl tw_313 d_Band_again_19 hn_a0 ?_
    obtain ⟨hz4, h⟩ := gx h
    obtain ⟨hz5, h⟩ := gx h
    obtain ⟨p6, hp6, h⟩ := bx h
    have hRp6 := c_Cover_coversMust (X := X) (d := d - 1) (by omega) hz4 hc3 hz5 hp6
    refine ev_callVN2 (host := "TownBand") (st2 := [(0, p6.1)]) (as := [(5, p2), (7, (mg M (cI a0) 0))]) (rest := []) rfl (by decide) (by decide) rfl hz4 rfl (Nat.le_of_ble_eq_true rfl) k_Cover_coversMust ⟨tw_614, ts_35⟩ (by omega) tw_612 d_Band_again_22 hRp6 rfl ?_
    by_cases hc7 : p6.1 ≠ 0
    · replace h := itp hc7 h
      refine ev_if_ne_t (tgt := 30) d_Band_again_25 (by decide) hc7 ?_
      refine ev_aload_n 1 d_Band_again_30 rfl (by decide) rfl ?_
      refine ev_get (t := 11) (k := 6) (by decide) (by decide) rfl i_Band (by decide) rfl rfl tw_319 d_Band_again_31 hn_a0 ?_
      refine ev_aload_n 0 d_Band_again_34 rfl (by decide) rfl ?_
      refine ev_aload_n 1 d_Band_again_35 rfl (by decide) rfl ?_
      refine ev_get (t := 11) (k := 0) (by decide) (by decide) rfl i_Band (by decide) rfl rfl tw_313 d_Band_again_36 hn_a0 ?_
      obtain ⟨hz8, h⟩ := gx h
      obtain ⟨hz9, h⟩ := gx h
      obtain ⟨p10, hp10, h⟩ := bx h
      have hRp10 := c_Seater_seatWithFewestChanges (X := X) (d := d - 1) (by omega) hz8 hc3 hz9 hp10
      refine ev_callVN2 (host := "TownBand") (st2 := [(0, p10.1)]) (as := [(5, p2), (7, (mg p6.2 (cI a0) 0))]) (rest := []) rfl (by decide) (by decide) rfl hz8 rfl (Nat.le_of_ble_eq_true rfl) k_Seater_seatWithFewestChanges ⟨tw_718, ts_52⟩ (by omega) tw_716 d_Band_again_39 hRp10 rfl ?_
      cases h
      exact ev_ret d_Band_again_42 rfl
    · replace h := itn hc7 h
      refine ev_if_ne_f d_Band_again_25 (by decide) hc7 ?_
      refine ev_iconst d_Band_again_28 rfl ?_
      cases h
      exact ev_ret d_Band_again_29 rfl
end
