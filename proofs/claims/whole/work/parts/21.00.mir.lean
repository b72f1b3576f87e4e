noncomputable section
def f_Cover_init (M : Mm) (a0 : Int) : Option (Mm) :=
  lt (mw M (10 : Int).toNat) (fun M1 =>
  lt (mp M1 (cI a0) 0 ((mN M : Int) + 1)) (fun M2 =>
  lt (mw M2 (14 : Int).toNat) (fun M3 =>
  lt (mp M3 (cI a0) 1 ((mN M2 : Int) + 1)) (fun M4 =>
  lt (mw M4 (1024 : Int).toNat) (fun M5 =>
  lt (mp M5 (cI a0) 2 ((mN M4 : Int) + 1)) (fun M6 =>
  some M6))))))
theorem c_Cover_init {X : XX} {d : Nat} (hd : 1 ≤ d) {M : Mm} {a0 : Int} (hn_a0 : a0 ≠ 0) {p : Mm} (h : f_Cover_init M a0 = some p) : Rn X d m_Cover_init [(2, a0)] M none p := by
  refine Rn_of (by decide) rfl (Nat.le_of_ble_eq_true rfl) ?_
  unfold f_Cover_init at h
  refine ev_less (L' := [(0, (2, a0))]) [0] rfl ?_
  refine ev_aload_n 0 d_Cover_init_0 rfl (by decide) rfl ?_
  refine ev_objInit (t := 2) (by decide) (by decide) hn_a0 (Nat.le_of_ble_eq_true rfl) (by omega) tw_233 tw_25 tw_26 d_Cover_init_1 ?_
  refine ev_aload_n 0 d_Cover_init_4 rfl (by decide) rfl ?_
  refine ev_bipush d_Cover_init_5 rfl ?_
  obtain ⟨M1, hM1, h⟩ := ltx h
  refine ev_newI' tw_61 d_Cover_init_7 ⟨by decide, by decide⟩ hM1 ?_
  obtain ⟨M2, hM2, h⟩ := ltx h
  refine ev_putF' (t := 2) (k := 0) (by decide) (by decide) rfl i_Cover t_Cover_ok n_Cover (by decide) rfl rfl rfl rfl rfl rfl tw_234 d_Cover_init_9 hn_a0 hM2 ?_
  refine ev_aload_n 0 d_Cover_init_12 rfl (by decide) rfl ?_
  refine ev_bipush d_Cover_init_13 rfl ?_
  obtain ⟨M3, hM3, h⟩ := ltx h
  refine ev_newI' tw_61 d_Cover_init_15 ⟨by decide, by decide⟩ hM3 ?_
  obtain ⟨M4, hM4, h⟩ := ltx h
  refine ev_putF' (t := 2) (k := 1) (by decide) (by decide) rfl i_Cover t_Cover_ok n_Cover (by decide) rfl rfl rfl rfl rfl rfl tw_235 d_Cover_init_17 hn_a0 hM4 ?_
  refine ev_aload_n 0 d_Cover_init_20 rfl (by decide) rfl ?_
  refine ev_sipush d_Cover_init_21 rfl ?_
  obtain ⟨M5, hM5, h⟩ := ltx h
  refine ev_newI' tw_61 d_Cover_init_24 ⟨by decide, by decide⟩ hM5 ?_
  obtain ⟨M6, hM6, h⟩ := ltx h
  refine ev_putF' (t := 2) (k := 2) (by decide) (by decide) rfl i_Cover t_Cover_ok n_Cover (by decide) rfl rfl rfl rfl rfl rfl tw_236 d_Cover_init_26 hn_a0 hM6 ?_
  cases h
  exact ev_retV d_Cover_init_29 rfl
def f_Piece_isMust (M : Mm) (a0 : Int) (a1 : Int) : Option (Int) :=
  if (bAnd (bShr (mg M (cI a0) 8) a1) 1) = 0 then
  some 0
  else
  some 1
theorem c_Piece_isMust {X : XX} {d : Nat} (hd : 0 ≤ d) {M : Mm} {a0 : Int} {a1 : Int} (hn_a0 : a0 ≠ 0) {p : Int} (h : f_Piece_isMust M a0 a1 = some p) : Rn X d m_Piece_isMust [(5, a0), (0, a1)] M (some (0, p)) M := by
  refine Rn_of (by decide) rfl (Nat.le_of_ble_eq_true rfl) ?_
  unfold f_Piece_isMust at h
  refine ev_less (L' := [(0, (5, a0)), (1, (0, a1))]) [0, 1] rfl ?_
  refine ev_aload_n 0 d_Piece_isMust_0 rfl (by decide) rfl ?_
  refine ev_get (t := 5) (k := 8) (by decide) (by decide) rfl i_Piece (by decide) rfl rfl tw_97 d_Piece_isMust_1 hn_a0 ?_
  refine ev_iload_n 1 d_Piece_isMust_4 rfl rfl ?_
  refine ev_ishr d_Piece_isMust_5 ?_
  refine ev_iconst d_Piece_isMust_6 rfl ?_
  refine ev_iand d_Piece_isMust_7 ?_
  by_cases hc1 : (bAnd (bShr (mg M (cI a0) 8) a1) 1) = 0
  · replace h := itp hc1 h
    refine ev_if_eq_t (tgt := 15) d_Piece_isMust_8 (by decide) hc1 ?_
    refine ev_iconst d_Piece_isMust_15 rfl ?_
    cases h
    exact ev_retZ d_Piece_isMust_16 rfl (Or.inl rfl)
  · replace h := itn hc1 h
    refine ev_if_eq_f d_Piece_isMust_8 (by decide) hc1 ?_
    refine ev_iconst d_Piece_isMust_11 rfl ?_
    refine ev_goto (tgt := 16) d_Piece_isMust_12 (by decide) ?_
    cases h
    exact ev_retZ d_Piece_isMust_16 rfl (Or.inr rfl)
def f_Players_isPresent (M : Mm) (a0 : Int) (a1 : Int) : Option (Int) :=
  if (bAnd (bShr (mg M (cI a0) 5) a1) 1) = 0 then
  some 0
  else
  some 1
theorem c_Players_isPresent {X : XX} {d : Nat} (hd : 0 ≤ d) {M : Mm} {a0 : Int} {a1 : Int} (hn_a0 : a0 ≠ 0) {p : Int} (h : f_Players_isPresent M a0 a1 = some p) : Rn X d m_Players_isPresent [(7, a0), (0, a1)] M (some (0, p)) M := by
  refine Rn_of (by decide) rfl (Nat.le_of_ble_eq_true rfl) ?_
  unfold f_Players_isPresent at h
  refine ev_less (L' := [(0, (7, a0)), (1, (0, a1))]) [0, 1] rfl ?_
  refine ev_aload_n 0 d_Players_isPresent_0 rfl (by decide) rfl ?_
  refine ev_get (t := 7) (k := 5) (by decide) (by decide) rfl i_Players (by decide) rfl rfl tw_46 d_Players_isPresent_1 hn_a0 ?_
  refine ev_iload_n 1 d_Players_isPresent_4 rfl rfl ?_
  refine ev_ishr d_Players_isPresent_5 ?_
  refine ev_iconst d_Players_isPresent_6 rfl ?_
  refine ev_iand d_Players_isPresent_7 ?_
  by_cases hc1 : (bAnd (bShr (mg M (cI a0) 5) a1) 1) = 0
  · replace h := itp hc1 h
    refine ev_if_eq_t (tgt := 15) d_Players_isPresent_8 (by decide) hc1 ?_
    refine ev_iconst d_Players_isPresent_15 rfl ?_
    cases h
    exact ev_retZ d_Players_isPresent_16 rfl (Or.inl rfl)
  · replace h := itn hc1 h
    refine ev_if_eq_f d_Players_isPresent_8 (by decide) hc1 ?_
    refine ev_iconst d_Players_isPresent_11 rfl ?_
    refine ev_goto (tgt := 16) d_Players_isPresent_12 (by decide) ?_
    cases h
    exact ev_retZ d_Players_isPresent_16 rfl (Or.inr rfl)
def f_Piece_instrument (M : Mm) (a0 : Int) (a1 : Int) (a2 : Int) : Option (Int) :=
  if (mg M (cI a0) 1) ≠ 0 then
  if (0 : Int) ≤ (w32 ((w32 (a1 * 4)) + a2)) ∧ (w32 ((w32 (a1 * 4)) + a2)) < (ml M (cI (mg M (cI a0) 1)) : Int) then
  some (mg M (cI (mg M (cI a0) 1)) ((w32 ((w32 (a1 * 4)) + a2)) : Int).toNat)
  else none
  else none
theorem c_Piece_instrument {X : XX} {d : Nat} (hd : 0 ≤ d) {M : Mm} {a0 : Int} {a1 : Int} {a2 : Int} (hn_a0 : a0 ≠ 0) {p : Int} (h : f_Piece_instrument M a0 a1 a2 = some p) : Rn X d m_Piece_instrument [(5, a0), (0, a1), (0, a2)] M (some (0, p)) M := by
  refine Rn_of (by decide) rfl (Nat.le_of_ble_eq_true rfl) ?_
  unfold f_Piece_instrument at h
  refine ev_less (L' := [(0, (5, a0)), (1, (0, a1)), (2, (0, a2))]) [0, 1, 2] rfl ?_
  refine ev_aload_n 0 d_Piece_instrument_0 rfl (by decide) rfl ?_
  refine ev_get (t := 5) (k := 1) (by decide) (by decide) rfl i_Piece (by decide) rfl rfl tw_77 d_Piece_instrument_1 hn_a0 ?_
  refine ev_iload_n 1 d_Piece_instrument_4 rfl rfl ?_
  refine ev_iconst d_Piece_instrument_5 rfl ?_
  refine ev_imul d_Piece_instrument_6 ?_
  refine ev_iload_n 2 d_Piece_instrument_7 rfl rfl ?_
  refine ev_iadd d_Piece_instrument_8 ?_
  obtain ⟨hz1, h⟩ := gx h
  obtain ⟨hg2, h⟩ := gx h
  refine ev_iald d_Piece_instrument_9 hz1 hg2 ?_
  cases h
  exact ev_ret d_Piece_instrument_10 rfl
def f_Players_costOf (M : Mm) (a0 : Int) (a1 : Int) (a2 : Int) : Option (Int) :=
  if (mg M (cI a0) 3) ≠ 0 then
  if (0 : Int) ≤ (w32 ((w32 (a1 * 10)) + a2)) ∧ (w32 ((w32 (a1 * 10)) + a2)) < (ml M (cI (mg M (cI a0) 3)) : Int) then
  some (mg M (cI (mg M (cI a0) 3)) ((w32 ((w32 (a1 * 10)) + a2)) : Int).toNat)
  else none
  else none
theorem c_Players_costOf {X : XX} {d : Nat} (hd : 0 ≤ d) {M : Mm} {a0 : Int} {a1 : Int} {a2 : Int} (hn_a0 : a0 ≠ 0) {p : Int} (h : f_Players_costOf M a0 a1 a2 = some p) : Rn X d m_Players_costOf [(7, a0), (0, a1), (0, a2)] M (some (0, p)) M := by
  refine Rn_of (by decide) rfl (Nat.le_of_ble_eq_true rfl) ?_
  unfold f_Players_costOf at h
  refine ev_less (L' := [(0, (7, a0)), (1, (0, a1)), (2, (0, a2))]) [0, 1, 2] rfl ?_
  refine ev_aload_n 0 d_Players_costOf_0 rfl (by decide) rfl ?_
  refine ev_get (t := 7) (k := 3) (by decide) (by decide) rfl i_Players (by decide) rfl rfl tw_42 d_Players_costOf_1 hn_a0 ?_
  refine ev_iload_n 1 d_Players_costOf_4 rfl rfl ?_
  refine ev_bipush d_Players_costOf_5 rfl ?_
  refine ev_imul d_Players_costOf_7 ?_
  refine ev_iload_n 2 d_Players_costOf_8 rfl rfl ?_
  refine ev_iadd d_Players_costOf_9 ?_
  obtain ⟨hz1, h⟩ := gx h
  obtain ⟨hg2, h⟩ := gx h
  refine ev_iald d_Players_costOf_10 hz1 hg2 ?_
  cases h
  exact ev_ret d_Players_costOf_11 rfl
def l_Players_partCost_6 (M : Mm) (a0 : Int) (a1 : Int) (a2 : Int) (a3 : Int) (s : Int × Int) : Option ((Int × Int) ⊕ (Int)) :=
  if (mg M (cI a2) 0) ≠ 0 then
  if (0 : Int) ≤ a3 ∧ a3 < (ml M (cI (mg M (cI a2) 0)) : Int) then
  if (mg M (cI (mg M (cI a2) 0)) (a3 : Int).toNat) ≤ s.2 then
  some (.inr s.1)
  else
  (f_Piece_instrument M a2 a3 s.2).bind (fun p4 =>
  (f_Players_costOf M a0 a1 p4).bind (fun p5 =>
  if p5 = (-1) then
  lt (w32 (s.2 + 1)) (fun x7 : Int =>
  some (.inl (s.1, x7)))
  else
  if s.1 = (-1) then
  lt (w32 (s.2 + 1)) (fun x9 : Int =>
  some (.inl (p5, x9)))
  else
  if s.1 ≤ p5 then
  lt (w32 (s.2 + 1)) (fun x11 : Int =>
  some (.inl (s.1, x11)))
  else
  lt (w32 (s.2 + 1)) (fun x12 : Int =>
  some (.inl (p5, x12)))))
  else none
  else none
theorem cs_l_Players_partCost_6 {X : XX} {d : Nat} (hd : 1 ≤ d) {M : Mm} {a0 : Int} {a1 : Int} {a2 : Int} {a3 : Int} (hn_a0 : a0 ≠ 0) (hn_a2 : a2 ≠ 0) {s : Int × Int} {x : (Int × Int) ⊕ (Int)} {r : Option AV} {M' : Mm} (h : l_Players_partCost_6 M a0 a1 a2 a3 s = some x) (hk1 : ∀ s : Int × Int, x = .inl s → Ev X m_Players_partCost d 6 [(0, (7, a0)), (1, (0, a1)), (2, (5, a2)), (3, (0, a3)), (4, (0, s.1)), (5, (0, s.2))] [] M r M') (hk2 : ∀ t : Int, x = .inr t → Ev X m_Players_partCost d 60 [(4, (0, t))] [] M r M') : Ev X m_Players_partCost d 6 [(0, (7, a0)), (1, (0, a1)), (2, (5, a2)), (3, (0, a3)), (4, (0, s.1)), (5, (0, s.2))] [] M r M' := by
  unfold l_Players_partCost_6 at h
  refine ev_iload 5 d_Players_partCost_6 rfl ?_
  refine ev_aload_n 2 d_Players_partCost_8 rfl (by decide) rfl ?_
  refine ev_getN (host := "TownBand") (t := 5) (k := 0) (by decide) (by decide) rfl i_Piece (by decide) rfl rfl tw_76 d_Players_partCost_9 hn_a2 ?_
  refine ev_iload_n 3 d_Players_partCost_12 rfl rfl ?_
  obtain ⟨hz1, h⟩ := gx h
  obtain ⟨hg2, h⟩ := gx h
  refine ev_iald d_Players_partCost_13 hz1 hg2 ?_
  by_cases hc3 : (mg M (cI (mg M (cI a2) 0)) (a3 : Int).toNat) ≤ s.2
  · replace h := itp hc3 h
    refine ev_icmp_ge_t (tgt := 60) d_Players_partCost_14 (by decide) hc3 ?_
    refine ev_less (L' := [(4, (0, s.1))]) [4] rfl ?_
    cases h
    exact hk2 _ rfl
  · replace h := itn hc3 h
    refine ev_icmp_ge_f d_Players_partCost_14 (by decide) hc3 ?_
    refine ev_aload_n 0 d_Players_partCost_17 rfl (by decide) rfl ?_
    refine ev_iload_n 1 d_Players_partCost_18 rfl rfl ?_
    refine ev_aload_n 2 d_Players_partCost_19 rfl (by decide) rfl ?_
    refine ev_iload_n 3 d_Players_partCost_20 rfl rfl ?_
    refine ev_iload 5 d_Players_partCost_21 rfl ?_
    obtain ⟨p4, hp4, h⟩ := bx h
    have hRp4 := c_Piece_instrument (X := X) (d := d - 1) (by omega) hn_a2 hp4
    refine ev_callVN2 (host := "TownBand") (st2 := [(0, p4), (0, a1), (7, a0)]) (as := [(0, a3), (0, s.2)]) (rest := [(0, a1), (7, a0)]) rfl (by decide) (by decide) rfl hn_a2 rfl (Nat.le_of_ble_eq_true rfl) k_Piece_instrument ⟨tw_521, ts_19⟩ (by omega) tw_636 d_Players_partCost_23 hRp4 rfl ?_
    obtain ⟨p5, hp5, h⟩ := bx h
    have hRp5 := c_Players_costOf (X := X) (d := d - 1) (by omega) hn_a0 hp5
    refine ev_callV2 (st2 := [(0, p5)]) (as := [(0, a1), (0, p4)]) (rest := []) rfl (by decide) (by decide) rfl hn_a0 rfl (Nat.le_of_ble_eq_true rfl) k_Players_costOf ⟨tw_373, ts_3⟩ (by omega) tw_637 d_Players_partCost_26 hRp5 rfl ?_
    refine ev_istore (L' := [(6, (0, p5)), (0, (7, a0)), (1, (0, a1)), (2, (5, a2)), (3, (0, a3)), (4, (0, s.1)), (5, (0, s.2))]) d_Players_partCost_29 (by decide) rfl ?_
    refine ev_iload 0 d_Players_partCost_31 rfl ?_
    refine ev_iconst d_Players_partCost_33 rfl ?_
    by_cases hc6 : p5 = (-1)
    · replace h := itp hc6 h
      refine ev_icmp_eq_t (tgt := 54) d_Players_partCost_34 (by decide) hc6 ?_
      obtain ⟨x7, hx7, h⟩ := ltx h
      refine ev_iinc' 6 (y := x7) (L' := [(5, (0, x7)), (6, (0, p5)), (0, (7, a0)), (1, (0, a1)), (2, (5, a2)), (3, (0, a3)), (4, (0, s.1))]) d_Players_partCost_54 rfl (by decide) rfl hx7 ?_
      refine ev_goto (tgt := 6) d_Players_partCost_57 (by decide) ?_
      refine ev_less (L' := [(0, (7, a0)), (1, (0, a1)), (2, (5, a2)), (3, (0, a3)), (4, (0, s.1)), (5, (0, x7))]) [2, 3, 4, 5, 6, 0] rfl ?_
      cases h
      exact hk1 _ rfl
    · replace h := itn hc6 h
      refine ev_icmp_eq_f d_Players_partCost_34 (by decide) hc6 ?_
      refine ev_iload 5 d_Players_partCost_37 rfl ?_
      refine ev_iconst d_Players_partCost_39 rfl ?_
      by_cases hc8 : s.1 = (-1)
      · replace h := itp hc8 h
        refine ev_icmp_eq_t (tgt := 50) d_Players_partCost_40 (by decide) hc8 ?_
        refine ev_iload 0 d_Players_partCost_50 rfl ?_
        refine ev_istore (L' := [(4, (0, p5)), (6, (0, p5)), (0, (7, a0)), (1, (0, a1)), (2, (5, a2)), (3, (0, a3)), (5, (0, s.2))]) d_Players_partCost_52 (by decide) rfl ?_
        obtain ⟨x9, hx9, h⟩ := ltx h
        refine ev_iinc' 6 (y := x9) (L' := [(5, (0, x9)), (4, (0, p5)), (6, (0, p5)), (0, (7, a0)), (1, (0, a1)), (2, (5, a2)), (3, (0, a3))]) d_Players_partCost_54 rfl (by decide) rfl hx9 ?_
        refine ev_goto (tgt := 6) d_Players_partCost_57 (by decide) ?_
        refine ev_less (L' := [(0, (7, a0)), (1, (0, a1)), (2, (5, a2)), (3, (0, a3)), (4, (0, p5)), (5, (0, x9))]) [3, 4, 5, 6, 1, 0] rfl ?_
        cases h
        exact hk1 _ rfl
      · replace h := itn hc8 h
        refine ev_icmp_eq_f d_Players_partCost_40 (by decide) hc8 ?_
        refine ev_iload 0 d_Players_partCost_43 rfl ?_
        refine ev_iload 5 d_Players_partCost_45 rfl ?_
        by_cases hc10 : s.1 ≤ p5
        · replace h := itp hc10 h
          refine ev_icmp_ge_t (tgt := 54) d_Players_partCost_47 (by decide) hc10 ?_
          obtain ⟨x11, hx11, h⟩ := ltx h
          refine ev_iinc' 6 (y := x11) (L' := [(5, (0, x11)), (6, (0, p5)), (0, (7, a0)), (1, (0, a1)), (2, (5, a2)), (3, (0, a3)), (4, (0, s.1))]) d_Players_partCost_54 rfl (by decide) rfl hx11 ?_
          refine ev_goto (tgt := 6) d_Players_partCost_57 (by decide) ?_
          refine ev_less (L' := [(0, (7, a0)), (1, (0, a1)), (2, (5, a2)), (3, (0, a3)), (4, (0, s.1)), (5, (0, x11))]) [2, 3, 4, 5, 6, 0] rfl ?_
          cases h
          exact hk1 _ rfl
        · replace h := itn hc10 h
          refine ev_icmp_ge_f d_Players_partCost_47 (by decide) hc10 ?_
          refine ev_iload 0 d_Players_partCost_50 rfl ?_
          refine ev_istore (L' := [(4, (0, p5)), (6, (0, p5)), (0, (7, a0)), (1, (0, a1)), (2, (5, a2)), (3, (0, a3)), (5, (0, s.2))]) d_Players_partCost_52 (by decide) rfl ?_
          obtain ⟨x12, hx12, h⟩ := ltx h
          refine ev_iinc' 6 (y := x12) (L' := [(5, (0, x12)), (4, (0, p5)), (6, (0, p5)), (0, (7, a0)), (1, (0, a1)), (2, (5, a2)), (3, (0, a3))]) d_Players_partCost_54 rfl (by decide) rfl hx12 ?_
          refine ev_goto (tgt := 6) d_Players_partCost_57 (by decide) ?_
          refine ev_less (L' := [(0, (7, a0)), (1, (0, a1)), (2, (5, a2)), (3, (0, a3)), (4, (0, p5)), (5, (0, x12))]) [3, 4, 5, 6, 1, 0] rfl ?_
          cases h
          exact hk1 _ rfl
def f_Players_partCost (M : Mm) (a0 : Int) (a1 : Int) (a2 : Int) (a3 : Int) : Option (Int) :=
  (loopN (l_Players_partCost_6 M a0 a1 a2 a3) FU ((-1), 0)).bind (fun t13 =>
  some t13)
theorem c_Players_partCost {X : XX} {d : Nat} (hd : 1 ≤ d) {M : Mm} {a0 : Int} {a1 : Int} {a2 : Int} {a3 : Int} (hn_a0 : a0 ≠ 0) (hn_a2 : a2 ≠ 0) {p : Int} (h : f_Players_partCost M a0 a1 a2 a3 = some p) : Rn X d m_Players_partCost [(7, a0), (0, a1), (5, a2), (0, a3)] M (some (0, p)) M := by
  refine Rn_of (by decide) rfl (Nat.le_of_ble_eq_true rfl) ?_
  unfold f_Players_partCost at h
  refine ev_less (L' := [(0, (7, a0)), (1, (0, a1)), (2, (5, a2)), (3, (0, a3))]) [0, 1, 2, 3] rfl ?_
  refine ev_iconst d_Players_partCost_0 rfl ?_
  refine ev_istore (L' := [(4, (0, (-1))), (0, (7, a0)), (1, (0, a1)), (2, (5, a2)), (3, (0, a3))]) d_Players_partCost_1 (by decide) rfl ?_
  refine ev_iconst d_Players_partCost_3 rfl ?_
  refine ev_istore (L' := [(5, (0, 0)), (4, (0, (-1))), (0, (7, a0)), (1, (0, a1)), (2, (5, a2)), (3, (0, a3))]) d_Players_partCost_4 (by decide) rfl ?_
  obtain ⟨t13, ht13, h⟩ := bx h
  refine ev_less (L' := [(0, (7, a0)), (1, (0, a1)), (2, (5, a2)), (3, (0, a3)), (4, (0, (-1))), (5, (0, 0))]) [2, 3, 4, 5, 1, 0] rfl ?_
  refine loop_ev (step := l_Players_partCost_6 M a0 a1 a2 a3) (P := fun w : Int × Int => Ev X m_Players_partCost d 6 [(0, (7, a0)), (1, (0, a1)), (2, (5, a2)), (3, (0, a3)), (4, (0, w.1)), (5, (0, w.2))] [] M (some (0, p)) M) (Q := fun w => Ev X m_Players_partCost d 60 [(4, (0, w))] [] M (some (0, p)) M) (fun w x hs k1 k2 => cs_l_Players_partCost_6 hd hn_a0 hn_a2 hs k1 k2) FU ((-1), 0) t13 ht13 ?_
  refine ev_iload 0 d_Players_partCost_60 rfl ?_
  cases h
  exact ev_ret d_Players_partCost_62 rfl
def l_Players_presentFor_5 (M : Mm) (a0 : Int) (a1 : Int) (a2 : Int) (s : Int × Int) : Option ((Int × Int) ⊕ (Int)) :=
  if (mg M (cI a0) 4) ≤ s.2 then
  some (.inr s.1)
  else
  (f_Players_isPresent M a0 s.2).bind (fun p2 =>
  if p2 = 0 then
  lt (w32 (s.2 + 1)) (fun x4 : Int =>
  some (.inl (s.1, x4)))
  else
  (f_Players_partCost M a0 s.2 a1 a2).bind (fun p5 =>
  if p5 = (-1) then
  lt (w32 (s.2 + 1)) (fun x7 : Int =>
  some (.inl (s.1, x7)))
  else
  lt ((bOr s.1 (bShl 1 s.2))) (fun x8 : Int =>
  lt (w32 (s.2 + 1)) (fun x9 : Int =>
  some (.inl (x8, x9))))))
theorem cs_l_Players_presentFor_5 {X : XX} {d : Nat} (hd : 2 ≤ d) {M : Mm} {a0 : Int} {a1 : Int} {a2 : Int} (hn_a0 : a0 ≠ 0) (hn_a1 : a1 ≠ 0) {s : Int × Int} {x : (Int × Int) ⊕ (Int)} {r : Option AV} {M' : Mm} (h : l_Players_presentFor_5 M a0 a1 a2 s = some x) (hk1 : ∀ s : Int × Int, x = .inl s → Ev X m_Players_presentFor d 5 [(0, (7, a0)), (1, (5, a1)), (2, (0, a2)), (3, (0, s.1)), (4, (0, s.2))] [] M r M') (hk2 : ∀ t : Int, x = .inr t → Ev X m_Players_presentFor d 48 [(3, (0, t))] [] M r M') : Ev X m_Players_presentFor d 5 [(0, (7, a0)), (1, (5, a1)), (2, (0, a2)), (3, (0, s.1)), (4, (0, s.2))] [] M r M' := by
  unfold l_Players_presentFor_5 at h
  refine ev_iload 4 d_Players_presentFor_5 rfl ?_
  refine ev_aload_n 0 d_Players_presentFor_7 rfl (by decide) rfl ?_
  refine ev_get (t := 7) (k := 4) (by decide) (by decide) rfl i_Players (by decide) rfl rfl tw_43 d_Players_presentFor_8 hn_a0 ?_
  by_cases hc1 : (mg M (cI a0) 4) ≤ s.2
  · replace h := itp hc1 h
    refine ev_icmp_ge_t (tgt := 48) d_Players_presentFor_11 (by decide) hc1 ?_
    refine ev_less (L' := [(3, (0, s.1))]) [3] rfl ?_
    cases h
    exact hk2 _ rfl
  · replace h := itn hc1 h
    refine ev_icmp_ge_f d_Players_presentFor_11 (by decide) hc1 ?_
    refine ev_aload_n 0 d_Players_presentFor_14 rfl (by decide) rfl ?_
    refine ev_iload 4 d_Players_presentFor_15 rfl ?_
    obtain ⟨p2, hp2, h⟩ := bx h
    have hRp2 := c_Players_isPresent (X := X) (d := d - 1) (by omega) hn_a0 hp2
    refine ev_callV2 (st2 := [(0, p2)]) (as := [(0, s.2)]) (rest := []) rfl (by decide) (by decide) rfl hn_a0 rfl (Nat.le_of_ble_eq_true rfl) k_Players_isPresent ⟨tw_630, ts_39⟩ (by omega) tw_628 d_Players_presentFor_17 hRp2 rfl ?_
    by_cases hc3 : p2 = 0
    · replace h := itp hc3 h
      refine ev_if_eq_t (tgt := 42) d_Players_presentFor_20 (by decide) hc3 ?_
      obtain ⟨x4, hx4, h⟩ := ltx h
      refine ev_iinc' 4 (y := x4) (L' := [(4, (0, x4)), (0, (7, a0)), (1, (5, a1)), (2, (0, a2)), (3, (0, s.1))]) d_Players_presentFor_42 rfl (by decide) rfl hx4 ?_
      refine ev_goto (tgt := 5) d_Players_presentFor_45 (by decide) ?_
      refine ev_less (L' := [(0, (7, a0)), (1, (5, a1)), (2, (0, a2)), (3, (0, s.1)), (4, (0, x4))]) [1, 2, 3, 4, 0] rfl ?_
      cases h
      exact hk1 _ rfl
    · replace h := itn hc3 h
      refine ev_if_eq_f d_Players_presentFor_20 (by decide) hc3 ?_
      refine ev_aload_n 0 d_Players_presentFor_23 rfl (by decide) rfl ?_
      refine ev_iload 4 d_Players_presentFor_24 rfl ?_
      refine ev_aload_n 1 d_Players_presentFor_26 rfl (by decide) rfl ?_
      refine ev_iload_n 2 d_Players_presentFor_27 rfl rfl ?_
      obtain ⟨p5, hp5, h⟩ := bx h
      have hRp5 := c_Players_partCost (X := X) (d := d - 1) (by omega) hn_a0 hn_a1 hp5
      refine ev_callV2 (st2 := [(0, p5)]) (as := [(0, s.2), (5, a1), (0, a2)]) (rest := []) rfl (by decide) (by decide) rfl hn_a0 rfl (Nat.le_of_ble_eq_true rfl) k_Players_partCost ⟨tw_634, ts_40⟩ (by omega) tw_632 d_Players_presentFor_28 hRp5 rfl ?_
      refine ev_iconst d_Players_presentFor_31 rfl ?_
      by_cases hc6 : p5 = (-1)
      · replace h := itp hc6 h
        refine ev_icmp_eq_t (tgt := 42) d_Players_presentFor_32 (by decide) hc6 ?_
        obtain ⟨x7, hx7, h⟩ := ltx h
        refine ev_iinc' 4 (y := x7) (L' := [(4, (0, x7)), (0, (7, a0)), (1, (5, a1)), (2, (0, a2)), (3, (0, s.1))]) d_Players_presentFor_42 rfl (by decide) rfl hx7 ?_
        refine ev_goto (tgt := 5) d_Players_presentFor_45 (by decide) ?_
        refine ev_less (L' := [(0, (7, a0)), (1, (5, a1)), (2, (0, a2)), (3, (0, s.1)), (4, (0, x7))]) [1, 2, 3, 4, 0] rfl ?_
        cases h
        exact hk1 _ rfl
      · replace h := itn hc6 h
        refine ev_icmp_eq_f d_Players_presentFor_32 (by decide) hc6 ?_
        refine ev_iload_n 3 d_Players_presentFor_35 rfl rfl ?_
        refine ev_iconst d_Players_presentFor_36 rfl ?_
        refine ev_iload 4 d_Players_presentFor_37 rfl ?_
        refine ev_ishl d_Players_presentFor_39 ?_
        refine ev_ior d_Players_presentFor_40 ?_
        obtain ⟨x8, hx8, h⟩ := ltx h
        refine ev_istore_n' (y := x8) (L' := [(3, (0, x8)), (0, (7, a0)), (1, (5, a1)), (2, (0, a2)), (4, (0, s.2))]) d_Players_presentFor_41 rfl (by decide) rfl hx8 ?_
        obtain ⟨x9, hx9, h⟩ := ltx h
        refine ev_iinc' 4 (y := x9) (L' := [(4, (0, x9)), (3, (0, x8)), (0, (7, a0)), (1, (5, a1)), (2, (0, a2))]) d_Players_presentFor_42 rfl (by decide) rfl hx9 ?_
        refine ev_goto (tgt := 5) d_Players_presentFor_45 (by decide) ?_
        refine ev_less (L' := [(0, (7, a0)), (1, (5, a1)), (2, (0, a2)), (3, (0, x8)), (4, (0, x9))]) [2, 3, 4, 1, 0] rfl ?_
        cases h
        exact hk1 _ rfl
def f_Players_presentFor (M : Mm) (a0 : Int) (a1 : Int) (a2 : Int) : Option (Int) :=
  (loopN (l_Players_presentFor_5 M a0 a1 a2) FU (0, 0)).bind (fun t10 =>
  some t10)
theorem c_Players_presentFor {X : XX} {d : Nat} (hd : 2 ≤ d) {M : Mm} {a0 : Int} {a1 : Int} {a2 : Int} (hn_a0 : a0 ≠ 0) (hn_a1 : a1 ≠ 0) {p : Int} (h : f_Players_presentFor M a0 a1 a2 = some p) : Rn X d m_Players_presentFor [(7, a0), (5, a1), (0, a2)] M (some (0, p)) M := by
  refine Rn_of (by decide) rfl (Nat.le_of_ble_eq_true rfl) ?_
  unfold f_Players_presentFor at h
  refine ev_less (L' := [(0, (7, a0)), (1, (5, a1)), (2, (0, a2))]) [0, 1, 2] rfl ?_
  refine ev_iconst d_Players_presentFor_0 rfl ?_
  refine ev_istore_n (L' := [(3, (0, 0)), (0, (7, a0)), (1, (5, a1)), (2, (0, a2))]) d_Players_presentFor_1 rfl (by decide) rfl ?_
  refine ev_iconst d_Players_presentFor_2 rfl ?_
  refine ev_istore (L' := [(4, (0, 0)), (3, (0, 0)), (0, (7, a0)), (1, (5, a1)), (2, (0, a2))]) d_Players_presentFor_3 (by decide) rfl ?_
  obtain ⟨t10, ht10, h⟩ := bx h
  refine ev_less (L' := [(0, (7, a0)), (1, (5, a1)), (2, (0, a2)), (3, (0, 0)), (4, (0, 0))]) [2, 3, 4, 1, 0] rfl ?_
  refine loop_ev (step := l_Players_presentFor_5 M a0 a1 a2) (P := fun w : Int × Int => Ev X m_Players_presentFor d 5 [(0, (7, a0)), (1, (5, a1)), (2, (0, a2)), (3, (0, w.1)), (4, (0, w.2))] [] M (some (0, p)) M) (Q := fun w => Ev X m_Players_presentFor d 48 [(3, (0, w))] [] M (some (0, p)) M) (fun w x hs k1 k2 => cs_l_Players_presentFor_5 hd hn_a0 hn_a1 hs k1 k2) FU (0, 0) t10 ht10 ?_
  refine ev_iload_n 0 d_Players_presentFor_48 rfl rfl ?_
  cases h
  exact ev_ret d_Players_presentFor_49 rfl
def j_Cover_findAble_33_2 (M : Mm) (a0 : Int) (a1 : Int) (a2 : Int) (z3 : Int) (y0 : Int) (y1 : Int) (y2 : Int) : Option ((Int × Mm) ⊕ (Mm)) :=
  if y2 ≠ 0 then
  if (0 : Int) ≤ y1 ∧ y1 < (ml M (cI y2) : Int) then
  lt (mp M (cI y2) (y1 : Int).toNat y0) (fun M6 =>
  lt (w32 (z3 + 1)) (fun x7 : Int =>
  some (.inl (x7, M6))))
  else none
  else none
theorem cj_Cover_findAble_33_2 {X : XX} {d : Nat} (hd : 3 ≤ d) {M : Mm} {a0 : Int} {a1 : Int} {a2 : Int} {z3 : Int} {y0 : Int} {y1 : Int} {y2 : Int} (hn_a0 : a0 ≠ 0) (hn_a1 : a1 ≠ 0) (hn_a2 : a2 ≠ 0) {x : (Int × Mm) ⊕ (Mm)} {r : Option AV} {M' : Mm} (h : j_Cover_findAble_33_2 M a0 a1 a2 z3 y0 y1 y2 = some x) (hk1 : ∀ s : Int × Mm, x = .inl s → Ev X m_Cover_findAble d 2 [(0, (2, a0)), (1, (5, a1)), (2, (7, a2)), (3, (0, s.1))] [] s.2 r M') (hk2 : ∀ t : Mm, x = .inr t → Ev X m_Cover_findAble d 40 [] [] t r M') : Ev X m_Cover_findAble d 33 [(0, (2, a0)), (1, (5, a1)), (2, (7, a2)), (3, (0, z3))] [(0, y0), (0, y1), (13, y2)] M r M' := by
  unfold j_Cover_findAble_33_2 at h
  obtain ⟨hz4, h⟩ := gx h
  obtain ⟨hg5, h⟩ := gx h
  obtain ⟨M6, hM6, h⟩ := ltx h
  refine ev_iast' d_Cover_findAble_33 hz4 hg5 hM6 ?_
  obtain ⟨x7, hx7, h⟩ := ltx h
  refine ev_iinc' 3 (y := x7) (L' := [(3, (0, x7)), (0, (2, a0)), (1, (5, a1)), (2, (7, a2))]) d_Cover_findAble_34 rfl (by decide) rfl hx7 ?_
  refine ev_goto (tgt := 2) d_Cover_findAble_37 (by decide) ?_
  refine ev_less (L' := [(0, (2, a0)), (1, (5, a1)), (2, (7, a2)), (3, (0, x7))]) [1, 2, 3, 0] rfl ?_
  cases h
  exact hk1 _ rfl
def l_Cover_findAble_2 (a0 : Int) (a1 : Int) (a2 : Int) (s : Int × Mm) : Option ((Int × Mm) ⊕ (Mm)) :=
  if (mg s.2 (cI a1) 7) ≤ s.1 then
  some (.inr s.2)
  else
  (f_Piece_isMust s.2 a1 s.1).bind (fun p2 =>
  if p2 = 0 then
  j_Cover_findAble_33_2 s.2 a0 a1 a2 s.1 0 s.1 ((mg s.2 (cI a0) 0))
  else
  (f_Players_presentFor s.2 a2 a1 s.1).bind (fun p8 =>
  j_Cover_findAble_33_2 s.2 a0 a1 a2 s.1 p8 s.1 ((mg s.2 (cI a0) 0))))
theorem cs_l_Cover_findAble_2 {X : XX} {d : Nat} (hd : 3 ≤ d) {a0 : Int} {a1 : Int} {a2 : Int} (hn_a0 : a0 ≠ 0) (hn_a1 : a1 ≠ 0) (hn_a2 : a2 ≠ 0) {s : Int × Mm} {x : (Int × Mm) ⊕ (Mm)} {r : Option AV} {M' : Mm} (h : l_Cover_findAble_2 a0 a1 a2 s = some x) (hk1 : ∀ s : Int × Mm, x = .inl s → Ev X m_Cover_findAble d 2 [(0, (2, a0)), (1, (5, a1)), (2, (7, a2)), (3, (0, s.1))] [] s.2 r M') (hk2 : ∀ t : Mm, x = .inr t → Ev X m_Cover_findAble d 40 [] [] t r M') : Ev X m_Cover_findAble d 2 [(0, (2, a0)), (1, (5, a1)), (2, (7, a2)), (3, (0, s.1))] [] s.2 r M' := by
  unfold l_Cover_findAble_2 at h
  refine ev_iload_n 3 d_Cover_findAble_2 rfl rfl ?_
  refine ev_aload_n 1 d_Cover_findAble_3 rfl (by decide) rfl ?_
  refine ev_getN (host := "TownBand") (t := 5) (k := 7) (by decide) (by decide) rfl i_Piece (by decide) rfl rfl tw_94 d_Cover_findAble_4 hn_a1 ?_
  by_cases hc1 : (mg s.2 (cI a1) 7) ≤ s.1
  · replace h := itp hc1 h
    refine ev_icmp_ge_t (tgt := 40) d_Cover_findAble_7 (by decide) hc1 ?_
    refine ev_less (L' := []) [] rfl ?_
    cases h
    exact hk2 _ rfl
  · replace h := itn hc1 h
    refine ev_icmp_ge_f d_Cover_findAble_7 (by decide) hc1 ?_
    refine ev_aload_n 0 d_Cover_findAble_10 rfl (by decide) rfl ?_
    refine ev_get (t := 2) (k := 0) (by decide) (by decide) rfl i_Cover (by decide) rfl rfl tw_234 d_Cover_findAble_11 hn_a0 ?_
    refine ev_iload_n 3 d_Cover_findAble_14 rfl rfl ?_
    refine ev_aload_n 1 d_Cover_findAble_15 rfl (by decide) rfl ?_
    refine ev_iload_n 3 d_Cover_findAble_16 rfl rfl ?_
    obtain ⟨p2, hp2, h⟩ := bx h
    have hRp2 := c_Piece_isMust (X := X) (d := d - 1) (by omega) hn_a1 hp2
    refine ev_callVN2 (host := "TownBand") (st2 := [(0, p2), (0, s.1), (13, (mg s.2 (cI a0) 0))]) (as := [(0, s.1)]) (rest := [(0, s.1), (13, (mg s.2 (cI a0) 0))]) rfl (by decide) (by decide) rfl hn_a1 rfl (Nat.le_of_ble_eq_true rfl) k_Piece_isMust ⟨tw_622, ts_37⟩ (by omega) tw_620 d_Cover_findAble_17 hRp2 rfl ?_
    by_cases hc3 : p2 = 0
    · replace h := itp hc3 h
      refine ev_if_eq_t (tgt := 32) d_Cover_findAble_20 (by decide) hc3 ?_
      refine ev_iconst d_Cover_findAble_32 rfl ?_
      exact cj_Cover_findAble_33_2 hd hn_a0 hn_a1 hn_a2 h hk1 hk2
    · replace h := itn hc3 h
      refine ev_if_eq_f d_Cover_findAble_20 (by decide) hc3 ?_
      refine ev_aload_n 2 d_Cover_findAble_23 rfl (by decide) rfl ?_
      refine ev_aload_n 1 d_Cover_findAble_24 rfl (by decide) rfl ?_
      refine ev_iload_n 3 d_Cover_findAble_25 rfl rfl ?_
      obtain ⟨p8, hp8, h⟩ := bx h
      have hRp8 := c_Players_presentFor (X := X) (d := d - 1) (by omega) hn_a2 hn_a1 hp8
      refine ev_callVN2 (host := "TownBand") (st2 := [(0, p8), (0, s.1), (13, (mg s.2 (cI a0) 0))]) (as := [(5, a1), (0, s.1)]) (rest := [(0, s.1), (13, (mg s.2 (cI a0) 0))]) rfl (by decide) (by decide) rfl hn_a2 rfl (Nat.le_of_ble_eq_true rfl) k_Players_presentFor ⟨tw_626, ts_38⟩ (by omega) tw_624 d_Cover_findAble_26 hRp8 rfl ?_
      refine ev_goto (tgt := 33) d_Cover_findAble_29 (by decide) ?_
      exact cj_Cover_findAble_33_2 hd hn_a0 hn_a1 hn_a2 h hk1 hk2
def f_Cover_findAble (M : Mm) (a0 : Int) (a1 : Int) (a2 : Int) : Option (Mm) :=
  (loopN (l_Cover_findAble_2 a0 a1 a2) FU (0, M)).bind (fun t9 =>
  some t9)
theorem c_Cover_findAble {X : XX} {d : Nat} (hd : 3 ≤ d) {M : Mm} {a0 : Int} {a1 : Int} {a2 : Int} (hn_a0 : a0 ≠ 0) (hn_a1 : a1 ≠ 0) (hn_a2 : a2 ≠ 0) {p : Mm} (h : f_Cover_findAble M a0 a1 a2 = some p) : Rn X d m_Cover_findAble [(2, a0), (5, a1), (7, a2)] M none p := by
  refine Rn_of (by decide) rfl (Nat.le_of_ble_eq_true rfl) ?_
  unfold f_Cover_findAble at h
  refine ev_less (L' := [(0, (2, a0)), (1, (5, a1)), (2, (7, a2))]) [0, 1, 2] rfl ?_
  refine ev_iconst d_Cover_findAble_0 rfl ?_
  refine ev_istore_n (L' := [(3, (0, 0)), (0, (2, a0)), (1, (5, a1)), (2, (7, a2))]) d_Cover_findAble_1 rfl (by decide) rfl ?_
  obtain ⟨t9, ht9, h⟩ := bx h
  refine ev_less (L' := [(0, (2, a0)), (1, (5, a1)), (2, (7, a2)), (3, (0, 0))]) [1, 2, 3, 0] rfl ?_
  refine loop_ev (step := l_Cover_findAble_2 a0 a1 a2) (P := fun w : Int × Mm => Ev X m_Cover_findAble d 2 [(0, (2, a0)), (1, (5, a1)), (2, (7, a2)), (3, (0, w.1))] [] w.2 none p) (Q := fun w => Ev X m_Cover_findAble d 40 [] [] w none p) (fun w x hs k1 k2 => cs_l_Cover_findAble_2 hd hn_a0 hn_a1 hn_a2 hs k1 k2) FU (0, M) t9 ht9 ?_
  cases h
  exact ev_retV d_Cover_findAble_40 rfl
def l_Arrays_fillI_5 (a0 : Int) (a1 : Int) (z3 : Int) (s : Int × Mm) : Option ((Int × Mm) ⊕ (Mm)) :=
  if z3 ≤ s.1 then
  some (.inr s.2)
  else
  if (0 : Int) ≤ s.1 ∧ s.1 < (ml s.2 (cI a0) : Int) then
  lt (mp s.2 (cI a0) (s.1 : Int).toNat a1) (fun M4 =>
  lt (w32 (s.1 + 1)) (fun x5 : Int =>
  some (.inl (x5, M4))))
  else none
theorem cs_l_Arrays_fillI_5 {X : XX} {d : Nat} (hd : 0 ≤ d) {a0 : Int} {a1 : Int} {z3 : Int} (hn_a0 : a0 ≠ 0) {s : Int × Mm} {x : (Int × Mm) ⊕ (Mm)} {r : Option AV} {M' : Mm} (h : l_Arrays_fillI_5 a0 a1 z3 s = some x) (hk1 : ∀ s : Int × Mm, x = .inl s → Ev X m_Arrays_fillI d 5 [(0, (13, a0)), (1, (0, a1)), (2, (0, s.1)), (3, (0, z3))] [] s.2 r M') (hk2 : ∀ t : Mm, x = .inr t → Ev X m_Arrays_fillI d 20 [] [] t r M') : Ev X m_Arrays_fillI d 5 [(0, (13, a0)), (1, (0, a1)), (2, (0, s.1)), (3, (0, z3))] [] s.2 r M' := by
  unfold l_Arrays_fillI_5 at h
  refine ev_iload_n 2 d_Arrays_fillI_5 rfl rfl ?_
  refine ev_iload_n 3 d_Arrays_fillI_6 rfl rfl ?_
  by_cases hc2 : z3 ≤ s.1
  · replace h := itp hc2 h
    refine ev_icmp_ge_t (tgt := 20) d_Arrays_fillI_7 (by decide) hc2 ?_
    refine ev_less (L' := []) [] rfl ?_
    cases h
    exact hk2 _ rfl
  · replace h := itn hc2 h
    refine ev_icmp_ge_f d_Arrays_fillI_7 (by decide) hc2 ?_
    refine ev_aload_n 0 d_Arrays_fillI_10 rfl (by decide) rfl ?_
    refine ev_iload_n 2 d_Arrays_fillI_11 rfl rfl ?_
    refine ev_iload_n 1 d_Arrays_fillI_12 rfl rfl ?_
    obtain ⟨hg3, h⟩ := gx h
    obtain ⟨M4, hM4, h⟩ := ltx h
    refine ev_iast' d_Arrays_fillI_13 hn_a0 hg3 hM4 ?_
    obtain ⟨x5, hx5, h⟩ := ltx h
    refine ev_iinc' 2 (y := x5) (L' := [(2, (0, x5)), (0, (13, a0)), (1, (0, a1)), (3, (0, z3))]) d_Arrays_fillI_14 rfl (by decide) rfl hx5 ?_
    refine ev_goto (tgt := 5) d_Arrays_fillI_17 (by decide) ?_
    refine ev_less (L' := [(0, (13, a0)), (1, (0, a1)), (2, (0, x5)), (3, (0, z3))]) [1, 2, 0, 3] rfl ?_
    cases h
    exact hk1 _ rfl
def f_Arrays_fillI (M : Mm) (a0 : Int) (a1 : Int) : Option (Mm) :=
  lt ((ml M (cI a0) : Int)) (fun x1 : Int =>
  (loopN (l_Arrays_fillI_5 a0 a1 x1) FU (0, M)).bind (fun t6 =>
  some t6))
theorem c_Arrays_fillI {X : XX} {d : Nat} (hd : 0 ≤ d) {M : Mm} {a0 : Int} {a1 : Int} (hn_a0 : a0 ≠ 0) {p : Mm} (h : f_Arrays_fillI M a0 a1 = some p) : Rn X d m_Arrays_fillI [(13, a0), (0, a1)] M none p := by
  refine Rn_of (by decide) rfl (Nat.le_of_ble_eq_true rfl) ?_
  unfold f_Arrays_fillI at h
  refine ev_less (L' := [(0, (13, a0)), (1, (0, a1))]) [0, 1] rfl ?_
  refine ev_iconst d_Arrays_fillI_0 rfl ?_
  refine ev_istore_n (L' := [(2, (0, 0)), (0, (13, a0)), (1, (0, a1))]) d_Arrays_fillI_1 rfl (by decide) rfl ?_
  refine ev_aload_n 1 d_Arrays_fillI_2 rfl (by decide) rfl ?_
  refine ev_alen (by decide) (by decide) d_Arrays_fillI_3 hn_a0 ?_
  obtain ⟨x1, hx1, h⟩ := ltx h
  refine ev_istore_n' (y := x1) (L' := [(3, (0, x1)), (2, (0, 0)), (0, (13, a0)), (1, (0, a1))]) d_Arrays_fillI_4 rfl (by decide) rfl hx1 ?_
  obtain ⟨t6, ht6, h⟩ := bx h
  refine ev_less (L' := [(0, (13, a0)), (1, (0, a1)), (2, (0, 0)), (3, (0, x1))]) [2, 3, 1, 0] rfl ?_
  refine loop_ev (step := l_Arrays_fillI_5 a0 a1 x1) (P := fun w : Int × Mm => Ev X m_Arrays_fillI d 5 [(0, (13, a0)), (1, (0, a1)), (2, (0, w.1)), (3, (0, x1))] [] w.2 none p) (Q := fun w => Ev X m_Arrays_fillI d 20 [] [] w none p) (fun w x hs k1 k2 => cs_l_Arrays_fillI_5 hd hn_a0 hs k1 k2) FU (0, M) t6 ht6 ?_
  cases h
  exact ev_retV d_Arrays_fillI_20 rfl
def j_Cover_findPlayer_83_10 (rc : Mm → Int → Int → Int → Option (Int × Mm)) (M : Mm) (a0 : Int) (a1 : Int) (z3 : Int) : Option ((Int × Mm) ⊕ ((Int × Mm) ⊕ (Mm))) :=
  if (mg M (cI a0) 1) ≠ 0 then
  if (0 : Int) ≤ z3 ∧ z3 < (ml M (cI (mg M (cI a0) 1)) : Int) then
  lt (mp M (cI (mg M (cI a0) 1)) (z3 : Int).toNat a1) (fun M15 =>
  some (.inr (.inl ((1, M15)))))
  else none
  else none
theorem cj_Cover_findPlayer_83_10 {X : XX} {d : Nat} {e : Nat} {rc : Mm → Int → Int → Int → Option (Int × Mm)} (hd : e + 1 ≤ d) (hrc : ∀ (M : Mm) (b0 b1 b2 : Int) (q : Int × Mm), b0 ≠ 0 → rc M b0 b1 b2 = some q → Rn X e m_Cover_findPlayer [(2, b0), (0, b1), (0, b2)] M (some (0, q.1)) q.2) {M : Mm} {a0 : Int} {a1 : Int} {z3 : Int} (hn_a0 : a0 ≠ 0) {a2 : Int} {x : (Int × Mm) ⊕ ((Int × Mm) ⊕ (Mm))} {r : Option AV} {M' : Mm} (h : j_Cover_findPlayer_83_10 rc M a0 a1 z3 = some x) (hk1 : ∀ s : Int × Mm, x = .inl s → Ev X m_Cover_findPlayer d 10 [(0, (2, a0)), (1, (0, a1)), (2, (0, a2)), (3, (0, s.1))] [] s.2 r M') (hk2 : ∀ q : Int × Mm, x = .inr (.inl q) → r = some (0, q.1) ∧ M' = q.2) (hk3 : ∀ t : Mm, x = .inr (.inr t) → Ev X m_Cover_findPlayer d 98 [] [] t r M') : Ev X m_Cover_findPlayer d 83 [(0, (2, a0)), (1, (0, a1)), (3, (0, z3))] [] M r M' := by
  unfold j_Cover_findPlayer_83_10 at h
  refine ev_aload_n 0 d_Cover_findPlayer_83 rfl (by decide) rfl ?_
  refine ev_get (t := 2) (k := 1) (by decide) (by decide) rfl i_Cover (by decide) rfl rfl tw_235 d_Cover_findPlayer_84 hn_a0 ?_
  refine ev_iload_n 2 d_Cover_findPlayer_87 rfl rfl ?_
  refine ev_iload_n 1 d_Cover_findPlayer_88 rfl rfl ?_
  obtain ⟨hz13, h⟩ := gx h
  obtain ⟨hg14, h⟩ := gx h
  obtain ⟨M15, hM15, h⟩ := ltx h
  refine ev_iast' d_Cover_findPlayer_89 hz13 hg14 hM15 ?_
  refine ev_iconst d_Cover_findPlayer_90 rfl ?_
  cases h
  obtain ⟨rfl, rfl⟩ := hk2 _ rfl
  exact ev_retZ d_Cover_findPlayer_91 rfl (Or.inr rfl)
def l_Cover_findPlayer_10 (rc : Mm → Int → Int → Int → Option (Int × Mm)) (a0 : Int) (a1 : Int) (a2 : Int) (s : Int × Mm) : Option ((Int × Mm) ⊕ ((Int × Mm) ⊕ (Mm))) :=
  if 14 ≤ s.1 then
  some (.inr (.inr s.2))
  else
  lt ((bShl 1 s.1)) (fun x3 : Int =>
  if (mg s.2 (cI a0) 0) ≠ 0 then
  if (0 : Int) ≤ a1 ∧ a1 < (ml s.2 (cI (mg s.2 (cI a0) 0)) : Int) then
  if (bAnd (mg s.2 (cI (mg s.2 (cI a0) 0)) (a1 : Int).toNat) x3) = 0 then
  lt (w32 (s.1 + 1)) (fun x7 : Int =>
  some (.inl (x7, s.2)))
  else
  if (bAnd (mg s.2 (cI a0) 3) x3) = 0 then
  lt (mp s.2 (cI a0) 3 (bOr (mg s.2 (cI a0) 3) x3)) (fun M9 =>
  if (mg M9 (cI a0) 1) ≠ 0 then
  if (0 : Int) ≤ s.1 ∧ s.1 < (ml M9 (cI (mg M9 (cI a0) 1)) : Int) then
  if (mg M9 (cI (mg M9 (cI a0) 1)) (s.1 : Int).toNat) = (-1) then
  j_Cover_findPlayer_83_10 rc M9 a0 a1 s.1
  else
  (rc M9 a0 (mg M9 (cI (mg M9 (cI a0) 1)) (s.1 : Int).toNat) (w32 (a2 + 1))).bind (fun p16 =>
  if p16.1 = 0 then
  lt (w32 (s.1 + 1)) (fun x18 : Int =>
  some (.inl (x18, p16.2)))
  else
  j_Cover_findPlayer_83_10 rc p16.2 a0 a1 s.1)
  else none
  else none)
  else
  lt (w32 (s.1 + 1)) (fun x19 : Int =>
  some (.inl (x19, s.2)))
  else none
  else none)
theorem cs_l_Cover_findPlayer_10 {X : XX} {d : Nat} {e : Nat} {rc : Mm → Int → Int → Int → Option (Int × Mm)} (hd : e + 1 ≤ d) (hrc : ∀ (M : Mm) (b0 b1 b2 : Int) (q : Int × Mm), b0 ≠ 0 → rc M b0 b1 b2 = some q → Rn X e m_Cover_findPlayer [(2, b0), (0, b1), (0, b2)] M (some (0, q.1)) q.2) {a0 : Int} {a1 : Int} {a2 : Int} (hn_a0 : a0 ≠ 0) {s : Int × Mm} {x : (Int × Mm) ⊕ ((Int × Mm) ⊕ (Mm))} {r : Option AV} {M' : Mm} (h : l_Cover_findPlayer_10 rc a0 a1 a2 s = some x) (hk1 : ∀ s : Int × Mm, x = .inl s → Ev X m_Cover_findPlayer d 10 [(0, (2, a0)), (1, (0, a1)), (2, (0, a2)), (3, (0, s.1))] [] s.2 r M') (hk2 : ∀ q : Int × Mm, x = .inr (.inl q) → r = some (0, q.1) ∧ M' = q.2) (hk3 : ∀ t : Mm, x = .inr (.inr t) → Ev X m_Cover_findPlayer d 98 [] [] t r M') : Ev X m_Cover_findPlayer d 10 [(0, (2, a0)), (1, (0, a1)), (2, (0, a2)), (3, (0, s.1))] [] s.2 r M' := by
  unfold l_Cover_findPlayer_10 at h
  refine ev_iload_n 3 d_Cover_findPlayer_10 rfl rfl ?_
  refine ev_bipush d_Cover_findPlayer_11 rfl ?_
  by_cases hc2 : 14 ≤ s.1
  · replace h := itp hc2 h
    refine ev_icmp_ge_t (tgt := 98) d_Cover_findPlayer_13 (by decide) hc2 ?_
    refine ev_less (L' := []) [] rfl ?_
    cases h
    exact hk3 _ rfl
  · replace h := itn hc2 h
    refine ev_icmp_ge_f d_Cover_findPlayer_13 (by decide) hc2 ?_
    refine ev_iconst d_Cover_findPlayer_16 rfl ?_
    refine ev_iload_n 3 d_Cover_findPlayer_17 rfl rfl ?_
    refine ev_ishl d_Cover_findPlayer_18 ?_
    obtain ⟨x3, hx3, h⟩ := ltx h
    refine ev_istore' (y := x3) (L' := [(4, (0, x3)), (0, (2, a0)), (1, (0, a1)), (2, (0, a2)), (3, (0, s.1))]) d_Cover_findPlayer_19 (by decide) rfl hx3 ?_
    refine ev_aload_n 1 d_Cover_findPlayer_21 rfl (by decide) rfl ?_
    refine ev_get (t := 2) (k := 0) (by decide) (by decide) rfl i_Cover (by decide) rfl rfl tw_234 d_Cover_findPlayer_22 hn_a0 ?_
    refine ev_iload_n 2 d_Cover_findPlayer_25 rfl rfl ?_
    obtain ⟨hz4, h⟩ := gx h
    obtain ⟨hg5, h⟩ := gx h
    refine ev_iald d_Cover_findPlayer_26 hz4 hg5 ?_
    refine ev_iload 0 d_Cover_findPlayer_27 rfl ?_
    refine ev_iand d_Cover_findPlayer_29 ?_
    by_cases hc6 : (bAnd (mg s.2 (cI (mg s.2 (cI a0) 0)) (a1 : Int).toNat) x3) = 0
    · replace h := itp hc6 h
      refine ev_if_eq_t (tgt := 92) d_Cover_findPlayer_30 (by decide) hc6 ?_
      obtain ⟨x7, hx7, h⟩ := ltx h
      refine ev_iinc' 4 (y := x7) (L' := [(3, (0, x7)), (4, (0, x3)), (0, (2, a0)), (1, (0, a1)), (2, (0, a2))]) d_Cover_findPlayer_92 rfl (by decide) rfl hx7 ?_
      refine ev_goto (tgt := 10) d_Cover_findPlayer_95 (by decide) ?_
      refine ev_less (L' := [(0, (2, a0)), (1, (0, a1)), (2, (0, a2)), (3, (0, x7))]) [2, 3, 4, 0] rfl ?_
      cases h
      exact hk1 _ rfl
    · replace h := itn hc6 h
      refine ev_if_eq_f d_Cover_findPlayer_30 (by decide) hc6 ?_
      refine ev_aload_n 1 d_Cover_findPlayer_33 rfl (by decide) rfl ?_
      refine ev_get (t := 2) (k := 3) (by decide) (by decide) rfl i_Cover (by decide) rfl rfl tw_237 d_Cover_findPlayer_34 hn_a0 ?_
      refine ev_iload 0 d_Cover_findPlayer_37 rfl ?_
      refine ev_iand d_Cover_findPlayer_39 ?_
      by_cases hc8 : (bAnd (mg s.2 (cI a0) 3) x3) = 0
      · replace h := itp hc8 h
        refine ev_if_eq_t (tgt := 46) d_Cover_findPlayer_40 (by decide) hc8 ?_
        refine ev_aload_n 1 d_Cover_findPlayer_46 rfl (by decide) rfl ?_
        refine ev_dup d_Cover_findPlayer_47 (Nat.ne_of_beq_eq_false rfl) ?_
        refine ev_get (t := 2) (k := 3) (by decide) (by decide) rfl i_Cover (by decide) rfl rfl tw_237 d_Cover_findPlayer_48 hn_a0 ?_
        refine ev_iload 0 d_Cover_findPlayer_51 rfl ?_
        refine ev_ior d_Cover_findPlayer_53 ?_
        obtain ⟨M9, hM9, h⟩ := ltx h
        refine ev_put' (t := 2) (k := 3) (by decide) (by decide) rfl i_Cover t_Cover_ok n_Cover (by decide) rfl rfl rfl rfl tw_237 d_Cover_findPlayer_54 hn_a0 hM9 ?_
        refine ev_aload_n 1 d_Cover_findPlayer_57 rfl (by decide) rfl ?_
        refine ev_get (t := 2) (k := 1) (by decide) (by decide) rfl i_Cover (by decide) rfl rfl tw_235 d_Cover_findPlayer_58 hn_a0 ?_
        refine ev_iload_n 4 d_Cover_findPlayer_61 rfl rfl ?_
        obtain ⟨hz10, h⟩ := gx h
        obtain ⟨hg11, h⟩ := gx h
        refine ev_iald d_Cover_findPlayer_62 hz10 hg11 ?_
        refine ev_iconst d_Cover_findPlayer_63 rfl ?_
        by_cases hc12 : (mg M9 (cI (mg M9 (cI a0) 1)) (s.1 : Int).toNat) = (-1)
        · replace h := itp hc12 h
          refine ev_icmp_eq_t (tgt := 83) d_Cover_findPlayer_64 (by decide) hc12 ?_
          refine ev_less (L' := [(0, (2, a0)), (1, (0, a1)), (3, (0, s.1))]) [1, 2, 4] rfl ?_
          exact cj_Cover_findPlayer_83_10 hd hrc hn_a0 h hk1 hk2 hk3
        · replace h := itn hc12 h
          refine ev_icmp_eq_f d_Cover_findPlayer_64 (by decide) hc12 ?_
          refine ev_aload_n 1 d_Cover_findPlayer_67 rfl (by decide) rfl ?_
          refine ev_aload_n 1 d_Cover_findPlayer_68 rfl (by decide) rfl ?_
          refine ev_get (t := 2) (k := 1) (by decide) (by decide) rfl i_Cover (by decide) rfl rfl tw_235 d_Cover_findPlayer_69 hn_a0 ?_
          refine ev_iload_n 4 d_Cover_findPlayer_72 rfl rfl ?_
          refine ev_iald d_Cover_findPlayer_73 hz10 hg11 ?_
          refine ev_iload_n 3 d_Cover_findPlayer_74 rfl rfl ?_
          refine ev_iconst d_Cover_findPlayer_75 rfl ?_
          refine ev_iadd d_Cover_findPlayer_76 ?_
          obtain ⟨p16, hp16, h⟩ := bx h
          have hRp16 := hrc _ _ _ _ _ hn_a0 hp16
          refine ev_callV2 (st2 := [(0, p16.1)]) (as := [(0, (mg M9 (cI (mg M9 (cI a0) 1)) (s.1 : Int).toNat)), (0, (w32 (a2 + 1)))]) (rest := []) rfl (by decide) (by decide) rfl hn_a0 rfl (Nat.le_of_ble_eq_true rfl) k_Cover_findPlayer ⟨tw_641, ts_41⟩ (by omega) tw_639 d_Cover_findPlayer_77 hRp16 rfl ?_
          by_cases hc17 : p16.1 = 0
          · replace h := itp hc17 h
            refine ev_if_eq_t (tgt := 92) d_Cover_findPlayer_80 (by decide) hc17 ?_
            obtain ⟨x18, hx18, h⟩ := ltx h
            refine ev_iinc' 4 (y := x18) (L' := [(3, (0, x18)), (4, (0, x3)), (0, (2, a0)), (1, (0, a1)), (2, (0, a2))]) d_Cover_findPlayer_92 rfl (by decide) rfl hx18 ?_
            refine ev_goto (tgt := 10) d_Cover_findPlayer_95 (by decide) ?_
            refine ev_less (L' := [(0, (2, a0)), (1, (0, a1)), (2, (0, a2)), (3, (0, x18))]) [2, 3, 4, 0] rfl ?_
            cases h
            exact hk1 _ rfl
          · replace h := itn hc17 h
            refine ev_if_eq_f d_Cover_findPlayer_80 (by decide) hc17 ?_
            refine ev_less (L' := [(0, (2, a0)), (1, (0, a1)), (3, (0, s.1))]) [1, 2, 4] rfl ?_
            exact cj_Cover_findPlayer_83_10 hd hrc hn_a0 h hk1 hk2 hk3
      · replace h := itn hc8 h
        refine ev_if_eq_f d_Cover_findPlayer_40 (by decide) hc8 ?_
        refine ev_goto (tgt := 92) d_Cover_findPlayer_43 (by decide) ?_
        obtain ⟨x19, hx19, h⟩ := ltx h
        refine ev_iinc' 4 (y := x19) (L' := [(3, (0, x19)), (4, (0, x3)), (0, (2, a0)), (1, (0, a1)), (2, (0, a2))]) d_Cover_findPlayer_92 rfl (by decide) rfl hx19 ?_
        refine ev_goto (tgt := 10) d_Cover_findPlayer_95 (by decide) ?_
        refine ev_less (L' := [(0, (2, a0)), (1, (0, a1)), (2, (0, a2)), (3, (0, x19))]) [2, 3, 4, 0] rfl ?_
        cases h
        exact hk1 _ rfl
def g_Cover_findPlayer (rc : Mm → Int → Int → Int → Option (Int × Mm)) (M : Mm) (a0 : Int) (a1 : Int) (a2 : Int) : Option (Int × Mm) :=
  if a2 ≤ 10 then
  (loopN (l_Cover_findPlayer_10 rc a0 a1 a2) FU (0, M)).bind (fun t20 =>
  Sum.elim (fun q21 => some q21) (fun u22 =>
  some (0, u22)) t20)
  else
  some (0, M)
theorem cg_Cover_findPlayer {X : XX} {d : Nat} {e : Nat} {rc : Mm → Int → Int → Int → Option (Int × Mm)} (hd : e + 1 ≤ d) (hrc : ∀ (M : Mm) (b0 b1 b2 : Int) (q : Int × Mm), b0 ≠ 0 → rc M b0 b1 b2 = some q → Rn X e m_Cover_findPlayer [(2, b0), (0, b1), (0, b2)] M (some (0, q.1)) q.2) {M : Mm} {a0 : Int} {a1 : Int} {a2 : Int} (hn_a0 : a0 ≠ 0) {p : Int × Mm} (h : g_Cover_findPlayer rc M a0 a1 a2 = some p) : Rn X d m_Cover_findPlayer [(2, a0), (0, a1), (0, a2)] M (some (0, p.1)) p.2 := by
  refine Rn_of (by decide) rfl (Nat.le_of_ble_eq_true rfl) ?_
  unfold g_Cover_findPlayer at h
  refine ev_less (L' := [(0, (2, a0)), (1, (0, a1)), (2, (0, a2))]) [0, 1, 2] rfl ?_
  refine ev_iload_n 2 d_Cover_findPlayer_0 rfl rfl ?_
  refine ev_bipush d_Cover_findPlayer_1 rfl ?_
  by_cases hc1 : a2 ≤ 10
  · replace h := itp hc1 h
    refine ev_icmp_le_t (tgt := 8) d_Cover_findPlayer_3 (by decide) hc1 ?_
    refine ev_iconst d_Cover_findPlayer_8 rfl ?_
    refine ev_istore_n (L' := [(3, (0, 0)), (0, (2, a0)), (1, (0, a1)), (2, (0, a2))]) d_Cover_findPlayer_9 rfl (by decide) rfl ?_
    obtain ⟨t20, ht20, h⟩ := bx h
    refine ev_less (L' := [(0, (2, a0)), (1, (0, a1)), (2, (0, a2)), (3, (0, 0))]) [1, 2, 3, 0] rfl ?_
    refine loop_ev (step := l_Cover_findPlayer_10 rc a0 a1 a2) (P := fun w : Int × Mm => Ev X m_Cover_findPlayer d 10 [(0, (2, a0)), (1, (0, a1)), (2, (0, a2)), (3, (0, w.1))] [] w.2 (some (0, p.1)) p.2) (Q := fun u => (∀ q, u = .inl q → (some (0, p.1)) = some (0, q.1) ∧ p.2 = q.2) ∧ (∀ w, u = .inr w → Ev X m_Cover_findPlayer d 98 [] [] w (some (0, p.1)) p.2)) (fun w x hs k1 k2 => cs_l_Cover_findPlayer_10 hd hrc hn_a0 hs k1 (fun q e => (k2 _ e).1 q rfl) (fun t e => (k2 _ e).2 t rfl)) FU (0, M) t20 ht20 ?_
    refine ⟨fun qq e => ?_, fun tt e => ?_⟩
    · subst e; replace h := sx1 h; (obtain ⟨q21, rfl⟩ : ∃ y, y = qq := ⟨_, rfl⟩)
      cases h
      exact ⟨rfl, rfl⟩
    · subst e; replace h := sx2 h; (obtain ⟨u22, rfl⟩ : ∃ y, y = tt := ⟨_, rfl⟩)
      refine ev_iconst d_Cover_findPlayer_98 rfl ?_
      cases h
      exact ev_retZ d_Cover_findPlayer_99 rfl (Or.inl rfl)
  · replace h := itn hc1 h
    refine ev_icmp_le_f d_Cover_findPlayer_3 (by decide) hc1 ?_
    refine ev_iconst d_Cover_findPlayer_6 rfl ?_
    cases h
    exact ev_retZ d_Cover_findPlayer_7 rfl (Or.inl rfl)
def f_Cover_findPlayer : Nat → Mm → Int → Int → Int → Option (Int × Mm)
  | 0 => fun _ _ _ _ => none
  | n + 1 => g_Cover_findPlayer (f_Cover_findPlayer n)
theorem c_Cover_findPlayer {X : XX} : ∀ (n : Nat) {d : Nat} (hd : 1 * n ≤ d) {M : Mm} {a0 : Int} {a1 : Int} {a2 : Int} (hn_a0 : a0 ≠ 0) {p : Int × Mm} (h : f_Cover_findPlayer n M a0 a1 a2 = some p), Rn X d m_Cover_findPlayer [(2, a0), (0, a1), (0, a2)] M (some (0, p.1)) p.2
  | 0, d, hd, M, a0, a1, a2, _, p, h => by cases h
  | n + 1, d, hd, M, a0, a1, a2, hn_a0, p, h => cg_Cover_findPlayer (e := d - 1) (by omega) (fun M b0 b1 b2 q n0 hq => c_Cover_findPlayer n (by omega) n0 hq) hn_a0 h
def l_Cover_coversMust_16 (a0 : Int) (a1 : Int) (s : Int × Mm) : Option ((Int × Mm) ⊕ ((Int × Mm) ⊕ (Mm))) :=
  if (mg s.2 (cI a1) 7) ≤ s.1 then
  some (.inr (.inr s.2))
  else
  lt (mp s.2 (cI a0) 3 0) (fun M5 =>
  (f_Piece_isMust M5 a1 s.1).bind (fun p6 =>
  if p6 = 0 then
  lt (w32 (s.1 + 1)) (fun x8 : Int =>
  some (.inl (x8, M5)))
  else
  (f_Cover_findPlayer 12 M5 a0 s.1 0).bind (fun p9 =>
  if p9.1 ≠ 0 then
  lt (w32 (s.1 + 1)) (fun x11 : Int =>
  some (.inl (x11, p9.2)))
  else
  some (.inr (.inl ((0, p9.2)))))))
theorem cs_l_Cover_coversMust_16 {X : XX} {d : Nat} (hd : 13 ≤ d) {a0 : Int} {a1 : Int} (hn_a0 : a0 ≠ 0) (hn_a1 : a1 ≠ 0) {s : Int × Mm} {x : (Int × Mm) ⊕ ((Int × Mm) ⊕ (Mm))} {r : Option AV} {M' : Mm} (h : l_Cover_coversMust_16 a0 a1 s = some x) (hk1 : ∀ s : Int × Mm, x = .inl s → Ev X m_Cover_coversMust d 16 [(0, (2, a0)), (1, (5, a1)), (3, (0, s.1))] [] s.2 r M') (hk2 : ∀ q : Int × Mm, x = .inr (.inl q) → r = some (0, q.1) ∧ M' = q.2) (hk3 : ∀ t : Mm, x = .inr (.inr t) → Ev X m_Cover_coversMust d 54 [] [] t r M') : Ev X m_Cover_coversMust d 16 [(0, (2, a0)), (1, (5, a1)), (3, (0, s.1))] [] s.2 r M' := by
  unfold l_Cover_coversMust_16 at h
  refine ev_iload_n 2 d_Cover_coversMust_16 rfl rfl ?_
  refine ev_aload_n 1 d_Cover_coversMust_17 rfl (by decide) rfl ?_
  refine ev_getN (host := "TownBand") (t := 5) (k := 7) (by decide) (by decide) rfl i_Piece (by decide) rfl rfl tw_94 d_Cover_coversMust_18 hn_a1 ?_
  by_cases hc4 : (mg s.2 (cI a1) 7) ≤ s.1
  · replace h := itp hc4 h
    refine ev_icmp_ge_t (tgt := 54) d_Cover_coversMust_21 (by decide) hc4 ?_
    refine ev_less (L' := []) [] rfl ?_
    cases h
    exact hk3 _ rfl
  · replace h := itn hc4 h
    refine ev_icmp_ge_f d_Cover_coversMust_21 (by decide) hc4 ?_
    refine ev_aload_n 0 d_Cover_coversMust_24 rfl (by decide) rfl ?_
    refine ev_iconst d_Cover_coversMust_25 rfl ?_
    obtain ⟨M5, hM5, h⟩ := ltx h
    refine ev_put' (t := 2) (k := 3) (by decide) (by decide) rfl i_Cover t_Cover_ok n_Cover (by decide) rfl rfl rfl rfl tw_237 d_Cover_coversMust_26 hn_a0 hM5 ?_
    refine ev_aload_n 1 d_Cover_coversMust_29 rfl (by decide) rfl ?_
    refine ev_iload_n 2 d_Cover_coversMust_30 rfl rfl ?_
    obtain ⟨p6, hp6, h⟩ := bx h
    have hRp6 := c_Piece_isMust (X := X) (d := d - 1) (by omega) hn_a1 hp6
    refine ev_callVN2 (host := "TownBand") (st2 := [(0, p6)]) (as := [(0, s.1)]) (rest := []) rfl (by decide) (by decide) rfl hn_a1 rfl (Nat.le_of_ble_eq_true rfl) k_Piece_isMust ⟨tw_622, ts_37⟩ (by omega) tw_620 d_Cover_coversMust_31 hRp6 rfl ?_
    by_cases hc7 : p6 = 0
    · replace h := itp hc7 h
      refine ev_if_eq_t (tgt := 48) d_Cover_coversMust_34 (by decide) hc7 ?_
      obtain ⟨x8, hx8, h⟩ := ltx h
      refine ev_iinc' 2 (y := x8) (L' := [(3, (0, x8)), (0, (2, a0)), (1, (5, a1))]) d_Cover_coversMust_48 rfl (by decide) rfl hx8 ?_
      refine ev_goto (tgt := 16) d_Cover_coversMust_51 (by decide) ?_
      refine ev_less (L' := [(0, (2, a0)), (1, (5, a1)), (3, (0, x8))]) [1, 2, 0] rfl ?_
      cases h
      exact hk1 _ rfl
    · replace h := itn hc7 h
      refine ev_if_eq_f d_Cover_coversMust_34 (by decide) hc7 ?_
      refine ev_aload_n 0 d_Cover_coversMust_37 rfl (by decide) rfl ?_
      refine ev_iload_n 2 d_Cover_coversMust_38 rfl rfl ?_
      refine ev_iconst d_Cover_coversMust_39 rfl ?_
      obtain ⟨p9, hp9, h⟩ := bx h
      have hRp9 := c_Cover_findPlayer (X := X) (d := d - 1) 12 (by omega) hn_a0 hp9
      refine ev_callV2 (st2 := [(0, p9.1)]) (as := [(0, s.1), (0, 0)]) (rest := []) rfl (by decide) (by decide) rfl hn_a0 rfl (Nat.le_of_ble_eq_true rfl) k_Cover_findPlayer ⟨tw_641, ts_41⟩ (by omega) tw_639 d_Cover_coversMust_40 hRp9 rfl ?_
      by_cases hc10 : p9.1 ≠ 0
      · replace h := itp hc10 h
        refine ev_if_ne_t (tgt := 48) d_Cover_coversMust_43 (by decide) hc10 ?_
        obtain ⟨x11, hx11, h⟩ := ltx h
        refine ev_iinc' 2 (y := x11) (L' := [(3, (0, x11)), (0, (2, a0)), (1, (5, a1))]) d_Cover_coversMust_48 rfl (by decide) rfl hx11 ?_
        refine ev_goto (tgt := 16) d_Cover_coversMust_51 (by decide) ?_
        refine ev_less (L' := [(0, (2, a0)), (1, (5, a1)), (3, (0, x11))]) [1, 2, 0] rfl ?_
        cases h
        exact hk1 _ rfl
      · replace h := itn hc10 h
        refine ev_if_ne_f d_Cover_coversMust_43 (by decide) hc10 ?_
        refine ev_iconst d_Cover_coversMust_46 rfl ?_
        cases h
        obtain ⟨rfl, rfl⟩ := hk2 _ rfl
        exact ev_retZ d_Cover_coversMust_47 rfl (Or.inl rfl)
def f_Cover_coversMust (M : Mm) (a0 : Int) (a1 : Int) (a2 : Int) : Option (Int × Mm) :=
  (f_Cover_findAble M a0 a1 a2).bind (fun p1 =>
  if (mg p1 (cI a0) 1) ≠ 0 then
  (f_Arrays_fillI p1 (mg p1 (cI a0) 1) (-1)).bind (fun p3 =>
  (loopN (l_Cover_coversMust_16 a0 a1) FU (0, p3)).bind (fun t12 =>
  Sum.elim (fun q13 => some q13) (fun u14 =>
  some (1, u14)) t12))
  else none)
theorem c_Cover_coversMust {X : XX} {d : Nat} (hd : 13 ≤ d) {M : Mm} {a0 : Int} {a1 : Int} {a2 : Int} (hn_a0 : a0 ≠ 0) (hn_a1 : a1 ≠ 0) (hn_a2 : a2 ≠ 0) {p : Int × Mm} (h : f_Cover_coversMust M a0 a1 a2 = some p) : Rn X d m_Cover_coversMust [(2, a0), (5, a1), (7, a2)] M (some (0, p.1)) p.2 := by
  refine Rn_of (by decide) rfl (Nat.le_of_ble_eq_true rfl) ?_
  unfold f_Cover_coversMust at h
  refine ev_less (L' := [(0, (2, a0)), (1, (5, a1)), (2, (7, a2))]) [0, 1, 2] rfl ?_
  refine ev_aload_n 0 d_Cover_coversMust_0 rfl (by decide) rfl ?_
  refine ev_aload_n 1 d_Cover_coversMust_1 rfl (by decide) rfl ?_
  refine ev_aload_n 2 d_Cover_coversMust_2 rfl (by decide) rfl ?_
  obtain ⟨p1, hp1, h⟩ := bx h
  have hRp1 := c_Cover_findAble (X := X) (d := d - 1) (by omega) hn_a0 hn_a1 hn_a2 hp1
  refine ev_callV2 (st2 := []) (as := [(5, a1), (7, a2)]) (rest := []) rfl (by decide) (by decide) rfl hn_a0 rfl (Nat.le_of_ble_eq_true rfl) k_Cover_findAble ⟨tw_618, ts_36⟩ (by omega) tw_616 d_Cover_coversMust_3 hRp1 rfl ?_
  refine ev_aload_n 0 d_Cover_coversMust_6 rfl (by decide) rfl ?_
  refine ev_get (t := 2) (k := 1) (by decide) (by decide) rfl i_Cover (by decide) rfl rfl tw_235 d_Cover_coversMust_7 hn_a0 ?_
  refine ev_iconst d_Cover_coversMust_10 rfl ?_
  obtain ⟨hz2, h⟩ := gx h
  obtain ⟨p3, hp3, h⟩ := bx h
  have hRp3 := c_Arrays_fillI (X := X) (d := d - 1) (by omega) hz2 hp3
  refine ev_callS2 (st2 := []) (as := [(13, (mg p1 (cI a0) 1)), (0, (-1))]) (rest := []) rfl rfl (Nat.le_of_ble_eq_true rfl) k_Arrays_fillI tw_34 (by omega) tw_638 d_Cover_coversMust_11 hRp3 rfl ?_
  refine ev_iconst d_Cover_coversMust_14 rfl ?_
  refine ev_istore_n (L' := [(3, (0, 0)), (0, (2, a0)), (1, (5, a1)), (2, (7, a2))]) d_Cover_coversMust_15 rfl (by decide) rfl ?_
  obtain ⟨t12, ht12, h⟩ := bx h
  refine ev_less (L' := [(0, (2, a0)), (1, (5, a1)), (3, (0, 0))]) [1, 2, 0] rfl ?_
  refine loop_ev (step := l_Cover_coversMust_16 a0 a1) (P := fun w : Int × Mm => Ev X m_Cover_coversMust d 16 [(0, (2, a0)), (1, (5, a1)), (3, (0, w.1))] [] w.2 (some (0, p.1)) p.2) (Q := fun u => (∀ q, u = .inl q → (some (0, p.1)) = some (0, q.1) ∧ p.2 = q.2) ∧ (∀ w, u = .inr w → Ev X m_Cover_coversMust d 54 [] [] w (some (0, p.1)) p.2)) (fun w x hs k1 k2 => cs_l_Cover_coversMust_16 hd hn_a0 hn_a1 hs k1 (fun q e => (k2 _ e).1 q rfl) (fun t e => (k2 _ e).2 t rfl)) FU (0, p3) t12 ht12 ?_
  refine ⟨fun qq e => ?_, fun tt e => ?_⟩
  · subst e; replace h := sx1 h; (obtain ⟨q13, rfl⟩ : ∃ y, y = qq := ⟨_, rfl⟩)
    cases h
    exact ⟨rfl, rfl⟩
  · subst e; replace h := sx2 h; (obtain ⟨u14, rfl⟩ : ∃ y, y = tt := ⟨_, rfl⟩)
    refine ev_iconst d_Cover_coversMust_54 rfl ?_
    cases h
    exact ev_retZ d_Cover_coversMust_55 rfl (Or.inr rfl)
def f_Integer_bitCount (M : Mm) (a0 : Int) : Option (Int) :=
  lt ((w32 (a0 - (bAnd (bUshr a0 1) 1431655765)))) (fun x1 : Int =>
  lt ((w32 ((bAnd x1 858993459) + (bAnd (bUshr x1 2) 858993459)))) (fun x2 : Int =>
  lt ((bAnd (w32 (x2 + (bUshr x2 4))) 252645135)) (fun x3 : Int =>
  lt ((w32 (x3 + (bUshr x3 8)))) (fun x4 : Int =>
  lt ((w32 (x4 + (bUshr x4 16)))) (fun x5 : Int =>
  some (bAnd x5 63))))))
theorem c_Integer_bitCount {X : XX} {d : Nat} (hd : 0 ≤ d) {M : Mm} {a0 : Int} {p : Int} (h : f_Integer_bitCount M a0 = some p) : Rn X d m_Integer_bitCount [(0, a0)] M (some (0, p)) M := by
  refine Rn_of (by decide) rfl (Nat.le_of_ble_eq_true rfl) ?_
  unfold f_Integer_bitCount at h
  refine ev_less (L' := [(0, (0, a0))]) [0] rfl ?_
  refine ev_iload_n 0 d_Integer_bitCount_0 rfl rfl ?_
  refine ev_iload_n 0 d_Integer_bitCount_1 rfl rfl ?_
  refine ev_iconst d_Integer_bitCount_2 rfl ?_
  refine ev_iushr d_Integer_bitCount_3 ?_
  refine ev_ldcw (v := 1431655765) d_Integer_bitCount_4 tw_654 rfl ?_
  refine ev_iand d_Integer_bitCount_7 ?_
  refine ev_isub d_Integer_bitCount_8 ?_
  obtain ⟨x1, hx1, h⟩ := ltx h
  refine ev_istore_n' (y := x1) (L' := [(0, (0, x1))]) d_Integer_bitCount_9 rfl (by decide) rfl hx1 ?_
  refine ev_iload_n 0 d_Integer_bitCount_10 rfl rfl ?_
  refine ev_ldcw (v := 858993459) d_Integer_bitCount_11 tw_655 rfl ?_
  refine ev_iand d_Integer_bitCount_14 ?_
  refine ev_iload_n 0 d_Integer_bitCount_15 rfl rfl ?_
  refine ev_iconst d_Integer_bitCount_16 rfl ?_
  refine ev_iushr d_Integer_bitCount_17 ?_
  refine ev_ldcw (v := 858993459) d_Integer_bitCount_18 tw_655 rfl ?_
  refine ev_iand d_Integer_bitCount_21 ?_
  refine ev_iadd d_Integer_bitCount_22 ?_
  obtain ⟨x2, hx2, h⟩ := ltx h
  refine ev_istore_n' (y := x2) (L' := [(0, (0, x2))]) d_Integer_bitCount_23 rfl (by decide) rfl hx2 ?_
  refine ev_iload_n 0 d_Integer_bitCount_24 rfl rfl ?_
  refine ev_iload_n 0 d_Integer_bitCount_25 rfl rfl ?_
  refine ev_iconst d_Integer_bitCount_26 rfl ?_
  refine ev_iushr d_Integer_bitCount_27 ?_
  refine ev_iadd d_Integer_bitCount_28 ?_
  refine ev_ldcw (v := 252645135) d_Integer_bitCount_29 tw_656 rfl ?_
  refine ev_iand d_Integer_bitCount_32 ?_
  obtain ⟨x3, hx3, h⟩ := ltx h
  refine ev_istore_n' (y := x3) (L' := [(0, (0, x3))]) d_Integer_bitCount_33 rfl (by decide) rfl hx3 ?_
  refine ev_iload_n 0 d_Integer_bitCount_34 rfl rfl ?_
  refine ev_iload_n 0 d_Integer_bitCount_35 rfl rfl ?_
  refine ev_bipush d_Integer_bitCount_36 rfl ?_
  refine ev_iushr d_Integer_bitCount_38 ?_
  refine ev_iadd d_Integer_bitCount_39 ?_
  obtain ⟨x4, hx4, h⟩ := ltx h
  refine ev_istore_n' (y := x4) (L' := [(0, (0, x4))]) d_Integer_bitCount_40 rfl (by decide) rfl hx4 ?_
  refine ev_iload_n 0 d_Integer_bitCount_41 rfl rfl ?_
  refine ev_iload_n 0 d_Integer_bitCount_42 rfl rfl ?_
  refine ev_bipush d_Integer_bitCount_43 rfl ?_
  refine ev_iushr d_Integer_bitCount_45 ?_
  refine ev_iadd d_Integer_bitCount_46 ?_
  obtain ⟨x5, hx5, h⟩ := ltx h
  refine ev_istore_n' (y := x5) (L' := [(0, (0, x5))]) d_Integer_bitCount_47 rfl (by decide) rfl hx5 ?_
  refine ev_iload_n 0 d_Integer_bitCount_48 rfl rfl ?_
  refine ev_bipush d_Integer_bitCount_49 rfl ?_
  refine ev_iand d_Integer_bitCount_51 ?_
  cases h
  exact ev_ret d_Integer_bitCount_52 rfl
def l_Cover_leastLack_33 (a0 : Int) (a1 : Int) (z5 : Int) (z6 : Int) (s : Int × Int × Int × Mm) : Option ((Int × Int × Int × Mm) ⊕ (Int × Int × Mm)) :=
  if z6 ≤ s.2.2.1 then
  some (.inr (s.1, s.2.1, s.2.2.2))
  else
  lt ((bOr z6 s.2.2.1)) (fun x5 : Int =>
  if (mg s.2.2.2 (cI a0) 2) ≠ 0 then
  if (0 : Int) ≤ s.2.2.1 ∧ s.2.2.1 < (ml s.2.2.2 (cI (mg s.2.2.2 (cI a0) 2)) : Int) then
  if (mg s.2.2.2 (cI a0) 0) ≠ 0 then
  if (0 : Int) ≤ z5 ∧ z5 < (ml s.2.2.2 (cI (mg s.2.2.2 (cI a0) 0)) : Int) then
  if (0 : Int) ≤ x5 ∧ x5 < (ml s.2.2.2 (cI (mg s.2.2.2 (cI a0) 2)) : Int) then
  lt (mp s.2.2.2 (cI (mg s.2.2.2 (cI a0) 2)) (x5 : Int).toNat (bOr (mg s.2.2.2 (cI (mg s.2.2.2 (cI a0) 2)) (s.2.2.1 : Int).toNat) (mg s.2.2.2 (cI (mg s.2.2.2 (cI a0) 0)) (z5 : Int).toNat))) (fun M11 =>
  (f_Integer_bitCount M11 x5).bind (fun p12 =>
  if (bAnd x5 (bXor (mg M11 (cI a1) 8) (-1))) ≠ 0 then
  lt (w32 (s.2.2.1 + 1)) (fun x14 : Int =>
  some (.inl (s.1, s.2.1, x14, M11)))
  else
  if s.2.1 ≤ p12 then
  lt (w32 (s.2.2.1 + 1)) (fun x16 : Int =>
  some (.inl (s.1, s.2.1, x16, M11)))
  else
  if (mg M11 (cI a0) 2) ≠ 0 then
  if (0 : Int) ≤ x5 ∧ x5 < (ml M11 (cI (mg M11 (cI a0) 2)) : Int) then
  (f_Integer_bitCount M11 (mg M11 (cI (mg M11 (cI a0) 2)) (x5 : Int).toNat)).bind (fun p19 =>
  if p12 ≤ p19 then
  lt (w32 (s.2.2.1 + 1)) (fun x21 : Int =>
  some (.inl (s.1, s.2.1, x21, M11)))
  else
  lt (w32 (s.2.2.1 + 1)) (fun x22 : Int =>
  some (.inl (x5, p12, x22, M11))))
  else none
  else none))
  else none
  else none
  else none
  else none
  else none)
theorem cs_l_Cover_leastLack_33 {X : XX} {d : Nat} (hd : 4 ≤ d) {a0 : Int} {a1 : Int} {z5 : Int} {z6 : Int} (hn_a0 : a0 ≠ 0) (hn_a1 : a1 ≠ 0) {s : Int × Int × Int × Mm} {x : (Int × Int × Int × Mm) ⊕ (Int × Int × Mm)} {r : Option AV} {M' : Mm} (h : l_Cover_leastLack_33 a0 a1 z5 z6 s = some x) (hk1 : ∀ s : Int × Int × Int × Mm, x = .inl s → Ev X m_Cover_leastLack d 33 [(0, (2, a0)), (1, (5, a1)), (3, (0, s.1)), (4, (0, s.2.1)), (5, (0, z5)), (6, (0, z6)), (7, (0, s.2.2.1))] [] s.2.2.2 r M') (hk2 : ∀ t : Int × Int × Mm, x = .inr t → Ev X m_Cover_leastLack d 123 [(0, (2, a0)), (1, (5, a1)), (3, (0, t.1)), (4, (0, t.2.1)), (5, (0, z5))] [] t.2.2 r M') : Ev X m_Cover_leastLack d 33 [(0, (2, a0)), (1, (5, a1)), (3, (0, s.1)), (4, (0, s.2.1)), (5, (0, z5)), (6, (0, z6)), (7, (0, s.2.2.1))] [] s.2.2.2 r M' := by
  unfold l_Cover_leastLack_33 at h
  refine ev_iload 6 d_Cover_leastLack_33 rfl ?_
  refine ev_iload 5 d_Cover_leastLack_35 rfl ?_
  by_cases hc4 : z6 ≤ s.2.2.1
  · replace h := itp hc4 h
    refine ev_icmp_ge_t (tgt := 123) d_Cover_leastLack_37 (by decide) hc4 ?_
    refine ev_less (L' := [(0, (2, a0)), (1, (5, a1)), (3, (0, s.1)), (4, (0, s.2.1)), (5, (0, z5))]) [0, 1, 2, 3, 4] rfl ?_
    cases h
    exact hk2 _ rfl
  · replace h := itn hc4 h
    refine ev_icmp_ge_f d_Cover_leastLack_37 (by decide) hc4 ?_
    refine ev_iload 5 d_Cover_leastLack_40 rfl ?_
    refine ev_iload 6 d_Cover_leastLack_42 rfl ?_
    refine ev_ior d_Cover_leastLack_44 ?_
    obtain ⟨x5, hx5, h⟩ := ltx h
    refine ev_istore' (y := x5) (L' := [(8, (0, x5)), (0, (2, a0)), (1, (5, a1)), (3, (0, s.1)), (4, (0, s.2.1)), (5, (0, z5)), (6, (0, z6)), (7, (0, s.2.2.1))]) d_Cover_leastLack_45 (by decide) rfl hx5 ?_
    refine ev_aload_n 1 d_Cover_leastLack_47 rfl (by decide) rfl ?_
    refine ev_get (t := 2) (k := 2) (by decide) (by decide) rfl i_Cover (by decide) rfl rfl tw_236 d_Cover_leastLack_48 hn_a0 ?_
    refine ev_iload 0 d_Cover_leastLack_51 rfl ?_
    refine ev_aload_n 1 d_Cover_leastLack_53 rfl (by decide) rfl ?_
    refine ev_get (t := 2) (k := 2) (by decide) (by decide) rfl i_Cover (by decide) rfl rfl tw_236 d_Cover_leastLack_54 hn_a0 ?_
    refine ev_iload 7 d_Cover_leastLack_57 rfl ?_
    obtain ⟨hz6, h⟩ := gx h
    obtain ⟨hg7, h⟩ := gx h
    refine ev_iald d_Cover_leastLack_59 hz6 hg7 ?_
    refine ev_aload_n 1 d_Cover_leastLack_60 rfl (by decide) rfl ?_
    refine ev_get (t := 2) (k := 0) (by decide) (by decide) rfl i_Cover (by decide) rfl rfl tw_234 d_Cover_leastLack_61 hn_a0 ?_
    refine ev_iload 5 d_Cover_leastLack_64 rfl ?_
    obtain ⟨hz8, h⟩ := gx h
    obtain ⟨hg9, h⟩ := gx h
    refine ev_iald d_Cover_leastLack_66 hz8 hg9 ?_
    refine ev_ior d_Cover_leastLack_67 ?_
    obtain ⟨hg10, h⟩ := gx h
    obtain ⟨M11, hM11, h⟩ := ltx h
    refine ev_iast' d_Cover_leastLack_68 hz6 hg10 hM11 ?_
    refine ev_iload 0 d_Cover_leastLack_69 rfl ?_
    obtain ⟨p12, hp12, h⟩ := bx h
    have hRp12 := c_Integer_bitCount (X := X) (d := d - 1) (by omega)  hp12
    refine ev_callS2 (st2 := [(0, p12)]) (as := [(0, x5)]) (rest := []) rfl rfl (Nat.le_of_ble_eq_true rfl) k_Integer_bitCount tw_652 (by omega) tw_651 d_Cover_leastLack_71 hRp12 rfl ?_
    refine ev_istore (L' := [(9, (0, p12)), (8, (0, x5)), (0, (2, a0)), (1, (5, a1)), (3, (0, s.1)), (4, (0, s.2.1)), (5, (0, z5)), (6, (0, z6)), (7, (0, s.2.2.1))]) d_Cover_leastLack_74 (by decide) rfl ?_
    refine ev_iload 1 d_Cover_leastLack_76 rfl ?_
    refine ev_aload_n 3 d_Cover_leastLack_78 rfl (by decide) rfl ?_
    refine ev_getN (host := "TownBand") (t := 5) (k := 8) (by decide) (by decide) rfl i_Piece (by decide) rfl rfl tw_98 d_Cover_leastLack_79 hn_a1 ?_
    refine ev_iconst d_Cover_leastLack_82 rfl ?_
    refine ev_ixor d_Cover_leastLack_83 ?_
    refine ev_iand d_Cover_leastLack_84 ?_
    by_cases hc13 : (bAnd x5 (bXor (mg M11 (cI a1) 8) (-1))) ≠ 0
    · replace h := itp hc13 h
      refine ev_if_ne_t (tgt := 117) d_Cover_leastLack_85 (by decide) hc13 ?_
      obtain ⟨x14, hx14, h⟩ := ltx h
      refine ev_iinc' 8 (y := x14) (L' := [(7, (0, x14)), (9, (0, p12)), (8, (0, x5)), (0, (2, a0)), (1, (5, a1)), (3, (0, s.1)), (4, (0, s.2.1)), (5, (0, z5)), (6, (0, z6))]) d_Cover_leastLack_117 rfl (by decide) rfl hx14 ?_
      refine ev_goto (tgt := 33) d_Cover_leastLack_120 (by decide) ?_
      refine ev_less (L' := [(0, (2, a0)), (1, (5, a1)), (3, (0, s.1)), (4, (0, s.2.1)), (5, (0, z5)), (6, (0, z6)), (7, (0, x14))]) [3, 4, 5, 6, 7, 8, 0] rfl ?_
      cases h
      exact hk1 _ rfl
    · replace h := itn hc13 h
      refine ev_if_ne_f d_Cover_leastLack_85 (by decide) hc13 ?_
      refine ev_iload 0 d_Cover_leastLack_88 rfl ?_
      refine ev_iload 5 d_Cover_leastLack_90 rfl ?_
      by_cases hc15 : s.2.1 ≤ p12
      · replace h := itp hc15 h
        refine ev_icmp_ge_t (tgt := 117) d_Cover_leastLack_92 (by decide) hc15 ?_
        obtain ⟨x16, hx16, h⟩ := ltx h
        refine ev_iinc' 8 (y := x16) (L' := [(7, (0, x16)), (9, (0, p12)), (8, (0, x5)), (0, (2, a0)), (1, (5, a1)), (3, (0, s.1)), (4, (0, s.2.1)), (5, (0, z5)), (6, (0, z6))]) d_Cover_leastLack_117 rfl (by decide) rfl hx16 ?_
        refine ev_goto (tgt := 33) d_Cover_leastLack_120 (by decide) ?_
        refine ev_less (L' := [(0, (2, a0)), (1, (5, a1)), (3, (0, s.1)), (4, (0, s.2.1)), (5, (0, z5)), (6, (0, z6)), (7, (0, x16))]) [3, 4, 5, 6, 7, 8, 0] rfl ?_
        cases h
        exact hk1 _ rfl
      · replace h := itn hc15 h
        refine ev_icmp_ge_f d_Cover_leastLack_92 (by decide) hc15 ?_
        refine ev_iload 0 d_Cover_leastLack_95 rfl ?_
        refine ev_aload_n 2 d_Cover_leastLack_97 rfl (by decide) rfl ?_
        refine ev_get (t := 2) (k := 2) (by decide) (by decide) rfl i_Cover (by decide) rfl rfl tw_236 d_Cover_leastLack_98 hn_a0 ?_
        refine ev_iload 1 d_Cover_leastLack_101 rfl ?_
        obtain ⟨hz17, h⟩ := gx h
        obtain ⟨hg18, h⟩ := gx h
        refine ev_iald d_Cover_leastLack_103 hz17 hg18 ?_
        obtain ⟨p19, hp19, h⟩ := bx h
        have hRp19 := c_Integer_bitCount (X := X) (d := d - 1) (by omega)  hp19
        refine ev_callS2 (st2 := [(0, p19), (0, p12)]) (as := [(0, (mg M11 (cI (mg M11 (cI a0) 2)) (x5 : Int).toNat))]) (rest := [(0, p12)]) rfl rfl (Nat.le_of_ble_eq_true rfl) k_Integer_bitCount tw_652 (by omega) tw_651 d_Cover_leastLack_104 hRp19 rfl ?_
        by_cases hc20 : p12 ≤ p19
        · replace h := itp hc20 h
          refine ev_icmp_le_t (tgt := 117) d_Cover_leastLack_107 (by decide) hc20 ?_
          obtain ⟨x21, hx21, h⟩ := ltx h
          refine ev_iinc' 8 (y := x21) (L' := [(7, (0, x21)), (9, (0, p12)), (8, (0, x5)), (0, (2, a0)), (1, (5, a1)), (3, (0, s.1)), (4, (0, s.2.1)), (5, (0, z5)), (6, (0, z6))]) d_Cover_leastLack_117 rfl (by decide) rfl hx21 ?_
          refine ev_goto (tgt := 33) d_Cover_leastLack_120 (by decide) ?_
          refine ev_less (L' := [(0, (2, a0)), (1, (5, a1)), (3, (0, s.1)), (4, (0, s.2.1)), (5, (0, z5)), (6, (0, z6)), (7, (0, x21))]) [3, 4, 5, 6, 7, 8, 0] rfl ?_
          cases h
          exact hk1 _ rfl
        · replace h := itn hc20 h
          refine ev_icmp_le_f d_Cover_leastLack_107 (by decide) hc20 ?_
          refine ev_iload 1 d_Cover_leastLack_110 rfl ?_
          refine ev_istore_n (L' := [(3, (0, x5)), (9, (0, p12)), (8, (0, x5)), (0, (2, a0)), (1, (5, a1)), (4, (0, s.2.1)), (5, (0, z5)), (6, (0, z6)), (7, (0, s.2.2.1))]) d_Cover_leastLack_112 rfl (by decide) rfl ?_
          refine ev_iload 1 d_Cover_leastLack_113 rfl ?_
          refine ev_istore (L' := [(4, (0, p12)), (3, (0, x5)), (9, (0, p12)), (8, (0, x5)), (0, (2, a0)), (1, (5, a1)), (5, (0, z5)), (6, (0, z6)), (7, (0, s.2.2.1))]) d_Cover_leastLack_115 (by decide) rfl ?_
          obtain ⟨x22, hx22, h⟩ := ltx h
          refine ev_iinc' 8 (y := x22) (L' := [(7, (0, x22)), (4, (0, p12)), (3, (0, x5)), (9, (0, p12)), (8, (0, x5)), (0, (2, a0)), (1, (5, a1)), (5, (0, z5)), (6, (0, z6))]) d_Cover_leastLack_117 rfl (by decide) rfl hx22 ?_
          refine ev_goto (tgt := 33) d_Cover_leastLack_120 (by decide) ?_
          refine ev_less (L' := [(0, (2, a0)), (1, (5, a1)), (3, (0, x5)), (4, (0, p12)), (5, (0, z5)), (6, (0, z6)), (7, (0, x22))]) [5, 6, 2, 1, 7, 8, 0] rfl ?_
          cases h
          exact hk1 _ rfl
def l_Cover_leastLack_15 (a0 : Int) (a1 : Int) (s : Int × Int × Int × Mm) : Option ((Int × Int × Int × Mm) ⊕ (Int × Mm)) :=
  if (mg s.2.2.2 (cI a1) 7) ≤ s.2.2.1 then
  some (.inr (s.1, s.2.2.2))
  else
  lt ((bShl 1 s.2.2.1)) (fun x3 : Int =>
  (loopN (l_Cover_leastLack_33 a0 a1 s.2.2.1 x3) FU (s.1, s.2.1, 0, s.2.2.2)).bind (fun t23 =>
  lt (w32 (s.2.2.1 + 1)) (fun x24 : Int =>
  some (.inl (t23.1, t23.2.1, x24, t23.2.2)))))
theorem cs_l_Cover_leastLack_15 {X : XX} {d : Nat} (hd : 4 ≤ d) {a0 : Int} {a1 : Int} (hn_a0 : a0 ≠ 0) (hn_a1 : a1 ≠ 0) {s : Int × Int × Int × Mm} {x : (Int × Int × Int × Mm) ⊕ (Int × Mm)} {r : Option AV} {M' : Mm} (h : l_Cover_leastLack_15 a0 a1 s = some x) (hk1 : ∀ s : Int × Int × Int × Mm, x = .inl s → Ev X m_Cover_leastLack d 15 [(0, (2, a0)), (1, (5, a1)), (3, (0, s.1)), (4, (0, s.2.1)), (5, (0, s.2.2.1))] [] s.2.2.2 r M') (hk2 : ∀ t : Int × Mm, x = .inr t → Ev X m_Cover_leastLack d 129 [(3, (0, t.1))] [] t.2 r M') : Ev X m_Cover_leastLack d 15 [(0, (2, a0)), (1, (5, a1)), (3, (0, s.1)), (4, (0, s.2.1)), (5, (0, s.2.2.1))] [] s.2.2.2 r M' := by
  unfold l_Cover_leastLack_15 at h
  refine ev_iload 4 d_Cover_leastLack_15 rfl ?_
  refine ev_aload_n 1 d_Cover_leastLack_17 rfl (by decide) rfl ?_
  refine ev_getN (host := "TownBand") (t := 5) (k := 7) (by decide) (by decide) rfl i_Piece (by decide) rfl rfl tw_94 d_Cover_leastLack_18 hn_a1 ?_
  by_cases hc2 : (mg s.2.2.2 (cI a1) 7) ≤ s.2.2.1
  · replace h := itp hc2 h
    refine ev_icmp_ge_t (tgt := 129) d_Cover_leastLack_21 (by decide) hc2 ?_
    refine ev_less (L' := [(3, (0, s.1))]) [2] rfl ?_
    cases h
    exact hk2 _ rfl
  · replace h := itn hc2 h
    refine ev_icmp_ge_f d_Cover_leastLack_21 (by decide) hc2 ?_
    refine ev_iconst d_Cover_leastLack_24 rfl ?_
    refine ev_iload 4 d_Cover_leastLack_25 rfl ?_
    refine ev_ishl d_Cover_leastLack_27 ?_
    obtain ⟨x3, hx3, h⟩ := ltx h
    refine ev_istore' (y := x3) (L' := [(6, (0, x3)), (0, (2, a0)), (1, (5, a1)), (3, (0, s.1)), (4, (0, s.2.1)), (5, (0, s.2.2.1))]) d_Cover_leastLack_28 (by decide) rfl hx3 ?_
    refine ev_iconst d_Cover_leastLack_30 rfl ?_
    refine ev_istore (L' := [(7, (0, 0)), (6, (0, x3)), (0, (2, a0)), (1, (5, a1)), (3, (0, s.1)), (4, (0, s.2.1)), (5, (0, s.2.2.1))]) d_Cover_leastLack_31 (by decide) rfl ?_
    obtain ⟨t23, ht23, h⟩ := bx h
    refine ev_less (L' := [(0, (2, a0)), (1, (5, a1)), (3, (0, s.1)), (4, (0, s.2.1)), (5, (0, s.2.2.1)), (6, (0, x3)), (7, (0, 0))]) [2, 3, 4, 5, 6, 1, 0] rfl ?_
    refine loop_ev (step := l_Cover_leastLack_33 a0 a1 s.2.2.1 x3) (P := fun w : Int × Int × Int × Mm => Ev X m_Cover_leastLack d 33 [(0, (2, a0)), (1, (5, a1)), (3, (0, w.1)), (4, (0, w.2.1)), (5, (0, s.2.2.1)), (6, (0, x3)), (7, (0, w.2.2.1))] [] w.2.2.2 r M') (Q := fun w => Ev X m_Cover_leastLack d 123 [(0, (2, a0)), (1, (5, a1)), (3, (0, w.1)), (4, (0, w.2.1)), (5, (0, s.2.2.1))] [] w.2.2 r M') (fun w x hs k1 k2 => cs_l_Cover_leastLack_33 hd hn_a0 hn_a1 hs k1 k2) FU (s.1, s.2.1, 0, s.2.2.2) t23 ht23 ?_
    obtain ⟨x24, hx24, h⟩ := ltx h
    refine ev_iinc' 4 (y := x24) (L' := [(5, (0, x24)), (0, (2, a0)), (1, (5, a1)), (3, (0, t23.1)), (4, (0, t23.2.1))]) d_Cover_leastLack_123 rfl (by decide) rfl hx24 ?_
    refine ev_goto (tgt := 15) d_Cover_leastLack_126 (by decide) ?_
    refine ev_less (L' := [(0, (2, a0)), (1, (5, a1)), (3, (0, t23.1)), (4, (0, t23.2.1)), (5, (0, x24))]) [1, 2, 3, 4, 0] rfl ?_
    cases h
    exact hk1 _ rfl
def f_Cover_leastLack (M : Mm) (a0 : Int) (a1 : Int) (a2 : Int) : Option (Int × Mm) :=
  (f_Cover_findAble M a0 a1 a2).bind (fun p1 =>
  (loopN (l_Cover_leastLack_15 a0 a1) FU (0, 11, 0, p1)).bind (fun t25 =>
  some (t25.1, t25.2)))
theorem c_Cover_leastLack {X : XX} {d : Nat} (hd : 4 ≤ d) {M : Mm} {a0 : Int} {a1 : Int} {a2 : Int} (hn_a0 : a0 ≠ 0) (hn_a1 : a1 ≠ 0) (hn_a2 : a2 ≠ 0) {p : Int × Mm} (h : f_Cover_leastLack M a0 a1 a2 = some p) : Rn X d m_Cover_leastLack [(2, a0), (5, a1), (7, a2)] M (some (0, p.1)) p.2 := by
  refine Rn_of (by decide) rfl (Nat.le_of_ble_eq_true rfl) ?_
  unfold f_Cover_leastLack at h
  refine ev_less (L' := [(0, (2, a0)), (1, (5, a1)), (2, (7, a2))]) [0, 1, 2] rfl ?_
  refine ev_aload_n 0 d_Cover_leastLack_0 rfl (by decide) rfl ?_
  refine ev_aload_n 1 d_Cover_leastLack_1 rfl (by decide) rfl ?_
  refine ev_aload_n 2 d_Cover_leastLack_2 rfl (by decide) rfl ?_
  obtain ⟨p1, hp1, h⟩ := bx h
  have hRp1 := c_Cover_findAble (X := X) (d := d - 1) (by omega) hn_a0 hn_a1 hn_a2 hp1
  refine ev_callV2 (st2 := []) (as := [(5, a1), (7, a2)]) (rest := []) rfl (by decide) (by decide) rfl hn_a0 rfl (Nat.le_of_ble_eq_true rfl) k_Cover_findAble ⟨tw_618, ts_36⟩ (by omega) tw_616 d_Cover_leastLack_3 hRp1 rfl ?_
  refine ev_iconst d_Cover_leastLack_6 rfl ?_
  refine ev_istore_n (L' := [(3, (0, 0)), (0, (2, a0)), (1, (5, a1)), (2, (7, a2))]) d_Cover_leastLack_7 rfl (by decide) rfl ?_
  refine ev_bipush d_Cover_leastLack_8 rfl ?_
  refine ev_istore (L' := [(4, (0, 11)), (3, (0, 0)), (0, (2, a0)), (1, (5, a1)), (2, (7, a2))]) d_Cover_leastLack_10 (by decide) rfl ?_
  refine ev_iconst d_Cover_leastLack_12 rfl ?_
  refine ev_istore (L' := [(5, (0, 0)), (4, (0, 11)), (3, (0, 0)), (0, (2, a0)), (1, (5, a1)), (2, (7, a2))]) d_Cover_leastLack_13 (by decide) rfl ?_
  obtain ⟨t25, ht25, h⟩ := bx h
  refine ev_less (L' := [(0, (2, a0)), (1, (5, a1)), (3, (0, 0)), (4, (0, 11)), (5, (0, 0))]) [3, 4, 2, 1, 0] rfl ?_
  refine loop_ev (step := l_Cover_leastLack_15 a0 a1) (P := fun w : Int × Int × Int × Mm => Ev X m_Cover_leastLack d 15 [(0, (2, a0)), (1, (5, a1)), (3, (0, w.1)), (4, (0, w.2.1)), (5, (0, w.2.2.1))] [] w.2.2.2 (some (0, p.1)) p.2) (Q := fun w => Ev X m_Cover_leastLack d 129 [(3, (0, w.1))] [] w.2 (some (0, p.1)) p.2) (fun w x hs k1 k2 => cs_l_Cover_leastLack_15 hd hn_a0 hn_a1 hs k1 k2) FU (0, 11, 0, p1) t25 ht25 ?_
  refine ev_iload_n 0 d_Cover_leastLack_129 rfl rfl ?_
  cases h
  exact ev_ret d_Cover_leastLack_130 rfl
def f_Piece_init (M : Mm) (a0 : Int) : Option (Mm) :=
  lt (mw M (10 : Int).toNat) (fun M1 =>
  lt (mp M1 (cI a0) 0 ((mN M : Int) + 1)) (fun M2 =>
  lt (mw M2 (40 : Int).toNat) (fun M3 =>
  lt (mp M3 (cI a0) 1 ((mN M2 : Int) + 1)) (fun M4 =>
  lt (mw M4 (10 : Int).toNat) (fun M5 =>
  lt (mp M5 (cI a0) 2 ((mN M4 : Int) + 1)) (fun M6 =>
  some M6))))))
theorem c_Piece_init {X : XX} {d : Nat} (hd : 1 ≤ d) {M : Mm} {a0 : Int} (hn_a0 : a0 ≠ 0) {p : Mm} (h : f_Piece_init M a0 = some p) : Rn X d m_Piece_init [(5, a0)] M none p := by
  refine Rn_of (by decide) rfl (Nat.le_of_ble_eq_true rfl) ?_
  unfold f_Piece_init at h
  refine ev_less (L' := [(0, (5, a0))]) [0] rfl ?_
  refine ev_aload_n 0 d_Piece_init_0 rfl (by decide) rfl ?_
  refine ev_objInit (t := 5) (by decide) (by decide) hn_a0 (Nat.le_of_ble_eq_true rfl) (by omega) tw_74 tw_25 tw_26 d_Piece_init_1 ?_
  refine ev_aload_n 0 d_Piece_init_4 rfl (by decide) rfl ?_
  refine ev_bipush d_Piece_init_5 rfl ?_
  obtain ⟨M1, hM1, h⟩ := ltx h
  refine ev_newI' tw_61 d_Piece_init_7 ⟨by decide, by decide⟩ hM1 ?_
  obtain ⟨M2, hM2, h⟩ := ltx h
  refine ev_putF' (t := 5) (k := 0) (by decide) (by decide) rfl i_Piece t_Piece_ok n_Piece (by decide) rfl rfl rfl rfl rfl rfl tw_75 d_Piece_init_9 hn_a0 hM2 ?_
  refine ev_aload_n 0 d_Piece_init_12 rfl (by decide) rfl ?_
  refine ev_bipush d_Piece_init_13 rfl ?_
  obtain ⟨M3, hM3, h⟩ := ltx h
  refine ev_newI' tw_61 d_Piece_init_15 ⟨by decide, by decide⟩ hM3 ?_
  obtain ⟨M4, hM4, h⟩ := ltx h
  refine ev_putF' (t := 5) (k := 1) (by decide) (by decide) rfl i_Piece t_Piece_ok n_Piece (by decide) rfl rfl rfl rfl rfl rfl tw_77 d_Piece_init_17 hn_a0 hM4 ?_
  refine ev_aload_n 0 d_Piece_init_20 rfl (by decide) rfl ?_
  refine ev_bipush d_Piece_init_21 rfl ?_
  obtain ⟨M5, hM5, h⟩ := ltx h
  refine ev_newI' tw_61 d_Piece_init_23 ⟨by decide, by decide⟩ hM5 ?_
  obtain ⟨M6, hM6, h⟩ := ltx h
  refine ev_putF' (t := 5) (k := 2) (by decide) (by decide) rfl i_Piece t_Piece_ok n_Piece (by decide) rfl rfl rfl rfl rfl rfl tw_78 d_Piece_init_25 hn_a0 hM6 ?_
  cases h
  exact ev_retV d_Piece_init_28 rfl
def l_Library_init_15 (a0 : Int) (s : Int × Mm) : Option ((Int × Mm) ⊕ (Mm)) :=
  if 10 ≤ s.1 then
  some (.inr s.2)
  else
  lt (mw s.2 9) (fun M4 =>
  (f_Piece_init M4 ((mN s.2 : Int) + 1)).bind (fun p5 =>
  if (mg s.2 (cI a0) 0) ≠ 0 then
  if (0 : Int) ≤ s.1 ∧ s.1 < (ml p5 (cI (mg s.2 (cI a0) 0)) : Int) then
  lt (mp p5 (cI (mg s.2 (cI a0) 0)) (s.1 : Int).toNat ((mN s.2 : Int) + 1)) (fun M8 =>
  lt (w32 (s.1 + 1)) (fun x9 : Int =>
  some (.inl (x9, M8))))
  else none
  else none))
theorem cs_l_Library_init_15 {X : XX} {d : Nat} (hd : 2 ≤ d) {a0 : Int} (hn_a0 : a0 ≠ 0) {s : Int × Mm} {x : (Int × Mm) ⊕ (Mm)} {r : Option AV} {M' : Mm} (h : l_Library_init_15 a0 s = some x) (hk1 : ∀ s : Int × Mm, x = .inl s → Ev X m_Library_init d 15 [(0, (3, a0)), (1, (0, s.1))] [] s.2 r M') (hk2 : ∀ t : Mm, x = .inr t → Ev X m_Library_init d 40 [] [] t r M') : Ev X m_Library_init d 15 [(0, (3, a0)), (1, (0, s.1))] [] s.2 r M' := by
  unfold l_Library_init_15 at h
  refine ev_iload_n 1 d_Library_init_15 rfl rfl ?_
  refine ev_bipush d_Library_init_16 rfl ?_
  by_cases hc3 : 10 ≤ s.1
  · replace h := itp hc3 h
    refine ev_icmp_ge_t (tgt := 40) d_Library_init_18 (by decide) hc3 ?_
    refine ev_less (L' := []) [] rfl ?_
    cases h
    exact hk2 _ rfl
  · replace h := itn hc3 h
    refine ev_icmp_ge_f d_Library_init_18 (by decide) hc3 ?_
    refine ev_aload_n 0 d_Library_init_21 rfl (by decide) rfl ?_
    refine ev_get (t := 3) (k := 0) (by decide) (by decide) rfl i_Library (by decide) rfl rfl tw_118 d_Library_init_22 hn_a0 ?_
    refine ev_iload_n 1 d_Library_init_25 rfl rfl ?_
    obtain ⟨M4, hM4, h⟩ := ltx h
    refine ev_new' (t := 5) (by decide) (by decide) rfl i_Piece t_Piece_ok rfl (by decide) (by decide) tw_68 tw_70 tw_5 d_Library_init_26 hM4 ?_
    refine ev_dup d_Library_init_29 (Nat.ne_of_beq_eq_false rfl) ?_
    obtain ⟨p5, hp5, h⟩ := bx h
    have hRp5 := c_Piece_init (X := X) (d := d - 1) (by omega) (nz s.2) hp5
    refine ev_callIN (host := "TownBand") (as := []) (rest := [(5, ((mN s.2 : Int) + 1)), (0, s.1), (16, (mg s.2 (cI a0) 0))]) rfl (by decide) (by decide) (nz s.2) rfl (Nat.le_of_ble_eq_true rfl) k_Piece_init tw_72 rfl rfl (by omega) tw_71 d_Library_init_30 hRp5 ?_
    obtain ⟨hz6, h⟩ := gx h
    obtain ⟨hg7, h⟩ := gx h
    obtain ⟨M8, hM8, h⟩ := ltx h
    refine ev_aast' d_Library_init_33 hz6 hg7 (nz s.2) hM8 ?_
    obtain ⟨x9, hx9, h⟩ := ltx h
    refine ev_iinc' 1 (y := x9) (L' := [(1, (0, x9)), (0, (3, a0))]) d_Library_init_34 rfl (by decide) rfl hx9 ?_
    refine ev_goto (tgt := 15) d_Library_init_37 (by decide) ?_
    refine ev_less (L' := [(0, (3, a0)), (1, (0, x9))]) [1, 0] rfl ?_
    cases h
    exact hk1 _ rfl
def f_Library_init (M : Mm) (a0 : Int) : Option (Mm) :=
  lt (mw M (10 : Int).toNat) (fun M1 =>
  lt (mp M1 (cI a0) 0 ((mN M : Int) + 1)) (fun M2 =>
  (loopN (l_Library_init_15 a0) FU (0, M2)).bind (fun t10 =>
  some t10)))
theorem c_Library_init {X : XX} {d : Nat} (hd : 2 ≤ d) {M : Mm} {a0 : Int} (hn_a0 : a0 ≠ 0) {p : Mm} (h : f_Library_init M a0 = some p) : Rn X d m_Library_init [(3, a0)] M none p := by
  refine Rn_of (by decide) rfl (Nat.le_of_ble_eq_true rfl) ?_
  unfold f_Library_init at h
  refine ev_less (L' := [(0, (3, a0))]) [0] rfl ?_
  refine ev_aload_n 0 d_Library_init_0 rfl (by decide) rfl ?_
  refine ev_objInit (t := 3) (by decide) (by decide) hn_a0 (Nat.le_of_ble_eq_true rfl) (by omega) tw_67 tw_25 tw_26 d_Library_init_1 ?_
  refine ev_aload_n 0 d_Library_init_4 rfl (by decide) rfl ?_
  refine ev_bipush d_Library_init_5 rfl ?_
  obtain ⟨M1, hM1, h⟩ := ltx h
  refine ev_newO' tw_68 d_Library_init_7 ⟨by decide, by decide⟩ hM1 ?_
  obtain ⟨M2, hM2, h⟩ := ltx h
  refine ev_putF' (t := 3) (k := 0) (by decide) (by decide) rfl i_Library t_Library_ok n_Library (by decide) rfl rfl rfl rfl rfl rfl tw_118 d_Library_init_10 hn_a0 hM2 ?_
  refine ev_iconst d_Library_init_13 rfl ?_
  refine ev_istore_n (L' := [(1, (0, 0)), (0, (3, a0))]) d_Library_init_14 rfl (by decide) rfl ?_
  obtain ⟨t10, ht10, h⟩ := bx h
  refine ev_less (L' := [(0, (3, a0)), (1, (0, 0))]) [1, 0] rfl ?_
  refine loop_ev (step := l_Library_init_15 a0) (P := fun w : Int × Mm => Ev X m_Library_init d 15 [(0, (3, a0)), (1, (0, w.1))] [] w.2 none p) (Q := fun w => Ev X m_Library_init d 40 [] [] w none p) (fun w x hs k1 k2 => cs_l_Library_init_15 hd hn_a0 hs k1 k2) FU (0, M2) t10 ht10 ?_
  cases h
  exact ev_retV d_Library_init_40 rfl
def f_Library_find (M : Mm) (a0 : Int) (a1 : Int) : Option (Int) :=
  if a1 < 0 then
  some 0
  else
  if (mg M (cI a0) 1) ≤ a1 then
  some 0
  else
  if (mg M (cI a0) 0) ≠ 0 then
  if (0 : Int) ≤ a1 ∧ a1 < (ml M (cI (mg M (cI a0) 0)) : Int) then
  some (mg M (cI (mg M (cI a0) 0)) (a1 : Int).toNat)
  else none
  else none
theorem c_Library_find {X : XX} {d : Nat} (hd : 0 ≤ d) {M : Mm} {a0 : Int} {a1 : Int} (hn_a0 : a0 ≠ 0) {p : Int} (h : f_Library_find M a0 a1 = some p) : Rn X d m_Library_find [(3, a0), (0, a1)] M (some (5, p)) M := by
  refine Rn_of (by decide) rfl (Nat.le_of_ble_eq_true rfl) ?_
  unfold f_Library_find at h
  refine ev_less (L' := [(0, (3, a0)), (1, (0, a1))]) [0, 1] rfl ?_
  refine ev_iload_n 1 d_Library_find_0 rfl rfl ?_
  by_cases hc1 : a1 < 0
  · replace h := itp hc1 h
    refine ev_if_lt_t (tgt := 21) d_Library_find_1 (by decide) hc1 ?_
    refine ev_null (t := 5) (by decide) (by decide) d_Library_find_21 ?_
    cases h
    exact ev_retA (by decide) (by decide) d_Library_find_22 rfl
  · replace h := itn hc1 h
    refine ev_if_lt_f d_Library_find_1 (by decide) hc1 ?_
    refine ev_iload_n 1 d_Library_find_4 rfl rfl ?_
    refine ev_aload_n 0 d_Library_find_5 rfl (by decide) rfl ?_
    refine ev_get (t := 3) (k := 1) (by decide) (by decide) rfl i_Library (by decide) rfl rfl tw_119 d_Library_find_6 hn_a0 ?_
    by_cases hc2 : (mg M (cI a0) 1) ≤ a1
    · replace h := itp hc2 h
      refine ev_icmp_ge_t (tgt := 21) d_Library_find_9 (by decide) hc2 ?_
      refine ev_null (t := 5) (by decide) (by decide) d_Library_find_21 ?_
      cases h
      exact ev_retA (by decide) (by decide) d_Library_find_22 rfl
    · replace h := itn hc2 h
      refine ev_icmp_ge_f d_Library_find_9 (by decide) hc2 ?_
      refine ev_aload_n 0 d_Library_find_12 rfl (by decide) rfl ?_
      refine ev_get (t := 3) (k := 0) (by decide) (by decide) rfl i_Library (by decide) rfl rfl tw_118 d_Library_find_13 hn_a0 ?_
      refine ev_iload_n 1 d_Library_find_16 rfl rfl ?_
      obtain ⟨hz3, h⟩ := gx h
      obtain ⟨hg4, h⟩ := gx h
      refine ev_aald d_Library_find_17 hz3 hg4 ?_
      refine ev_goto (tgt := 22) d_Library_find_18 (by decide) ?_
      cases h
      exact ev_retA (by decide) (by decide) d_Library_find_22 rfl
end
