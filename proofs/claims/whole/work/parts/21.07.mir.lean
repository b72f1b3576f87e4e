noncomputable section
def f_Band_chair (M : Mm) (a0 : Int) (a1 : Int) (a2 : Int) : Option (Int) :=
  if (mg M (cI a0) 1) ≠ 0 then
  (f_Library_find M (mg M (cI a0) 1) a1).bind (fun p2 =>
  if p2 = 0 then
  some (-1)
  else
  (f_Piece_hasPart M p2 a2).bind (fun p4 =>
  if p4 ≠ 0 then
  if (mg M (cI p2) 2) ≠ 0 then
  if (0 : Int) ≤ a2 ∧ a2 < (ml M (cI (mg M (cI p2) 2)) : Int) then
  some (mg M (cI (mg M (cI p2) 2)) (a2 : Int).toNat)
  else none
  else none
  else
  some (-1)))
  else none
theorem c_Band_chair {X : XX} {d : Nat} (hd : 1 ≤ d) {M : Mm} {a0 : Int} {a1 : Int} {a2 : Int} (hn_a0 : a0 ≠ 0) {p : Int} (h : f_Band_chair M a0 a1 a2 = some p) : Rn X d m_Band_chair [(11, a0), (0, a1), (0, a2)] M (some (0, p)) M := by
  refine Rn_of (by decide) rfl (Nat.le_of_ble_eq_true rfl) ?_
  unfold f_Band_chair at h
  refine ev_less (L' := [(0, (11, a0)), (1, (0, a1)), (2, (0, a2))]) [0, 1, 2] rfl ?_
  refine ev_aload_n 0 d_Band_chair_0 rfl (by decide) rfl ?_
  refine ev_get (t := 11) (k := 1) (by decide) (by decide) rfl i_Band (by decide) rfl rfl tw_314 d_Band_chair_1 hn_a0 ?_
  refine ev_iload_n 1 d_Band_chair_4 rfl rfl ?_
  obtain ⟨hz1, h⟩ := gx h
  obtain ⟨p2, hp2, h⟩ := bx h
  have hRp2 := c_Library_find (X := X) (d := d - 1) (by omega) hz1 hp2
  refine ev_callVN2 (host := "TownBand") (st2 := [(5, p2)]) (as := [(0, a1)]) (rest := []) rfl (by decide) (by decide) rfl hz1 rfl (Nat.le_of_ble_eq_true rfl) k_Library_find ⟨tw_594, ts_31⟩ (by omega) tw_592 d_Band_chair_5 hRp2 rfl ?_
  refine ev_astore_n (L' := [(3, (5, p2)), (0, (11, a0)), (1, (0, a1)), (2, (0, a2))]) d_Band_chair_8 rfl (by decide) (by decide) rfl ?_
  refine ev_aload_n 0 d_Band_chair_9 rfl (by decide) rfl ?_
  by_cases hc3 : p2 = 0
  · replace h := itp hc3 h
    refine ev_ifnull_t (tgt := 21) (by decide) (by decide) d_Band_chair_10 (by decide) hc3 ?_
    refine ev_iconst d_Band_chair_21 rfl ?_
    cases h
    exact ev_ret d_Band_chair_22 rfl
  · replace h := itn hc3 h
    refine ev_ifnull_f (by decide) (by decide) d_Band_chair_10 hc3 ?_
    refine ev_aload_n 0 d_Band_chair_13 rfl (by decide) rfl ?_
    refine ev_iload_n 3 d_Band_chair_14 rfl rfl ?_
    obtain ⟨p4, hp4, h⟩ := bx h
    have hRp4 := c_Piece_hasPart (X := X) (d := d - 1) (by omega) hc3 hp4
    refine ev_callVN2 (host := "TownBand") (st2 := [(0, p4)]) (as := [(0, a2)]) (rest := []) rfl (by decide) (by decide) rfl hc3 rfl (Nat.le_of_ble_eq_true rfl) k_Piece_hasPart ⟨tw_606, ts_34⟩ (by omega) tw_724 d_Band_chair_15 hRp4 rfl ?_
    by_cases hc5 : p4 ≠ 0
    · replace h := itp hc5 h
      refine ev_if_ne_t (tgt := 23) d_Band_chair_18 (by decide) hc5 ?_
      refine ev_aload_n 0 d_Band_chair_23 rfl (by decide) rfl ?_
      refine ev_getN (host := "TownBand") (t := 5) (k := 2) (by decide) (by decide) rfl i_Piece (by decide) rfl rfl tw_81 d_Band_chair_24 hc3 ?_
      refine ev_iload_n 3 d_Band_chair_27 rfl rfl ?_
      obtain ⟨hz6, h⟩ := gx h
      obtain ⟨hg7, h⟩ := gx h
      refine ev_iald d_Band_chair_28 hz6 hg7 ?_
      cases h
      exact ev_ret d_Band_chair_29 rfl
    · replace h := itn hc5 h
      refine ev_if_ne_f d_Band_chair_18 (by decide) hc5 ?_
      refine ev_iconst d_Band_chair_21 rfl ?_
      cases h
      exact ev_ret d_Band_chair_22 rfl
def j_Band_sit_69 (M : Mm) (a2 : Int) (a3 : Int) (z4 : Int) : Option (Int × Mm) :=
  if (mg M (cI z4) 2) ≠ 0 then
  if (0 : Int) ≤ a2 ∧ a2 < (ml M (cI (mg M (cI z4) 2)) : Int) then
  lt (mp M (cI (mg M (cI z4) 2)) (a2 : Int).toNat a3) (fun M9 =>
  some (1, M9))
  else none
  else none
theorem cj_Band_sit_69 {X : XX} {d : Nat} (hd : 2 ≤ d) {M : Mm} {a2 : Int} {a3 : Int} {z4 : Int} (hn_z4 : z4 ≠ 0) {p : Int × Mm} (h : j_Band_sit_69 M a2 a3 z4 = some p) : Ev X m_Band_sit d 69 [(2, (0, a2)), (3, (0, a3)), (4, (5, z4))] [] M (some (0, p.1)) p.2 := by
  unfold j_Band_sit_69 at h
  refine ev_aload 2 d_Band_sit_69 (by decide) rfl ?_
  refine ev_getN (host := "TownBand") (t := 5) (k := 2) (by decide) (by decide) rfl i_Piece (by decide) rfl rfl tw_81 d_Band_sit_71 hn_z4 ?_
  refine ev_iload_n 0 d_Band_sit_74 rfl rfl ?_
  refine ev_iload_n 1 d_Band_sit_75 rfl rfl ?_
  obtain ⟨hz7, h⟩ := gx h
  obtain ⟨hg8, h⟩ := gx h
  obtain ⟨M9, hM9, h⟩ := ltx h
  refine ev_iast' d_Band_sit_76 hz7 hg8 hM9 ?_
  refine ev_iconst d_Band_sit_77 rfl ?_
  cases h
  exact ev_retZ d_Band_sit_78 rfl (Or.inr rfl)
def f_Band_sit (M : Mm) (a0 : Int) (a1 : Int) (a2 : Int) (a3 : Int) : Option (Int × Mm) :=
  if (mg M (cI a0) 1) ≠ 0 then
  (f_Library_find M (mg M (cI a0) 1) a1).bind (fun p2 =>
  if p2 = 0 then
  some (0, M)
  else
  (f_Piece_hasPart M p2 a2).bind (fun p4 =>
  if p4 ≠ 0 then
  if a3 = (-1) then
  j_Band_sit_69 M a2 a3 p2
  else
  if (mg M (cI a0) 0) ≠ 0 then
  (f_Players_has M (mg M (cI a0) 0) a3).bind (fun p11 =>
  if p11 = 0 then
  some (0, M)
  else
  (f_Players_partCost M (mg M (cI a0) 0) a3 p2 a2).bind (fun p13 =>
  if p13 = (-1) then
  some (0, M)
  else
  (f_Piece_seatsElsewhere M p2 a3 a2).bind (fun p15 =>
  if p15 = 0 then
  j_Band_sit_69 M a2 a3 p2
  else
  some (0, M))))
  else none
  else
  some (0, M)))
  else none
theorem c_Band_sit {X : XX} {d : Nat} (hd : 2 ≤ d) {M : Mm} {a0 : Int} {a1 : Int} {a2 : Int} {a3 : Int} (hn_a0 : a0 ≠ 0) {p : Int × Mm} (h : f_Band_sit M a0 a1 a2 a3 = some p) : Rn X d m_Band_sit [(11, a0), (0, a1), (0, a2), (0, a3)] M (some (0, p.1)) p.2 := by
  refine Rn_of (by decide) rfl (Nat.le_of_ble_eq_true rfl) ?_
  unfold f_Band_sit at h
  refine ev_less (L' := [(0, (11, a0)), (1, (0, a1)), (2, (0, a2)), (3, (0, a3))]) [0, 1, 2, 3] rfl ?_
  refine ev_aload_n 0 d_Band_sit_0 rfl (by decide) rfl ?_
  refine ev_get (t := 11) (k := 1) (by decide) (by decide) rfl i_Band (by decide) rfl rfl tw_314 d_Band_sit_1 hn_a0 ?_
  refine ev_iload_n 1 d_Band_sit_4 rfl rfl ?_
  obtain ⟨hz1, h⟩ := gx h
  obtain ⟨p2, hp2, h⟩ := bx h
  have hRp2 := c_Library_find (X := X) (d := d - 1) (by omega) hz1 hp2
  refine ev_callVN2 (host := "TownBand") (st2 := [(5, p2)]) (as := [(0, a1)]) (rest := []) rfl (by decide) (by decide) rfl hz1 rfl (Nat.le_of_ble_eq_true rfl) k_Library_find ⟨tw_594, ts_31⟩ (by omega) tw_592 d_Band_sit_5 hRp2 rfl ?_
  refine ev_astore (L' := [(4, (5, p2)), (0, (11, a0)), (1, (0, a1)), (2, (0, a2)), (3, (0, a3))]) d_Band_sit_8 (by decide) (by decide) rfl ?_
  refine ev_aload 0 d_Band_sit_10 (by decide) rfl ?_
  by_cases hc3 : p2 = 0
  · replace h := itp hc3 h
    refine ev_ifnull_t (tgt := 24) (by decide) (by decide) d_Band_sit_12 (by decide) hc3 ?_
    refine ev_iconst d_Band_sit_24 rfl ?_
    cases h
    exact ev_retZ d_Band_sit_25 rfl (Or.inl rfl)
  · replace h := itn hc3 h
    refine ev_ifnull_f (by decide) (by decide) d_Band_sit_12 hc3 ?_
    refine ev_aload 0 d_Band_sit_15 (by decide) rfl ?_
    refine ev_iload_n 3 d_Band_sit_17 rfl rfl ?_
    obtain ⟨p4, hp4, h⟩ := bx h
    have hRp4 := c_Piece_hasPart (X := X) (d := d - 1) (by omega) hc3 hp4
    refine ev_callVN2 (host := "TownBand") (st2 := [(0, p4)]) (as := [(0, a2)]) (rest := []) rfl (by decide) (by decide) rfl hc3 rfl (Nat.le_of_ble_eq_true rfl) k_Piece_hasPart ⟨tw_606, ts_34⟩ (by omega) tw_724 d_Band_sit_18 hRp4 rfl ?_
    by_cases hc5 : p4 ≠ 0
    · replace h := itp hc5 h
      refine ev_if_ne_t (tgt := 26) d_Band_sit_21 (by decide) hc5 ?_
      refine ev_iload_n 4 d_Band_sit_26 rfl rfl ?_
      refine ev_iconst d_Band_sit_27 rfl ?_
      by_cases hc6 : a3 = (-1)
      · replace h := itp hc6 h
        refine ev_icmp_eq_t (tgt := 69) d_Band_sit_28 (by decide) hc6 ?_
        refine ev_less (L' := [(2, (0, a2)), (3, (0, a3)), (4, (5, p2))]) [3, 4, 0] rfl ?_
        exact cj_Band_sit_69 hd hc3 h
      · replace h := itn hc6 h
        refine ev_icmp_eq_f d_Band_sit_28 (by decide) hc6 ?_
        refine ev_aload_n 1 d_Band_sit_31 rfl (by decide) rfl ?_
        refine ev_get (t := 11) (k := 0) (by decide) (by decide) rfl i_Band (by decide) rfl rfl tw_313 d_Band_sit_32 hn_a0 ?_
        refine ev_iload_n 4 d_Band_sit_35 rfl rfl ?_
        obtain ⟨hz10, h⟩ := gx h
        obtain ⟨p11, hp11, h⟩ := bx h
        have hRp11 := c_Players_has (X := X) (d := d - 1) (by omega) hz10 hp11
        refine ev_callVN2 (host := "TownBand") (st2 := [(0, p11)]) (as := [(0, a3)]) (rest := []) rfl (by decide) (by decide) rfl hz10 rfl (Nat.le_of_ble_eq_true rfl) k_Players_has ⟨tw_358, ts_1⟩ (by omega) tw_356 d_Band_sit_36 hRp11 rfl ?_
        by_cases hc12 : p11 = 0
        · replace h := itp hc12 h
          refine ev_if_eq_t (tgt := 67) d_Band_sit_39 (by decide) hc12 ?_
          refine ev_iconst d_Band_sit_67 rfl ?_
          cases h
          exact ev_retZ d_Band_sit_68 rfl (Or.inl rfl)
        · replace h := itn hc12 h
          refine ev_if_eq_f d_Band_sit_39 (by decide) hc12 ?_
          refine ev_aload_n 1 d_Band_sit_42 rfl (by decide) rfl ?_
          refine ev_get (t := 11) (k := 0) (by decide) (by decide) rfl i_Band (by decide) rfl rfl tw_313 d_Band_sit_43 hn_a0 ?_
          refine ev_iload_n 4 d_Band_sit_46 rfl rfl ?_
          refine ev_aload 0 d_Band_sit_47 (by decide) rfl ?_
          refine ev_iload_n 3 d_Band_sit_49 rfl rfl ?_
          obtain ⟨p13, hp13, h⟩ := bx h
          have hRp13 := c_Players_partCost (X := X) (d := d - 1) (by omega) hz10 hc3 hp13
          refine ev_callVN2 (host := "TownBand") (st2 := [(0, p13)]) (as := [(0, a3), (5, p2), (0, a2)]) (rest := []) rfl (by decide) (by decide) rfl hz10 rfl (Nat.le_of_ble_eq_true rfl) k_Players_partCost ⟨tw_634, ts_40⟩ (by omega) tw_729 d_Band_sit_50 hRp13 rfl ?_
          refine ev_iconst d_Band_sit_53 rfl ?_
          by_cases hc14 : p13 = (-1)
          · replace h := itp hc14 h
            refine ev_icmp_eq_t (tgt := 67) d_Band_sit_54 (by decide) hc14 ?_
            refine ev_iconst d_Band_sit_67 rfl ?_
            cases h
            exact ev_retZ d_Band_sit_68 rfl (Or.inl rfl)
          · replace h := itn hc14 h
            refine ev_icmp_eq_f d_Band_sit_54 (by decide) hc14 ?_
            refine ev_aload 0 d_Band_sit_57 (by decide) rfl ?_
            refine ev_iload_n 4 d_Band_sit_59 rfl rfl ?_
            refine ev_iload_n 3 d_Band_sit_60 rfl rfl ?_
            obtain ⟨p15, hp15, h⟩ := bx h
            have hRp15 := c_Piece_seatsElsewhere (X := X) (d := d - 1) (by omega) hc3 hp15
            refine ev_callVN2 (host := "TownBand") (st2 := [(0, p15)]) (as := [(0, a3), (0, a2)]) (rest := []) rfl (by decide) (by decide) rfl hc3 rfl (Nat.le_of_ble_eq_true rfl) k_Piece_seatsElsewhere ⟨tw_732, ts_53⟩ (by omega) tw_730 d_Band_sit_61 hRp15 rfl ?_
            by_cases hc16 : p15 = 0
            · replace h := itp hc16 h
              refine ev_if_eq_t (tgt := 69) d_Band_sit_64 (by decide) hc16 ?_
              refine ev_less (L' := [(2, (0, a2)), (3, (0, a3)), (4, (5, p2))]) [3, 4, 0] rfl ?_
              exact cj_Band_sit_69 hd hc3 h
            · replace h := itn hc16 h
              refine ev_if_eq_f d_Band_sit_64 (by decide) hc16 ?_
              refine ev_iconst d_Band_sit_67 rfl ?_
              cases h
              exact ev_retZ d_Band_sit_68 rfl (Or.inl rfl)
    · replace h := itn hc5 h
      refine ev_if_ne_f d_Band_sit_21 (by decide) hc5 ?_
      refine ev_iconst d_Band_sit_24 rfl ?_
      cases h
      exact ev_retZ d_Band_sit_25 rfl (Or.inl rfl)
def f_Band_seating (M : Mm) (a0 : Int) (a1 : Int) (a2 : Int) : Option (Int) :=
  if (mg M (cI a0) 1) ≠ 0 then
  (f_Library_find M (mg M (cI a0) 1) a1).bind (fun p2 =>
  if p2 ≠ 0 then
  if a2 = 0 then
  if (mg M (cI a0) 0) ≠ 0 then
  (f_Players_seatingCost M (mg M (cI a0) 0) p2).bind (fun p6 =>
  some p6)
  else none
  else
  if a2 = 1 then
  (f_Piece_seated M p2).bind (fun p8 =>
  some p8)
  else
  if a2 = 2 then
  if (mg M (cI a0) 0) ≠ 0 then
  (f_Players_seatedButAway M (mg M (cI a0) 0) p2).bind (fun p11 =>
  some p11)
  else none
  else
  some (-1)
  else
  some (-1))
  else none
theorem c_Band_seating {X : XX} {d : Nat} (hd : 3 ≤ d) {M : Mm} {a0 : Int} {a1 : Int} {a2 : Int} (hn_a0 : a0 ≠ 0) {p : Int} (h : f_Band_seating M a0 a1 a2 = some p) : Rn X d m_Band_seating [(11, a0), (0, a1), (0, a2)] M (some (0, p)) M := by
  refine Rn_of (by decide) rfl (Nat.le_of_ble_eq_true rfl) ?_
  unfold f_Band_seating at h
  refine ev_less (L' := [(0, (11, a0)), (1, (0, a1)), (2, (0, a2))]) [0, 1, 2] rfl ?_
  refine ev_aload_n 0 d_Band_seating_0 rfl (by decide) rfl ?_
  refine ev_get (t := 11) (k := 1) (by decide) (by decide) rfl i_Band (by decide) rfl rfl tw_314 d_Band_seating_1 hn_a0 ?_
  refine ev_iload_n 1 d_Band_seating_4 rfl rfl ?_
  obtain ⟨hz1, h⟩ := gx h
  obtain ⟨p2, hp2, h⟩ := bx h
  have hRp2 := c_Library_find (X := X) (d := d - 1) (by omega) hz1 hp2
  refine ev_callVN2 (host := "TownBand") (st2 := [(5, p2)]) (as := [(0, a1)]) (rest := []) rfl (by decide) (by decide) rfl hz1 rfl (Nat.le_of_ble_eq_true rfl) k_Library_find ⟨tw_594, ts_31⟩ (by omega) tw_592 d_Band_seating_5 hRp2 rfl ?_
  refine ev_astore_n (L' := [(3, (5, p2)), (0, (11, a0)), (1, (0, a1)), (2, (0, a2))]) d_Band_seating_8 rfl (by decide) (by decide) rfl ?_
  refine ev_aload_n 0 d_Band_seating_9 rfl (by decide) rfl ?_
  by_cases hc3 : p2 ≠ 0
  · replace h := itp hc3 h
    refine ev_ifnonnull_t (tgt := 15) (by decide) (by decide) d_Band_seating_10 (by decide) hc3 ?_
    refine ev_iload_n 3 d_Band_seating_15 rfl rfl ?_
    by_cases hc4 : a2 = 0
    · replace h := itp hc4 h
      refine ev_tabIn (tgt := 44) 0 d_Band_seating_16 (by rw [hc4]; rfl) (by decide) rfl (by decide) ?_
      refine ev_aload_n 1 d_Band_seating_44 rfl (by decide) rfl ?_
      refine ev_get (t := 11) (k := 0) (by decide) (by decide) rfl i_Band (by decide) rfl rfl tw_313 d_Band_seating_45 hn_a0 ?_
      refine ev_aload_n 0 d_Band_seating_48 rfl (by decide) rfl ?_
      obtain ⟨hz5, h⟩ := gx h
      obtain ⟨p6, hp6, h⟩ := bx h
      have hRp6 := c_Players_seatingCost (X := X) (d := d - 1) (by omega) hz5 hc3 hp6
      refine ev_callVN2 (host := "TownBand") (st2 := [(0, p6)]) (as := [(5, p2)]) (rest := []) rfl (by decide) (by decide) rfl hz5 rfl (Nat.le_of_ble_eq_true rfl) k_Players_seatingCost ⟨tw_740, ts_54⟩ (by omega) tw_738 d_Band_seating_49 hRp6 rfl ?_
      cases h
      exact ev_ret d_Band_seating_52 rfl
    · replace h := itn hc4 h
      by_cases hc7 : a2 = 1
      · replace h := itp hc7 h
        refine ev_tabIn (tgt := 53) 1 d_Band_seating_16 (by rw [hc7]; rfl) (by decide) rfl (by decide) ?_
        refine ev_aload_n 0 d_Band_seating_53 rfl (by decide) rfl ?_
        obtain ⟨p8, hp8, h⟩ := bx h
        have hRp8 := c_Piece_seated (X := X) (d := d - 1) (by omega) hc3 hp8
        refine ev_callVN2 (host := "TownBand") (st2 := [(0, p8)]) (as := []) (rest := []) rfl (by decide) (by decide) rfl hc3 rfl (Nat.le_of_ble_eq_true rfl) k_Piece_seated ⟨tw_710, ts_51⟩ (by omega) tw_708 d_Band_seating_54 hRp8 rfl ?_
        cases h
        exact ev_ret d_Band_seating_57 rfl
      · replace h := itn hc7 h
        by_cases hc9 : a2 = 2
        · replace h := itp hc9 h
          refine ev_tabIn (tgt := 58) 2 d_Band_seating_16 (by rw [hc9]; rfl) (by decide) rfl (by decide) ?_
          refine ev_aload_n 1 d_Band_seating_58 rfl (by decide) rfl ?_
          refine ev_get (t := 11) (k := 0) (by decide) (by decide) rfl i_Band (by decide) rfl rfl tw_313 d_Band_seating_59 hn_a0 ?_
          refine ev_aload_n 0 d_Band_seating_62 rfl (by decide) rfl ?_
          obtain ⟨hz10, h⟩ := gx h
          obtain ⟨p11, hp11, h⟩ := bx h
          have hRp11 := c_Players_seatedButAway (X := X) (d := d - 1) (by omega) hz10 hc3 hp11
          refine ev_callVN2 (host := "TownBand") (st2 := [(0, p11)]) (as := [(5, p2)]) (rest := []) rfl (by decide) (by decide) rfl hz10 rfl (Nat.le_of_ble_eq_true rfl) k_Players_seatedButAway ⟨tw_748, ts_55⟩ (by omega) tw_746 d_Band_seating_63 hRp11 rfl ?_
          cases h
          exact ev_ret d_Band_seating_66 rfl
        · replace h := itn hc9 h
          refine ev_tabOut (tgt := 67) d_Band_seating_16 (by omega) (by decide) ?_
          refine ev_iconst d_Band_seating_67 rfl ?_
          cases h
          exact ev_ret d_Band_seating_68 rfl
  · replace h := itn hc3 h
    refine ev_ifnonnull_f (by decide) (by decide) d_Band_seating_10 hc3 ?_
    refine ev_iconst d_Band_seating_13 rfl ?_
    cases h
    exact ev_ret d_Band_seating_14 rfl
def l_Band_programme_32 (a0 : Int) (a1 : Int) (a2 : Int) (s : Int × Mm) : Option ((Int × Mm) ⊕ (Mm)) :=
  if (mg s.2 (cI a0) 1) ≠ 0 then
  if (mg s.2 (cI (mg s.2 (cI a0) 1)) 1) ≤ s.1 then
  some (.inr s.2)
  else
  (f_Library_find s.2 (mg s.2 (cI a0) 1) s.1).bind (fun p9 =>
  if p9 = 0 then
  lt (w32 (s.1 + 1)) (fun x11 : Int =>
  some (.inl (x11, s.2)))
  else
  if (mg s.2 (cI a0) 5) ≠ 0 then
  if (mg s.2 (cI a0) 0) ≠ 0 then
  (f_Cover_coversMust s.2 (mg s.2 (cI a0) 5) p9 (mg s.2 (cI a0) 0)).bind (fun p14 =>
  if p14.1 = 0 then
  lt (w32 (s.1 + 1)) (fun x16 : Int =>
  some (.inl (x16, p14.2)))
  else
  if (mg p14.2 (cI a0) 7) ≠ 0 then
  (f_Planner_offer p14.2 (mg p14.2 (cI a0) 7) s.1 p9).bind (fun p18 =>
  lt (w32 (s.1 + 1)) (fun x19 : Int =>
  some (.inl (x19, p18))))
  else none)
  else none
  else none)
  else none
theorem cs_l_Band_programme_32 {X : XX} {d : Nat} (hd : 14 ≤ d) {a0 : Int} {a1 : Int} {a2 : Int} (hn_a0 : a0 ≠ 0) {s : Int × Mm} {x : (Int × Mm) ⊕ (Mm)} {r : Option AV} {M' : Mm} (h : l_Band_programme_32 a0 a1 a2 s = some x) (hk1 : ∀ s : Int × Mm, x = .inl s → Ev X m_Band_programme d 32 [(0, (11, a0)), (1, (0, a1)), (2, (0, a2)), (3, (0, s.1))] [] s.2 r M') (hk2 : ∀ t : Mm, x = .inr t → Ev X m_Band_programme d 90 [(0, (11, a0)), (1, (0, a1)), (2, (0, a2))] [] t r M') : Ev X m_Band_programme d 32 [(0, (11, a0)), (1, (0, a1)), (2, (0, a2)), (3, (0, s.1))] [] s.2 r M' := by
  unfold l_Band_programme_32 at h
  refine ev_iload_n 3 d_Band_programme_32 rfl rfl ?_
  refine ev_aload_n 0 d_Band_programme_33 rfl (by decide) rfl ?_
  refine ev_get (t := 11) (k := 1) (by decide) (by decide) rfl i_Band (by decide) rfl rfl tw_314 d_Band_programme_34 hn_a0 ?_
  obtain ⟨hz7, h⟩ := gx h
  refine ev_getN (host := "TownBand") (t := 3) (k := 1) (by decide) (by decide) rfl i_Library (by decide) rfl rfl tw_120 d_Band_programme_37 hz7 ?_
  by_cases hc8 : (mg s.2 (cI (mg s.2 (cI a0) 1)) 1) ≤ s.1
  · replace h := itp hc8 h
    refine ev_icmp_ge_t (tgt := 90) d_Band_programme_40 (by decide) hc8 ?_
    refine ev_less (L' := [(0, (11, a0)), (1, (0, a1)), (2, (0, a2))]) [0, 1, 2] rfl ?_
    cases h
    exact hk2 _ rfl
  · replace h := itn hc8 h
    refine ev_icmp_ge_f d_Band_programme_40 (by decide) hc8 ?_
    refine ev_aload_n 0 d_Band_programme_43 rfl (by decide) rfl ?_
    refine ev_get (t := 11) (k := 1) (by decide) (by decide) rfl i_Band (by decide) rfl rfl tw_314 d_Band_programme_44 hn_a0 ?_
    refine ev_iload_n 3 d_Band_programme_47 rfl rfl ?_
    obtain ⟨p9, hp9, h⟩ := bx h
    have hRp9 := c_Library_find (X := X) (d := d - 1) (by omega) hz7 hp9
    refine ev_callVN2 (host := "TownBand") (st2 := [(5, p9)]) (as := [(0, s.1)]) (rest := []) rfl (by decide) (by decide) rfl hz7 rfl (Nat.le_of_ble_eq_true rfl) k_Library_find ⟨tw_594, ts_31⟩ (by omega) tw_592 d_Band_programme_48 hRp9 rfl ?_
    refine ev_astore (L' := [(4, (5, p9)), (0, (11, a0)), (1, (0, a1)), (2, (0, a2)), (3, (0, s.1))]) d_Band_programme_51 (by decide) (by decide) rfl ?_
    refine ev_aload 0 d_Band_programme_53 (by decide) rfl ?_
    by_cases hc10 : p9 = 0
    · replace h := itp hc10 h
      refine ev_ifnull_t (tgt := 84) (by decide) (by decide) d_Band_programme_55 (by decide) hc10 ?_
      obtain ⟨x11, hx11, h⟩ := ltx h
      refine ev_iinc' 4 (y := x11) (L' := [(3, (0, x11)), (4, (5, p9)), (0, (11, a0)), (1, (0, a1)), (2, (0, a2))]) d_Band_programme_84 rfl (by decide) rfl hx11 ?_
      refine ev_goto (tgt := 32) d_Band_programme_87 (by decide) ?_
      refine ev_less (L' := [(0, (11, a0)), (1, (0, a1)), (2, (0, a2)), (3, (0, x11))]) [2, 3, 4, 0] rfl ?_
      cases h
      exact hk1 _ rfl
    · replace h := itn hc10 h
      refine ev_ifnull_f (by decide) (by decide) d_Band_programme_55 hc10 ?_
      refine ev_aload_n 1 d_Band_programme_58 rfl (by decide) rfl ?_
      refine ev_get (t := 11) (k := 5) (by decide) (by decide) rfl i_Band (by decide) rfl rfl tw_318 d_Band_programme_59 hn_a0 ?_
      refine ev_aload 0 d_Band_programme_62 (by decide) rfl ?_
      refine ev_aload_n 1 d_Band_programme_64 rfl (by decide) rfl ?_
      refine ev_get (t := 11) (k := 0) (by decide) (by decide) rfl i_Band (by decide) rfl rfl tw_313 d_Band_programme_65 hn_a0 ?_
      obtain ⟨hz12, h⟩ := gx h
      obtain ⟨hz13, h⟩ := gx h
      obtain ⟨p14, hp14, h⟩ := bx h
      have hRp14 := c_Cover_coversMust (X := X) (d := d - 1) (by omega) hz12 hc10 hz13 hp14
      refine ev_callVN2 (host := "TownBand") (st2 := [(0, p14.1)]) (as := [(5, p9), (7, (mg s.2 (cI a0) 0))]) (rest := []) rfl (by decide) (by decide) rfl hz12 rfl (Nat.le_of_ble_eq_true rfl) k_Cover_coversMust ⟨tw_614, ts_35⟩ (by omega) tw_612 d_Band_programme_68 hRp14 rfl ?_
      by_cases hc15 : p14.1 = 0
      · replace h := itp hc15 h
        refine ev_if_eq_t (tgt := 84) d_Band_programme_71 (by decide) hc15 ?_
        obtain ⟨x16, hx16, h⟩ := ltx h
        refine ev_iinc' 4 (y := x16) (L' := [(3, (0, x16)), (4, (5, p9)), (0, (11, a0)), (1, (0, a1)), (2, (0, a2))]) d_Band_programme_84 rfl (by decide) rfl hx16 ?_
        refine ev_goto (tgt := 32) d_Band_programme_87 (by decide) ?_
        refine ev_less (L' := [(0, (11, a0)), (1, (0, a1)), (2, (0, a2)), (3, (0, x16))]) [2, 3, 4, 0] rfl ?_
        cases h
        exact hk1 _ rfl
      · replace h := itn hc15 h
        refine ev_if_eq_f d_Band_programme_71 (by decide) hc15 ?_
        refine ev_aload_n 1 d_Band_programme_74 rfl (by decide) rfl ?_
        refine ev_get (t := 11) (k := 7) (by decide) (by decide) rfl i_Band (by decide) rfl rfl tw_320 d_Band_programme_75 hn_a0 ?_
        refine ev_iload_n 4 d_Band_programme_78 rfl rfl ?_
        refine ev_aload 0 d_Band_programme_79 (by decide) rfl ?_
        obtain ⟨hz17, h⟩ := gx h
        obtain ⟨p18, hp18, h⟩ := bx h
        have hRp18 := c_Planner_offer (X := X) (d := d - 1) (by omega) hz17 hc10 hp18
        refine ev_callVN2 (host := "TownBand") (st2 := []) (as := [(0, s.1), (5, p9)]) (rest := []) rfl (by decide) (by decide) rfl hz17 rfl (Nat.le_of_ble_eq_true rfl) k_Planner_offer ⟨tw_760, ts_57⟩ (by omega) tw_758 d_Band_programme_81 hRp18 rfl ?_
        obtain ⟨x19, hx19, h⟩ := ltx h
        refine ev_iinc' 4 (y := x19) (L' := [(3, (0, x19)), (4, (5, p9)), (0, (11, a0)), (1, (0, a1)), (2, (0, a2))]) d_Band_programme_84 rfl (by decide) rfl hx19 ?_
        refine ev_goto (tgt := 32) d_Band_programme_87 (by decide) ?_
        refine ev_less (L' := [(0, (11, a0)), (1, (0, a1)), (2, (0, a2)), (3, (0, x19))]) [2, 3, 4, 0] rfl ?_
        cases h
        exact hk1 _ rfl
def f_Band_programme (M : Mm) (a0 : Int) (a1 : Int) (a2 : Int) : Option (Int × Mm) :=
  (f_Band_isWithin M a1 0 600).bind (fun p1 =>
  if p1 = 0 then
  some ((-1), M)
  else
  (f_Band_isWithin M a2 0 18).bind (fun p3 =>
  if p3 ≠ 0 then
  if (mg M (cI a0) 7) ≠ 0 then
  (f_Planner_forgetChoices M (mg M (cI a0) 7)).bind (fun p6 =>
  (loopN (l_Band_programme_32 a0 a1 a2) FU (0, p6)).bind (fun t20 =>
  if (mg t20 (cI a0) 7) ≠ 0 then
  (f_Planner_arrange t20 (mg t20 (cI a0) 7) a1 a2).bind (fun p22 =>
  some (p22.1, p22.2))
  else none))
  else none
  else
  some ((-1), M)))
theorem c_Band_programme {X : XX} {d : Nat} (hd : 14 ≤ d) {M : Mm} {a0 : Int} {a1 : Int} {a2 : Int} (hn_a0 : a0 ≠ 0) {p : Int × Mm} (h : f_Band_programme M a0 a1 a2 = some p) : Rn X d m_Band_programme [(11, a0), (0, a1), (0, a2)] M (some (0, p.1)) p.2 := by
  refine Rn_of (by decide) rfl (Nat.le_of_ble_eq_true rfl) ?_
  unfold f_Band_programme at h
  refine ev_less (L' := [(0, (11, a0)), (1, (0, a1)), (2, (0, a2))]) [0, 1, 2] rfl ?_
  refine ev_iload_n 1 d_Band_programme_0 rfl rfl ?_
  refine ev_iconst d_Band_programme_1 rfl ?_
  refine ev_sipush d_Band_programme_2 rfl ?_
  obtain ⟨p1, hp1, h⟩ := bx h
  have hRp1 := c_Band_isWithin (X := X) (d := d - 1) (by omega)  hp1
  refine ev_callS2 (st2 := [(0, p1)]) (as := [(0, a1), (0, 0), (0, 600)]) (rest := []) rfl rfl (Nat.le_of_ble_eq_true rfl) k_Band_isWithin tw_343 (by omega) tw_342 d_Band_programme_5 hRp1 rfl ?_
  by_cases hc2 : p1 = 0
  · replace h := itp hc2 h
    refine ev_if_eq_t (tgt := 21) d_Band_programme_8 (by decide) hc2 ?_
    refine ev_iconst d_Band_programme_21 rfl ?_
    cases h
    exact ev_ret d_Band_programme_22 rfl
  · replace h := itn hc2 h
    refine ev_if_eq_f d_Band_programme_8 (by decide) hc2 ?_
    refine ev_iload_n 2 d_Band_programme_11 rfl rfl ?_
    refine ev_iconst d_Band_programme_12 rfl ?_
    refine ev_bipush d_Band_programme_13 rfl ?_
    obtain ⟨p3, hp3, h⟩ := bx h
    have hRp3 := c_Band_isWithin (X := X) (d := d - 1) (by omega)  hp3
    refine ev_callS2 (st2 := [(0, p3)]) (as := [(0, a2), (0, 0), (0, 18)]) (rest := []) rfl rfl (Nat.le_of_ble_eq_true rfl) k_Band_isWithin tw_343 (by omega) tw_342 d_Band_programme_15 hRp3 rfl ?_
    by_cases hc4 : p3 ≠ 0
    · replace h := itp hc4 h
      refine ev_if_ne_t (tgt := 23) d_Band_programme_18 (by decide) hc4 ?_
      refine ev_aload_n 0 d_Band_programme_23 rfl (by decide) rfl ?_
      refine ev_get (t := 11) (k := 7) (by decide) (by decide) rfl i_Band (by decide) rfl rfl tw_320 d_Band_programme_24 hn_a0 ?_
      obtain ⟨hz5, h⟩ := gx h
      obtain ⟨p6, hp6, h⟩ := bx h
      have hRp6 := c_Planner_forgetChoices (X := X) (d := d - 1) (by omega) hz5 hp6
      refine ev_callVN2 (host := "TownBand") (st2 := []) (as := []) (rest := []) rfl (by decide) (by decide) rfl hz5 rfl (Nat.le_of_ble_eq_true rfl) k_Planner_forgetChoices ⟨tw_756, ts_56⟩ (by omega) tw_754 d_Band_programme_27 hRp6 rfl ?_
      refine ev_iconst d_Band_programme_30 rfl ?_
      refine ev_istore_n (L' := [(3, (0, 0)), (0, (11, a0)), (1, (0, a1)), (2, (0, a2))]) d_Band_programme_31 rfl (by decide) rfl ?_
      obtain ⟨t20, ht20, h⟩ := bx h
      refine ev_less (L' := [(0, (11, a0)), (1, (0, a1)), (2, (0, a2)), (3, (0, 0))]) [1, 2, 3, 0] rfl ?_
      refine loop_ev (step := l_Band_programme_32 a0 a1 a2) (P := fun w : Int × Mm => Ev X m_Band_programme d 32 [(0, (11, a0)), (1, (0, a1)), (2, (0, a2)), (3, (0, w.1))] [] w.2 (some (0, p.1)) p.2) (Q := fun w => Ev X m_Band_programme d 90 [(0, (11, a0)), (1, (0, a1)), (2, (0, a2))] [] w (some (0, p.1)) p.2) (fun w x hs k1 k2 => cs_l_Band_programme_32 hd hn_a0 hs k1 k2) FU (0, p6) t20 ht20 ?_
      refine ev_aload_n 0 d_Band_programme_90 rfl (by decide) rfl ?_
      refine ev_get (t := 11) (k := 7) (by decide) (by decide) rfl i_Band (by decide) rfl rfl tw_320 d_Band_programme_91 hn_a0 ?_
      refine ev_iload_n 1 d_Band_programme_94 rfl rfl ?_
      refine ev_iload_n 2 d_Band_programme_95 rfl rfl ?_
      obtain ⟨hz21, h⟩ := gx h
      obtain ⟨p22, hp22, h⟩ := bx h
      have hRp22 := c_Planner_arrange (X := X) (d := d - 1) (by omega) hz21 hp22
      refine ev_callVN2 (host := "TownBand") (st2 := [(0, p22.1)]) (as := [(0, a1), (0, a2)]) (rest := []) rfl (by decide) (by decide) rfl hz21 rfl (Nat.le_of_ble_eq_true rfl) k_Planner_arrange ⟨tw_764, ts_58⟩ (by omega) tw_762 d_Band_programme_96 hRp22 rfl ?_
      cases h
      exact ev_ret d_Band_programme_99 rfl
    · replace h := itn hc4 h
      refine ev_if_ne_f d_Band_programme_18 (by decide) hc4 ?_
      refine ev_iconst d_Band_programme_21 rfl ?_
      cases h
      exact ev_ret d_Band_programme_22 rfl
def f_Band_plan (M : Mm) (a0 : Int) (a1 : Int) : Option (Int) :=
  if (mg M (cI a0) 7) ≠ 0 then
  (f_Band_isWithin M a1 0 (w32 ((mg M (cI (mg M (cI a0) 7)) 1) - 1))).bind (fun p2 =>
  if p2 = 0 then
  some (-1)
  else
  if (mg M (cI (mg M (cI a0) 7)) 0) ≠ 0 then
  if (0 : Int) ≤ a1 ∧ a1 < (ml M (cI (mg M (cI (mg M (cI a0) 7)) 0)) : Int) then
  some (mg M (cI (mg M (cI (mg M (cI a0) 7)) 0)) (a1 : Int).toNat)
  else none
  else none)
  else none
theorem c_Band_plan {X : XX} {d : Nat} (hd : 1 ≤ d) {M : Mm} {a0 : Int} {a1 : Int} (hn_a0 : a0 ≠ 0) {p : Int} (h : f_Band_plan M a0 a1 = some p) : Rn X d m_Band_plan [(11, a0), (0, a1)] M (some (0, p)) M := by
  refine Rn_of (by decide) rfl (Nat.le_of_ble_eq_true rfl) ?_
  unfold f_Band_plan at h
  refine ev_less (L' := [(0, (11, a0)), (1, (0, a1))]) [0, 1] rfl ?_
  refine ev_iload_n 1 d_Band_plan_0 rfl rfl ?_
  refine ev_iconst d_Band_plan_1 rfl ?_
  refine ev_aload_n 0 d_Band_plan_2 rfl (by decide) rfl ?_
  refine ev_get (t := 11) (k := 7) (by decide) (by decide) rfl i_Band (by decide) rfl rfl tw_320 d_Band_plan_3 hn_a0 ?_
  obtain ⟨hz1, h⟩ := gx h
  refine ev_getN (host := "TownBand") (t := 6) (k := 1) (by decide) (by decide) rfl i_Planner (by decide) rfl rfl tw_285 d_Band_plan_6 hz1 ?_
  refine ev_iconst d_Band_plan_9 rfl ?_
  refine ev_isub d_Band_plan_10 ?_
  obtain ⟨p2, hp2, h⟩ := bx h
  have hRp2 := c_Band_isWithin (X := X) (d := d - 1) (by omega)  hp2
  refine ev_callS2 (st2 := [(0, p2)]) (as := [(0, a1), (0, 0), (0, (w32 ((mg M (cI (mg M (cI a0) 7)) 1) - 1)))]) (rest := []) rfl rfl (Nat.le_of_ble_eq_true rfl) k_Band_isWithin tw_343 (by omega) tw_342 d_Band_plan_11 hRp2 rfl ?_
  by_cases hc3 : p2 = 0
  · replace h := itp hc3 h
    refine ev_if_eq_t (tgt := 29) d_Band_plan_14 (by decide) hc3 ?_
    refine ev_iconst d_Band_plan_29 rfl ?_
    cases h
    exact ev_ret d_Band_plan_30 rfl
  · replace h := itn hc3 h
    refine ev_if_eq_f d_Band_plan_14 (by decide) hc3 ?_
    refine ev_aload_n 0 d_Band_plan_17 rfl (by decide) rfl ?_
    refine ev_get (t := 11) (k := 7) (by decide) (by decide) rfl i_Band (by decide) rfl rfl tw_320 d_Band_plan_18 hn_a0 ?_
    refine ev_getN (host := "TownBand") (t := 6) (k := 0) (by decide) (by decide) rfl i_Planner (by decide) rfl rfl tw_283 d_Band_plan_21 hz1 ?_
    refine ev_iload_n 1 d_Band_plan_24 rfl rfl ?_
    obtain ⟨hz4, h⟩ := gx h
    obtain ⟨hg5, h⟩ := gx h
    refine ev_iald d_Band_plan_25 hz4 hg5 ?_
    refine ev_goto (tgt := 30) d_Band_plan_26 (by decide) ?_
    cases h
    exact ev_ret d_Band_plan_30 rfl
def f_Band_strain (M : Mm) (a0 : Int) : Option (Int) :=
  if (mg M (cI a0) 7) ≠ 0 then
  some (mg M (cI (mg M (cI a0) 7)) 2)
  else none
theorem c_Band_strain {X : XX} {d : Nat} (hd : 0 ≤ d) {M : Mm} {a0 : Int} (hn_a0 : a0 ≠ 0) {p : Int} (h : f_Band_strain M a0 = some p) : Rn X d m_Band_strain [(11, a0)] M (some (0, p)) M := by
  refine Rn_of (by decide) rfl (Nat.le_of_ble_eq_true rfl) ?_
  unfold f_Band_strain at h
  refine ev_less (L' := [(0, (11, a0))]) [0] rfl ?_
  refine ev_aload_n 0 d_Band_strain_0 rfl (by decide) rfl ?_
  refine ev_get (t := 11) (k := 7) (by decide) (by decide) rfl i_Band (by decide) rfl rfl tw_320 d_Band_strain_1 hn_a0 ?_
  obtain ⟨hz1, h⟩ := gx h
  refine ev_getN (host := "TownBand") (t := 6) (k := 2) (by decide) (by decide) rfl i_Planner (by decide) rfl rfl tw_287 d_Band_strain_4 hz1 ?_
  cases h
  exact ev_ret d_Band_strain_7 rfl
def f_Band_isCopy (M : Mm) (a0 : Int) : Option (Int) :=
  (f_Band_isWithin M a0 0 29).bind (fun p1 =>
  some p1)
theorem c_Band_isCopy {X : XX} {d : Nat} (hd : 1 ≤ d) {M : Mm} {a0 : Int} {p : Int} (h : f_Band_isCopy M a0 = some p) : Rn X d m_Band_isCopy [(0, a0)] M (some (0, p)) M := by
  refine Rn_of (by decide) rfl (Nat.le_of_ble_eq_true rfl) ?_
  unfold f_Band_isCopy at h
  refine ev_less (L' := [(0, (0, a0))]) [0] rfl ?_
  refine ev_iload_n 0 d_Band_isCopy_0 rfl rfl ?_
  refine ev_iconst d_Band_isCopy_1 rfl ?_
  refine ev_bipush d_Band_isCopy_2 rfl ?_
  obtain ⟨p1, hp1, h⟩ := bx h
  have hRp1 := c_Band_isWithin (X := X) (d := d - 1) (by omega)  hp1
  refine ev_callS2 (st2 := [(0, p1)]) (as := [(0, a0), (0, 0), (0, 29)]) (rest := []) rfl rfl (Nat.le_of_ble_eq_true rfl) k_Band_isWithin tw_343 (by omega) tw_342 d_Band_isCopy_4 hRp1 rfl ?_
  cases h
  exact ev_retZ d_Band_isCopy_7 rfl (hRp1.2.1 _ rfl rfl)
def f_Band_isPlace (M : Mm) (a0 : Int) (a1 : Int) : Option (Int) :=
  if a1 = (-1) then
  some 1
  else
  if a1 = (-2) then
  some 1
  else
  if (mg M (cI a0) 0) ≠ 0 then
  (f_Players_has M (mg M (cI a0) 0) a1).bind (fun p4 =>
  if p4 = 0 then
  some 0
  else
  some 1)
  else none
theorem c_Band_isPlace {X : XX} {d : Nat} (hd : 1 ≤ d) {M : Mm} {a0 : Int} {a1 : Int} (hn_a0 : a0 ≠ 0) {p : Int} (h : f_Band_isPlace M a0 a1 = some p) : Rn X d m_Band_isPlace [(11, a0), (0, a1)] M (some (0, p)) M := by
  refine Rn_of (by decide) rfl (Nat.le_of_ble_eq_true rfl) ?_
  unfold f_Band_isPlace at h
  refine ev_less (L' := [(0, (11, a0)), (1, (0, a1))]) [0, 1] rfl ?_
  refine ev_iload_n 1 d_Band_isPlace_0 rfl rfl ?_
  refine ev_iconst d_Band_isPlace_1 rfl ?_
  by_cases hc1 : a1 = (-1)
  · replace h := itp hc1 h
    refine ev_icmp_eq_t (tgt := 22) d_Band_isPlace_2 (by decide) hc1 ?_
    refine ev_iconst d_Band_isPlace_22 rfl ?_
    refine ev_goto (tgt := 27) d_Band_isPlace_23 (by decide) ?_
    cases h
    exact ev_retZ d_Band_isPlace_27 rfl (Or.inr rfl)
  · replace h := itn hc1 h
    refine ev_icmp_eq_f d_Band_isPlace_2 (by decide) hc1 ?_
    refine ev_iload_n 1 d_Band_isPlace_5 rfl rfl ?_
    refine ev_bipush d_Band_isPlace_6 rfl ?_
    by_cases hc2 : a1 = (-2)
    · replace h := itp hc2 h
      refine ev_icmp_eq_t (tgt := 22) d_Band_isPlace_8 (by decide) hc2 ?_
      refine ev_iconst d_Band_isPlace_22 rfl ?_
      refine ev_goto (tgt := 27) d_Band_isPlace_23 (by decide) ?_
      cases h
      exact ev_retZ d_Band_isPlace_27 rfl (Or.inr rfl)
    · replace h := itn hc2 h
      refine ev_icmp_eq_f d_Band_isPlace_8 (by decide) hc2 ?_
      refine ev_aload_n 0 d_Band_isPlace_11 rfl (by decide) rfl ?_
      refine ev_get (t := 11) (k := 0) (by decide) (by decide) rfl i_Band (by decide) rfl rfl tw_313 d_Band_isPlace_12 hn_a0 ?_
      refine ev_iload_n 1 d_Band_isPlace_15 rfl rfl ?_
      obtain ⟨hz3, h⟩ := gx h
      obtain ⟨p4, hp4, h⟩ := bx h
      have hRp4 := c_Players_has (X := X) (d := d - 1) (by omega) hz3 hp4
      refine ev_callVN2 (host := "TownBand") (st2 := [(0, p4)]) (as := [(0, a1)]) (rest := []) rfl (by decide) (by decide) rfl hz3 rfl (Nat.le_of_ble_eq_true rfl) k_Players_has ⟨tw_358, ts_1⟩ (by omega) tw_356 d_Band_isPlace_16 hRp4 rfl ?_
      by_cases hc5 : p4 = 0
      · replace h := itp hc5 h
        refine ev_if_eq_t (tgt := 26) d_Band_isPlace_19 (by decide) hc5 ?_
        refine ev_iconst d_Band_isPlace_26 rfl ?_
        cases h
        exact ev_retZ d_Band_isPlace_27 rfl (Or.inl rfl)
      · replace h := itn hc5 h
        refine ev_if_eq_f d_Band_isPlace_19 (by decide) hc5 ?_
        refine ev_iconst d_Band_isPlace_22 rfl ?_
        refine ev_goto (tgt := 27) d_Band_isPlace_23 (by decide) ?_
        cases h
        exact ev_retZ d_Band_isPlace_27 rfl (Or.inr rfl)
def f_Band_tell (M : Mm) (a0 : Int) (a1 : Int) (a2 : Int) (a3 : Int) : Option (Int × Mm) :=
  (f_Band_isCopy M a1).bind (fun p1 =>
  if p1 = 0 then
  some ((-1), M)
  else
  (f_Band_isDay M a2).bind (fun p3 =>
  if p3 = 0 then
  some ((-1), M)
  else
  (f_Band_isPlace M a0 a3).bind (fun p5 =>
  if p5 ≠ 0 then
  if (mg M (cI a0) 4) ≠ 0 then
  (f_Loans_note M (mg M (cI a0) 4) a1 a2 a3).bind (fun p8 =>
  some (p8.1, p8.2))
  else none
  else
  some ((-1), M))))
theorem c_Band_tell {X : XX} {d : Nat} (hd : 2 ≤ d) {M : Mm} {a0 : Int} {a1 : Int} {a2 : Int} {a3 : Int} (hn_a0 : a0 ≠ 0) {p : Int × Mm} (h : f_Band_tell M a0 a1 a2 a3 = some p) : Rn X d m_Band_tell [(11, a0), (0, a1), (0, a2), (0, a3)] M (some (0, p.1)) p.2 := by
  refine Rn_of (by decide) rfl (Nat.le_of_ble_eq_true rfl) ?_
  unfold f_Band_tell at h
  refine ev_less (L' := [(0, (11, a0)), (1, (0, a1)), (2, (0, a2)), (3, (0, a3))]) [0, 1, 2, 3] rfl ?_
  refine ev_iload_n 1 d_Band_tell_0 rfl rfl ?_
  obtain ⟨p1, hp1, h⟩ := bx h
  have hRp1 := c_Band_isCopy (X := X) (d := d - 1) (by omega)  hp1
  refine ev_callS2 (st2 := [(0, p1)]) (as := [(0, a1)]) (rest := []) rfl rfl (Nat.le_of_ble_eq_true rfl) k_Band_isCopy tw_814 (by omega) tw_813 d_Band_tell_1 hRp1 rfl ?_
  by_cases hc2 : p1 = 0
  · replace h := itp hc2 h
    refine ev_if_eq_t (tgt := 22) d_Band_tell_4 (by decide) hc2 ?_
    refine ev_iconst d_Band_tell_22 rfl ?_
    cases h
    exact ev_ret d_Band_tell_23 rfl
  · replace h := itn hc2 h
    refine ev_if_eq_f d_Band_tell_4 (by decide) hc2 ?_
    refine ev_iload_n 2 d_Band_tell_7 rfl rfl ?_
    obtain ⟨p3, hp3, h⟩ := bx h
    have hRp3 := c_Band_isDay (X := X) (d := d - 1) (by omega)  hp3
    refine ev_callS2 (st2 := [(0, p3)]) (as := [(0, a2)]) (rest := []) rfl rfl (Nat.le_of_ble_eq_true rfl) k_Band_isDay tw_346 (by omega) tw_345 d_Band_tell_8 hRp3 rfl ?_
    by_cases hc4 : p3 = 0
    · replace h := itp hc4 h
      refine ev_if_eq_t (tgt := 22) d_Band_tell_11 (by decide) hc4 ?_
      refine ev_iconst d_Band_tell_22 rfl ?_
      cases h
      exact ev_ret d_Band_tell_23 rfl
    · replace h := itn hc4 h
      refine ev_if_eq_f d_Band_tell_11 (by decide) hc4 ?_
      refine ev_aload_n 0 d_Band_tell_14 rfl (by decide) rfl ?_
      refine ev_iload_n 3 d_Band_tell_15 rfl rfl ?_
      obtain ⟨p5, hp5, h⟩ := bx h
      have hRp5 := c_Band_isPlace (X := X) (d := d - 1) (by omega) hn_a0 hp5
      refine ev_callV2 (st2 := [(0, p5)]) (as := [(0, a3)]) (rest := []) rfl (by decide) (by decide) rfl hn_a0 rfl (Nat.le_of_ble_eq_true rfl) k_Band_isPlace ⟨tw_818, ts_64⟩ (by omega) tw_816 d_Band_tell_16 hRp5 rfl ?_
      by_cases hc6 : p5 ≠ 0
      · replace h := itp hc6 h
        refine ev_if_ne_t (tgt := 24) d_Band_tell_19 (by decide) hc6 ?_
        refine ev_aload_n 0 d_Band_tell_24 rfl (by decide) rfl ?_
        refine ev_get (t := 11) (k := 4) (by decide) (by decide) rfl i_Band (by decide) rfl rfl tw_317 d_Band_tell_25 hn_a0 ?_
        refine ev_iload_n 1 d_Band_tell_28 rfl rfl ?_
        refine ev_iload_n 2 d_Band_tell_29 rfl rfl ?_
        refine ev_iload_n 3 d_Band_tell_30 rfl rfl ?_
        obtain ⟨hz7, h⟩ := gx h
        obtain ⟨p8, hp8, h⟩ := bx h
        have hRp8 := c_Loans_note (X := X) (d := d - 1) (by omega) hz7 hp8
        refine ev_callVN2 (host := "TownBand") (st2 := [(0, p8.1)]) (as := [(0, a1), (0, a2), (0, a3)]) (rest := []) rfl (by decide) (by decide) rfl hz7 rfl (Nat.le_of_ble_eq_true rfl) k_Loans_note ⟨tw_822, ts_65⟩ (by omega) tw_820 d_Band_tell_31 hRp8 rfl ?_
        cases h
        exact ev_ret d_Band_tell_34 rfl
      · replace h := itn hc6 h
        refine ev_if_ne_f d_Band_tell_19 (by decide) hc6 ?_
        refine ev_iconst d_Band_tell_22 rfl ?_
        cases h
        exact ev_ret d_Band_tell_23 rfl
def f_Band_where (M : Mm) (a0 : Int) (a1 : Int) (a2 : Int) (a3 : Int) : Option (Int × Mm) :=
  (f_Band_isCopy M a1).bind (fun p1 =>
  if p1 = 0 then
  some ((-3), M)
  else
  (f_Band_isDay M a2).bind (fun p3 =>
  if p3 = 0 then
  some ((-3), M)
  else
  if (mg M (cI a0) 4) ≠ 0 then
  (f_Band_isWithin M a3 0 (mg M (cI (mg M (cI a0) 4)) 5)).bind (fun p6 =>
  if p6 ≠ 0 then
  (f_Loans_placeOf M (mg M (cI a0) 4) a1 a2 a3).bind (fun p8 =>
  some (p8.1, p8.2))
  else
  some ((-3), M))
  else none))
theorem c_Band_where {X : XX} {d : Nat} (hd : 3 ≤ d) {M : Mm} {a0 : Int} {a1 : Int} {a2 : Int} {a3 : Int} (hn_a0 : a0 ≠ 0) {p : Int × Mm} (h : f_Band_where M a0 a1 a2 a3 = some p) : Rn X d m_Band_where [(11, a0), (0, a1), (0, a2), (0, a3)] M (some (0, p.1)) p.2 := by
  refine Rn_of (by decide) rfl (Nat.le_of_ble_eq_true rfl) ?_
  unfold f_Band_where at h
  refine ev_less (L' := [(0, (11, a0)), (1, (0, a1)), (2, (0, a2)), (3, (0, a3))]) [0, 1, 2, 3] rfl ?_
  refine ev_iload_n 1 d_Band_where_0 rfl rfl ?_
  obtain ⟨p1, hp1, h⟩ := bx h
  have hRp1 := c_Band_isCopy (X := X) (d := d - 1) (by omega)  hp1
  refine ev_callS2 (st2 := [(0, p1)]) (as := [(0, a1)]) (rest := []) rfl rfl (Nat.le_of_ble_eq_true rfl) k_Band_isCopy tw_814 (by omega) tw_813 d_Band_where_1 hRp1 rfl ?_
  by_cases hc2 : p1 = 0
  · replace h := itp hc2 h
    refine ev_if_eq_t (tgt := 29) d_Band_where_4 (by decide) hc2 ?_
    refine ev_bipush d_Band_where_29 rfl ?_
    cases h
    exact ev_ret d_Band_where_31 rfl
  · replace h := itn hc2 h
    refine ev_if_eq_f d_Band_where_4 (by decide) hc2 ?_
    refine ev_iload_n 2 d_Band_where_7 rfl rfl ?_
    obtain ⟨p3, hp3, h⟩ := bx h
    have hRp3 := c_Band_isDay (X := X) (d := d - 1) (by omega)  hp3
    refine ev_callS2 (st2 := [(0, p3)]) (as := [(0, a2)]) (rest := []) rfl rfl (Nat.le_of_ble_eq_true rfl) k_Band_isDay tw_346 (by omega) tw_345 d_Band_where_8 hRp3 rfl ?_
    by_cases hc4 : p3 = 0
    · replace h := itp hc4 h
      refine ev_if_eq_t (tgt := 29) d_Band_where_11 (by decide) hc4 ?_
      refine ev_bipush d_Band_where_29 rfl ?_
      cases h
      exact ev_ret d_Band_where_31 rfl
    · replace h := itn hc4 h
      refine ev_if_eq_f d_Band_where_11 (by decide) hc4 ?_
      refine ev_iload_n 3 d_Band_where_14 rfl rfl ?_
      refine ev_iconst d_Band_where_15 rfl ?_
      refine ev_aload_n 0 d_Band_where_16 rfl (by decide) rfl ?_
      refine ev_get (t := 11) (k := 4) (by decide) (by decide) rfl i_Band (by decide) rfl rfl tw_317 d_Band_where_17 hn_a0 ?_
      obtain ⟨hz5, h⟩ := gx h
      refine ev_getN (host := "TownBand") (t := 4) (k := 5) (by decide) (by decide) rfl i_Loans (by decide) rfl rfl tw_214 d_Band_where_20 hz5 ?_
      obtain ⟨p6, hp6, h⟩ := bx h
      have hRp6 := c_Band_isWithin (X := X) (d := d - 1) (by omega)  hp6
      refine ev_callS2 (st2 := [(0, p6)]) (as := [(0, a3), (0, 0), (0, (mg M (cI (mg M (cI a0) 4)) 5))]) (rest := []) rfl rfl (Nat.le_of_ble_eq_true rfl) k_Band_isWithin tw_343 (by omega) tw_342 d_Band_where_23 hRp6 rfl ?_
      by_cases hc7 : p6 ≠ 0
      · replace h := itp hc7 h
        refine ev_if_ne_t (tgt := 32) d_Band_where_26 (by decide) hc7 ?_
        refine ev_aload_n 0 d_Band_where_32 rfl (by decide) rfl ?_
        refine ev_get (t := 11) (k := 4) (by decide) (by decide) rfl i_Band (by decide) rfl rfl tw_317 d_Band_where_33 hn_a0 ?_
        refine ev_iload_n 1 d_Band_where_36 rfl rfl ?_
        refine ev_iload_n 2 d_Band_where_37 rfl rfl ?_
        refine ev_iload_n 3 d_Band_where_38 rfl rfl ?_
        obtain ⟨p8, hp8, h⟩ := bx h
        have hRp8 := c_Loans_placeOf (X := X) (d := d - 1) (by omega) hz5 hp8
        refine ev_callVN2 (host := "TownBand") (st2 := [(0, p8.1)]) (as := [(0, a1), (0, a2), (0, a3)]) (rest := []) rfl (by decide) (by decide) rfl hz5 rfl (Nat.le_of_ble_eq_true rfl) k_Loans_placeOf ⟨tw_830, ts_66⟩ (by omega) tw_828 d_Band_where_39 hRp8 rfl ?_
        cases h
        exact ev_ret d_Band_where_42 rfl
      · replace h := itn hc7 h
        refine ev_if_ne_f d_Band_where_26 (by decide) hc7 ?_
        refine ev_bipush d_Band_where_29 rfl ?_
        cases h
        exact ev_ret d_Band_where_31 rfl
def f_Band_copies (M : Mm) (a0 : Int) (a1 : Int) (a2 : Int) (a3 : Int) : Option (Int × Mm) :=
  (f_Band_isPlace M a0 a1).bind (fun p1 =>
  if p1 = 0 then
  some ((-1), M)
  else
  (f_Band_isDay M a2).bind (fun p3 =>
  if p3 = 0 then
  some ((-1), M)
  else
  if (mg M (cI a0) 4) ≠ 0 then
  (f_Band_isWithin M a3 0 (mg M (cI (mg M (cI a0) 4)) 5)).bind (fun p6 =>
  if p6 ≠ 0 then
  (f_Loans_copiesAt M (mg M (cI a0) 4) a1 a2 a3).bind (fun p8 =>
  some (p8.1, p8.2))
  else
  some ((-1), M))
  else none))
theorem c_Band_copies {X : XX} {d : Nat} (hd : 3 ≤ d) {M : Mm} {a0 : Int} {a1 : Int} {a2 : Int} {a3 : Int} (hn_a0 : a0 ≠ 0) {p : Int × Mm} (h : f_Band_copies M a0 a1 a2 a3 = some p) : Rn X d m_Band_copies [(11, a0), (0, a1), (0, a2), (0, a3)] M (some (0, p.1)) p.2 := by
  refine Rn_of (by decide) rfl (Nat.le_of_ble_eq_true rfl) ?_
  unfold f_Band_copies at h
  refine ev_less (L' := [(0, (11, a0)), (1, (0, a1)), (2, (0, a2)), (3, (0, a3))]) [0, 1, 2, 3] rfl ?_
  refine ev_aload_n 0 d_Band_copies_0 rfl (by decide) rfl ?_
  refine ev_iload_n 1 d_Band_copies_1 rfl rfl ?_
  obtain ⟨p1, hp1, h⟩ := bx h
  have hRp1 := c_Band_isPlace (X := X) (d := d - 1) (by omega) hn_a0 hp1
  refine ev_callV2 (st2 := [(0, p1)]) (as := [(0, a1)]) (rest := []) rfl (by decide) (by decide) rfl hn_a0 rfl (Nat.le_of_ble_eq_true rfl) k_Band_isPlace ⟨tw_818, ts_64⟩ (by omega) tw_816 d_Band_copies_2 hRp1 rfl ?_
  by_cases hc2 : p1 = 0
  · replace h := itp hc2 h
    refine ev_if_eq_t (tgt := 30) d_Band_copies_5 (by decide) hc2 ?_
    refine ev_iconst d_Band_copies_30 rfl ?_
    cases h
    exact ev_ret d_Band_copies_31 rfl
  · replace h := itn hc2 h
    refine ev_if_eq_f d_Band_copies_5 (by decide) hc2 ?_
    refine ev_iload_n 2 d_Band_copies_8 rfl rfl ?_
    obtain ⟨p3, hp3, h⟩ := bx h
    have hRp3 := c_Band_isDay (X := X) (d := d - 1) (by omega)  hp3
    refine ev_callS2 (st2 := [(0, p3)]) (as := [(0, a2)]) (rest := []) rfl rfl (Nat.le_of_ble_eq_true rfl) k_Band_isDay tw_346 (by omega) tw_345 d_Band_copies_9 hRp3 rfl ?_
    by_cases hc4 : p3 = 0
    · replace h := itp hc4 h
      refine ev_if_eq_t (tgt := 30) d_Band_copies_12 (by decide) hc4 ?_
      refine ev_iconst d_Band_copies_30 rfl ?_
      cases h
      exact ev_ret d_Band_copies_31 rfl
    · replace h := itn hc4 h
      refine ev_if_eq_f d_Band_copies_12 (by decide) hc4 ?_
      refine ev_iload_n 3 d_Band_copies_15 rfl rfl ?_
      refine ev_iconst d_Band_copies_16 rfl ?_
      refine ev_aload_n 0 d_Band_copies_17 rfl (by decide) rfl ?_
      refine ev_get (t := 11) (k := 4) (by decide) (by decide) rfl i_Band (by decide) rfl rfl tw_317 d_Band_copies_18 hn_a0 ?_
      obtain ⟨hz5, h⟩ := gx h
      refine ev_getN (host := "TownBand") (t := 4) (k := 5) (by decide) (by decide) rfl i_Loans (by decide) rfl rfl tw_214 d_Band_copies_21 hz5 ?_
      obtain ⟨p6, hp6, h⟩ := bx h
      have hRp6 := c_Band_isWithin (X := X) (d := d - 1) (by omega)  hp6
      refine ev_callS2 (st2 := [(0, p6)]) (as := [(0, a3), (0, 0), (0, (mg M (cI (mg M (cI a0) 4)) 5))]) (rest := []) rfl rfl (Nat.le_of_ble_eq_true rfl) k_Band_isWithin tw_343 (by omega) tw_342 d_Band_copies_24 hRp6 rfl ?_
      by_cases hc7 : p6 ≠ 0
      · replace h := itp hc7 h
        refine ev_if_ne_t (tgt := 32) d_Band_copies_27 (by decide) hc7 ?_
        refine ev_aload_n 0 d_Band_copies_32 rfl (by decide) rfl ?_
        refine ev_get (t := 11) (k := 4) (by decide) (by decide) rfl i_Band (by decide) rfl rfl tw_317 d_Band_copies_33 hn_a0 ?_
        refine ev_iload_n 1 d_Band_copies_36 rfl rfl ?_
        refine ev_iload_n 2 d_Band_copies_37 rfl rfl ?_
        refine ev_iload_n 3 d_Band_copies_38 rfl rfl ?_
        obtain ⟨p8, hp8, h⟩ := bx h
        have hRp8 := c_Loans_copiesAt (X := X) (d := d - 1) (by omega) hz5 hp8
        refine ev_callVN2 (host := "TownBand") (st2 := [(0, p8.1)]) (as := [(0, a1), (0, a2), (0, a3)]) (rest := []) rfl (by decide) (by decide) rfl hz5 rfl (Nat.le_of_ble_eq_true rfl) k_Loans_copiesAt ⟨tw_843, ts_68⟩ (by omega) tw_841 d_Band_copies_39 hRp8 rfl ?_
        cases h
        exact ev_ret d_Band_copies_42 rfl
      · replace h := itn hc7 h
        refine ev_if_ne_f d_Band_copies_27 (by decide) hc7 ?_
        refine ev_iconst d_Band_copies_30 rfl ?_
        cases h
        exact ev_ret d_Band_copies_31 rfl
def f_Band_contest (M : Mm) (a0 : Int) (a1 : Int) : Option (Int × Mm) :=
  if (mg M (cI a0) 0) ≠ 0 then
  (f_Players_has M (mg M (cI a0) 0) a1).bind (fun p2 =>
  if p2 = 0 then
  some ((-1), M)
  else
  (f_Players_compete M (mg M (cI a0) 0) a1).bind (fun p4 =>
  some (p4.1, p4.2)))
  else none
theorem c_Band_contest {X : XX} {d : Nat} (hd : 1 ≤ d) {M : Mm} {a0 : Int} {a1 : Int} (hn_a0 : a0 ≠ 0) {p : Int × Mm} (h : f_Band_contest M a0 a1 = some p) : Rn X d m_Band_contest [(11, a0), (0, a1)] M (some (0, p.1)) p.2 := by
  refine Rn_of (by decide) rfl (Nat.le_of_ble_eq_true rfl) ?_
  unfold f_Band_contest at h
  refine ev_less (L' := [(0, (11, a0)), (1, (0, a1))]) [0, 1] rfl ?_
  refine ev_aload_n 0 d_Band_contest_0 rfl (by decide) rfl ?_
  refine ev_get (t := 11) (k := 0) (by decide) (by decide) rfl i_Band (by decide) rfl rfl tw_313 d_Band_contest_1 hn_a0 ?_
  refine ev_iload_n 1 d_Band_contest_4 rfl rfl ?_
  obtain ⟨hz1, h⟩ := gx h
  obtain ⟨p2, hp2, h⟩ := bx h
  have hRp2 := c_Players_has (X := X) (d := d - 1) (by omega) hz1 hp2
  refine ev_callVN2 (host := "TownBand") (st2 := [(0, p2)]) (as := [(0, a1)]) (rest := []) rfl (by decide) (by decide) rfl hz1 rfl (Nat.le_of_ble_eq_true rfl) k_Players_has ⟨tw_358, ts_1⟩ (by omega) tw_356 d_Band_contest_5 hRp2 rfl ?_
  by_cases hc3 : p2 = 0
  · replace h := itp hc3 h
    refine ev_if_eq_t (tgt := 22) d_Band_contest_8 (by decide) hc3 ?_
    refine ev_iconst d_Band_contest_22 rfl ?_
    cases h
    exact ev_ret d_Band_contest_23 rfl
  · replace h := itn hc3 h
    refine ev_if_eq_f d_Band_contest_8 (by decide) hc3 ?_
    refine ev_aload_n 0 d_Band_contest_11 rfl (by decide) rfl ?_
    refine ev_get (t := 11) (k := 0) (by decide) (by decide) rfl i_Band (by decide) rfl rfl tw_313 d_Band_contest_12 hn_a0 ?_
    refine ev_iload_n 1 d_Band_contest_15 rfl rfl ?_
    obtain ⟨p4, hp4, h⟩ := bx h
    have hRp4 := c_Players_compete (X := X) (d := d - 1) (by omega) hz1 hp4
    refine ev_callVN2 (host := "TownBand") (st2 := [(0, p4.1)]) (as := [(0, a1)]) (rest := []) rfl (by decide) (by decide) rfl hz1 rfl (Nat.le_of_ble_eq_true rfl) k_Players_compete ⟨tw_851, ts_69⟩ (by omega) tw_849 d_Band_contest_16 hRp4 rfl ?_
    refine ev_goto (tgt := 23) d_Band_contest_19 (by decide) ?_
    cases h
    exact ev_ret d_Band_contest_23 rfl
def f_Band_may (M : Mm) (a0 : Int) (a1 : Int) (a2 : Int) : Option (Int × Mm) :=
  if (mg M (cI a0) 0) ≠ 0 then
  (f_Players_has M (mg M (cI a0) 0) a1).bind (fun p2 =>
  if p2 = 0 then
  some ((-1), M)
  else
  (f_Band_isDay M a2).bind (fun p4 =>
  if p4 ≠ 0 then
  if (mg M (cI (mg M (cI a0) 0)) 0) ≠ 0 then
  if (0 : Int) ≤ a1 ∧ a1 < (ml M (cI (mg M (cI (mg M (cI a0) 0)) 0)) : Int) then
  if (mg M (cI (mg M (cI a0) 0)) 2) ≠ 0 then
  if (0 : Int) ≤ a1 ∧ a1 < (ml M (cI (mg M (cI (mg M (cI a0) 0)) 2)) : Int) then
  if (mg M (cI a0) 4) ≠ 0 then
  (f_Loans_copiesAt M (mg M (cI a0) 4) a1 a2 (mg M (cI (mg M (cI a0) 4)) 5)).bind (fun p11 =>
  if (mg M (cI a0) 3) ≠ 0 then
  (f_Rule_setPlayer p11.2 (mg M (cI a0) 3) (mg M (cI (mg M (cI (mg M (cI a0) 0)) 0)) (a1 : Int).toNat) (mg M (cI (mg M (cI (mg M (cI a0) 0)) 2)) (a1 : Int).toNat) p11.1).bind (fun p13 =>
  if (mg p13 (cI a0) 0) ≠ 0 then
  if (mg p13 (cI (mg p13 (cI a0) 0)) 1) ≠ 0 then
  if (0 : Int) ≤ a1 ∧ a1 < (ml p13 (cI (mg p13 (cI (mg p13 (cI a0) 0)) 1)) : Int) then
  if (mg p13 (cI a0) 3) ≠ 0 then
  (f_Rule_setDay p13 (mg p13 (cI a0) 3) a2 (w32 (a2 - (mg p13 (cI (mg p13 (cI (mg p13 (cI a0) 0)) 1)) (a1 : Int).toNat)))).bind (fun p18 =>
  if (mg p18 (cI a0) 3) ≠ 0 then
  (f_Rule_allows p18 (mg p18 (cI a0) 3)).bind (fun p20 =>
  if p20.1 = 0 then
  some (0, p20.2)
  else
  some (1, p20.2))
  else none)
  else none
  else none
  else none
  else none)
  else none)
  else none
  else none
  else none
  else none
  else none
  else
  some ((-1), M)))
  else none
theorem c_Band_may {X : XX} {d : Nat} (hd : 3 ≤ d) {M : Mm} {a0 : Int} {a1 : Int} {a2 : Int} (hn_a0 : a0 ≠ 0) {p : Int × Mm} (h : f_Band_may M a0 a1 a2 = some p) : Rn X d m_Band_may [(11, a0), (0, a1), (0, a2)] M (some (0, p.1)) p.2 := by
  refine Rn_of (by decide) rfl (Nat.le_of_ble_eq_true rfl) ?_
  unfold f_Band_may at h
  refine ev_less (L' := [(0, (11, a0)), (1, (0, a1)), (2, (0, a2))]) [0, 1, 2] rfl ?_
  refine ev_aload_n 0 d_Band_may_0 rfl (by decide) rfl ?_
  refine ev_get (t := 11) (k := 0) (by decide) (by decide) rfl i_Band (by decide) rfl rfl tw_313 d_Band_may_1 hn_a0 ?_
  refine ev_iload_n 1 d_Band_may_4 rfl rfl ?_
  obtain ⟨hz1, h⟩ := gx h
  obtain ⟨p2, hp2, h⟩ := bx h
  have hRp2 := c_Players_has (X := X) (d := d - 1) (by omega) hz1 hp2
  refine ev_callVN2 (host := "TownBand") (st2 := [(0, p2)]) (as := [(0, a1)]) (rest := []) rfl (by decide) (by decide) rfl hz1 rfl (Nat.le_of_ble_eq_true rfl) k_Players_has ⟨tw_358, ts_1⟩ (by omega) tw_356 d_Band_may_5 hRp2 rfl ?_
  by_cases hc3 : p2 = 0
  · replace h := itp hc3 h
    refine ev_if_eq_t (tgt := 18) d_Band_may_8 (by decide) hc3 ?_
    refine ev_iconst d_Band_may_18 rfl ?_
    cases h
    exact ev_ret d_Band_may_19 rfl
  · replace h := itn hc3 h
    refine ev_if_eq_f d_Band_may_8 (by decide) hc3 ?_
    refine ev_iload_n 2 d_Band_may_11 rfl rfl ?_
    obtain ⟨p4, hp4, h⟩ := bx h
    have hRp4 := c_Band_isDay (X := X) (d := d - 1) (by omega)  hp4
    refine ev_callS2 (st2 := [(0, p4)]) (as := [(0, a2)]) (rest := []) rfl rfl (Nat.le_of_ble_eq_true rfl) k_Band_isDay tw_346 (by omega) tw_345 d_Band_may_12 hRp4 rfl ?_
    by_cases hc5 : p4 ≠ 0
    · replace h := itp hc5 h
      refine ev_if_ne_t (tgt := 20) d_Band_may_15 (by decide) hc5 ?_
      refine ev_aload_n 0 d_Band_may_20 rfl (by decide) rfl ?_
      refine ev_get (t := 11) (k := 3) (by decide) (by decide) rfl i_Band (by decide) rfl rfl tw_316 d_Band_may_21 hn_a0 ?_
      refine ev_aload_n 0 d_Band_may_24 rfl (by decide) rfl ?_
      refine ev_get (t := 11) (k := 0) (by decide) (by decide) rfl i_Band (by decide) rfl rfl tw_313 d_Band_may_25 hn_a0 ?_
      refine ev_getN (host := "TownBand") (t := 7) (k := 0) (by decide) (by decide) rfl i_Players (by decide) rfl rfl tw_37 d_Band_may_28 hz1 ?_
      refine ev_iload_n 1 d_Band_may_31 rfl rfl ?_
      obtain ⟨hz6, h⟩ := gx h
      obtain ⟨hg7, h⟩ := gx h
      refine ev_iald d_Band_may_32 hz6 hg7 ?_
      refine ev_aload_n 0 d_Band_may_33 rfl (by decide) rfl ?_
      refine ev_get (t := 11) (k := 0) (by decide) (by decide) rfl i_Band (by decide) rfl rfl tw_313 d_Band_may_34 hn_a0 ?_
      refine ev_getN (host := "TownBand") (t := 7) (k := 2) (by decide) (by decide) rfl i_Players (by decide) rfl rfl tw_41 d_Band_may_37 hz1 ?_
      refine ev_iload_n 1 d_Band_may_40 rfl rfl ?_
      obtain ⟨hz8, h⟩ := gx h
      obtain ⟨hg9, h⟩ := gx h
      refine ev_iald d_Band_may_41 hz8 hg9 ?_
      refine ev_aload_n 0 d_Band_may_42 rfl (by decide) rfl ?_
      refine ev_get (t := 11) (k := 4) (by decide) (by decide) rfl i_Band (by decide) rfl rfl tw_317 d_Band_may_43 hn_a0 ?_
      refine ev_iload_n 1 d_Band_may_46 rfl rfl ?_
      refine ev_iload_n 2 d_Band_may_47 rfl rfl ?_
      refine ev_aload_n 0 d_Band_may_48 rfl (by decide) rfl ?_
      refine ev_get (t := 11) (k := 4) (by decide) (by decide) rfl i_Band (by decide) rfl rfl tw_317 d_Band_may_49 hn_a0 ?_
      obtain ⟨hz10, h⟩ := gx h
      refine ev_getN (host := "TownBand") (t := 4) (k := 5) (by decide) (by decide) rfl i_Loans (by decide) rfl rfl tw_214 d_Band_may_52 hz10 ?_
      obtain ⟨p11, hp11, h⟩ := bx h
      have hRp11 := c_Loans_copiesAt (X := X) (d := d - 1) (by omega) hz10 hp11
      refine ev_callVN2 (host := "TownBand") (st2 := [(0, p11.1), (0, (mg M (cI (mg M (cI (mg M (cI a0) 0)) 2)) (a1 : Int).toNat)), (0, (mg M (cI (mg M (cI (mg M (cI a0) 0)) 0)) (a1 : Int).toNat)), (8, (mg M (cI a0) 3))]) (as := [(0, a1), (0, a2), (0, (mg M (cI (mg M (cI a0) 4)) 5))]) (rest := [(0, (mg M (cI (mg M (cI (mg M (cI a0) 0)) 2)) (a1 : Int).toNat)), (0, (mg M (cI (mg M (cI (mg M (cI a0) 0)) 0)) (a1 : Int).toNat)), (8, (mg M (cI a0) 3))]) rfl (by decide) (by decide) rfl hz10 rfl (Nat.le_of_ble_eq_true rfl) k_Loans_copiesAt ⟨tw_843, ts_68⟩ (by omega) tw_841 d_Band_may_55 hRp11 rfl ?_
      obtain ⟨hz12, h⟩ := gx h
      obtain ⟨p13, hp13, h⟩ := bx h
      have hRp13 := c_Rule_setPlayer (X := X) (d := d - 1) (by omega) hz12 hp13
      refine ev_callVN2 (host := "TownBand") (st2 := []) (as := [(0, (mg M (cI (mg M (cI (mg M (cI a0) 0)) 0)) (a1 : Int).toNat)), (0, (mg M (cI (mg M (cI (mg M (cI a0) 0)) 2)) (a1 : Int).toNat)), (0, p11.1)]) (rest := []) rfl (by decide) (by decide) rfl hz12 rfl (Nat.le_of_ble_eq_true rfl) k_Rule_setPlayer ⟨tw_859, ts_70⟩ (by omega) tw_857 d_Band_may_58 hRp13 rfl ?_
      refine ev_aload_n 0 d_Band_may_61 rfl (by decide) rfl ?_
      refine ev_get (t := 11) (k := 3) (by decide) (by decide) rfl i_Band (by decide) rfl rfl tw_316 d_Band_may_62 hn_a0 ?_
      refine ev_iload_n 2 d_Band_may_65 rfl rfl ?_
      refine ev_iload_n 2 d_Band_may_66 rfl rfl ?_
      refine ev_aload_n 0 d_Band_may_67 rfl (by decide) rfl ?_
      refine ev_get (t := 11) (k := 0) (by decide) (by decide) rfl i_Band (by decide) rfl rfl tw_313 d_Band_may_68 hn_a0 ?_
      obtain ⟨hz14, h⟩ := gx h
      refine ev_getN (host := "TownBand") (t := 7) (k := 1) (by decide) (by decide) rfl i_Players (by decide) rfl rfl tw_39 d_Band_may_71 hz14 ?_
      refine ev_iload_n 1 d_Band_may_74 rfl rfl ?_
      obtain ⟨hz15, h⟩ := gx h
      obtain ⟨hg16, h⟩ := gx h
      refine ev_iald d_Band_may_75 hz15 hg16 ?_
      refine ev_isub d_Band_may_76 ?_
      obtain ⟨hz17, h⟩ := gx h
      obtain ⟨p18, hp18, h⟩ := bx h
      have hRp18 := c_Rule_setDay (X := X) (d := d - 1) (by omega) hz17 hp18
      refine ev_callVN2 (host := "TownBand") (st2 := []) (as := [(0, a2), (0, (w32 (a2 - (mg p13 (cI (mg p13 (cI (mg p13 (cI a0) 0)) 1)) (a1 : Int).toNat))))]) (rest := []) rfl (by decide) (by decide) rfl hz17 rfl (Nat.le_of_ble_eq_true rfl) k_Rule_setDay ⟨tw_863, ts_71⟩ (by omega) tw_861 d_Band_may_77 hRp18 rfl ?_
      refine ev_aload_n 0 d_Band_may_80 rfl (by decide) rfl ?_
      refine ev_get (t := 11) (k := 3) (by decide) (by decide) rfl i_Band (by decide) rfl rfl tw_316 d_Band_may_81 hn_a0 ?_
      obtain ⟨hz19, h⟩ := gx h
      obtain ⟨p20, hp20, h⟩ := bx h
      have hRp20 := c_Rule_allows (X := X) (d := d - 1) (by omega) hz19 hp20
      refine ev_callVN2 (host := "TownBand") (st2 := [(0, p20.1)]) (as := []) (rest := []) rfl (by decide) (by decide) rfl hz19 rfl (Nat.le_of_ble_eq_true rfl) k_Rule_allows ⟨tw_867, ts_72⟩ (by omega) tw_865 d_Band_may_84 hRp20 rfl ?_
      by_cases hc21 : p20.1 = 0
      · replace h := itp hc21 h
        refine ev_if_eq_t (tgt := 94) d_Band_may_87 (by decide) hc21 ?_
        refine ev_iconst d_Band_may_94 rfl ?_
        cases h
        exact ev_ret d_Band_may_95 rfl
      · replace h := itn hc21 h
        refine ev_if_eq_f d_Band_may_87 (by decide) hc21 ?_
        refine ev_iconst d_Band_may_90 rfl ?_
        refine ev_goto (tgt := 95) d_Band_may_91 (by decide) ?_
        cases h
        exact ev_ret d_Band_may_95 rfl
    · replace h := itn hc5 h
      refine ev_if_ne_f d_Band_may_15 (by decide) hc5 ?_
      refine ev_iconst d_Band_may_18 rfl ?_
      cases h
      exact ev_ret d_Band_may_19 rfl
def l_Band_playablePieces_4 (a0 : Int) (s : Int × Int × Mm) : Option ((Int × Int × Mm) ⊕ (Int × Mm)) :=
  if (mg s.2.2 (cI a0) 1) ≠ 0 then
  if (mg s.2.2 (cI (mg s.2.2 (cI a0) 1)) 1) ≤ s.2.1 then
  some (.inr (s.1, s.2.2))
  else
  (f_Library_find s.2.2 (mg s.2.2 (cI a0) 1) s.2.1).bind (fun p3 =>
  if p3 = 0 then
  lt (w32 (s.2.1 + 1)) (fun x5 : Int =>
  some (.inl (s.1, x5, s.2.2)))
  else
  if (mg s.2.2 (cI a0) 5) ≠ 0 then
  if (mg s.2.2 (cI a0) 0) ≠ 0 then
  (f_Cover_coversMust s.2.2 (mg s.2.2 (cI a0) 5) p3 (mg s.2.2 (cI a0) 0)).bind (fun p8 =>
  if p8.1 = 0 then
  lt (w32 (s.2.1 + 1)) (fun x10 : Int =>
  some (.inl (s.1, x10, p8.2)))
  else
  lt (w32 (s.1 + 1)) (fun x11 : Int =>
  lt (w32 (s.2.1 + 1)) (fun x12 : Int =>
  some (.inl (x11, x12, p8.2)))))
  else none
  else none)
  else none
theorem cs_l_Band_playablePieces_4 {X : XX} {d : Nat} (hd : 14 ≤ d) {a0 : Int} (hn_a0 : a0 ≠ 0) {s : Int × Int × Mm} {x : (Int × Int × Mm) ⊕ (Int × Mm)} {r : Option AV} {M' : Mm} (h : l_Band_playablePieces_4 a0 s = some x) (hk1 : ∀ s : Int × Int × Mm, x = .inl s → Ev X m_Band_playablePieces d 4 [(0, (11, a0)), (1, (0, s.1)), (2, (0, s.2.1))] [] s.2.2 r M') (hk2 : ∀ t : Int × Mm, x = .inr t → Ev X m_Band_playablePieces d 52 [(1, (0, t.1))] [] t.2 r M') : Ev X m_Band_playablePieces d 4 [(0, (11, a0)), (1, (0, s.1)), (2, (0, s.2.1))] [] s.2.2 r M' := by
  unfold l_Band_playablePieces_4 at h
  refine ev_iload_n 2 d_Band_playablePieces_4 rfl rfl ?_
  refine ev_aload_n 0 d_Band_playablePieces_5 rfl (by decide) rfl ?_
  refine ev_get (t := 11) (k := 1) (by decide) (by decide) rfl i_Band (by decide) rfl rfl tw_314 d_Band_playablePieces_6 hn_a0 ?_
  obtain ⟨hz1, h⟩ := gx h
  refine ev_getN (host := "TownBand") (t := 3) (k := 1) (by decide) (by decide) rfl i_Library (by decide) rfl rfl tw_120 d_Band_playablePieces_9 hz1 ?_
  by_cases hc2 : (mg s.2.2 (cI (mg s.2.2 (cI a0) 1)) 1) ≤ s.2.1
  · replace h := itp hc2 h
    refine ev_icmp_ge_t (tgt := 52) d_Band_playablePieces_12 (by decide) hc2 ?_
    refine ev_less (L' := [(1, (0, s.1))]) [1] rfl ?_
    cases h
    exact hk2 _ rfl
  · replace h := itn hc2 h
    refine ev_icmp_ge_f d_Band_playablePieces_12 (by decide) hc2 ?_
    refine ev_aload_n 0 d_Band_playablePieces_15 rfl (by decide) rfl ?_
    refine ev_get (t := 11) (k := 1) (by decide) (by decide) rfl i_Band (by decide) rfl rfl tw_314 d_Band_playablePieces_16 hn_a0 ?_
    refine ev_iload_n 2 d_Band_playablePieces_19 rfl rfl ?_
    obtain ⟨p3, hp3, h⟩ := bx h
    have hRp3 := c_Library_find (X := X) (d := d - 1) (by omega) hz1 hp3
    refine ev_callVN2 (host := "TownBand") (st2 := [(5, p3)]) (as := [(0, s.2.1)]) (rest := []) rfl (by decide) (by decide) rfl hz1 rfl (Nat.le_of_ble_eq_true rfl) k_Library_find ⟨tw_594, ts_31⟩ (by omega) tw_592 d_Band_playablePieces_20 hRp3 rfl ?_
    refine ev_astore_n (L' := [(3, (5, p3)), (0, (11, a0)), (1, (0, s.1)), (2, (0, s.2.1))]) d_Band_playablePieces_23 rfl (by decide) (by decide) rfl ?_
    refine ev_aload_n 0 d_Band_playablePieces_24 rfl (by decide) rfl ?_
    by_cases hc4 : p3 = 0
    · replace h := itp hc4 h
      refine ev_ifnull_t (tgt := 46) (by decide) (by decide) d_Band_playablePieces_25 (by decide) hc4 ?_
      obtain ⟨x5, hx5, h⟩ := ltx h
      refine ev_iinc' 3 (y := x5) (L' := [(2, (0, x5)), (3, (5, p3)), (0, (11, a0)), (1, (0, s.1))]) d_Band_playablePieces_46 rfl (by decide) rfl hx5 ?_
      refine ev_goto (tgt := 4) d_Band_playablePieces_49 (by decide) ?_
      refine ev_less (L' := [(0, (11, a0)), (1, (0, s.1)), (2, (0, x5))]) [2, 3, 0] rfl ?_
      cases h
      exact hk1 _ rfl
    · replace h := itn hc4 h
      refine ev_ifnull_f (by decide) (by decide) d_Band_playablePieces_25 hc4 ?_
      refine ev_aload_n 1 d_Band_playablePieces_28 rfl (by decide) rfl ?_
      refine ev_get (t := 11) (k := 5) (by decide) (by decide) rfl i_Band (by decide) rfl rfl tw_318 d_Band_playablePieces_29 hn_a0 ?_
      refine ev_aload_n 0 d_Band_playablePieces_32 rfl (by decide) rfl ?_
      refine ev_aload_n 1 d_Band_playablePieces_33 rfl (by decide) rfl ?_
      refine ev_get (t := 11) (k := 0) (by decide) (by decide) rfl i_Band (by decide) rfl rfl tw_313 d_Band_playablePieces_34 hn_a0 ?_
      obtain ⟨hz6, h⟩ := gx h
      obtain ⟨hz7, h⟩ := gx h
      obtain ⟨p8, hp8, h⟩ := bx h
      have hRp8 := c_Cover_coversMust (X := X) (d := d - 1) (by omega) hz6 hc4 hz7 hp8
      refine ev_callVN2 (host := "TownBand") (st2 := [(0, p8.1)]) (as := [(5, p3), (7, (mg s.2.2 (cI a0) 0))]) (rest := []) rfl (by decide) (by decide) rfl hz6 rfl (Nat.le_of_ble_eq_true rfl) k_Cover_coversMust ⟨tw_614, ts_35⟩ (by omega) tw_612 d_Band_playablePieces_37 hRp8 rfl ?_
      by_cases hc9 : p8.1 = 0
      · replace h := itp hc9 h
        refine ev_if_eq_t (tgt := 46) d_Band_playablePieces_40 (by decide) hc9 ?_
        obtain ⟨x10, hx10, h⟩ := ltx h
        refine ev_iinc' 3 (y := x10) (L' := [(2, (0, x10)), (3, (5, p3)), (0, (11, a0)), (1, (0, s.1))]) d_Band_playablePieces_46 rfl (by decide) rfl hx10 ?_
        refine ev_goto (tgt := 4) d_Band_playablePieces_49 (by decide) ?_
        refine ev_less (L' := [(0, (11, a0)), (1, (0, s.1)), (2, (0, x10))]) [2, 3, 0] rfl ?_
        cases h
        exact hk1 _ rfl
      · replace h := itn hc9 h
        refine ev_if_eq_f d_Band_playablePieces_40 (by decide) hc9 ?_
        obtain ⟨x11, hx11, h⟩ := ltx h
        refine ev_iinc' 2 (y := x11) (L' := [(1, (0, x11)), (3, (5, p3)), (0, (11, a0)), (2, (0, s.2.1))]) d_Band_playablePieces_43 rfl (by decide) rfl hx11 ?_
        obtain ⟨x12, hx12, h⟩ := ltx h
        refine ev_iinc' 3 (y := x12) (L' := [(2, (0, x12)), (1, (0, x11)), (3, (5, p3)), (0, (11, a0))]) d_Band_playablePieces_46 rfl (by decide) rfl hx12 ?_
        refine ev_goto (tgt := 4) d_Band_playablePieces_49 (by decide) ?_
        refine ev_less (L' := [(0, (11, a0)), (1, (0, x11)), (2, (0, x12))]) [3, 1, 0] rfl ?_
        cases h
        exact hk1 _ rfl
def f_Band_playablePieces (M : Mm) (a0 : Int) : Option (Int × Mm) :=
  (loopN (l_Band_playablePieces_4 a0) FU (0, 0, M)).bind (fun t13 =>
  some (t13.1, t13.2))
theorem c_Band_playablePieces {X : XX} {d : Nat} (hd : 14 ≤ d) {M : Mm} {a0 : Int} (hn_a0 : a0 ≠ 0) {p : Int × Mm} (h : f_Band_playablePieces M a0 = some p) : Rn X d m_Band_playablePieces [(11, a0)] M (some (0, p.1)) p.2 := by
  refine Rn_of (by decide) rfl (Nat.le_of_ble_eq_true rfl) ?_
  unfold f_Band_playablePieces at h
  refine ev_less (L' := [(0, (11, a0))]) [0] rfl ?_
  refine ev_iconst d_Band_playablePieces_0 rfl ?_
  refine ev_istore_n (L' := [(1, (0, 0)), (0, (11, a0))]) d_Band_playablePieces_1 rfl (by decide) rfl ?_
  refine ev_iconst d_Band_playablePieces_2 rfl ?_
  refine ev_istore_n (L' := [(2, (0, 0)), (1, (0, 0)), (0, (11, a0))]) d_Band_playablePieces_3 rfl (by decide) rfl ?_
  obtain ⟨t13, ht13, h⟩ := bx h
  refine ev_less (L' := [(0, (11, a0)), (1, (0, 0)), (2, (0, 0))]) [2, 1, 0] rfl ?_
  refine loop_ev (step := l_Band_playablePieces_4 a0) (P := fun w : Int × Int × Mm => Ev X m_Band_playablePieces d 4 [(0, (11, a0)), (1, (0, w.1)), (2, (0, w.2.1))] [] w.2.2 (some (0, p.1)) p.2) (Q := fun w => Ev X m_Band_playablePieces d 52 [(1, (0, w.1))] [] w.2 (some (0, p.1)) p.2) (fun w x hs k1 k2 => cs_l_Band_playablePieces_4 hd hn_a0 hs k1 k2) FU (0, 0, M) t13 ht13 ?_
  refine ev_iload_n 0 d_Band_playablePieces_52 rfl rfl ?_
  cases h
  exact ev_ret d_Band_playablePieces_53 rfl
def f_Band_count (M : Mm) (a0 : Int) (a1 : Int) : Option (Int × Mm) :=
  if a1 = 0 then
  if (mg M (cI a0) 0) ≠ 0 then
  some ((mg M (cI (mg M (cI a0) 0)) 4), M)
  else none
  else
  if a1 = 1 then
  if (mg M (cI a0) 0) ≠ 0 then
  (f_Integer_bitCount M (mg M (cI (mg M (cI a0) 0)) 5)).bind (fun p5 =>
  some (p5, M))
  else none
  else
  if a1 = 2 then
  if (mg M (cI a0) 1) ≠ 0 then
  some ((mg M (cI (mg M (cI a0) 1)) 1), M)
  else none
  else
  if a1 = 3 then
  (f_Band_playablePieces M a0).bind (fun p9 =>
  some (p9.1, p9.2))
  else
  if a1 = 4 then
  if (mg M (cI a0) 4) ≠ 0 then
  some ((mg M (cI (mg M (cI a0) 4)) 5), M)
  else none
  else
  if a1 = 5 then
  if (mg M (cI a0) 7) ≠ 0 then
  some ((mg M (cI (mg M (cI a0) 7)) 1), M)
  else none
  else
  some ((-1), M)
theorem c_Band_count {X : XX} {d : Nat} (hd : 15 ≤ d) {M : Mm} {a0 : Int} {a1 : Int} (hn_a0 : a0 ≠ 0) {p : Int × Mm} (h : f_Band_count M a0 a1 = some p) : Rn X d m_Band_count [(11, a0), (0, a1)] M (some (0, p.1)) p.2 := by
  refine Rn_of (by decide) rfl (Nat.le_of_ble_eq_true rfl) ?_
  unfold f_Band_count at h
  refine ev_less (L' := [(0, (11, a0)), (1, (0, a1))]) [0, 1] rfl ?_
  refine ev_iload_n 1 d_Band_count_0 rfl rfl ?_
  by_cases hc1 : a1 = 0
  · replace h := itp hc1 h
    refine ev_tabIn (tgt := 40) 0 d_Band_count_1 (by rw [hc1]; rfl) (by decide) rfl (by decide) ?_
    refine ev_aload_n 0 d_Band_count_40 rfl (by decide) rfl ?_
    refine ev_get (t := 11) (k := 0) (by decide) (by decide) rfl i_Band (by decide) rfl rfl tw_313 d_Band_count_41 hn_a0 ?_
    obtain ⟨hz2, h⟩ := gx h
    refine ev_getN (host := "TownBand") (t := 7) (k := 4) (by decide) (by decide) rfl i_Players (by decide) rfl rfl tw_45 d_Band_count_44 hz2 ?_
    cases h
    exact ev_ret d_Band_count_47 rfl
  · replace h := itn hc1 h
    by_cases hc3 : a1 = 1
    · replace h := itp hc3 h
      refine ev_tabIn (tgt := 48) 1 d_Band_count_1 (by rw [hc3]; rfl) (by decide) rfl (by decide) ?_
      refine ev_aload_n 0 d_Band_count_48 rfl (by decide) rfl ?_
      refine ev_get (t := 11) (k := 0) (by decide) (by decide) rfl i_Band (by decide) rfl rfl tw_313 d_Band_count_49 hn_a0 ?_
      obtain ⟨hz4, h⟩ := gx h
      refine ev_getN (host := "TownBand") (t := 7) (k := 5) (by decide) (by decide) rfl i_Players (by decide) rfl rfl tw_47 d_Band_count_52 hz4 ?_
      obtain ⟨p5, hp5, h⟩ := bx h
      have hRp5 := c_Integer_bitCount (X := X) (d := d - 1) (by omega)  hp5
      refine ev_callS2 (st2 := [(0, p5)]) (as := [(0, (mg M (cI (mg M (cI a0) 0)) 5))]) (rest := []) rfl rfl (Nat.le_of_ble_eq_true rfl) k_Integer_bitCount tw_652 (by omega) tw_888 d_Band_count_55 hRp5 rfl ?_
      cases h
      exact ev_ret d_Band_count_58 rfl
    · replace h := itn hc3 h
      by_cases hc6 : a1 = 2
      · replace h := itp hc6 h
        refine ev_tabIn (tgt := 59) 2 d_Band_count_1 (by rw [hc6]; rfl) (by decide) rfl (by decide) ?_
        refine ev_aload_n 0 d_Band_count_59 rfl (by decide) rfl ?_
        refine ev_get (t := 11) (k := 1) (by decide) (by decide) rfl i_Band (by decide) rfl rfl tw_314 d_Band_count_60 hn_a0 ?_
        obtain ⟨hz7, h⟩ := gx h
        refine ev_getN (host := "TownBand") (t := 3) (k := 1) (by decide) (by decide) rfl i_Library (by decide) rfl rfl tw_120 d_Band_count_63 hz7 ?_
        cases h
        exact ev_ret d_Band_count_66 rfl
      · replace h := itn hc6 h
        by_cases hc8 : a1 = 3
        · replace h := itp hc8 h
          refine ev_tabIn (tgt := 67) 3 d_Band_count_1 (by rw [hc8]; rfl) (by decide) rfl (by decide) ?_
          refine ev_aload_n 0 d_Band_count_67 rfl (by decide) rfl ?_
          obtain ⟨p9, hp9, h⟩ := bx h
          have hRp9 := c_Band_playablePieces (X := X) (d := d - 1) (by omega) hn_a0 hp9
          refine ev_callV2 (st2 := [(0, p9.1)]) (as := []) (rest := []) rfl (by decide) (by decide) rfl hn_a0 rfl (Nat.le_of_ble_eq_true rfl) k_Band_playablePieces ⟨tw_891, ts_76⟩ (by omega) tw_889 d_Band_count_68 hRp9 rfl ?_
          cases h
          exact ev_ret d_Band_count_71 rfl
        · replace h := itn hc8 h
          by_cases hc10 : a1 = 4
          · replace h := itp hc10 h
            refine ev_tabIn (tgt := 72) 4 d_Band_count_1 (by rw [hc10]; rfl) (by decide) rfl (by decide) ?_
            refine ev_aload_n 0 d_Band_count_72 rfl (by decide) rfl ?_
            refine ev_get (t := 11) (k := 4) (by decide) (by decide) rfl i_Band (by decide) rfl rfl tw_317 d_Band_count_73 hn_a0 ?_
            obtain ⟨hz11, h⟩ := gx h
            refine ev_getN (host := "TownBand") (t := 4) (k := 5) (by decide) (by decide) rfl i_Loans (by decide) rfl rfl tw_214 d_Band_count_76 hz11 ?_
            cases h
            exact ev_ret d_Band_count_79 rfl
          · replace h := itn hc10 h
            by_cases hc12 : a1 = 5
            · replace h := itp hc12 h
              refine ev_tabIn (tgt := 80) 5 d_Band_count_1 (by rw [hc12]; rfl) (by decide) rfl (by decide) ?_
              refine ev_aload_n 0 d_Band_count_80 rfl (by decide) rfl ?_
              refine ev_get (t := 11) (k := 7) (by decide) (by decide) rfl i_Band (by decide) rfl rfl tw_320 d_Band_count_81 hn_a0 ?_
              obtain ⟨hz13, h⟩ := gx h
              refine ev_getN (host := "TownBand") (t := 6) (k := 1) (by decide) (by decide) rfl i_Planner (by decide) rfl rfl tw_285 d_Band_count_84 hz13 ?_
              cases h
              exact ev_ret d_Band_count_87 rfl
            · replace h := itn hc12 h
              refine ev_tabOut (tgt := 88) d_Band_count_1 (by omega) (by decide) ?_
              refine ev_iconst d_Band_count_88 rfl ?_
              cases h
              exact ev_ret d_Band_count_89 rfl
def f_Model_init (M : Mm) (a0 : Int) : Option (Mm) :=
  lt (mw M (14 : Int).toNat) (fun M1 =>
  lt (mp M1 (cI a0) 2 ((mN M : Int) + 1)) (fun M2 =>
  lt (mw M2 (14 : Int).toNat) (fun M3 =>
  lt (mp M3 (cI a0) 3 ((mN M2 : Int) + 1)) (fun M4 =>
  lt (mw M4 (14 : Int).toNat) (fun M5 =>
  lt (mp M5 (cI a0) 4 ((mN M4 : Int) + 1)) (fun M6 =>
  lt (mw M6 (14 : Int).toNat) (fun M7 =>
  lt (mp M7 (cI a0) 5 ((mN M6 : Int) + 1)) (fun M8 =>
  lt (mw M8 (140 : Int).toNat) (fun M9 =>
  lt (mp M9 (cI a0) 6 ((mN M8 : Int) + 1)) (fun M10 =>
  lt (mw M10 (10 : Int).toNat) (fun M11 =>
  lt (mp M11 (cI a0) 8 ((mN M10 : Int) + 1)) (fun M12 =>
  lt (mw M12 (10 : Int).toNat) (fun M13 =>
  lt (mp M13 (cI a0) 9 ((mN M12 : Int) + 1)) (fun M14 =>
  lt (mw M14 (10 : Int).toNat) (fun M15 =>
  lt (mp M15 (cI a0) 10 ((mN M14 : Int) + 1)) (fun M16 =>
  lt (mw M16 (10 : Int).toNat) (fun M17 =>
  lt (mp M17 (cI a0) 11 ((mN M16 : Int) + 1)) (fun M18 =>
  lt (mw M18 (10 : Int).toNat) (fun M19 =>
  lt (mp M19 (cI a0) 12 ((mN M18 : Int) + 1)) (fun M20 =>
  lt (mw M20 (10 : Int).toNat) (fun M21 =>
  lt (mp M21 (cI a0) 13 ((mN M20 : Int) + 1)) (fun M22 =>
  lt (mw M22 (100 : Int).toNat) (fun M23 =>
  lt (mp M23 (cI a0) 14 ((mN M22 : Int) + 1)) (fun M24 =>
  lt (mw M24 (400 : Int).toNat) (fun M25 =>
  lt (mp M25 (cI a0) 15 ((mN M24 : Int) + 1)) (fun M26 =>
  lt (mw M26 (100 : Int).toNat) (fun M27 =>
  lt (mp M27 (cI a0) 16 ((mN M26 : Int) + 1)) (fun M28 =>
  lt (mw M28 (180224 : Int).toNat) (fun M29 =>
  lt (mp M29 (cI a0) 17 ((mN M28 : Int) + 1)) (fun M30 =>
  lt (mw M30 (10 : Int).toNat) (fun M31 =>
  lt (mp M31 (cI a0) 20 ((mN M30 : Int) + 1)) (fun M32 =>
  lt (mw M32 (10240 : Int).toNat) (fun M33 =>
  lt (mp M33 (cI a0) 21 ((mN M32 : Int) + 1)) (fun M34 =>
  lt (mw M34 (10240 : Int).toNat) (fun M35 =>
  lt (mp M35 (cI a0) 22 ((mN M34 : Int) + 1)) (fun M36 =>
  lt (mw M36 (10 : Int).toNat) (fun M37 =>
  lt (mp M37 (cI a0) 23 ((mN M36 : Int) + 1)) (fun M38 =>
  lt (mw M38 (200 : Int).toNat) (fun M39 =>
  lt (mp M39 (cI a0) 25 ((mN M38 : Int) + 1)) (fun M40 =>
  lt (mw M40 (200 : Int).toNat) (fun M41 =>
  lt (mp M41 (cI a0) 26 ((mN M40 : Int) + 1)) (fun M42 =>
  lt (mw M42 (200 : Int).toNat) (fun M43 =>
  lt (mp M43 (cI a0) 27 ((mN M42 : Int) + 1)) (fun M44 =>
  lt (mw M44 (800 : Int).toNat) (fun M45 =>
  lt (mp M45 (cI a0) 28 ((mN M44 : Int) + 1)) (fun M46 =>
  lt (mp M46 (cI a0) 36 (-1)) (fun M47 =>
  lt (mw M47 (800 : Int).toNat) (fun M48 =>
  lt (mp M48 (cI a0) 39 ((mN M47 : Int) + 1)) (fun M49 =>
  lt (mw M49 (800 : Int).toNat) (fun M50 =>
  lt (mp M50 (cI a0) 40 ((mN M49 : Int) + 1)) (fun M51 =>
  lt (mw M51 (800 : Int).toNat) (fun M52 =>
  lt (mp M52 (cI a0) 42 ((mN M51 : Int) + 1)) (fun M53 =>
  lt (mw M53 (800 : Int).toNat) (fun M54 =>
  lt (mp M54 (cI a0) 43 ((mN M53 : Int) + 1)) (fun M55 =>
  lt (mw M55 (64 : Int).toNat) (fun M56 =>
  lt (mp M56 (cI a0) 45 ((mN M55 : Int) + 1)) (fun M57 =>
  lt (mw M57 (64 : Int).toNat) (fun M58 =>
  lt (mp M58 (cI a0) 46 ((mN M57 : Int) + 1)) (fun M59 =>
  some M59)))))))))))))))))))))))))))))))))))))))))))))))))))))))))))
theorem c_Model_init {X : XX} {d : Nat} (hd : 1 ≤ d) {M : Mm} {a0 : Int} (hn_a0 : a0 ≠ 0) {p : Mm} (h : f_Model_init M a0 = some p) : Rn X d m_Model_init [(12, a0)] M none p := by
  refine Rn_of (by decide) rfl (Nat.le_of_ble_eq_true rfl) ?_
  unfold f_Model_init at h
  refine ev_less (L' := [(0, (12, a0))]) [0] rfl ?_
  refine ev_aload_n 0 d_Model_init_0 rfl (by decide) rfl ?_
  refine ev_objInit (t := 12) (by decide) (by decide) hn_a0 (Nat.le_of_ble_eq_true rfl) (by omega) tw_898 tw_25 tw_26 d_Model_init_1 ?_
  refine ev_aload_n 0 d_Model_init_4 rfl (by decide) rfl ?_
  refine ev_bipush d_Model_init_5 rfl ?_
  obtain ⟨M1, hM1, h⟩ := ltx h
  refine ev_newI' tw_61 d_Model_init_7 ⟨by decide, by decide⟩ hM1 ?_
  obtain ⟨M2, hM2, h⟩ := ltx h
  refine ev_putF' (t := 12) (k := 2) (by decide) (by decide) rfl i_Model t_Model_ok n_Model (by decide) rfl rfl rfl rfl rfl rfl tw_902 d_Model_init_9 hn_a0 hM2 ?_
  refine ev_aload_n 0 d_Model_init_12 rfl (by decide) rfl ?_
  refine ev_bipush d_Model_init_13 rfl ?_
  obtain ⟨M3, hM3, h⟩ := ltx h
  refine ev_newI' tw_61 d_Model_init_15 ⟨by decide, by decide⟩ hM3 ?_
  obtain ⟨M4, hM4, h⟩ := ltx h
  refine ev_putF' (t := 12) (k := 3) (by decide) (by decide) rfl i_Model t_Model_ok n_Model (by decide) rfl rfl rfl rfl rfl rfl tw_903 d_Model_init_17 hn_a0 hM4 ?_
  refine ev_aload_n 0 d_Model_init_20 rfl (by decide) rfl ?_
  refine ev_bipush d_Model_init_21 rfl ?_
  obtain ⟨M5, hM5, h⟩ := ltx h
  refine ev_newI' tw_61 d_Model_init_23 ⟨by decide, by decide⟩ hM5 ?_
  obtain ⟨M6, hM6, h⟩ := ltx h
  refine ev_putF' (t := 12) (k := 4) (by decide) (by decide) rfl i_Model t_Model_ok n_Model (by decide) rfl rfl rfl rfl rfl rfl tw_904 d_Model_init_25 hn_a0 hM6 ?_
  refine ev_aload_n 0 d_Model_init_28 rfl (by decide) rfl ?_
  refine ev_bipush d_Model_init_29 rfl ?_
  obtain ⟨M7, hM7, h⟩ := ltx h
  refine ev_newZ' tw_1045 d_Model_init_31 ⟨by decide, by decide⟩ hM7 ?_
  obtain ⟨M8, hM8, h⟩ := ltx h
  refine ev_putF' (t := 12) (k := 5) (by decide) (by decide) rfl i_Model t_Model_ok n_Model (by decide) rfl rfl rfl rfl rfl rfl tw_905 d_Model_init_33 hn_a0 hM8 ?_
  refine ev_aload_n 0 d_Model_init_36 rfl (by decide) rfl ?_
  refine ev_sipush d_Model_init_37 rfl ?_
  obtain ⟨M9, hM9, h⟩ := ltx h
  refine ev_newI' tw_61 d_Model_init_40 ⟨by decide, by decide⟩ hM9 ?_
  obtain ⟨M10, hM10, h⟩ := ltx h
  refine ev_putF' (t := 12) (k := 6) (by decide) (by decide) rfl i_Model t_Model_ok n_Model (by decide) rfl rfl rfl rfl rfl rfl tw_906 d_Model_init_42 hn_a0 hM10 ?_
  refine ev_aload_n 0 d_Model_init_45 rfl (by decide) rfl ?_
  refine ev_bipush d_Model_init_46 rfl ?_
  obtain ⟨M11, hM11, h⟩ := ltx h
  refine ev_newJ' tw_275 d_Model_init_48 ⟨by decide, by decide⟩ hM11 ?_
  obtain ⟨M12, hM12, h⟩ := ltx h
  refine ev_putF' (t := 12) (k := 8) (by decide) (by decide) rfl i_Model t_Model_ok n_Model (by decide) rfl rfl rfl rfl rfl rfl tw_908 d_Model_init_50 hn_a0 hM12 ?_
  refine ev_aload_n 0 d_Model_init_53 rfl (by decide) rfl ?_
  refine ev_bipush d_Model_init_54 rfl ?_
  obtain ⟨M13, hM13, h⟩ := ltx h
  refine ev_newI' tw_61 d_Model_init_56 ⟨by decide, by decide⟩ hM13 ?_
  obtain ⟨M14, hM14, h⟩ := ltx h
  refine ev_putF' (t := 12) (k := 9) (by decide) (by decide) rfl i_Model t_Model_ok n_Model (by decide) rfl rfl rfl rfl rfl rfl tw_909 d_Model_init_58 hn_a0 hM14 ?_
  refine ev_aload_n 0 d_Model_init_61 rfl (by decide) rfl ?_
  refine ev_bipush d_Model_init_62 rfl ?_
  obtain ⟨M15, hM15, h⟩ := ltx h
  refine ev_newI' tw_61 d_Model_init_64 ⟨by decide, by decide⟩ hM15 ?_
  obtain ⟨M16, hM16, h⟩ := ltx h
  refine ev_putF' (t := 12) (k := 10) (by decide) (by decide) rfl i_Model t_Model_ok n_Model (by decide) rfl rfl rfl rfl rfl rfl tw_910 d_Model_init_66 hn_a0 hM16 ?_
  refine ev_aload_n 0 d_Model_init_69 rfl (by decide) rfl ?_
  refine ev_bipush d_Model_init_70 rfl ?_
  obtain ⟨M17, hM17, h⟩ := ltx h
  refine ev_newI' tw_61 d_Model_init_72 ⟨by decide, by decide⟩ hM17 ?_
  obtain ⟨M18, hM18, h⟩ := ltx h
  refine ev_putF' (t := 12) (k := 11) (by decide) (by decide) rfl i_Model t_Model_ok n_Model (by decide) rfl rfl rfl rfl rfl rfl tw_911 d_Model_init_74 hn_a0 hM18 ?_
  refine ev_aload_n 0 d_Model_init_77 rfl (by decide) rfl ?_
  refine ev_bipush d_Model_init_78 rfl ?_
  obtain ⟨M19, hM19, h⟩ := ltx h
  refine ev_newI' tw_61 d_Model_init_80 ⟨by decide, by decide⟩ hM19 ?_
  obtain ⟨M20, hM20, h⟩ := ltx h
  refine ev_putF' (t := 12) (k := 12) (by decide) (by decide) rfl i_Model t_Model_ok n_Model (by decide) rfl rfl rfl rfl rfl rfl tw_912 d_Model_init_82 hn_a0 hM20 ?_
  refine ev_aload_n 0 d_Model_init_85 rfl (by decide) rfl ?_
  refine ev_bipush d_Model_init_86 rfl ?_
  obtain ⟨M21, hM21, h⟩ := ltx h
  refine ev_newI' tw_61 d_Model_init_88 ⟨by decide, by decide⟩ hM21 ?_
  obtain ⟨M22, hM22, h⟩ := ltx h
  refine ev_putF' (t := 12) (k := 13) (by decide) (by decide) rfl i_Model t_Model_ok n_Model (by decide) rfl rfl rfl rfl rfl rfl tw_913 d_Model_init_90 hn_a0 hM22 ?_
  refine ev_aload_n 0 d_Model_init_93 rfl (by decide) rfl ?_
  refine ev_bipush d_Model_init_94 rfl ?_
  obtain ⟨M23, hM23, h⟩ := ltx h
  refine ev_newI' tw_61 d_Model_init_96 ⟨by decide, by decide⟩ hM23 ?_
  obtain ⟨M24, hM24, h⟩ := ltx h
  refine ev_putF' (t := 12) (k := 14) (by decide) (by decide) rfl i_Model t_Model_ok n_Model (by decide) rfl rfl rfl rfl rfl rfl tw_914 d_Model_init_98 hn_a0 hM24 ?_
  refine ev_aload_n 0 d_Model_init_101 rfl (by decide) rfl ?_
  refine ev_sipush d_Model_init_102 rfl ?_
  obtain ⟨M25, hM25, h⟩ := ltx h
  refine ev_newI' tw_61 d_Model_init_105 ⟨by decide, by decide⟩ hM25 ?_
  obtain ⟨M26, hM26, h⟩ := ltx h
  refine ev_putF' (t := 12) (k := 15) (by decide) (by decide) rfl i_Model t_Model_ok n_Model (by decide) rfl rfl rfl rfl rfl rfl tw_915 d_Model_init_107 hn_a0 hM26 ?_
  refine ev_aload_n 0 d_Model_init_110 rfl (by decide) rfl ?_
  refine ev_bipush d_Model_init_111 rfl ?_
  obtain ⟨M27, hM27, h⟩ := ltx h
  refine ev_newI' tw_61 d_Model_init_113 ⟨by decide, by decide⟩ hM27 ?_
  obtain ⟨M28, hM28, h⟩ := ltx h
  refine ev_putF' (t := 12) (k := 16) (by decide) (by decide) rfl i_Model t_Model_ok n_Model (by decide) rfl rfl rfl rfl rfl rfl tw_916 d_Model_init_115 hn_a0 hM28 ?_
  refine ev_aload_n 0 d_Model_init_118 rfl (by decide) rfl ?_
  refine ev_ldc (v := 180224) d_Model_init_119 tw_899 rfl ?_
  obtain ⟨M29, hM29, h⟩ := ltx h
  refine ev_newI' tw_61 d_Model_init_121 ⟨by decide, by decide⟩ hM29 ?_
  obtain ⟨M30, hM30, h⟩ := ltx h
  refine ev_putF' (t := 12) (k := 17) (by decide) (by decide) rfl i_Model t_Model_ok n_Model (by decide) rfl rfl rfl rfl rfl rfl tw_917 d_Model_init_123 hn_a0 hM30 ?_
  refine ev_aload_n 0 d_Model_init_126 rfl (by decide) rfl ?_
  refine ev_bipush d_Model_init_127 rfl ?_
  obtain ⟨M31, hM31, h⟩ := ltx h
  refine ev_newI' tw_61 d_Model_init_129 ⟨by decide, by decide⟩ hM31 ?_
  obtain ⟨M32, hM32, h⟩ := ltx h
  refine ev_putF' (t := 12) (k := 20) (by decide) (by decide) rfl i_Model t_Model_ok n_Model (by decide) rfl rfl rfl rfl rfl rfl tw_920 d_Model_init_131 hn_a0 hM32 ?_
  refine ev_aload_n 0 d_Model_init_134 rfl (by decide) rfl ?_
  refine ev_sipush d_Model_init_135 rfl ?_
  obtain ⟨M33, hM33, h⟩ := ltx h
  refine ev_newI' tw_61 d_Model_init_138 ⟨by decide, by decide⟩ hM33 ?_
  obtain ⟨M34, hM34, h⟩ := ltx h
  refine ev_putF' (t := 12) (k := 21) (by decide) (by decide) rfl i_Model t_Model_ok n_Model (by decide) rfl rfl rfl rfl rfl rfl tw_921 d_Model_init_140 hn_a0 hM34 ?_
  refine ev_aload_n 0 d_Model_init_143 rfl (by decide) rfl ?_
  refine ev_sipush d_Model_init_144 rfl ?_
  obtain ⟨M35, hM35, h⟩ := ltx h
  refine ev_newZ' tw_1045 d_Model_init_147 ⟨by decide, by decide⟩ hM35 ?_
  obtain ⟨M36, hM36, h⟩ := ltx h
  refine ev_putF' (t := 12) (k := 22) (by decide) (by decide) rfl i_Model t_Model_ok n_Model (by decide) rfl rfl rfl rfl rfl rfl tw_922 d_Model_init_149 hn_a0 hM36 ?_
  refine ev_aload_n 0 d_Model_init_152 rfl (by decide) rfl ?_
  refine ev_bipush d_Model_init_153 rfl ?_
  obtain ⟨M37, hM37, h⟩ := ltx h
  refine ev_newZ' tw_1045 d_Model_init_155 ⟨by decide, by decide⟩ hM37 ?_
  obtain ⟨M38, hM38, h⟩ := ltx h
  refine ev_putF' (t := 12) (k := 23) (by decide) (by decide) rfl i_Model t_Model_ok n_Model (by decide) rfl rfl rfl rfl rfl rfl tw_923 d_Model_init_157 hn_a0 hM38 ?_
  refine ev_aload_n 0 d_Model_init_160 rfl (by decide) rfl ?_
  refine ev_sipush d_Model_init_161 rfl ?_
  obtain ⟨M39, hM39, h⟩ := ltx h
  refine ev_newI' tw_61 d_Model_init_164 ⟨by decide, by decide⟩ hM39 ?_
  obtain ⟨M40, hM40, h⟩ := ltx h
  refine ev_putF' (t := 12) (k := 25) (by decide) (by decide) rfl i_Model t_Model_ok n_Model (by decide) rfl rfl rfl rfl rfl rfl tw_925 d_Model_init_166 hn_a0 hM40 ?_
  refine ev_aload_n 0 d_Model_init_169 rfl (by decide) rfl ?_
  refine ev_sipush d_Model_init_170 rfl ?_
  obtain ⟨M41, hM41, h⟩ := ltx h
  refine ev_newI' tw_61 d_Model_init_173 ⟨by decide, by decide⟩ hM41 ?_
  obtain ⟨M42, hM42, h⟩ := ltx h
  refine ev_putF' (t := 12) (k := 26) (by decide) (by decide) rfl i_Model t_Model_ok n_Model (by decide) rfl rfl rfl rfl rfl rfl tw_926 d_Model_init_175 hn_a0 hM42 ?_
  refine ev_aload_n 0 d_Model_init_178 rfl (by decide) rfl ?_
  refine ev_sipush d_Model_init_179 rfl ?_
  obtain ⟨M43, hM43, h⟩ := ltx h
  refine ev_newI' tw_61 d_Model_init_182 ⟨by decide, by decide⟩ hM43 ?_
  obtain ⟨M44, hM44, h⟩ := ltx h
  refine ev_putF' (t := 12) (k := 27) (by decide) (by decide) rfl i_Model t_Model_ok n_Model (by decide) rfl rfl rfl rfl rfl rfl tw_927 d_Model_init_184 hn_a0 hM44 ?_
  refine ev_aload_n 0 d_Model_init_187 rfl (by decide) rfl ?_
  refine ev_sipush d_Model_init_188 rfl ?_
  obtain ⟨M45, hM45, h⟩ := ltx h
  refine ev_newI' tw_61 d_Model_init_191 ⟨by decide, by decide⟩ hM45 ?_
  obtain ⟨M46, hM46, h⟩ := ltx h
  refine ev_putF' (t := 12) (k := 28) (by decide) (by decide) rfl i_Model t_Model_ok n_Model (by decide) rfl rfl rfl rfl rfl rfl tw_928 d_Model_init_193 hn_a0 hM46 ?_
  refine ev_aload_n 0 d_Model_init_196 rfl (by decide) rfl ?_
  refine ev_iconst d_Model_init_197 rfl ?_
  obtain ⟨M47, hM47, h⟩ := ltx h
  refine ev_put' (t := 12) (k := 36) (by decide) (by decide) rfl i_Model t_Model_ok n_Model (by decide) rfl rfl rfl rfl tw_936 d_Model_init_198 hn_a0 hM47 ?_
  refine ev_aload_n 0 d_Model_init_201 rfl (by decide) rfl ?_
  refine ev_sipush d_Model_init_202 rfl ?_
  obtain ⟨M48, hM48, h⟩ := ltx h
  refine ev_newI' tw_61 d_Model_init_205 ⟨by decide, by decide⟩ hM48 ?_
  obtain ⟨M49, hM49, h⟩ := ltx h
  refine ev_putF' (t := 12) (k := 39) (by decide) (by decide) rfl i_Model t_Model_ok n_Model (by decide) rfl rfl rfl rfl rfl rfl tw_939 d_Model_init_207 hn_a0 hM49 ?_
  refine ev_aload_n 0 d_Model_init_210 rfl (by decide) rfl ?_
  refine ev_sipush d_Model_init_211 rfl ?_
  obtain ⟨M50, hM50, h⟩ := ltx h
  refine ev_newI' tw_61 d_Model_init_214 ⟨by decide, by decide⟩ hM50 ?_
  obtain ⟨M51, hM51, h⟩ := ltx h
  refine ev_putF' (t := 12) (k := 40) (by decide) (by decide) rfl i_Model t_Model_ok n_Model (by decide) rfl rfl rfl rfl rfl rfl tw_940 d_Model_init_216 hn_a0 hM51 ?_
  refine ev_aload_n 0 d_Model_init_219 rfl (by decide) rfl ?_
  refine ev_sipush d_Model_init_220 rfl ?_
  obtain ⟨M52, hM52, h⟩ := ltx h
  refine ev_newI' tw_61 d_Model_init_223 ⟨by decide, by decide⟩ hM52 ?_
  obtain ⟨M53, hM53, h⟩ := ltx h
  refine ev_putF' (t := 12) (k := 42) (by decide) (by decide) rfl i_Model t_Model_ok n_Model (by decide) rfl rfl rfl rfl rfl rfl tw_942 d_Model_init_225 hn_a0 hM53 ?_
  refine ev_aload_n 0 d_Model_init_228 rfl (by decide) rfl ?_
  refine ev_sipush d_Model_init_229 rfl ?_
  obtain ⟨M54, hM54, h⟩ := ltx h
  refine ev_newI' tw_61 d_Model_init_232 ⟨by decide, by decide⟩ hM54 ?_
  obtain ⟨M55, hM55, h⟩ := ltx h
  refine ev_putF' (t := 12) (k := 43) (by decide) (by decide) rfl i_Model t_Model_ok n_Model (by decide) rfl rfl rfl rfl rfl rfl tw_943 d_Model_init_234 hn_a0 hM55 ?_
  refine ev_aload_n 0 d_Model_init_237 rfl (by decide) rfl ?_
  refine ev_bipush d_Model_init_238 rfl ?_
  obtain ⟨M56, hM56, h⟩ := ltx h
  refine ev_newI' tw_61 d_Model_init_240 ⟨by decide, by decide⟩ hM56 ?_
  obtain ⟨M57, hM57, h⟩ := ltx h
  refine ev_putF' (t := 12) (k := 45) (by decide) (by decide) rfl i_Model t_Model_ok n_Model (by decide) rfl rfl rfl rfl rfl rfl tw_945 d_Model_init_242 hn_a0 hM57 ?_
  refine ev_aload_n 0 d_Model_init_245 rfl (by decide) rfl ?_
  refine ev_bipush d_Model_init_246 rfl ?_
  obtain ⟨M58, hM58, h⟩ := ltx h
  refine ev_newI' tw_61 d_Model_init_248 ⟨by decide, by decide⟩ hM58 ?_
  obtain ⟨M59, hM59, h⟩ := ltx h
  refine ev_putF' (t := 12) (k := 46) (by decide) (by decide) rfl i_Model t_Model_ok n_Model (by decide) rfl rfl rfl rfl rfl rfl tw_946 d_Model_init_250 hn_a0 hM59 ?_
  cases h
  exact ev_retV d_Model_init_253 rfl
def f_Model_isPlayer (M : Mm) (a0 : Int) (a1 : Int) : Option (Int) :=
  if a1 < 0 then
  some 0
  else
  if (mg M (cI a0) 1) ≤ a1 then
  some 0
  else
  some 1
theorem c_Model_isPlayer {X : XX} {d : Nat} (hd : 0 ≤ d) {M : Mm} {a0 : Int} {a1 : Int} (hn_a0 : a0 ≠ 0) {p : Int} (h : f_Model_isPlayer M a0 a1 = some p) : Rn X d m_Model_isPlayer [(12, a0), (0, a1)] M (some (0, p)) M := by
  refine Rn_of (by decide) rfl (Nat.le_of_ble_eq_true rfl) ?_
  unfold f_Model_isPlayer at h
  refine ev_less (L' := [(0, (12, a0)), (1, (0, a1))]) [0, 1] rfl ?_
  refine ev_iload_n 1 d_Model_isPlayer_0 rfl rfl ?_
  by_cases hc1 : a1 < 0
  · replace h := itp hc1 h
    refine ev_if_lt_t (tgt := 16) d_Model_isPlayer_1 (by decide) hc1 ?_
    refine ev_iconst d_Model_isPlayer_16 rfl ?_
    cases h
    exact ev_retZ d_Model_isPlayer_17 rfl (Or.inl rfl)
  · replace h := itn hc1 h
    refine ev_if_lt_f d_Model_isPlayer_1 (by decide) hc1 ?_
    refine ev_iload_n 1 d_Model_isPlayer_4 rfl rfl ?_
    refine ev_aload_n 0 d_Model_isPlayer_5 rfl (by decide) rfl ?_
    refine ev_get (t := 12) (k := 1) (by decide) (by decide) rfl i_Model (by decide) rfl rfl tw_901 d_Model_isPlayer_6 hn_a0 ?_
    by_cases hc2 : (mg M (cI a0) 1) ≤ a1
    · replace h := itp hc2 h
      refine ev_icmp_ge_t (tgt := 16) d_Model_isPlayer_9 (by decide) hc2 ?_
      refine ev_iconst d_Model_isPlayer_16 rfl ?_
      cases h
      exact ev_retZ d_Model_isPlayer_17 rfl (Or.inl rfl)
    · replace h := itn hc2 h
      refine ev_icmp_ge_f d_Model_isPlayer_9 (by decide) hc2 ?_
      refine ev_iconst d_Model_isPlayer_12 rfl ?_
      refine ev_goto (tgt := 17) d_Model_isPlayer_13 (by decide) ?_
      cases h
      exact ev_retZ d_Model_isPlayer_17 rfl (Or.inr rfl)
end
