noncomputable section
def f_Model_player (M : Mm) (a0 : Int) (a1 : Int) (a2 : Int) : Option (Int × Mm) :=
  lt (mp M (cI a0) 0 0) (fun M1 =>
  if a1 < 0 then
  some ((-1), M1)
  else
  if 99 < a1 then
  some ((-1), M1)
  else
  if a2 < 0 then
  some ((-1), M1)
  else
  if 999 < a2 then
  some ((-1), M1)
  else
  if (mg M1 (cI a0) 1) ≠ 14 then
  if (mg M1 (cI a0) 2) ≠ 0 then
  if (0 : Int) ≤ (mg M1 (cI a0) 1) ∧ (mg M1 (cI a0) 1) < (ml M1 (cI (mg M1 (cI a0) 2)) : Int) then
  lt (mp M1 (cI (mg M1 (cI a0) 2)) ((mg M1 (cI a0) 1) : Int).toNat a1) (fun M9 =>
  if (mg M9 (cI a0) 3) ≠ 0 then
  if (0 : Int) ≤ (mg M9 (cI a0) 1) ∧ (mg M9 (cI a0) 1) < (ml M9 (cI (mg M9 (cI a0) 3)) : Int) then
  lt (mp M9 (cI (mg M9 (cI a0) 3)) ((mg M9 (cI a0) 1) : Int).toNat a2) (fun M12 =>
  lt (mp M12 (cI a0) 1 (w32 ((mg M12 (cI a0) 1) + 1))) (fun M13 =>
  some ((w32 ((mg M13 (cI a0) 1) - 1)), M13)))
  else none
  else none)
  else none
  else none
  else
  some ((-1), M1))
theorem c_Model_player {X : XX} {d : Nat} (hd : 0 ≤ d) {M : Mm} {a0 : Int} {a1 : Int} {a2 : Int} (hn_a0 : a0 ≠ 0) {p : Int × Mm} (h : f_Model_player M a0 a1 a2 = some p) : Rn X d m_Model_player [(12, a0), (0, a1), (0, a2)] M (some (0, p.1)) p.2 := by
  refine Rn_of (by decide) rfl (Nat.le_of_ble_eq_true rfl) ?_
  unfold f_Model_player at h
  refine ev_less (L' := [(0, (12, a0)), (1, (0, a1)), (2, (0, a2))]) [0, 1, 2] rfl ?_
  refine ev_aload_n 0 d_Model_player_0 rfl (by decide) rfl ?_
  refine ev_iconst d_Model_player_1 rfl ?_
  obtain ⟨M1, hM1, h⟩ := ltx h
  refine ev_put' (t := 12) (k := 0) (by decide) (by decide) rfl i_Model t_Model_ok n_Model (by decide) rfl rfl rfl rfl tw_900 d_Model_player_2 hn_a0 hM1 ?_
  refine ev_iload_n 1 d_Model_player_5 rfl rfl ?_
  by_cases hc2 : a1 < 0
  · replace h := itp hc2 h
    refine ev_if_lt_t (tgt := 35) d_Model_player_6 (by decide) hc2 ?_
    refine ev_iconst d_Model_player_35 rfl ?_
    cases h
    exact ev_ret d_Model_player_36 rfl
  · replace h := itn hc2 h
    refine ev_if_lt_f d_Model_player_6 (by decide) hc2 ?_
    refine ev_iload_n 1 d_Model_player_9 rfl rfl ?_
    refine ev_bipush d_Model_player_10 rfl ?_
    by_cases hc3 : 99 < a1
    · replace h := itp hc3 h
      refine ev_icmp_gt_t (tgt := 35) d_Model_player_12 (by decide) hc3 ?_
      refine ev_iconst d_Model_player_35 rfl ?_
      cases h
      exact ev_ret d_Model_player_36 rfl
    · replace h := itn hc3 h
      refine ev_icmp_gt_f d_Model_player_12 (by decide) hc3 ?_
      refine ev_iload_n 2 d_Model_player_15 rfl rfl ?_
      by_cases hc4 : a2 < 0
      · replace h := itp hc4 h
        refine ev_if_lt_t (tgt := 35) d_Model_player_16 (by decide) hc4 ?_
        refine ev_iconst d_Model_player_35 rfl ?_
        cases h
        exact ev_ret d_Model_player_36 rfl
      · replace h := itn hc4 h
        refine ev_if_lt_f d_Model_player_16 (by decide) hc4 ?_
        refine ev_iload_n 2 d_Model_player_19 rfl rfl ?_
        refine ev_sipush d_Model_player_20 rfl ?_
        by_cases hc5 : 999 < a2
        · replace h := itp hc5 h
          refine ev_icmp_gt_t (tgt := 35) d_Model_player_23 (by decide) hc5 ?_
          refine ev_iconst d_Model_player_35 rfl ?_
          cases h
          exact ev_ret d_Model_player_36 rfl
        · replace h := itn hc5 h
          refine ev_icmp_gt_f d_Model_player_23 (by decide) hc5 ?_
          refine ev_aload_n 0 d_Model_player_26 rfl (by decide) rfl ?_
          refine ev_get (t := 12) (k := 1) (by decide) (by decide) rfl i_Model (by decide) rfl rfl tw_901 d_Model_player_27 hn_a0 ?_
          refine ev_bipush d_Model_player_30 rfl ?_
          by_cases hc6 : (mg M1 (cI a0) 1) ≠ 14
          · replace h := itp hc6 h
            refine ev_icmp_ne_t (tgt := 37) d_Model_player_32 (by decide) hc6 ?_
            refine ev_aload_n 0 d_Model_player_37 rfl (by decide) rfl ?_
            refine ev_get (t := 12) (k := 2) (by decide) (by decide) rfl i_Model (by decide) rfl rfl tw_902 d_Model_player_38 hn_a0 ?_
            refine ev_aload_n 0 d_Model_player_41 rfl (by decide) rfl ?_
            refine ev_get (t := 12) (k := 1) (by decide) (by decide) rfl i_Model (by decide) rfl rfl tw_901 d_Model_player_42 hn_a0 ?_
            refine ev_iload_n 1 d_Model_player_45 rfl rfl ?_
            obtain ⟨hz7, h⟩ := gx h
            obtain ⟨hg8, h⟩ := gx h
            obtain ⟨M9, hM9, h⟩ := ltx h
            refine ev_iast' d_Model_player_46 hz7 hg8 hM9 ?_
            refine ev_aload_n 0 d_Model_player_47 rfl (by decide) rfl ?_
            refine ev_get (t := 12) (k := 3) (by decide) (by decide) rfl i_Model (by decide) rfl rfl tw_903 d_Model_player_48 hn_a0 ?_
            refine ev_aload_n 0 d_Model_player_51 rfl (by decide) rfl ?_
            refine ev_get (t := 12) (k := 1) (by decide) (by decide) rfl i_Model (by decide) rfl rfl tw_901 d_Model_player_52 hn_a0 ?_
            refine ev_iload_n 2 d_Model_player_55 rfl rfl ?_
            obtain ⟨hz10, h⟩ := gx h
            obtain ⟨hg11, h⟩ := gx h
            obtain ⟨M12, hM12, h⟩ := ltx h
            refine ev_iast' d_Model_player_56 hz10 hg11 hM12 ?_
            refine ev_aload_n 0 d_Model_player_57 rfl (by decide) rfl ?_
            refine ev_aload_n 0 d_Model_player_58 rfl (by decide) rfl ?_
            refine ev_get (t := 12) (k := 1) (by decide) (by decide) rfl i_Model (by decide) rfl rfl tw_901 d_Model_player_59 hn_a0 ?_
            refine ev_iconst d_Model_player_62 rfl ?_
            refine ev_iadd d_Model_player_63 ?_
            obtain ⟨M13, hM13, h⟩ := ltx h
            refine ev_put' (t := 12) (k := 1) (by decide) (by decide) rfl i_Model t_Model_ok n_Model (by decide) rfl rfl rfl rfl tw_901 d_Model_player_64 hn_a0 hM13 ?_
            refine ev_aload_n 0 d_Model_player_67 rfl (by decide) rfl ?_
            refine ev_get (t := 12) (k := 1) (by decide) (by decide) rfl i_Model (by decide) rfl rfl tw_901 d_Model_player_68 hn_a0 ?_
            refine ev_iconst d_Model_player_71 rfl ?_
            refine ev_isub d_Model_player_72 ?_
            cases h
            exact ev_ret d_Model_player_73 rfl
          · replace h := itn hc6 h
            refine ev_icmp_ne_f d_Model_player_32 (by decide) hc6 ?_
            refine ev_iconst d_Model_player_35 rfl ?_
            cases h
            exact ev_ret d_Model_player_36 rfl
def f_Model_isInstrument (M : Mm) (a0 : Int) (a1 : Int) : Option (Int) :=
  if a1 < 0 then
  some 0
  else
  if 10 ≤ a1 then
  some 0
  else
  some 1
theorem c_Model_isInstrument {X : XX} {d : Nat} (hd : 0 ≤ d) {M : Mm} {a0 : Int} {a1 : Int} (hn_a0 : a0 ≠ 0) {p : Int} (h : f_Model_isInstrument M a0 a1 = some p) : Rn X d m_Model_isInstrument [(12, a0), (0, a1)] M (some (0, p)) M := by
  refine Rn_of (by decide) rfl (Nat.le_of_ble_eq_true rfl) ?_
  unfold f_Model_isInstrument at h
  refine ev_less (L' := [(0, (12, a0)), (1, (0, a1))]) [0, 1] rfl ?_
  refine ev_iload_n 1 d_Model_isInstrument_0 rfl rfl ?_
  by_cases hc1 : a1 < 0
  · replace h := itp hc1 h
    refine ev_if_lt_t (tgt := 14) d_Model_isInstrument_1 (by decide) hc1 ?_
    refine ev_iconst d_Model_isInstrument_14 rfl ?_
    cases h
    exact ev_retZ d_Model_isInstrument_15 rfl (Or.inl rfl)
  · replace h := itn hc1 h
    refine ev_if_lt_f d_Model_isInstrument_1 (by decide) hc1 ?_
    refine ev_iload_n 1 d_Model_isInstrument_4 rfl rfl ?_
    refine ev_bipush d_Model_isInstrument_5 rfl ?_
    by_cases hc2 : 10 ≤ a1
    · replace h := itp hc2 h
      refine ev_icmp_ge_t (tgt := 14) d_Model_isInstrument_7 (by decide) hc2 ?_
      refine ev_iconst d_Model_isInstrument_14 rfl ?_
      cases h
      exact ev_retZ d_Model_isInstrument_15 rfl (Or.inl rfl)
    · replace h := itn hc2 h
      refine ev_icmp_ge_f d_Model_isInstrument_7 (by decide) hc2 ?_
      refine ev_iconst d_Model_isInstrument_10 rfl ?_
      refine ev_goto (tgt := 15) d_Model_isInstrument_11 (by decide) ?_
      cases h
      exact ev_retZ d_Model_isInstrument_15 rfl (Or.inr rfl)
def f_Model_plays (M : Mm) (a0 : Int) (a1 : Int) (a2 : Int) (a3 : Int) : Option (Int × Mm) :=
  lt (mp M (cI a0) 0 0) (fun M1 =>
  (f_Model_isPlayer M1 a0 a1).bind (fun p2 =>
  if p2 = 0 then
  some (0, M1)
  else
  (f_Model_isInstrument M1 a0 a2).bind (fun p4 =>
  if p4 = 0 then
  some (0, M1)
  else
  if a3 < (-1) then
  some (0, M1)
  else
  if a3 ≤ 9 then
  if (mg M1 (cI a0) 6) ≠ 0 then
  if (0 : Int) ≤ (w32 ((w32 (10 * a1)) + a2)) ∧ (w32 ((w32 (10 * a1)) + a2)) < (ml M1 (cI (mg M1 (cI a0) 6)) : Int) then
  lt (mp M1 (cI (mg M1 (cI a0) 6)) ((w32 ((w32 (10 * a1)) + a2)) : Int).toNat (w32 (a3 + 1))) (fun M10 =>
  some (1, M10))
  else none
  else none
  else
  some (0, M1))))
theorem c_Model_plays {X : XX} {d : Nat} (hd : 1 ≤ d) {M : Mm} {a0 : Int} {a1 : Int} {a2 : Int} {a3 : Int} (hn_a0 : a0 ≠ 0) {p : Int × Mm} (h : f_Model_plays M a0 a1 a2 a3 = some p) : Rn X d m_Model_plays [(12, a0), (0, a1), (0, a2), (0, a3)] M (some (0, p.1)) p.2 := by
  refine Rn_of (by decide) rfl (Nat.le_of_ble_eq_true rfl) ?_
  unfold f_Model_plays at h
  refine ev_less (L' := [(0, (12, a0)), (1, (0, a1)), (2, (0, a2)), (3, (0, a3))]) [0, 1, 2, 3] rfl ?_
  refine ev_aload_n 0 d_Model_plays_0 rfl (by decide) rfl ?_
  refine ev_iconst d_Model_plays_1 rfl ?_
  obtain ⟨M1, hM1, h⟩ := ltx h
  refine ev_put' (t := 12) (k := 0) (by decide) (by decide) rfl i_Model t_Model_ok n_Model (by decide) rfl rfl rfl rfl tw_900 d_Model_plays_2 hn_a0 hM1 ?_
  refine ev_aload_n 0 d_Model_plays_5 rfl (by decide) rfl ?_
  refine ev_iload_n 1 d_Model_plays_6 rfl rfl ?_
  obtain ⟨p2, hp2, h⟩ := bx h
  have hRp2 := c_Model_isPlayer (X := X) (d := d - 1) (by omega) hn_a0 hp2
  refine ev_callV2 (st2 := [(0, p2)]) (as := [(0, a1)]) (rest := []) rfl (by decide) (by decide) rfl hn_a0 rfl (Nat.le_of_ble_eq_true rfl) k_Model_isPlayer ⟨tw_1056, ts_77⟩ (by omega) tw_1054 d_Model_plays_7 hRp2 rfl ?_
  by_cases hc3 : p2 = 0
  · replace h := itp hc3 h
    refine ev_if_eq_t (tgt := 32) d_Model_plays_10 (by decide) hc3 ?_
    refine ev_iconst d_Model_plays_32 rfl ?_
    cases h
    exact ev_retZ d_Model_plays_33 rfl (Or.inl rfl)
  · replace h := itn hc3 h
    refine ev_if_eq_f d_Model_plays_10 (by decide) hc3 ?_
    refine ev_aload_n 0 d_Model_plays_13 rfl (by decide) rfl ?_
    refine ev_iload_n 2 d_Model_plays_14 rfl rfl ?_
    obtain ⟨p4, hp4, h⟩ := bx h
    have hRp4 := c_Model_isInstrument (X := X) (d := d - 1) (by omega) hn_a0 hp4
    refine ev_callV2 (st2 := [(0, p4)]) (as := [(0, a2)]) (rest := []) rfl (by decide) (by decide) rfl hn_a0 rfl (Nat.le_of_ble_eq_true rfl) k_Model_isInstrument ⟨tw_1060, ts_78⟩ (by omega) tw_1058 d_Model_plays_15 hRp4 rfl ?_
    by_cases hc5 : p4 = 0
    · replace h := itp hc5 h
      refine ev_if_eq_t (tgt := 32) d_Model_plays_18 (by decide) hc5 ?_
      refine ev_iconst d_Model_plays_32 rfl ?_
      cases h
      exact ev_retZ d_Model_plays_33 rfl (Or.inl rfl)
    · replace h := itn hc5 h
      refine ev_if_eq_f d_Model_plays_18 (by decide) hc5 ?_
      refine ev_iload_n 3 d_Model_plays_21 rfl rfl ?_
      refine ev_iconst d_Model_plays_22 rfl ?_
      by_cases hc6 : a3 < (-1)
      · replace h := itp hc6 h
        refine ev_icmp_lt_t (tgt := 32) d_Model_plays_23 (by decide) hc6 ?_
        refine ev_iconst d_Model_plays_32 rfl ?_
        cases h
        exact ev_retZ d_Model_plays_33 rfl (Or.inl rfl)
      · replace h := itn hc6 h
        refine ev_icmp_lt_f d_Model_plays_23 (by decide) hc6 ?_
        refine ev_iload_n 3 d_Model_plays_26 rfl rfl ?_
        refine ev_bipush d_Model_plays_27 rfl ?_
        by_cases hc7 : a3 ≤ 9
        · replace h := itp hc7 h
          refine ev_icmp_le_t (tgt := 34) d_Model_plays_29 (by decide) hc7 ?_
          refine ev_aload_n 0 d_Model_plays_34 rfl (by decide) rfl ?_
          refine ev_get (t := 12) (k := 6) (by decide) (by decide) rfl i_Model (by decide) rfl rfl tw_906 d_Model_plays_35 hn_a0 ?_
          refine ev_bipush d_Model_plays_38 rfl ?_
          refine ev_iload_n 1 d_Model_plays_40 rfl rfl ?_
          refine ev_imul d_Model_plays_41 ?_
          refine ev_iload_n 2 d_Model_plays_42 rfl rfl ?_
          refine ev_iadd d_Model_plays_43 ?_
          refine ev_iload_n 3 d_Model_plays_44 rfl rfl ?_
          refine ev_iconst d_Model_plays_45 rfl ?_
          refine ev_iadd d_Model_plays_46 ?_
          obtain ⟨hz8, h⟩ := gx h
          obtain ⟨hg9, h⟩ := gx h
          obtain ⟨M10, hM10, h⟩ := ltx h
          refine ev_iast' d_Model_plays_47 hz8 hg9 hM10 ?_
          refine ev_iconst d_Model_plays_48 rfl ?_
          cases h
          exact ev_retZ d_Model_plays_49 rfl (Or.inr rfl)
        · replace h := itn hc7 h
          refine ev_icmp_le_f d_Model_plays_29 (by decide) hc7 ?_
          refine ev_iconst d_Model_plays_32 rfl ?_
          cases h
          exact ev_retZ d_Model_plays_33 rfl (Or.inl rfl)
def f_Model_cost (M : Mm) (a0 : Int) (a1 : Int) (a2 : Int) : Option (Int × Mm) :=
  lt (mp M (cI a0) 0 0) (fun M1 =>
  (f_Model_isPlayer M1 a0 a1).bind (fun p2 =>
  if p2 = 0 then
  some ((-1), M1)
  else
  (f_Model_isInstrument M1 a0 a2).bind (fun p4 =>
  if p4 = 0 then
  some ((-1), M1)
  else
  if (mg M1 (cI a0) 6) ≠ 0 then
  if (0 : Int) ≤ (w32 ((w32 (10 * a1)) + a2)) ∧ (w32 ((w32 (10 * a1)) + a2)) < (ml M1 (cI (mg M1 (cI a0) 6)) : Int) then
  some ((w32 ((mg M1 (cI (mg M1 (cI a0) 6)) ((w32 ((w32 (10 * a1)) + a2)) : Int).toNat) - 1)), M1)
  else none
  else none)))
theorem c_Model_cost {X : XX} {d : Nat} (hd : 1 ≤ d) {M : Mm} {a0 : Int} {a1 : Int} {a2 : Int} (hn_a0 : a0 ≠ 0) {p : Int × Mm} (h : f_Model_cost M a0 a1 a2 = some p) : Rn X d m_Model_cost [(12, a0), (0, a1), (0, a2)] M (some (0, p.1)) p.2 := by
  refine Rn_of (by decide) rfl (Nat.le_of_ble_eq_true rfl) ?_
  unfold f_Model_cost at h
  refine ev_less (L' := [(0, (12, a0)), (1, (0, a1)), (2, (0, a2))]) [0, 1, 2] rfl ?_
  refine ev_aload_n 0 d_Model_cost_0 rfl (by decide) rfl ?_
  refine ev_iconst d_Model_cost_1 rfl ?_
  obtain ⟨M1, hM1, h⟩ := ltx h
  refine ev_put' (t := 12) (k := 0) (by decide) (by decide) rfl i_Model t_Model_ok n_Model (by decide) rfl rfl rfl rfl tw_900 d_Model_cost_2 hn_a0 hM1 ?_
  refine ev_aload_n 0 d_Model_cost_5 rfl (by decide) rfl ?_
  refine ev_iload_n 1 d_Model_cost_6 rfl rfl ?_
  obtain ⟨p2, hp2, h⟩ := bx h
  have hRp2 := c_Model_isPlayer (X := X) (d := d - 1) (by omega) hn_a0 hp2
  refine ev_callV2 (st2 := [(0, p2)]) (as := [(0, a1)]) (rest := []) rfl (by decide) (by decide) rfl hn_a0 rfl (Nat.le_of_ble_eq_true rfl) k_Model_isPlayer ⟨tw_1056, ts_77⟩ (by omega) tw_1054 d_Model_cost_7 hRp2 rfl ?_
  by_cases hc3 : p2 = 0
  · replace h := itp hc3 h
    refine ev_if_eq_t (tgt := 37) d_Model_cost_10 (by decide) hc3 ?_
    refine ev_iconst d_Model_cost_37 rfl ?_
    cases h
    exact ev_ret d_Model_cost_38 rfl
  · replace h := itn hc3 h
    refine ev_if_eq_f d_Model_cost_10 (by decide) hc3 ?_
    refine ev_aload_n 0 d_Model_cost_13 rfl (by decide) rfl ?_
    refine ev_iload_n 2 d_Model_cost_14 rfl rfl ?_
    obtain ⟨p4, hp4, h⟩ := bx h
    have hRp4 := c_Model_isInstrument (X := X) (d := d - 1) (by omega) hn_a0 hp4
    refine ev_callV2 (st2 := [(0, p4)]) (as := [(0, a2)]) (rest := []) rfl (by decide) (by decide) rfl hn_a0 rfl (Nat.le_of_ble_eq_true rfl) k_Model_isInstrument ⟨tw_1060, ts_78⟩ (by omega) tw_1058 d_Model_cost_15 hRp4 rfl ?_
    by_cases hc5 : p4 = 0
    · replace h := itp hc5 h
      refine ev_if_eq_t (tgt := 37) d_Model_cost_18 (by decide) hc5 ?_
      refine ev_iconst d_Model_cost_37 rfl ?_
      cases h
      exact ev_ret d_Model_cost_38 rfl
    · replace h := itn hc5 h
      refine ev_if_eq_f d_Model_cost_18 (by decide) hc5 ?_
      refine ev_aload_n 0 d_Model_cost_21 rfl (by decide) rfl ?_
      refine ev_get (t := 12) (k := 6) (by decide) (by decide) rfl i_Model (by decide) rfl rfl tw_906 d_Model_cost_22 hn_a0 ?_
      refine ev_bipush d_Model_cost_25 rfl ?_
      refine ev_iload_n 1 d_Model_cost_27 rfl rfl ?_
      refine ev_imul d_Model_cost_28 ?_
      refine ev_iload_n 2 d_Model_cost_29 rfl rfl ?_
      refine ev_iadd d_Model_cost_30 ?_
      obtain ⟨hz6, h⟩ := gx h
      obtain ⟨hg7, h⟩ := gx h
      refine ev_iald d_Model_cost_31 hz6 hg7 ?_
      refine ev_iconst d_Model_cost_32 rfl ?_
      refine ev_isub d_Model_cost_33 ?_
      refine ev_goto (tgt := 38) d_Model_cost_34 (by decide) ?_
      cases h
      exact ev_ret d_Model_cost_38 rfl
def f_Model_here (M : Mm) (a0 : Int) (a1 : Int) (a2 : Int) : Option (Int × Mm) :=
  lt (mp M (cI a0) 0 0) (fun M1 =>
  (f_Model_isPlayer M1 a0 a1).bind (fun p2 =>
  if p2 ≠ 0 then
  if (mg M1 (cI a0) 5) ≠ 0 then
  if a2 = 0 ∨ a2 = 1 then
  if (0 : Int) ≤ a1 ∧ a1 < (ml M1 (cI (mg M1 (cI a0) 5)) : Int) then
  lt (mp M1 (cI (mg M1 (cI a0) 5)) (a1 : Int).toNat a2) (fun M7 =>
  some (1, M7))
  else none
  else none
  else none
  else
  some (0, M1)))
theorem c_Model_here {X : XX} {d : Nat} (hd : 1 ≤ d) {M : Mm} {a0 : Int} {a1 : Int} {a2 : Int} (hn_a0 : a0 ≠ 0) {p : Int × Mm} (h : f_Model_here M a0 a1 a2 = some p) : Rn X d m_Model_here [(12, a0), (0, a1), (0, a2)] M (some (0, p.1)) p.2 := by
  refine Rn_of (by decide) rfl (Nat.le_of_ble_eq_true rfl) ?_
  unfold f_Model_here at h
  refine ev_less (L' := [(0, (12, a0)), (1, (0, a1)), (2, (0, a2))]) [0, 1, 2] rfl ?_
  refine ev_aload_n 0 d_Model_here_0 rfl (by decide) rfl ?_
  refine ev_iconst d_Model_here_1 rfl ?_
  obtain ⟨M1, hM1, h⟩ := ltx h
  refine ev_put' (t := 12) (k := 0) (by decide) (by decide) rfl i_Model t_Model_ok n_Model (by decide) rfl rfl rfl rfl tw_900 d_Model_here_2 hn_a0 hM1 ?_
  refine ev_aload_n 0 d_Model_here_5 rfl (by decide) rfl ?_
  refine ev_iload_n 1 d_Model_here_6 rfl rfl ?_
  obtain ⟨p2, hp2, h⟩ := bx h
  have hRp2 := c_Model_isPlayer (X := X) (d := d - 1) (by omega) hn_a0 hp2
  refine ev_callV2 (st2 := [(0, p2)]) (as := [(0, a1)]) (rest := []) rfl (by decide) (by decide) rfl hn_a0 rfl (Nat.le_of_ble_eq_true rfl) k_Model_isPlayer ⟨tw_1056, ts_77⟩ (by omega) tw_1054 d_Model_here_7 hRp2 rfl ?_
  by_cases hc3 : p2 ≠ 0
  · replace h := itp hc3 h
    refine ev_if_ne_t (tgt := 15) d_Model_here_10 (by decide) hc3 ?_
    refine ev_aload_n 0 d_Model_here_15 rfl (by decide) rfl ?_
    refine ev_get (t := 12) (k := 5) (by decide) (by decide) rfl i_Model (by decide) rfl rfl tw_905 d_Model_here_16 hn_a0 ?_
    refine ev_iload_n 1 d_Model_here_19 rfl rfl ?_
    refine ev_iload_n 2 d_Model_here_20 rfl rfl ?_
    obtain ⟨hz4, h⟩ := gx h
    obtain ⟨hb5, h⟩ := gx h
    obtain ⟨hg6, h⟩ := gx h
    obtain ⟨M7, hM7, h⟩ := ltx h
    refine ev_zast' d_Model_here_21 hz4 hg6 hb5 hM7 ?_
    refine ev_iconst d_Model_here_22 rfl ?_
    cases h
    exact ev_retZ d_Model_here_23 rfl (Or.inr rfl)
  · replace h := itn hc3 h
    refine ev_if_ne_f d_Model_here_10 (by decide) hc3 ?_
    refine ev_iconst d_Model_here_13 rfl ?_
    cases h
    exact ev_retZ d_Model_here_14 rfl (Or.inl rfl)
def f_Model_isPiece (M : Mm) (a0 : Int) (a1 : Int) : Option (Int) :=
  if a1 < 0 then
  some 0
  else
  if (mg M (cI a0) 7) ≤ a1 then
  some 0
  else
  some 1
theorem c_Model_isPiece {X : XX} {d : Nat} (hd : 0 ≤ d) {M : Mm} {a0 : Int} {a1 : Int} (hn_a0 : a0 ≠ 0) {p : Int} (h : f_Model_isPiece M a0 a1 = some p) : Rn X d m_Model_isPiece [(12, a0), (0, a1)] M (some (0, p)) M := by
  refine Rn_of (by decide) rfl (Nat.le_of_ble_eq_true rfl) ?_
  unfold f_Model_isPiece at h
  refine ev_less (L' := [(0, (12, a0)), (1, (0, a1))]) [0, 1] rfl ?_
  refine ev_iload_n 1 d_Model_isPiece_0 rfl rfl ?_
  by_cases hc1 : a1 < 0
  · replace h := itp hc1 h
    refine ev_if_lt_t (tgt := 16) d_Model_isPiece_1 (by decide) hc1 ?_
    refine ev_iconst d_Model_isPiece_16 rfl ?_
    cases h
    exact ev_retZ d_Model_isPiece_17 rfl (Or.inl rfl)
  · replace h := itn hc1 h
    refine ev_if_lt_f d_Model_isPiece_1 (by decide) hc1 ?_
    refine ev_iload_n 1 d_Model_isPiece_4 rfl rfl ?_
    refine ev_aload_n 0 d_Model_isPiece_5 rfl (by decide) rfl ?_
    refine ev_get (t := 12) (k := 7) (by decide) (by decide) rfl i_Model (by decide) rfl rfl tw_907 d_Model_isPiece_6 hn_a0 ?_
    by_cases hc2 : (mg M (cI a0) 7) ≤ a1
    · replace h := itp hc2 h
      refine ev_icmp_ge_t (tgt := 16) d_Model_isPiece_9 (by decide) hc2 ?_
      refine ev_iconst d_Model_isPiece_16 rfl ?_
      cases h
      exact ev_retZ d_Model_isPiece_17 rfl (Or.inl rfl)
    · replace h := itn hc2 h
      refine ev_icmp_ge_f d_Model_isPiece_9 (by decide) hc2 ?_
      refine ev_iconst d_Model_isPiece_12 rfl ?_
      refine ev_goto (tgt := 17) d_Model_isPiece_13 (by decide) ?_
      cases h
      exact ev_retZ d_Model_isPiece_17 rfl (Or.inr rfl)
def l_Model_costOf_6 (M : Mm) (a0 : Int) (a1 : Int) (a2 : Int) (a3 : Int) (s : Int × Int) : Option ((Int × Int) ⊕ (Int)) :=
  if (mg M (cI a0) 14) ≠ 0 then
  if (0 : Int) ≤ (w32 ((w32 (10 * a1)) + a2)) ∧ (w32 ((w32 (10 * a1)) + a2)) < (ml M (cI (mg M (cI a0) 14)) : Int) then
  if (mg M (cI (mg M (cI a0) 14)) ((w32 ((w32 (10 * a1)) + a2)) : Int).toNat) ≤ s.2 then
  some (.inr s.1)
  else
  if (mg M (cI a0) 15) ≠ 0 then
  if (0 : Int) ≤ (w32 ((w32 ((w32 (40 * a1)) + (w32 (4 * a2)))) + s.2)) ∧ (w32 ((w32 ((w32 (40 * a1)) + (w32 (4 * a2)))) + s.2)) < (ml M (cI (mg M (cI a0) 15)) : Int) then
  if (mg M (cI a0) 6) ≠ 0 then
  if (0 : Int) ≤ (w32 ((w32 (10 * a3)) + (mg M (cI (mg M (cI a0) 15)) ((w32 ((w32 ((w32 (40 * a1)) + (w32 (4 * a2)))) + s.2)) : Int).toNat))) ∧ (w32 ((w32 (10 * a3)) + (mg M (cI (mg M (cI a0) 15)) ((w32 ((w32 ((w32 (40 * a1)) + (w32 (4 * a2)))) + s.2)) : Int).toNat))) < (ml M (cI (mg M (cI a0) 6)) : Int) then
  lt ((w32 ((mg M (cI (mg M (cI a0) 6)) ((w32 ((w32 (10 * a3)) + (mg M (cI (mg M (cI a0) 15)) ((w32 ((w32 ((w32 (40 * a1)) + (w32 (4 * a2)))) + s.2)) : Int).toNat))) : Int).toNat) - 1))) (fun x8 : Int =>
  if x8 < 0 then
  lt (w32 (s.2 + 1)) (fun x10 : Int =>
  some (.inl (s.1, x10)))
  else
  if s.1 = (-1) then
  lt (w32 (s.2 + 1)) (fun x12 : Int =>
  some (.inl (x8, x12)))
  else
  if s.1 ≤ x8 then
  lt (w32 (s.2 + 1)) (fun x14 : Int =>
  some (.inl (s.1, x14)))
  else
  lt (w32 (s.2 + 1)) (fun x15 : Int =>
  some (.inl (x8, x15))))
  else none
  else none
  else none
  else none
  else none
  else none
theorem cs_l_Model_costOf_6 {X : XX} {d : Nat} (hd : 0 ≤ d) {M : Mm} {a0 : Int} {a1 : Int} {a2 : Int} {a3 : Int} (hn_a0 : a0 ≠ 0) {s : Int × Int} {x : (Int × Int) ⊕ (Int)} {r : Option AV} {M' : Mm} (h : l_Model_costOf_6 M a0 a1 a2 a3 s = some x) (hk1 : ∀ s : Int × Int, x = .inl s → Ev X m_Model_costOf d 6 [(0, (12, a0)), (1, (0, a1)), (2, (0, a2)), (3, (0, a3)), (4, (0, s.1)), (5, (0, s.2))] [] M r M') (hk2 : ∀ t : Int, x = .inr t → Ev X m_Model_costOf d 80 [(4, (0, t))] [] M r M') : Ev X m_Model_costOf d 6 [(0, (12, a0)), (1, (0, a1)), (2, (0, a2)), (3, (0, a3)), (4, (0, s.1)), (5, (0, s.2))] [] M r M' := by
  unfold l_Model_costOf_6 at h
  refine ev_iload 5 d_Model_costOf_6 rfl ?_
  refine ev_aload_n 0 d_Model_costOf_8 rfl (by decide) rfl ?_
  refine ev_get (t := 12) (k := 14) (by decide) (by decide) rfl i_Model (by decide) rfl rfl tw_914 d_Model_costOf_9 hn_a0 ?_
  refine ev_bipush d_Model_costOf_12 rfl ?_
  refine ev_iload_n 1 d_Model_costOf_14 rfl rfl ?_
  refine ev_imul d_Model_costOf_15 ?_
  refine ev_iload_n 2 d_Model_costOf_16 rfl rfl ?_
  refine ev_iadd d_Model_costOf_17 ?_
  obtain ⟨hz1, h⟩ := gx h
  obtain ⟨hg2, h⟩ := gx h
  refine ev_iald d_Model_costOf_18 hz1 hg2 ?_
  by_cases hc3 : (mg M (cI (mg M (cI a0) 14)) ((w32 ((w32 (10 * a1)) + a2)) : Int).toNat) ≤ s.2
  · replace h := itp hc3 h
    refine ev_icmp_ge_t (tgt := 80) d_Model_costOf_19 (by decide) hc3 ?_
    refine ev_less (L' := [(4, (0, s.1))]) [4] rfl ?_
    cases h
    exact hk2 _ rfl
  · replace h := itn hc3 h
    refine ev_icmp_ge_f d_Model_costOf_19 (by decide) hc3 ?_
    refine ev_aload_n 0 d_Model_costOf_22 rfl (by decide) rfl ?_
    refine ev_get (t := 12) (k := 6) (by decide) (by decide) rfl i_Model (by decide) rfl rfl tw_906 d_Model_costOf_23 hn_a0 ?_
    refine ev_bipush d_Model_costOf_26 rfl ?_
    refine ev_iload_n 3 d_Model_costOf_28 rfl rfl ?_
    refine ev_imul d_Model_costOf_29 ?_
    refine ev_aload_n 0 d_Model_costOf_30 rfl (by decide) rfl ?_
    refine ev_get (t := 12) (k := 15) (by decide) (by decide) rfl i_Model (by decide) rfl rfl tw_915 d_Model_costOf_31 hn_a0 ?_
    refine ev_bipush d_Model_costOf_34 rfl ?_
    refine ev_iload_n 1 d_Model_costOf_36 rfl rfl ?_
    refine ev_imul d_Model_costOf_37 ?_
    refine ev_iconst d_Model_costOf_38 rfl ?_
    refine ev_iload_n 2 d_Model_costOf_39 rfl rfl ?_
    refine ev_imul d_Model_costOf_40 ?_
    refine ev_iadd d_Model_costOf_41 ?_
    refine ev_iload 5 d_Model_costOf_42 rfl ?_
    refine ev_iadd d_Model_costOf_44 ?_
    obtain ⟨hz4, h⟩ := gx h
    obtain ⟨hg5, h⟩ := gx h
    refine ev_iald d_Model_costOf_45 hz4 hg5 ?_
    refine ev_iadd d_Model_costOf_46 ?_
    obtain ⟨hz6, h⟩ := gx h
    obtain ⟨hg7, h⟩ := gx h
    refine ev_iald d_Model_costOf_47 hz6 hg7 ?_
    refine ev_iconst d_Model_costOf_48 rfl ?_
    refine ev_isub d_Model_costOf_49 ?_
    obtain ⟨x8, hx8, h⟩ := ltx h
    refine ev_istore' (y := x8) (L' := [(6, (0, x8)), (0, (12, a0)), (1, (0, a1)), (2, (0, a2)), (3, (0, a3)), (4, (0, s.1)), (5, (0, s.2))]) d_Model_costOf_50 (by decide) rfl hx8 ?_
    refine ev_iload 0 d_Model_costOf_52 rfl ?_
    by_cases hc9 : x8 < 0
    · replace h := itp hc9 h
      refine ev_if_lt_t (tgt := 74) d_Model_costOf_54 (by decide) hc9 ?_
      obtain ⟨x10, hx10, h⟩ := ltx h
      refine ev_iinc' 6 (y := x10) (L' := [(5, (0, x10)), (6, (0, x8)), (0, (12, a0)), (1, (0, a1)), (2, (0, a2)), (3, (0, a3)), (4, (0, s.1))]) d_Model_costOf_74 rfl (by decide) rfl hx10 ?_
      refine ev_goto (tgt := 6) d_Model_costOf_77 (by decide) ?_
      refine ev_less (L' := [(0, (12, a0)), (1, (0, a1)), (2, (0, a2)), (3, (0, a3)), (4, (0, s.1)), (5, (0, x10))]) [2, 3, 4, 5, 6, 0] rfl ?_
      cases h
      exact hk1 _ rfl
    · replace h := itn hc9 h
      refine ev_if_lt_f d_Model_costOf_54 (by decide) hc9 ?_
      refine ev_iload 5 d_Model_costOf_57 rfl ?_
      refine ev_iconst d_Model_costOf_59 rfl ?_
      by_cases hc11 : s.1 = (-1)
      · replace h := itp hc11 h
        refine ev_icmp_eq_t (tgt := 70) d_Model_costOf_60 (by decide) hc11 ?_
        refine ev_iload 0 d_Model_costOf_70 rfl ?_
        refine ev_istore (L' := [(4, (0, x8)), (6, (0, x8)), (0, (12, a0)), (1, (0, a1)), (2, (0, a2)), (3, (0, a3)), (5, (0, s.2))]) d_Model_costOf_72 (by decide) rfl ?_
        obtain ⟨x12, hx12, h⟩ := ltx h
        refine ev_iinc' 6 (y := x12) (L' := [(5, (0, x12)), (4, (0, x8)), (6, (0, x8)), (0, (12, a0)), (1, (0, a1)), (2, (0, a2)), (3, (0, a3))]) d_Model_costOf_74 rfl (by decide) rfl hx12 ?_
        refine ev_goto (tgt := 6) d_Model_costOf_77 (by decide) ?_
        refine ev_less (L' := [(0, (12, a0)), (1, (0, a1)), (2, (0, a2)), (3, (0, a3)), (4, (0, x8)), (5, (0, x12))]) [3, 4, 5, 6, 1, 0] rfl ?_
        cases h
        exact hk1 _ rfl
      · replace h := itn hc11 h
        refine ev_icmp_eq_f d_Model_costOf_60 (by decide) hc11 ?_
        refine ev_iload 0 d_Model_costOf_63 rfl ?_
        refine ev_iload 5 d_Model_costOf_65 rfl ?_
        by_cases hc13 : s.1 ≤ x8
        · replace h := itp hc13 h
          refine ev_icmp_ge_t (tgt := 74) d_Model_costOf_67 (by decide) hc13 ?_
          obtain ⟨x14, hx14, h⟩ := ltx h
          refine ev_iinc' 6 (y := x14) (L' := [(5, (0, x14)), (6, (0, x8)), (0, (12, a0)), (1, (0, a1)), (2, (0, a2)), (3, (0, a3)), (4, (0, s.1))]) d_Model_costOf_74 rfl (by decide) rfl hx14 ?_
          refine ev_goto (tgt := 6) d_Model_costOf_77 (by decide) ?_
          refine ev_less (L' := [(0, (12, a0)), (1, (0, a1)), (2, (0, a2)), (3, (0, a3)), (4, (0, s.1)), (5, (0, x14))]) [2, 3, 4, 5, 6, 0] rfl ?_
          cases h
          exact hk1 _ rfl
        · replace h := itn hc13 h
          refine ev_icmp_ge_f d_Model_costOf_67 (by decide) hc13 ?_
          refine ev_iload 0 d_Model_costOf_70 rfl ?_
          refine ev_istore (L' := [(4, (0, x8)), (6, (0, x8)), (0, (12, a0)), (1, (0, a1)), (2, (0, a2)), (3, (0, a3)), (5, (0, s.2))]) d_Model_costOf_72 (by decide) rfl ?_
          obtain ⟨x15, hx15, h⟩ := ltx h
          refine ev_iinc' 6 (y := x15) (L' := [(5, (0, x15)), (4, (0, x8)), (6, (0, x8)), (0, (12, a0)), (1, (0, a1)), (2, (0, a2)), (3, (0, a3))]) d_Model_costOf_74 rfl (by decide) rfl hx15 ?_
          refine ev_goto (tgt := 6) d_Model_costOf_77 (by decide) ?_
          refine ev_less (L' := [(0, (12, a0)), (1, (0, a1)), (2, (0, a2)), (3, (0, a3)), (4, (0, x8)), (5, (0, x15))]) [3, 4, 5, 6, 1, 0] rfl ?_
          cases h
          exact hk1 _ rfl
def f_Model_costOf (M : Mm) (a0 : Int) (a1 : Int) (a2 : Int) (a3 : Int) : Option (Int) :=
  (loopN (l_Model_costOf_6 M a0 a1 a2 a3) FU ((-1), 0)).bind (fun t16 =>
  some t16)
theorem c_Model_costOf {X : XX} {d : Nat} (hd : 0 ≤ d) {M : Mm} {a0 : Int} {a1 : Int} {a2 : Int} {a3 : Int} (hn_a0 : a0 ≠ 0) {p : Int} (h : f_Model_costOf M a0 a1 a2 a3 = some p) : Rn X d m_Model_costOf [(12, a0), (0, a1), (0, a2), (0, a3)] M (some (0, p)) M := by
  refine Rn_of (by decide) rfl (Nat.le_of_ble_eq_true rfl) ?_
  unfold f_Model_costOf at h
  refine ev_less (L' := [(0, (12, a0)), (1, (0, a1)), (2, (0, a2)), (3, (0, a3))]) [0, 1, 2, 3] rfl ?_
  refine ev_iconst d_Model_costOf_0 rfl ?_
  refine ev_istore (L' := [(4, (0, (-1))), (0, (12, a0)), (1, (0, a1)), (2, (0, a2)), (3, (0, a3))]) d_Model_costOf_1 (by decide) rfl ?_
  refine ev_iconst d_Model_costOf_3 rfl ?_
  refine ev_istore (L' := [(5, (0, 0)), (4, (0, (-1))), (0, (12, a0)), (1, (0, a1)), (2, (0, a2)), (3, (0, a3))]) d_Model_costOf_4 (by decide) rfl ?_
  obtain ⟨t16, ht16, h⟩ := bx h
  refine ev_less (L' := [(0, (12, a0)), (1, (0, a1)), (2, (0, a2)), (3, (0, a3)), (4, (0, (-1))), (5, (0, 0))]) [2, 3, 4, 5, 1, 0] rfl ?_
  refine loop_ev (step := l_Model_costOf_6 M a0 a1 a2 a3) (P := fun w : Int × Int => Ev X m_Model_costOf d 6 [(0, (12, a0)), (1, (0, a1)), (2, (0, a2)), (3, (0, a3)), (4, (0, w.1)), (5, (0, w.2))] [] M (some (0, p)) M) (Q := fun w => Ev X m_Model_costOf d 80 [(4, (0, w))] [] M (some (0, p)) M) (fun w x hs k1 k2 => cs_l_Model_costOf_6 hd hn_a0 hs k1 k2) FU ((-1), 0) t16 ht16 ?_
  refine ev_iload 0 d_Model_costOf_80 rfl ?_
  cases h
  exact ev_ret d_Model_costOf_82 rfl
def f_Model_isMust (M : Mm) (a0 : Int) (a1 : Int) (a2 : Int) : Option (Int) :=
  if (mg M (cI a0) 13) ≠ 0 then
  if (0 : Int) ≤ a1 ∧ a1 < (ml M (cI (mg M (cI a0) 13)) : Int) then
  if (bAnd (bShr (mg M (cI (mg M (cI a0) 13)) (a1 : Int).toNat) a2) 1) ≠ 1 then
  some 0
  else
  some 1
  else none
  else none
theorem c_Model_isMust {X : XX} {d : Nat} (hd : 0 ≤ d) {M : Mm} {a0 : Int} {a1 : Int} {a2 : Int} (hn_a0 : a0 ≠ 0) {p : Int} (h : f_Model_isMust M a0 a1 a2 = some p) : Rn X d m_Model_isMust [(12, a0), (0, a1), (0, a2)] M (some (0, p)) M := by
  refine Rn_of (by decide) rfl (Nat.le_of_ble_eq_true rfl) ?_
  unfold f_Model_isMust at h
  refine ev_less (L' := [(0, (12, a0)), (1, (0, a1)), (2, (0, a2))]) [0, 1, 2] rfl ?_
  refine ev_aload_n 0 d_Model_isMust_0 rfl (by decide) rfl ?_
  refine ev_get (t := 12) (k := 13) (by decide) (by decide) rfl i_Model (by decide) rfl rfl tw_913 d_Model_isMust_1 hn_a0 ?_
  refine ev_iload_n 1 d_Model_isMust_4 rfl rfl ?_
  obtain ⟨hz1, h⟩ := gx h
  obtain ⟨hg2, h⟩ := gx h
  refine ev_iald d_Model_isMust_5 hz1 hg2 ?_
  refine ev_iload_n 2 d_Model_isMust_6 rfl rfl ?_
  refine ev_ishr d_Model_isMust_7 ?_
  refine ev_iconst d_Model_isMust_8 rfl ?_
  refine ev_iand d_Model_isMust_9 ?_
  refine ev_iconst d_Model_isMust_10 rfl ?_
  by_cases hc3 : (bAnd (bShr (mg M (cI (mg M (cI a0) 13)) (a1 : Int).toNat) a2) 1) ≠ 1
  · replace h := itp hc3 h
    refine ev_icmp_ne_t (tgt := 18) d_Model_isMust_11 (by decide) hc3 ?_
    refine ev_iconst d_Model_isMust_18 rfl ?_
    cases h
    exact ev_retZ d_Model_isMust_19 rfl (Or.inl rfl)
  · replace h := itn hc3 h
    refine ev_icmp_ne_f d_Model_isMust_11 (by decide) hc3 ?_
    refine ev_iconst d_Model_isMust_14 rfl ?_
    refine ev_goto (tgt := 19) d_Model_isMust_15 (by decide) ?_
    cases h
    exact ev_retZ d_Model_isMust_19 rfl (Or.inr rfl)
def j_Model_piece_108 (M : Mm) (a0 : Int) (a1 : Int) (a2 : Int) : Option (Int × Mm) :=
  lt ((iDiv (w32 (a2 - 100)) 10)) (fun x10 : Int =>
  lt ((iRem (w32 (a2 - 100)) 10)) (fun x11 : Int =>
  if a2 < 100 then
  some ((-1), M)
  else
  if (mg M (cI a0) 12) ≠ 0 then
  if (0 : Int) ≤ a1 ∧ a1 < (ml M (cI (mg M (cI a0) 12)) : Int) then
  if (mg M (cI (mg M (cI a0) 12)) (a1 : Int).toNat) ≤ x10 then
  some ((-1), M)
  else
  if (mg M (cI a0) 14) ≠ 0 then
  if (0 : Int) ≤ (w32 ((w32 (10 * a1)) + x10)) ∧ (w32 ((w32 (10 * a1)) + x10)) < (ml M (cI (mg M (cI a0) 14)) : Int) then
  if x11 < (mg M (cI (mg M (cI a0) 14)) ((w32 ((w32 (10 * a1)) + x10)) : Int).toNat) then
  if (mg M (cI a0) 15) ≠ 0 then
  if (0 : Int) ≤ (w32 ((w32 ((w32 (40 * a1)) + (w32 (4 * x10)))) + x11)) ∧ (w32 ((w32 ((w32 (40 * a1)) + (w32 (4 * x10)))) + x11)) < (ml M (cI (mg M (cI a0) 15)) : Int) then
  some ((mg M (cI (mg M (cI a0) 15)) ((w32 ((w32 ((w32 (40 * a1)) + (w32 (4 * x10)))) + x11)) : Int).toNat), M)
  else none
  else none
  else
  some ((-1), M)
  else none
  else none
  else none
  else none))
theorem cj_Model_piece_108 {X : XX} {d : Nat} (hd : 1 ≤ d) {M : Mm} {a0 : Int} {a1 : Int} {a2 : Int} (hn_a0 : a0 ≠ 0) {p : Int × Mm} (h : j_Model_piece_108 M a0 a1 a2 = some p) : Ev X m_Model_piece d 108 [(0, (12, a0)), (1, (0, a1)), (2, (0, a2))] [] M (some (0, p.1)) p.2 := by
  unfold j_Model_piece_108 at h
  refine ev_iload_n 2 d_Model_piece_108 rfl rfl ?_
  refine ev_bipush d_Model_piece_109 rfl ?_
  refine ev_isub d_Model_piece_111 ?_
  refine ev_bipush d_Model_piece_112 rfl ?_
  refine ev_idiv d_Model_piece_114 (by decide) ?_
  obtain ⟨x10, hx10, h⟩ := ltx h
  refine ev_istore_n' (y := x10) (L' := [(3, (0, x10)), (0, (12, a0)), (1, (0, a1)), (2, (0, a2))]) d_Model_piece_115 rfl (by decide) rfl hx10 ?_
  refine ev_iload_n 3 d_Model_piece_116 rfl rfl ?_
  refine ev_bipush d_Model_piece_117 rfl ?_
  refine ev_isub d_Model_piece_119 ?_
  refine ev_bipush d_Model_piece_120 rfl ?_
  refine ev_irem d_Model_piece_122 (by decide) ?_
  obtain ⟨x11, hx11, h⟩ := ltx h
  refine ev_istore' (y := x11) (L' := [(4, (0, x11)), (3, (0, x10)), (0, (12, a0)), (1, (0, a1)), (2, (0, a2))]) d_Model_piece_123 (by decide) rfl hx11 ?_
  refine ev_iload_n 4 d_Model_piece_125 rfl rfl ?_
  refine ev_bipush d_Model_piece_126 rfl ?_
  by_cases hc12 : a2 < 100
  · replace h := itp hc12 h
    refine ev_icmp_lt_t (tgt := 157) d_Model_piece_128 (by decide) hc12 ?_
    refine ev_iconst d_Model_piece_157 rfl ?_
    cases h
    exact ev_ret d_Model_piece_158 rfl
  · replace h := itn hc12 h
    refine ev_icmp_lt_f d_Model_piece_128 (by decide) hc12 ?_
    refine ev_iload_n 1 d_Model_piece_131 rfl rfl ?_
    refine ev_aload_n 2 d_Model_piece_132 rfl (by decide) rfl ?_
    refine ev_get (t := 12) (k := 12) (by decide) (by decide) rfl i_Model (by decide) rfl rfl tw_912 d_Model_piece_133 hn_a0 ?_
    refine ev_iload_n 3 d_Model_piece_136 rfl rfl ?_
    obtain ⟨hz13, h⟩ := gx h
    obtain ⟨hg14, h⟩ := gx h
    refine ev_iald d_Model_piece_137 hz13 hg14 ?_
    by_cases hc15 : (mg M (cI (mg M (cI a0) 12)) (a1 : Int).toNat) ≤ x10
    · replace h := itp hc15 h
      refine ev_icmp_ge_t (tgt := 157) d_Model_piece_138 (by decide) hc15 ?_
      refine ev_iconst d_Model_piece_157 rfl ?_
      cases h
      exact ev_ret d_Model_piece_158 rfl
    · replace h := itn hc15 h
      refine ev_icmp_ge_f d_Model_piece_138 (by decide) hc15 ?_
      refine ev_iload 0 d_Model_piece_141 rfl ?_
      refine ev_aload_n 2 d_Model_piece_143 rfl (by decide) rfl ?_
      refine ev_get (t := 12) (k := 14) (by decide) (by decide) rfl i_Model (by decide) rfl rfl tw_914 d_Model_piece_144 hn_a0 ?_
      refine ev_bipush d_Model_piece_147 rfl ?_
      refine ev_iload_n 3 d_Model_piece_149 rfl rfl ?_
      refine ev_imul d_Model_piece_150 ?_
      refine ev_iload_n 1 d_Model_piece_151 rfl rfl ?_
      refine ev_iadd d_Model_piece_152 ?_
      obtain ⟨hz16, h⟩ := gx h
      obtain ⟨hg17, h⟩ := gx h
      refine ev_iald d_Model_piece_153 hz16 hg17 ?_
      by_cases hc18 : x11 < (mg M (cI (mg M (cI a0) 14)) ((w32 ((w32 (10 * a1)) + x10)) : Int).toNat)
      · replace h := itp hc18 h
        refine ev_icmp_lt_t (tgt := 159) d_Model_piece_154 (by decide) hc18 ?_
        refine ev_aload_n 2 d_Model_piece_159 rfl (by decide) rfl ?_
        refine ev_get (t := 12) (k := 15) (by decide) (by decide) rfl i_Model (by decide) rfl rfl tw_915 d_Model_piece_160 hn_a0 ?_
        refine ev_bipush d_Model_piece_163 rfl ?_
        refine ev_iload_n 3 d_Model_piece_165 rfl rfl ?_
        refine ev_imul d_Model_piece_166 ?_
        refine ev_iconst d_Model_piece_167 rfl ?_
        refine ev_iload_n 1 d_Model_piece_168 rfl rfl ?_
        refine ev_imul d_Model_piece_169 ?_
        refine ev_iadd d_Model_piece_170 ?_
        refine ev_iload 0 d_Model_piece_171 rfl ?_
        refine ev_iadd d_Model_piece_173 ?_
        obtain ⟨hz19, h⟩ := gx h
        obtain ⟨hg20, h⟩ := gx h
        refine ev_iald d_Model_piece_174 hz19 hg20 ?_
        cases h
        exact ev_ret d_Model_piece_175 rfl
      · replace h := itn hc18 h
        refine ev_icmp_lt_f d_Model_piece_154 (by decide) hc18 ?_
        refine ev_iconst d_Model_piece_157 rfl ?_
        cases h
        exact ev_ret d_Model_piece_158 rfl
def f_Model_piece (M : Mm) (a0 : Int) (a1 : Int) (a2 : Int) : Option (Int × Mm) :=
  lt (mp M (cI a0) 0 0) (fun M1 =>
  (f_Model_isPiece M1 a0 a1).bind (fun p2 =>
  if p2 ≠ 0 then
  if a2 ≠ 0 then
  if a2 ≠ 1 then
  if a2 ≠ 2 then
  if a2 ≠ 3 then
  if a2 ≠ 4 then
  if a2 < 10 then
  j_Model_piece_108 M1 a0 a1 a2
  else
  if (mg M1 (cI a0) 12) ≠ 0 then
  if (0 : Int) ≤ a1 ∧ a1 < (ml M1 (cI (mg M1 (cI a0) 12)) : Int) then
  if (mg M1 (cI (mg M1 (cI a0) 12)) (a1 : Int).toNat) ≤ (w32 (a2 - 10)) then
  j_Model_piece_108 M1 a0 a1 a2
  else
  if (mg M1 (cI a0) 14) ≠ 0 then
  if (0 : Int) ≤ (w32 ((w32 ((w32 (10 * a1)) + a2)) - 10)) ∧ (w32 ((w32 ((w32 (10 * a1)) + a2)) - 10)) < (ml M1 (cI (mg M1 (cI a0) 14)) : Int) then
  some ((mg M1 (cI (mg M1 (cI a0) 14)) ((w32 ((w32 ((w32 (10 * a1)) + a2)) - 10)) : Int).toNat), M1)
  else none
  else none
  else none
  else none
  else
  if (mg M1 (cI a0) 13) ≠ 0 then
  if (0 : Int) ≤ a1 ∧ a1 < (ml M1 (cI (mg M1 (cI a0) 13)) : Int) then
  some ((mg M1 (cI (mg M1 (cI a0) 13)) (a1 : Int).toNat), M1)
  else none
  else none
  else
  if (mg M1 (cI a0) 12) ≠ 0 then
  if (0 : Int) ≤ a1 ∧ a1 < (ml M1 (cI (mg M1 (cI a0) 12)) : Int) then
  some ((mg M1 (cI (mg M1 (cI a0) 12)) (a1 : Int).toNat), M1)
  else none
  else none
  else
  if (mg M1 (cI a0) 11) ≠ 0 then
  if (0 : Int) ≤ a1 ∧ a1 < (ml M1 (cI (mg M1 (cI a0) 11)) : Int) then
  some ((mg M1 (cI (mg M1 (cI a0) 11)) (a1 : Int).toNat), M1)
  else none
  else none
  else
  if (mg M1 (cI a0) 10) ≠ 0 then
  if (0 : Int) ≤ a1 ∧ a1 < (ml M1 (cI (mg M1 (cI a0) 10)) : Int) then
  some ((mg M1 (cI (mg M1 (cI a0) 10)) (a1 : Int).toNat), M1)
  else none
  else none
  else
  if (mg M1 (cI a0) 9) ≠ 0 then
  if (0 : Int) ≤ a1 ∧ a1 < (ml M1 (cI (mg M1 (cI a0) 9)) : Int) then
  some ((mg M1 (cI (mg M1 (cI a0) 9)) (a1 : Int).toNat), M1)
  else none
  else none
  else
  some ((-1), M1)))
theorem c_Model_piece {X : XX} {d : Nat} (hd : 1 ≤ d) {M : Mm} {a0 : Int} {a1 : Int} {a2 : Int} (hn_a0 : a0 ≠ 0) {p : Int × Mm} (h : f_Model_piece M a0 a1 a2 = some p) : Rn X d m_Model_piece [(12, a0), (0, a1), (0, a2)] M (some (0, p.1)) p.2 := by
  refine Rn_of (by decide) rfl (Nat.le_of_ble_eq_true rfl) ?_
  unfold f_Model_piece at h
  refine ev_less (L' := [(0, (12, a0)), (1, (0, a1)), (2, (0, a2))]) [0, 1, 2] rfl ?_
  refine ev_aload_n 0 d_Model_piece_0 rfl (by decide) rfl ?_
  refine ev_iconst d_Model_piece_1 rfl ?_
  obtain ⟨M1, hM1, h⟩ := ltx h
  refine ev_put' (t := 12) (k := 0) (by decide) (by decide) rfl i_Model t_Model_ok n_Model (by decide) rfl rfl rfl rfl tw_900 d_Model_piece_2 hn_a0 hM1 ?_
  refine ev_aload_n 0 d_Model_piece_5 rfl (by decide) rfl ?_
  refine ev_iload_n 1 d_Model_piece_6 rfl rfl ?_
  obtain ⟨p2, hp2, h⟩ := bx h
  have hRp2 := c_Model_isPiece (X := X) (d := d - 1) (by omega) hn_a0 hp2
  refine ev_callV2 (st2 := [(0, p2)]) (as := [(0, a1)]) (rest := []) rfl (by decide) (by decide) rfl hn_a0 rfl (Nat.le_of_ble_eq_true rfl) k_Model_isPiece ⟨tw_1076, ts_79⟩ (by omega) tw_1074 d_Model_piece_7 hRp2 rfl ?_
  by_cases hc3 : p2 ≠ 0
  · replace h := itp hc3 h
    refine ev_if_ne_t (tgt := 15) d_Model_piece_10 (by decide) hc3 ?_
    refine ev_iload_n 2 d_Model_piece_15 rfl rfl ?_
    by_cases hc4 : a2 ≠ 0
    · replace h := itp hc4 h
      refine ev_if_ne_t (tgt := 26) d_Model_piece_16 (by decide) hc4 ?_
      refine ev_iload_n 2 d_Model_piece_26 rfl rfl ?_
      refine ev_iconst d_Model_piece_27 rfl ?_
      by_cases hc5 : a2 ≠ 1
      · replace h := itp hc5 h
        refine ev_icmp_ne_t (tgt := 38) d_Model_piece_28 (by decide) hc5 ?_
        refine ev_iload_n 2 d_Model_piece_38 rfl rfl ?_
        refine ev_iconst d_Model_piece_39 rfl ?_
        by_cases hc6 : a2 ≠ 2
        · replace h := itp hc6 h
          refine ev_icmp_ne_t (tgt := 50) d_Model_piece_40 (by decide) hc6 ?_
          refine ev_iload_n 2 d_Model_piece_50 rfl rfl ?_
          refine ev_iconst d_Model_piece_51 rfl ?_
          by_cases hc7 : a2 ≠ 3
          · replace h := itp hc7 h
            refine ev_icmp_ne_t (tgt := 62) d_Model_piece_52 (by decide) hc7 ?_
            refine ev_iload_n 2 d_Model_piece_62 rfl rfl ?_
            refine ev_iconst d_Model_piece_63 rfl ?_
            by_cases hc8 : a2 ≠ 4
            · replace h := itp hc8 h
              refine ev_icmp_ne_t (tgt := 74) d_Model_piece_64 (by decide) hc8 ?_
              refine ev_iload_n 2 d_Model_piece_74 rfl rfl ?_
              refine ev_bipush d_Model_piece_75 rfl ?_
              by_cases hc9 : a2 < 10
              · replace h := itp hc9 h
                refine ev_icmp_lt_t (tgt := 108) d_Model_piece_77 (by decide) hc9 ?_
                exact cj_Model_piece_108 hd hn_a0 h
              · replace h := itn hc9 h
                refine ev_icmp_lt_f d_Model_piece_77 (by decide) hc9 ?_
                refine ev_iload_n 2 d_Model_piece_80 rfl rfl ?_
                refine ev_bipush d_Model_piece_81 rfl ?_
                refine ev_isub d_Model_piece_83 ?_
                refine ev_aload_n 0 d_Model_piece_84 rfl (by decide) rfl ?_
                refine ev_get (t := 12) (k := 12) (by decide) (by decide) rfl i_Model (by decide) rfl rfl tw_912 d_Model_piece_85 hn_a0 ?_
                refine ev_iload_n 1 d_Model_piece_88 rfl rfl ?_
                obtain ⟨hz21, h⟩ := gx h
                obtain ⟨hg22, h⟩ := gx h
                refine ev_iald d_Model_piece_89 hz21 hg22 ?_
                by_cases hc23 : (mg M1 (cI (mg M1 (cI a0) 12)) (a1 : Int).toNat) ≤ (w32 (a2 - 10))
                · replace h := itp hc23 h
                  refine ev_icmp_ge_t (tgt := 108) d_Model_piece_90 (by decide) hc23 ?_
                  exact cj_Model_piece_108 hd hn_a0 h
                · replace h := itn hc23 h
                  refine ev_icmp_ge_f d_Model_piece_90 (by decide) hc23 ?_
                  refine ev_aload_n 0 d_Model_piece_93 rfl (by decide) rfl ?_
                  refine ev_get (t := 12) (k := 14) (by decide) (by decide) rfl i_Model (by decide) rfl rfl tw_914 d_Model_piece_94 hn_a0 ?_
                  refine ev_bipush d_Model_piece_97 rfl ?_
                  refine ev_iload_n 1 d_Model_piece_99 rfl rfl ?_
                  refine ev_imul d_Model_piece_100 ?_
                  refine ev_iload_n 2 d_Model_piece_101 rfl rfl ?_
                  refine ev_iadd d_Model_piece_102 ?_
                  refine ev_bipush d_Model_piece_103 rfl ?_
                  refine ev_isub d_Model_piece_105 ?_
                  obtain ⟨hz24, h⟩ := gx h
                  obtain ⟨hg25, h⟩ := gx h
                  refine ev_iald d_Model_piece_106 hz24 hg25 ?_
                  cases h
                  exact ev_ret d_Model_piece_107 rfl
            · replace h := itn hc8 h
              refine ev_icmp_ne_f d_Model_piece_64 (by decide) hc8 ?_
              refine ev_aload_n 0 d_Model_piece_67 rfl (by decide) rfl ?_
              refine ev_get (t := 12) (k := 13) (by decide) (by decide) rfl i_Model (by decide) rfl rfl tw_913 d_Model_piece_68 hn_a0 ?_
              refine ev_iload_n 1 d_Model_piece_71 rfl rfl ?_
              obtain ⟨hz26, h⟩ := gx h
              obtain ⟨hg27, h⟩ := gx h
              refine ev_iald d_Model_piece_72 hz26 hg27 ?_
              cases h
              exact ev_ret d_Model_piece_73 rfl
          · replace h := itn hc7 h
            refine ev_icmp_ne_f d_Model_piece_52 (by decide) hc7 ?_
            refine ev_aload_n 0 d_Model_piece_55 rfl (by decide) rfl ?_
            refine ev_get (t := 12) (k := 12) (by decide) (by decide) rfl i_Model (by decide) rfl rfl tw_912 d_Model_piece_56 hn_a0 ?_
            refine ev_iload_n 1 d_Model_piece_59 rfl rfl ?_
            obtain ⟨hz28, h⟩ := gx h
            obtain ⟨hg29, h⟩ := gx h
            refine ev_iald d_Model_piece_60 hz28 hg29 ?_
            cases h
            exact ev_ret d_Model_piece_61 rfl
        · replace h := itn hc6 h
          refine ev_icmp_ne_f d_Model_piece_40 (by decide) hc6 ?_
          refine ev_aload_n 0 d_Model_piece_43 rfl (by decide) rfl ?_
          refine ev_get (t := 12) (k := 11) (by decide) (by decide) rfl i_Model (by decide) rfl rfl tw_911 d_Model_piece_44 hn_a0 ?_
          refine ev_iload_n 1 d_Model_piece_47 rfl rfl ?_
          obtain ⟨hz30, h⟩ := gx h
          obtain ⟨hg31, h⟩ := gx h
          refine ev_iald d_Model_piece_48 hz30 hg31 ?_
          cases h
          exact ev_ret d_Model_piece_49 rfl
      · replace h := itn hc5 h
        refine ev_icmp_ne_f d_Model_piece_28 (by decide) hc5 ?_
        refine ev_aload_n 0 d_Model_piece_31 rfl (by decide) rfl ?_
        refine ev_get (t := 12) (k := 10) (by decide) (by decide) rfl i_Model (by decide) rfl rfl tw_910 d_Model_piece_32 hn_a0 ?_
        refine ev_iload_n 1 d_Model_piece_35 rfl rfl ?_
        obtain ⟨hz32, h⟩ := gx h
        obtain ⟨hg33, h⟩ := gx h
        refine ev_iald d_Model_piece_36 hz32 hg33 ?_
        cases h
        exact ev_ret d_Model_piece_37 rfl
    · replace h := itn hc4 h
      refine ev_if_ne_f d_Model_piece_16 (by decide) hc4 ?_
      refine ev_aload_n 0 d_Model_piece_19 rfl (by decide) rfl ?_
      refine ev_get (t := 12) (k := 9) (by decide) (by decide) rfl i_Model (by decide) rfl rfl tw_909 d_Model_piece_20 hn_a0 ?_
      refine ev_iload_n 1 d_Model_piece_23 rfl rfl ?_
      obtain ⟨hz34, h⟩ := gx h
      obtain ⟨hg35, h⟩ := gx h
      refine ev_iald d_Model_piece_24 hz34 hg35 ?_
      cases h
      exact ev_ret d_Model_piece_25 rfl
  · replace h := itn hc3 h
    refine ev_if_ne_f d_Model_piece_10 (by decide) hc3 ?_
    refine ev_iconst d_Model_piece_13 rfl ?_
    cases h
    exact ev_ret d_Model_piece_14 rfl
def l_Model_ones_4 (M : Mm) (s : Int × Int) : Option ((Int × Int) ⊕ (Int)) :=
  if s.2 = 0 then
  some (.inr s.1)
  else
  lt ((w32 (s.1 + 1))) (fun x2 : Int =>
  lt ((bAnd s.2 (w32 (s.2 - 1)))) (fun x3 : Int =>
  some (.inl (x2, x3))))
theorem cs_l_Model_ones_4 {X : XX} {d : Nat} (hd : 0 ≤ d) {M : Mm} {s : Int × Int} {x : (Int × Int) ⊕ (Int)} {r : Option AV} {M' : Mm} (h : l_Model_ones_4 M s = some x) (hk1 : ∀ s : Int × Int, x = .inl s → Ev X m_Model_ones d 4 [(2, (0, s.1)), (3, (0, s.2))] [] M r M') (hk2 : ∀ t : Int, x = .inr t → Ev X m_Model_ones d 21 [(2, (0, t))] [] M r M') : Ev X m_Model_ones d 4 [(2, (0, s.1)), (3, (0, s.2))] [] M r M' := by
  unfold l_Model_ones_4 at h
  refine ev_iload_n 1 d_Model_ones_4 rfl rfl ?_
  by_cases hc1 : s.2 = 0
  · replace h := itp hc1 h
    refine ev_if_eq_t (tgt := 21) d_Model_ones_5 (by decide) hc1 ?_
    refine ev_less (L' := [(2, (0, s.1))]) [0] rfl ?_
    cases h
    exact hk2 _ rfl
  · replace h := itn hc1 h
    refine ev_if_eq_f d_Model_ones_5 (by decide) hc1 ?_
    refine ev_iload_n 0 d_Model_ones_8 rfl rfl ?_
    refine ev_iconst d_Model_ones_9 rfl ?_
    refine ev_iadd d_Model_ones_10 ?_
    obtain ⟨x2, hx2, h⟩ := ltx h
    refine ev_istore_n' (y := x2) (L' := [(2, (0, x2)), (3, (0, s.2))]) d_Model_ones_11 rfl (by decide) rfl hx2 ?_
    refine ev_iload_n 1 d_Model_ones_12 rfl rfl ?_
    refine ev_iload_n 1 d_Model_ones_13 rfl rfl ?_
    refine ev_iconst d_Model_ones_14 rfl ?_
    refine ev_isub d_Model_ones_15 ?_
    refine ev_iand d_Model_ones_16 ?_
    obtain ⟨x3, hx3, h⟩ := ltx h
    refine ev_istore_n' (y := x3) (L' := [(3, (0, x3)), (2, (0, x2))]) d_Model_ones_17 rfl (by decide) rfl hx3 ?_
    refine ev_goto (tgt := 4) d_Model_ones_18 (by decide) ?_
    refine ev_less (L' := [(2, (0, x2)), (3, (0, x3))]) [1, 0] rfl ?_
    cases h
    exact hk1 _ rfl
def f_Model_ones (M : Mm) (a0 : Int) (a1 : Int) : Option (Int) :=
  (loopN (l_Model_ones_4 M) FU (0, a1)).bind (fun t4 =>
  some t4)
theorem c_Model_ones {X : XX} {d : Nat} (hd : 0 ≤ d) {M : Mm} {a0 : Int} {a1 : Int} (hn_a0 : a0 ≠ 0) {p : Int} (h : f_Model_ones M a0 a1 = some p) : Rn X d m_Model_ones [(12, a0), (0, a1)] M (some (0, p)) M := by
  refine Rn_of (by decide) rfl (Nat.le_of_ble_eq_true rfl) ?_
  unfold f_Model_ones at h
  refine ev_less (L' := [(0, (12, a0)), (1, (0, a1))]) [0, 1] rfl ?_
  refine ev_iconst d_Model_ones_0 rfl ?_
  refine ev_istore_n (L' := [(2, (0, 0)), (0, (12, a0)), (1, (0, a1))]) d_Model_ones_1 rfl (by decide) rfl ?_
  refine ev_iload_n 2 d_Model_ones_2 rfl rfl ?_
  refine ev_istore_n (L' := [(3, (0, a1)), (2, (0, 0)), (0, (12, a0)), (1, (0, a1))]) d_Model_ones_3 rfl (by decide) rfl ?_
  obtain ⟨t4, ht4, h⟩ := bx h
  refine ev_less (L' := [(2, (0, 0)), (3, (0, a1))]) [1, 0] rfl ?_
  refine loop_ev (step := l_Model_ones_4 M) (P := fun w : Int × Int => Ev X m_Model_ones d 4 [(2, (0, w.1)), (3, (0, w.2))] [] M (some (0, p)) M) (Q := fun w => Ev X m_Model_ones d 21 [(2, (0, w))] [] M (some (0, p)) M) (fun w x hs k1 k2 => cs_l_Model_ones_4 hd hs k1 k2) FU (0, a1) t4 ht4 ?_
  refine ev_iload_n 0 d_Model_ones_21 rfl rfl ?_
  cases h
  exact ev_ret d_Model_ones_22 rfl
def l_Model_lacking_53 (M : Mm) (a0 : Int) (a1 : Int) (z2 : Int) (z3 : Int) (z4 : Int) (z5 : Int) (s : Int × Int) : Option ((Int × Int) ⊕ (Int)) :=
  if (mg M (cI a0) 12) ≠ 0 then
  if (0 : Int) ≤ a1 ∧ a1 < (ml M (cI (mg M (cI a0) 12)) : Int) then
  if (mg M (cI (mg M (cI a0) 12)) (a1 : Int).toNat) ≤ s.2 then
  some (.inr s.1)
  else
  if s.1 ≠ 0 then
  some (.inr s.1)
  else
  if (bAnd (bShr z3 s.2) 1) ≠ 1 then
  lt (w32 (s.2 + 1)) (fun x13 : Int =>
  some (.inl (0, x13)))
  else
  if (mg M (cI a0) 5) ≠ 0 then
  if (0 : Int) ≤ z5 ∧ z5 < (ml M (cI (mg M (cI a0) 5)) : Int) then
  if (mg M (cI (mg M (cI a0) 5)) (z5 : Int).toNat) = 0 then
  lt (w32 (s.2 + 1)) (fun x17 : Int =>
  some (.inl (0, x17)))
  else
  (f_Model_costOf M a0 a1 s.2 z5).bind (fun p18 =>
  if p18 = (-1) then
  lt (w32 (s.2 + 1)) (fun x20 : Int =>
  some (.inl (0, x20)))
  else
  lt (w32 (s.2 + 1)) (fun x21 : Int =>
  some (.inl (1, x21))))
  else none
  else none
  else none
  else none
theorem cs_l_Model_lacking_53 {X : XX} {d : Nat} (hd : 1 ≤ d) {M : Mm} {a0 : Int} {a1 : Int} {z2 : Int} {z3 : Int} {z4 : Int} {z5 : Int} (hn_a0 : a0 ≠ 0) {s : Int × Int} {x : (Int × Int) ⊕ (Int)} {r : Option AV} {M' : Mm} (h : l_Model_lacking_53 M a0 a1 z2 z3 z4 z5 s = some x) (hk1 : ∀ s : Int × Int, x = .inl s → Ev X m_Model_lacking d 53 [(0, (12, a0)), (1, (0, a1)), (2, (0, z2)), (3, (0, z3)), (4, (0, z4)), (5, (0, z5)), (6, (0, s.1)), (7, (0, s.2))] [] M r M') (hk2 : ∀ t : Int, x = .inr t → Ev X m_Model_lacking d 115 [(0, (12, a0)), (1, (0, a1)), (2, (0, z2)), (3, (0, z3)), (4, (0, z4)), (5, (0, z5)), (6, (0, t))] [] M r M') : Ev X m_Model_lacking d 53 [(0, (12, a0)), (1, (0, a1)), (2, (0, z2)), (3, (0, z3)), (4, (0, z4)), (5, (0, z5)), (6, (0, s.1)), (7, (0, s.2))] [] M r M' := by
  unfold l_Model_lacking_53 at h
  refine ev_iload 7 d_Model_lacking_53 rfl ?_
  refine ev_aload_n 0 d_Model_lacking_55 rfl (by decide) rfl ?_
  refine ev_get (t := 12) (k := 12) (by decide) (by decide) rfl i_Model (by decide) rfl rfl tw_912 d_Model_lacking_56 hn_a0 ?_
  refine ev_iload_n 1 d_Model_lacking_59 rfl rfl ?_
  obtain ⟨hz8, h⟩ := gx h
  obtain ⟨hg9, h⟩ := gx h
  refine ev_iald d_Model_lacking_60 hz8 hg9 ?_
  by_cases hc10 : (mg M (cI (mg M (cI a0) 12)) (a1 : Int).toNat) ≤ s.2
  · replace h := itp hc10 h
    refine ev_icmp_ge_t (tgt := 115) d_Model_lacking_61 (by decide) hc10 ?_
    refine ev_less (L' := [(0, (12, a0)), (1, (0, a1)), (2, (0, z2)), (3, (0, z3)), (4, (0, z4)), (5, (0, z5)), (6, (0, s.1))]) [0, 1, 2, 3, 4, 5, 6] rfl ?_
    cases h
    exact hk2 _ rfl
  · replace h := itn hc10 h
    refine ev_icmp_ge_f d_Model_lacking_61 (by decide) hc10 ?_
    refine ev_iload 6 d_Model_lacking_64 rfl ?_
    by_cases hc11 : s.1 ≠ 0
    · replace h := itp hc11 h
      refine ev_if_ne_t (tgt := 115) d_Model_lacking_66 (by decide) hc11 ?_
      refine ev_less (L' := [(0, (12, a0)), (1, (0, a1)), (2, (0, z2)), (3, (0, z3)), (4, (0, z4)), (5, (0, z5)), (6, (0, s.1))]) [0, 1, 2, 3, 4, 5, 6] rfl ?_
      cases h
      exact hk2 _ rfl
    · replace h := itn hc11 h
      refine ev_if_ne_f d_Model_lacking_66 (by decide) hc11 ?_
      refine ev_iload_n 3 d_Model_lacking_69 rfl rfl ?_
      refine ev_iload 7 d_Model_lacking_70 rfl ?_
      refine ev_ishr d_Model_lacking_72 ?_
      refine ev_iconst d_Model_lacking_73 rfl ?_
      refine ev_iand d_Model_lacking_74 ?_
      refine ev_iconst d_Model_lacking_75 rfl ?_
      by_cases hc12 : (bAnd (bShr z3 s.2) 1) ≠ 1
      · replace h := itp hc12 h
        refine ev_icmp_ne_t (tgt := 106) d_Model_lacking_76 (by decide) hc12 ?_
        refine ev_iconst d_Model_lacking_106 rfl ?_
        refine ev_istore (L' := [(6, (0, 0)), (0, (12, a0)), (1, (0, a1)), (2, (0, z2)), (3, (0, z3)), (4, (0, z4)), (5, (0, z5)), (7, (0, s.2))]) d_Model_lacking_107 (by decide) rfl ?_
        obtain ⟨x13, hx13, h⟩ := ltx h
        refine ev_iinc' 7 (y := x13) (L' := [(7, (0, x13)), (6, (0, 0)), (0, (12, a0)), (1, (0, a1)), (2, (0, z2)), (3, (0, z3)), (4, (0, z4)), (5, (0, z5))]) d_Model_lacking_109 rfl (by decide) rfl hx13 ?_
        refine ev_goto (tgt := 53) d_Model_lacking_112 (by decide) ?_
        refine ev_less (L' := [(0, (12, a0)), (1, (0, a1)), (2, (0, z2)), (3, (0, z3)), (4, (0, z4)), (5, (0, z5)), (6, (0, 0)), (7, (0, x13))]) [2, 3, 4, 5, 6, 7, 1, 0] rfl ?_
        cases h
        exact hk1 _ rfl
      · replace h := itn hc12 h
        refine ev_icmp_ne_f d_Model_lacking_76 (by decide) hc12 ?_
        refine ev_aload_n 0 d_Model_lacking_79 rfl (by decide) rfl ?_
        refine ev_get (t := 12) (k := 5) (by decide) (by decide) rfl i_Model (by decide) rfl rfl tw_905 d_Model_lacking_80 hn_a0 ?_
        refine ev_iload 5 d_Model_lacking_83 rfl ?_
        obtain ⟨hz14, h⟩ := gx h
        obtain ⟨hg15, h⟩ := gx h
        refine ev_zald d_Model_lacking_85 hz14 hg15 ?_
        by_cases hc16 : (mg M (cI (mg M (cI a0) 5)) (z5 : Int).toNat) = 0
        · replace h := itp hc16 h
          refine ev_if_eq_t (tgt := 106) d_Model_lacking_86 (by decide) hc16 ?_
          refine ev_iconst d_Model_lacking_106 rfl ?_
          refine ev_istore (L' := [(6, (0, 0)), (0, (12, a0)), (1, (0, a1)), (2, (0, z2)), (3, (0, z3)), (4, (0, z4)), (5, (0, z5)), (7, (0, s.2))]) d_Model_lacking_107 (by decide) rfl ?_
          obtain ⟨x17, hx17, h⟩ := ltx h
          refine ev_iinc' 7 (y := x17) (L' := [(7, (0, x17)), (6, (0, 0)), (0, (12, a0)), (1, (0, a1)), (2, (0, z2)), (3, (0, z3)), (4, (0, z4)), (5, (0, z5))]) d_Model_lacking_109 rfl (by decide) rfl hx17 ?_
          refine ev_goto (tgt := 53) d_Model_lacking_112 (by decide) ?_
          refine ev_less (L' := [(0, (12, a0)), (1, (0, a1)), (2, (0, z2)), (3, (0, z3)), (4, (0, z4)), (5, (0, z5)), (6, (0, 0)), (7, (0, x17))]) [2, 3, 4, 5, 6, 7, 1, 0] rfl ?_
          cases h
          exact hk1 _ rfl
        · replace h := itn hc16 h
          refine ev_if_eq_f d_Model_lacking_86 (by decide) hc16 ?_
          refine ev_aload_n 0 d_Model_lacking_89 rfl (by decide) rfl ?_
          refine ev_iload_n 1 d_Model_lacking_90 rfl rfl ?_
          refine ev_iload 7 d_Model_lacking_91 rfl ?_
          refine ev_iload 5 d_Model_lacking_93 rfl ?_
          obtain ⟨p18, hp18, h⟩ := bx h
          have hRp18 := c_Model_costOf (X := X) (d := d - 1) (by omega) hn_a0 hp18
          refine ev_callV2 (st2 := [(0, p18)]) (as := [(0, a1), (0, s.2), (0, z5)]) (rest := []) rfl (by decide) (by decide) rfl hn_a0 rfl (Nat.le_of_ble_eq_true rfl) k_Model_costOf ⟨tw_1088, ts_81⟩ (by omega) tw_1086 d_Model_lacking_95 hRp18 rfl ?_
          refine ev_iconst d_Model_lacking_98 rfl ?_
          by_cases hc19 : p18 = (-1)
          · replace h := itp hc19 h
            refine ev_icmp_eq_t (tgt := 106) d_Model_lacking_99 (by decide) hc19 ?_
            refine ev_iconst d_Model_lacking_106 rfl ?_
            refine ev_istore (L' := [(6, (0, 0)), (0, (12, a0)), (1, (0, a1)), (2, (0, z2)), (3, (0, z3)), (4, (0, z4)), (5, (0, z5)), (7, (0, s.2))]) d_Model_lacking_107 (by decide) rfl ?_
            obtain ⟨x20, hx20, h⟩ := ltx h
            refine ev_iinc' 7 (y := x20) (L' := [(7, (0, x20)), (6, (0, 0)), (0, (12, a0)), (1, (0, a1)), (2, (0, z2)), (3, (0, z3)), (4, (0, z4)), (5, (0, z5))]) d_Model_lacking_109 rfl (by decide) rfl hx20 ?_
            refine ev_goto (tgt := 53) d_Model_lacking_112 (by decide) ?_
            refine ev_less (L' := [(0, (12, a0)), (1, (0, a1)), (2, (0, z2)), (3, (0, z3)), (4, (0, z4)), (5, (0, z5)), (6, (0, 0)), (7, (0, x20))]) [2, 3, 4, 5, 6, 7, 1, 0] rfl ?_
            cases h
            exact hk1 _ rfl
          · replace h := itn hc19 h
            refine ev_icmp_eq_f d_Model_lacking_99 (by decide) hc19 ?_
            refine ev_iconst d_Model_lacking_102 rfl ?_
            refine ev_goto (tgt := 107) d_Model_lacking_103 (by decide) ?_
            refine ev_istore (L' := [(6, (0, 1)), (0, (12, a0)), (1, (0, a1)), (2, (0, z2)), (3, (0, z3)), (4, (0, z4)), (5, (0, z5)), (7, (0, s.2))]) d_Model_lacking_107 (by decide) rfl ?_
            obtain ⟨x21, hx21, h⟩ := ltx h
            refine ev_iinc' 7 (y := x21) (L' := [(7, (0, x21)), (6, (0, 1)), (0, (12, a0)), (1, (0, a1)), (2, (0, z2)), (3, (0, z3)), (4, (0, z4)), (5, (0, z5))]) d_Model_lacking_109 rfl (by decide) rfl hx21 ?_
            refine ev_goto (tgt := 53) d_Model_lacking_112 (by decide) ?_
            refine ev_less (L' := [(0, (12, a0)), (1, (0, a1)), (2, (0, z2)), (3, (0, z3)), (4, (0, z4)), (5, (0, z5)), (6, (0, 1)), (7, (0, x21))]) [2, 3, 4, 5, 6, 7, 1, 0] rfl ?_
            cases h
            exact hk1 _ rfl
def j_Model_lacking_115_38 (M : Mm) (a0 : Int) (a1 : Int) (z2 : Int) (z3 : Int) (z4 : Int) (z5 : Int) (z6 : Int) : Option ((Int × Int) ⊕ (Int)) :=
  if z6 = 0 then
  lt (w32 (z5 + 1)) (fun x24 : Int =>
  some (.inl (z4, x24)))
  else
  lt ((w32 (z4 + 1))) (fun x25 : Int =>
  lt (w32 (z5 + 1)) (fun x26 : Int =>
  some (.inl (x25, x26))))
theorem cj_Model_lacking_115_38 {X : XX} {d : Nat} (hd : 1 ≤ d) {M : Mm} {a0 : Int} {a1 : Int} {z2 : Int} {z3 : Int} {z4 : Int} {z5 : Int} {z6 : Int} (hn_a0 : a0 ≠ 0) {x : (Int × Int) ⊕ (Int)} {r : Option AV} {M' : Mm} (h : j_Model_lacking_115_38 M a0 a1 z2 z3 z4 z5 z6 = some x) (hk1 : ∀ s : Int × Int, x = .inl s → Ev X m_Model_lacking d 38 [(0, (12, a0)), (1, (0, a1)), (2, (0, z2)), (3, (0, z3)), (4, (0, s.1)), (5, (0, s.2))] [] M r M') (hk2 : ∀ t : Int, x = .inr t → Ev X m_Model_lacking d 132 [(0, (12, a0)), (1, (0, a1)), (2, (0, z2)), (3, (0, z3)), (4, (0, t))] [] M r M') : Ev X m_Model_lacking d 115 [(0, (12, a0)), (1, (0, a1)), (2, (0, z2)), (3, (0, z3)), (4, (0, z4)), (5, (0, z5)), (6, (0, z6))] [] M r M' := by
  unfold j_Model_lacking_115_38 at h
  refine ev_iload 6 d_Model_lacking_115 rfl ?_
  by_cases hc23 : z6 = 0
  · replace h := itp hc23 h
    refine ev_if_eq_t (tgt := 126) d_Model_lacking_117 (by decide) hc23 ?_
    obtain ⟨x24, hx24, h⟩ := ltx h
    refine ev_iinc' 5 (y := x24) (L' := [(5, (0, x24)), (0, (12, a0)), (1, (0, a1)), (2, (0, z2)), (3, (0, z3)), (4, (0, z4)), (6, (0, z6))]) d_Model_lacking_126 rfl (by decide) rfl hx24 ?_
    refine ev_goto (tgt := 38) d_Model_lacking_129 (by decide) ?_
    refine ev_less (L' := [(0, (12, a0)), (1, (0, a1)), (2, (0, z2)), (3, (0, z3)), (4, (0, z4)), (5, (0, x24))]) [1, 2, 3, 4, 5, 0] rfl ?_
    cases h
    exact hk1 _ rfl
  · replace h := itn hc23 h
    refine ev_if_eq_f d_Model_lacking_117 (by decide) hc23 ?_
    refine ev_iload 4 d_Model_lacking_120 rfl ?_
    refine ev_iconst d_Model_lacking_122 rfl ?_
    refine ev_iadd d_Model_lacking_123 ?_
    obtain ⟨x25, hx25, h⟩ := ltx h
    refine ev_istore' (y := x25) (L' := [(4, (0, x25)), (0, (12, a0)), (1, (0, a1)), (2, (0, z2)), (3, (0, z3)), (5, (0, z5)), (6, (0, z6))]) d_Model_lacking_124 (by decide) rfl hx25 ?_
    obtain ⟨x26, hx26, h⟩ := ltx h
    refine ev_iinc' 5 (y := x26) (L' := [(5, (0, x26)), (4, (0, x25)), (0, (12, a0)), (1, (0, a1)), (2, (0, z2)), (3, (0, z3)), (6, (0, z6))]) d_Model_lacking_126 rfl (by decide) rfl hx26 ?_
    refine ev_goto (tgt := 38) d_Model_lacking_129 (by decide) ?_
    refine ev_less (L' := [(0, (12, a0)), (1, (0, a1)), (2, (0, z2)), (3, (0, z3)), (4, (0, x25)), (5, (0, x26))]) [2, 3, 4, 5, 1, 0] rfl ?_
    cases h
    exact hk1 _ rfl
def l_Model_lacking_38 (M : Mm) (a0 : Int) (a1 : Int) (z2 : Int) (z3 : Int) (s : Int × Int) : Option ((Int × Int) ⊕ (Int)) :=
  if (mg M (cI a0) 1) ≤ s.2 then
  some (.inr s.1)
  else
  (loopN (l_Model_lacking_53 M a0 a1 z2 z3 s.1 s.2) FU (0, 0)).bind (fun t22 =>
  j_Model_lacking_115_38 M a0 a1 z2 z3 s.1 s.2 t22)
theorem cs_l_Model_lacking_38 {X : XX} {d : Nat} (hd : 1 ≤ d) {M : Mm} {a0 : Int} {a1 : Int} {z2 : Int} {z3 : Int} (hn_a0 : a0 ≠ 0) {s : Int × Int} {x : (Int × Int) ⊕ (Int)} {r : Option AV} {M' : Mm} (h : l_Model_lacking_38 M a0 a1 z2 z3 s = some x) (hk1 : ∀ s : Int × Int, x = .inl s → Ev X m_Model_lacking d 38 [(0, (12, a0)), (1, (0, a1)), (2, (0, z2)), (3, (0, z3)), (4, (0, s.1)), (5, (0, s.2))] [] M r M') (hk2 : ∀ t : Int, x = .inr t → Ev X m_Model_lacking d 132 [(0, (12, a0)), (1, (0, a1)), (2, (0, z2)), (3, (0, z3)), (4, (0, t))] [] M r M') : Ev X m_Model_lacking d 38 [(0, (12, a0)), (1, (0, a1)), (2, (0, z2)), (3, (0, z3)), (4, (0, s.1)), (5, (0, s.2))] [] M r M' := by
  unfold l_Model_lacking_38 at h
  refine ev_iload 5 d_Model_lacking_38 rfl ?_
  refine ev_aload_n 0 d_Model_lacking_40 rfl (by decide) rfl ?_
  refine ev_get (t := 12) (k := 1) (by decide) (by decide) rfl i_Model (by decide) rfl rfl tw_901 d_Model_lacking_41 hn_a0 ?_
  by_cases hc7 : (mg M (cI a0) 1) ≤ s.2
  · replace h := itp hc7 h
    refine ev_icmp_ge_t (tgt := 132) d_Model_lacking_44 (by decide) hc7 ?_
    refine ev_less (L' := [(0, (12, a0)), (1, (0, a1)), (2, (0, z2)), (3, (0, z3)), (4, (0, s.1))]) [0, 1, 2, 3, 4] rfl ?_
    cases h
    exact hk2 _ rfl
  · replace h := itn hc7 h
    refine ev_icmp_ge_f d_Model_lacking_44 (by decide) hc7 ?_
    refine ev_iconst d_Model_lacking_47 rfl ?_
    refine ev_istore (L' := [(6, (0, 0)), (0, (12, a0)), (1, (0, a1)), (2, (0, z2)), (3, (0, z3)), (4, (0, s.1)), (5, (0, s.2))]) d_Model_lacking_48 (by decide) rfl ?_
    refine ev_iconst d_Model_lacking_50 rfl ?_
    refine ev_istore (L' := [(7, (0, 0)), (6, (0, 0)), (0, (12, a0)), (1, (0, a1)), (2, (0, z2)), (3, (0, z3)), (4, (0, s.1)), (5, (0, s.2))]) d_Model_lacking_51 (by decide) rfl ?_
    obtain ⟨t22, ht22, h⟩ := bx h
    refine ev_less (L' := [(0, (12, a0)), (1, (0, a1)), (2, (0, z2)), (3, (0, z3)), (4, (0, s.1)), (5, (0, s.2)), (6, (0, 0)), (7, (0, 0))]) [2, 3, 4, 5, 6, 7, 1, 0] rfl ?_
    refine loop_ev (step := l_Model_lacking_53 M a0 a1 z2 z3 s.1 s.2) (P := fun w : Int × Int => Ev X m_Model_lacking d 53 [(0, (12, a0)), (1, (0, a1)), (2, (0, z2)), (3, (0, z3)), (4, (0, s.1)), (5, (0, s.2)), (6, (0, w.1)), (7, (0, w.2))] [] M r M') (Q := fun w => Ev X m_Model_lacking d 115 [(0, (12, a0)), (1, (0, a1)), (2, (0, z2)), (3, (0, z3)), (4, (0, s.1)), (5, (0, s.2)), (6, (0, w))] [] M r M') (fun w x hs k1 k2 => cs_l_Model_lacking_53 hd hn_a0 hs k1 k2) FU (0, 0) t22 ht22 ?_
    exact cj_Model_lacking_115_38 hd hn_a0 h hk1 hk2
def l_Model_lacking_4 (M : Mm) (a0 : Int) (a1 : Int) (s : Int × Int) : Option ((Int × Int) ⊕ (Int)) :=
  if (mg M (cI a0) 12) ≠ 0 then
  if (0 : Int) ≤ a1 ∧ a1 < (ml M (cI (mg M (cI a0) 12)) : Int) then
  if (bShl 1 (mg M (cI (mg M (cI a0) 12)) (a1 : Int).toNat)) ≤ s.2 then
  some (.inr s.1)
  else
  if (mg M (cI a0) 13) ≠ 0 then
  if (0 : Int) ≤ a1 ∧ a1 < (ml M (cI (mg M (cI a0) 13)) : Int) then
  if (bAnd s.2 (bXor (mg M (cI (mg M (cI a0) 13)) (a1 : Int).toNat) (-1))) = 0 then
  (loopN (l_Model_lacking_38 M a0 a1 s.1 s.2) FU (0, 0)).bind (fun t27 =>
  (f_Model_ones M a0 s.2).bind (fun p28 =>
  if p28 ≤ t27 then
  lt (w32 (s.2 + 1)) (fun x30 : Int =>
  some (.inl (s.1, x30)))
  else
  if s.1 = 0 then
  lt (w32 (s.2 + 1)) (fun x32 : Int =>
  some (.inl (s.2, x32)))
  else
  (f_Model_ones M a0 s.2).bind (fun p33 =>
  (f_Model_ones M a0 s.1).bind (fun p34 =>
  if p34 ≤ p33 then
  lt (w32 (s.2 + 1)) (fun x36 : Int =>
  some (.inl (s.1, x36)))
  else
  lt (w32 (s.2 + 1)) (fun x37 : Int =>
  some (.inl (s.2, x37)))))))
  else
  lt (w32 (s.2 + 1)) (fun x38 : Int =>
  some (.inl (s.1, x38)))
  else none
  else none
  else none
  else none
theorem cs_l_Model_lacking_4 {X : XX} {d : Nat} (hd : 1 ≤ d) {M : Mm} {a0 : Int} {a1 : Int} (hn_a0 : a0 ≠ 0) {s : Int × Int} {x : (Int × Int) ⊕ (Int)} {r : Option AV} {M' : Mm} (h : l_Model_lacking_4 M a0 a1 s = some x) (hk1 : ∀ s : Int × Int, x = .inl s → Ev X m_Model_lacking d 4 [(0, (12, a0)), (1, (0, a1)), (2, (0, s.1)), (3, (0, s.2))] [] M r M') (hk2 : ∀ t : Int, x = .inr t → Ev X m_Model_lacking d 167 [(2, (0, t))] [] M r M') : Ev X m_Model_lacking d 4 [(0, (12, a0)), (1, (0, a1)), (2, (0, s.1)), (3, (0, s.2))] [] M r M' := by
  unfold l_Model_lacking_4 at h
  refine ev_iload_n 3 d_Model_lacking_4 rfl rfl ?_
  refine ev_iconst d_Model_lacking_5 rfl ?_
  refine ev_aload_n 0 d_Model_lacking_6 rfl (by decide) rfl ?_
  refine ev_get (t := 12) (k := 12) (by decide) (by decide) rfl i_Model (by decide) rfl rfl tw_912 d_Model_lacking_7 hn_a0 ?_
  refine ev_iload_n 1 d_Model_lacking_10 rfl rfl ?_
  obtain ⟨hz1, h⟩ := gx h
  obtain ⟨hg2, h⟩ := gx h
  refine ev_iald d_Model_lacking_11 hz1 hg2 ?_
  refine ev_ishl d_Model_lacking_12 ?_
  by_cases hc3 : (bShl 1 (mg M (cI (mg M (cI a0) 12)) (a1 : Int).toNat)) ≤ s.2
  · replace h := itp hc3 h
    refine ev_icmp_ge_t (tgt := 167) d_Model_lacking_13 (by decide) hc3 ?_
    refine ev_less (L' := [(2, (0, s.1))]) [2] rfl ?_
    cases h
    exact hk2 _ rfl
  · replace h := itn hc3 h
    refine ev_icmp_ge_f d_Model_lacking_13 (by decide) hc3 ?_
    refine ev_iload_n 3 d_Model_lacking_16 rfl rfl ?_
    refine ev_aload_n 0 d_Model_lacking_17 rfl (by decide) rfl ?_
    refine ev_get (t := 12) (k := 13) (by decide) (by decide) rfl i_Model (by decide) rfl rfl tw_913 d_Model_lacking_18 hn_a0 ?_
    refine ev_iload_n 1 d_Model_lacking_21 rfl rfl ?_
    obtain ⟨hz4, h⟩ := gx h
    obtain ⟨hg5, h⟩ := gx h
    refine ev_iald d_Model_lacking_22 hz4 hg5 ?_
    refine ev_iconst d_Model_lacking_23 rfl ?_
    refine ev_ixor d_Model_lacking_24 ?_
    refine ev_iand d_Model_lacking_25 ?_
    by_cases hc6 : (bAnd s.2 (bXor (mg M (cI (mg M (cI a0) 13)) (a1 : Int).toNat) (-1))) = 0
    · replace h := itp hc6 h
      refine ev_if_eq_t (tgt := 32) d_Model_lacking_26 (by decide) hc6 ?_
      refine ev_iconst d_Model_lacking_32 rfl ?_
      refine ev_istore (L' := [(4, (0, 0)), (0, (12, a0)), (1, (0, a1)), (2, (0, s.1)), (3, (0, s.2))]) d_Model_lacking_33 (by decide) rfl ?_
      refine ev_iconst d_Model_lacking_35 rfl ?_
      refine ev_istore (L' := [(5, (0, 0)), (4, (0, 0)), (0, (12, a0)), (1, (0, a1)), (2, (0, s.1)), (3, (0, s.2))]) d_Model_lacking_36 (by decide) rfl ?_
      obtain ⟨t27, ht27, h⟩ := bx h
      refine ev_less (L' := [(0, (12, a0)), (1, (0, a1)), (2, (0, s.1)), (3, (0, s.2)), (4, (0, 0)), (5, (0, 0))]) [2, 3, 4, 5, 1, 0] rfl ?_
      refine loop_ev (step := l_Model_lacking_38 M a0 a1 s.1 s.2) (P := fun w : Int × Int => Ev X m_Model_lacking d 38 [(0, (12, a0)), (1, (0, a1)), (2, (0, s.1)), (3, (0, s.2)), (4, (0, w.1)), (5, (0, w.2))] [] M r M') (Q := fun w => Ev X m_Model_lacking d 132 [(0, (12, a0)), (1, (0, a1)), (2, (0, s.1)), (3, (0, s.2)), (4, (0, w))] [] M r M') (fun w x hs k1 k2 => cs_l_Model_lacking_38 hd hn_a0 hs k1 k2) FU (0, 0) t27 ht27 ?_
      refine ev_iload 4 d_Model_lacking_132 rfl ?_
      refine ev_aload_n 0 d_Model_lacking_134 rfl (by decide) rfl ?_
      refine ev_iload_n 3 d_Model_lacking_135 rfl rfl ?_
      obtain ⟨p28, hp28, h⟩ := bx h
      have hRp28 := c_Model_ones (X := X) (d := d - 1) (by omega) hn_a0 hp28
      refine ev_callV2 (st2 := [(0, p28), (0, t27)]) (as := [(0, s.2)]) (rest := [(0, t27)]) rfl (by decide) (by decide) rfl hn_a0 rfl (Nat.le_of_ble_eq_true rfl) k_Model_ones ⟨tw_1092, ts_82⟩ (by omega) tw_1090 d_Model_lacking_136 hRp28 rfl ?_
      by_cases hc29 : p28 ≤ t27
      · replace h := itp hc29 h
        refine ev_icmp_ge_t (tgt := 161) d_Model_lacking_139 (by decide) hc29 ?_
        obtain ⟨x30, hx30, h⟩ := ltx h
        refine ev_iinc' 3 (y := x30) (L' := [(3, (0, x30)), (0, (12, a0)), (1, (0, a1)), (2, (0, s.1)), (4, (0, t27))]) d_Model_lacking_161 rfl (by decide) rfl hx30 ?_
        refine ev_goto (tgt := 4) d_Model_lacking_164 (by decide) ?_
        refine ev_less (L' := [(0, (12, a0)), (1, (0, a1)), (2, (0, s.1)), (3, (0, x30))]) [1, 2, 3, 0] rfl ?_
        cases h
        exact hk1 _ rfl
      · replace h := itn hc29 h
        refine ev_icmp_ge_f d_Model_lacking_139 (by decide) hc29 ?_
        refine ev_iload_n 2 d_Model_lacking_142 rfl rfl ?_
        by_cases hc31 : s.1 = 0
        · replace h := itp hc31 h
          refine ev_if_eq_t (tgt := 159) d_Model_lacking_143 (by decide) hc31 ?_
          refine ev_iload_n 3 d_Model_lacking_159 rfl rfl ?_
          refine ev_istore_n (L' := [(2, (0, s.2)), (0, (12, a0)), (1, (0, a1)), (3, (0, s.2)), (4, (0, t27))]) d_Model_lacking_160 rfl (by decide) rfl ?_
          obtain ⟨x32, hx32, h⟩ := ltx h
          refine ev_iinc' 3 (y := x32) (L' := [(3, (0, x32)), (2, (0, s.2)), (0, (12, a0)), (1, (0, a1)), (4, (0, t27))]) d_Model_lacking_161 rfl (by decide) rfl hx32 ?_
          refine ev_goto (tgt := 4) d_Model_lacking_164 (by decide) ?_
          refine ev_less (L' := [(0, (12, a0)), (1, (0, a1)), (2, (0, s.2)), (3, (0, x32))]) [2, 3, 1, 0] rfl ?_
          cases h
          exact hk1 _ rfl
        · replace h := itn hc31 h
          refine ev_if_eq_f d_Model_lacking_143 (by decide) hc31 ?_
          refine ev_aload_n 0 d_Model_lacking_146 rfl (by decide) rfl ?_
          refine ev_iload_n 3 d_Model_lacking_147 rfl rfl ?_
          obtain ⟨p33, hp33, h⟩ := bx h
          have hRp33 := c_Model_ones (X := X) (d := d - 1) (by omega) hn_a0 hp33
          refine ev_callV2 (st2 := [(0, p33)]) (as := [(0, s.2)]) (rest := []) rfl (by decide) (by decide) rfl hn_a0 rfl (Nat.le_of_ble_eq_true rfl) k_Model_ones ⟨tw_1092, ts_82⟩ (by omega) tw_1090 d_Model_lacking_148 hRp33 rfl ?_
          refine ev_aload_n 0 d_Model_lacking_151 rfl (by decide) rfl ?_
          refine ev_iload_n 2 d_Model_lacking_152 rfl rfl ?_
          obtain ⟨p34, hp34, h⟩ := bx h
          have hRp34 := c_Model_ones (X := X) (d := d - 1) (by omega) hn_a0 hp34
          refine ev_callV2 (st2 := [(0, p34), (0, p33)]) (as := [(0, s.1)]) (rest := [(0, p33)]) rfl (by decide) (by decide) rfl hn_a0 rfl (Nat.le_of_ble_eq_true rfl) k_Model_ones ⟨tw_1092, ts_82⟩ (by omega) tw_1090 d_Model_lacking_153 hRp34 rfl ?_
          by_cases hc35 : p34 ≤ p33
          · replace h := itp hc35 h
            refine ev_icmp_ge_t (tgt := 161) d_Model_lacking_156 (by decide) hc35 ?_
            obtain ⟨x36, hx36, h⟩ := ltx h
            refine ev_iinc' 3 (y := x36) (L' := [(3, (0, x36)), (0, (12, a0)), (1, (0, a1)), (2, (0, s.1)), (4, (0, t27))]) d_Model_lacking_161 rfl (by decide) rfl hx36 ?_
            refine ev_goto (tgt := 4) d_Model_lacking_164 (by decide) ?_
            refine ev_less (L' := [(0, (12, a0)), (1, (0, a1)), (2, (0, s.1)), (3, (0, x36))]) [1, 2, 3, 0] rfl ?_
            cases h
            exact hk1 _ rfl
          · replace h := itn hc35 h
            refine ev_icmp_ge_f d_Model_lacking_156 (by decide) hc35 ?_
            refine ev_iload_n 3 d_Model_lacking_159 rfl rfl ?_
            refine ev_istore_n (L' := [(2, (0, s.2)), (0, (12, a0)), (1, (0, a1)), (3, (0, s.2)), (4, (0, t27))]) d_Model_lacking_160 rfl (by decide) rfl ?_
            obtain ⟨x37, hx37, h⟩ := ltx h
            refine ev_iinc' 3 (y := x37) (L' := [(3, (0, x37)), (2, (0, s.2)), (0, (12, a0)), (1, (0, a1)), (4, (0, t27))]) d_Model_lacking_161 rfl (by decide) rfl hx37 ?_
            refine ev_goto (tgt := 4) d_Model_lacking_164 (by decide) ?_
            refine ev_less (L' := [(0, (12, a0)), (1, (0, a1)), (2, (0, s.2)), (3, (0, x37))]) [2, 3, 1, 0] rfl ?_
            cases h
            exact hk1 _ rfl
    · replace h := itn hc6 h
      refine ev_if_eq_f d_Model_lacking_26 (by decide) hc6 ?_
      refine ev_goto (tgt := 161) d_Model_lacking_29 (by decide) ?_
      obtain ⟨x38, hx38, h⟩ := ltx h
      refine ev_iinc' 3 (y := x38) (L' := [(3, (0, x38)), (0, (12, a0)), (1, (0, a1)), (2, (0, s.1))]) d_Model_lacking_161 rfl (by decide) rfl hx38 ?_
      refine ev_goto (tgt := 4) d_Model_lacking_164 (by decide) ?_
      refine ev_less (L' := [(0, (12, a0)), (1, (0, a1)), (2, (0, s.1)), (3, (0, x38))]) [1, 2, 3, 0] rfl ?_
      cases h
      exact hk1 _ rfl
def f_Model_lacking (M : Mm) (a0 : Int) (a1 : Int) : Option (Int) :=
  (loopN (l_Model_lacking_4 M a0 a1) FU (0, 1)).bind (fun t39 =>
  some t39)
theorem c_Model_lacking {X : XX} {d : Nat} (hd : 1 ≤ d) {M : Mm} {a0 : Int} {a1 : Int} (hn_a0 : a0 ≠ 0) {p : Int} (h : f_Model_lacking M a0 a1 = some p) : Rn X d m_Model_lacking [(12, a0), (0, a1)] M (some (0, p)) M := by
  refine Rn_of (by decide) rfl (Nat.le_of_ble_eq_true rfl) ?_
  unfold f_Model_lacking at h
  refine ev_less (L' := [(0, (12, a0)), (1, (0, a1))]) [0, 1] rfl ?_
  refine ev_iconst d_Model_lacking_0 rfl ?_
  refine ev_istore_n (L' := [(2, (0, 0)), (0, (12, a0)), (1, (0, a1))]) d_Model_lacking_1 rfl (by decide) rfl ?_
  refine ev_iconst d_Model_lacking_2 rfl ?_
  refine ev_istore_n (L' := [(3, (0, 1)), (2, (0, 0)), (0, (12, a0)), (1, (0, a1))]) d_Model_lacking_3 rfl (by decide) rfl ?_
  obtain ⟨t39, ht39, h⟩ := bx h
  refine ev_less (L' := [(0, (12, a0)), (1, (0, a1)), (2, (0, 0)), (3, (0, 1))]) [2, 3, 1, 0] rfl ?_
  refine loop_ev (step := l_Model_lacking_4 M a0 a1) (P := fun w : Int × Int => Ev X m_Model_lacking d 4 [(0, (12, a0)), (1, (0, a1)), (2, (0, w.1)), (3, (0, w.2))] [] M (some (0, p)) M) (Q := fun w => Ev X m_Model_lacking d 167 [(2, (0, w))] [] M (some (0, p)) M) (fun w x hs k1 k2 => cs_l_Model_lacking_4 hd hn_a0 hs k1 k2) FU (0, 1) t39 ht39 ?_
  refine ev_iload_n 0 d_Model_lacking_167 rfl rfl ?_
  cases h
  exact ev_ret d_Model_lacking_168 rfl
def f_Model_playable (M : Mm) (a0 : Int) (a1 : Int) : Option (Int × Mm) :=
  lt (mp M (cI a0) 0 0) (fun M1 =>
  (f_Model_isPiece M1 a0 a1).bind (fun p2 =>
  if p2 ≠ 0 then
  (f_Model_lacking M1 a0 a1).bind (fun p4 =>
  if p4 ≠ 0 then
  some (0, M1)
  else
  some (1, M1))
  else
  some ((-1), M1)))
theorem c_Model_playable {X : XX} {d : Nat} (hd : 2 ≤ d) {M : Mm} {a0 : Int} {a1 : Int} (hn_a0 : a0 ≠ 0) {p : Int × Mm} (h : f_Model_playable M a0 a1 = some p) : Rn X d m_Model_playable [(12, a0), (0, a1)] M (some (0, p.1)) p.2 := by
  refine Rn_of (by decide) rfl (Nat.le_of_ble_eq_true rfl) ?_
  unfold f_Model_playable at h
  refine ev_less (L' := [(0, (12, a0)), (1, (0, a1))]) [0, 1] rfl ?_
  refine ev_aload_n 0 d_Model_playable_0 rfl (by decide) rfl ?_
  refine ev_iconst d_Model_playable_1 rfl ?_
  obtain ⟨M1, hM1, h⟩ := ltx h
  refine ev_put' (t := 12) (k := 0) (by decide) (by decide) rfl i_Model t_Model_ok n_Model (by decide) rfl rfl rfl rfl tw_900 d_Model_playable_2 hn_a0 hM1 ?_
  refine ev_aload_n 0 d_Model_playable_5 rfl (by decide) rfl ?_
  refine ev_iload_n 1 d_Model_playable_6 rfl rfl ?_
  obtain ⟨p2, hp2, h⟩ := bx h
  have hRp2 := c_Model_isPiece (X := X) (d := d - 1) (by omega) hn_a0 hp2
  refine ev_callV2 (st2 := [(0, p2)]) (as := [(0, a1)]) (rest := []) rfl (by decide) (by decide) rfl hn_a0 rfl (Nat.le_of_ble_eq_true rfl) k_Model_isPiece ⟨tw_1076, ts_79⟩ (by omega) tw_1074 d_Model_playable_7 hRp2 rfl ?_
  by_cases hc3 : p2 ≠ 0
  · replace h := itp hc3 h
    refine ev_if_ne_t (tgt := 17) d_Model_playable_10 (by decide) hc3 ?_
    refine ev_aload_n 0 d_Model_playable_17 rfl (by decide) rfl ?_
    refine ev_iload_n 1 d_Model_playable_18 rfl rfl ?_
    obtain ⟨p4, hp4, h⟩ := bx h
    have hRp4 := c_Model_lacking (X := X) (d := d - 1) (by omega) hn_a0 hp4
    refine ev_callV2 (st2 := [(0, p4)]) (as := [(0, a1)]) (rest := []) rfl (by decide) (by decide) rfl hn_a0 rfl (Nat.le_of_ble_eq_true rfl) k_Model_lacking ⟨tw_1084, ts_80⟩ (by omega) tw_1082 d_Model_playable_19 hRp4 rfl ?_
    by_cases hc5 : p4 ≠ 0
    · replace h := itp hc5 h
      refine ev_if_ne_t (tgt := 29) d_Model_playable_22 (by decide) hc5 ?_
      refine ev_iconst d_Model_playable_29 rfl ?_
      cases h
      exact ev_ret d_Model_playable_30 rfl
    · replace h := itn hc5 h
      refine ev_if_ne_f d_Model_playable_22 (by decide) hc5 ?_
      refine ev_iconst d_Model_playable_25 rfl ?_
      refine ev_goto (tgt := 30) d_Model_playable_26 (by decide) ?_
      cases h
      exact ev_ret d_Model_playable_30 rfl
  · replace h := itn hc3 h
    refine ev_if_ne_f d_Model_playable_10 (by decide) hc3 ?_
    refine ev_iconst d_Model_playable_13 rfl ?_
    refine ev_goto (tgt := 30) d_Model_playable_14 (by decide) ?_
    cases h
    exact ev_ret d_Model_playable_30 rfl
def f_Model_lacks (M : Mm) (a0 : Int) (a1 : Int) : Option (Int × Mm) :=
  lt (mp M (cI a0) 0 0) (fun M1 =>
  (f_Model_isPiece M1 a0 a1).bind (fun p2 =>
  if p2 = 0 then
  some ((-1), M1)
  else
  (f_Model_lacking M1 a0 a1).bind (fun p4 =>
  some (p4, M1))))
theorem c_Model_lacks {X : XX} {d : Nat} (hd : 2 ≤ d) {M : Mm} {a0 : Int} {a1 : Int} (hn_a0 : a0 ≠ 0) {p : Int × Mm} (h : f_Model_lacks M a0 a1 = some p) : Rn X d m_Model_lacks [(12, a0), (0, a1)] M (some (0, p.1)) p.2 := by
  refine Rn_of (by decide) rfl (Nat.le_of_ble_eq_true rfl) ?_
  unfold f_Model_lacks at h
  refine ev_less (L' := [(0, (12, a0)), (1, (0, a1))]) [0, 1] rfl ?_
  refine ev_aload_n 0 d_Model_lacks_0 rfl (by decide) rfl ?_
  refine ev_iconst d_Model_lacks_1 rfl ?_
  obtain ⟨M1, hM1, h⟩ := ltx h
  refine ev_put' (t := 12) (k := 0) (by decide) (by decide) rfl i_Model t_Model_ok n_Model (by decide) rfl rfl rfl rfl tw_900 d_Model_lacks_2 hn_a0 hM1 ?_
  refine ev_aload_n 0 d_Model_lacks_5 rfl (by decide) rfl ?_
  refine ev_iload_n 1 d_Model_lacks_6 rfl rfl ?_
  obtain ⟨p2, hp2, h⟩ := bx h
  have hRp2 := c_Model_isPiece (X := X) (d := d - 1) (by omega) hn_a0 hp2
  refine ev_callV2 (st2 := [(0, p2)]) (as := [(0, a1)]) (rest := []) rfl (by decide) (by decide) rfl hn_a0 rfl (Nat.le_of_ble_eq_true rfl) k_Model_isPiece ⟨tw_1076, ts_79⟩ (by omega) tw_1074 d_Model_lacks_7 hRp2 rfl ?_
  by_cases hc3 : p2 = 0
  · replace h := itp hc3 h
    refine ev_if_eq_t (tgt := 21) d_Model_lacks_10 (by decide) hc3 ?_
    refine ev_iconst d_Model_lacks_21 rfl ?_
    cases h
    exact ev_ret d_Model_lacks_22 rfl
  · replace h := itn hc3 h
    refine ev_if_eq_f d_Model_lacks_10 (by decide) hc3 ?_
    refine ev_aload_n 0 d_Model_lacks_13 rfl (by decide) rfl ?_
    refine ev_iload_n 1 d_Model_lacks_14 rfl rfl ?_
    obtain ⟨p4, hp4, h⟩ := bx h
    have hRp4 := c_Model_lacking (X := X) (d := d - 1) (by omega) hn_a0 hp4
    refine ev_callV2 (st2 := [(0, p4)]) (as := [(0, a1)]) (rest := []) rfl (by decide) (by decide) rfl hn_a0 rfl (Nat.le_of_ble_eq_true rfl) k_Model_lacking ⟨tw_1084, ts_80⟩ (by omega) tw_1082 d_Model_lacks_15 hRp4 rfl ?_
    refine ev_goto (tgt := 22) d_Model_lacks_18 (by decide) ?_
    cases h
    exact ev_ret d_Model_lacks_22 rfl
def j_Model_counts_29 (M : Mm) (y0 : Int) (y1 : Int) : Option (Int) :=
  if y1 ≠ y0 then
  some 1
  else
  some 0
theorem cj_Model_counts_29 {X : XX} {d : Nat} (hd : 1 ≤ d) {M : Mm} {y0 : Int} {y1 : Int} {p : Int} (h : j_Model_counts_29 M y0 y1 = some p) : Ev X m_Model_counts d 29 [] [(0, y0), (0, y1)] M (some (0, p)) M := by
  unfold j_Model_counts_29 at h
  by_cases hc7 : y1 ≠ y0
  · replace h := itp hc7 h
    refine ev_icmp_ne_t (tgt := 36) d_Model_counts_29 (by decide) hc7 ?_
    refine ev_iconst d_Model_counts_36 rfl ?_
    cases h
    exact ev_ret d_Model_counts_37 rfl
  · replace h := itn hc7 h
    refine ev_icmp_ne_f d_Model_counts_29 (by decide) hc7 ?_
    refine ev_iconst d_Model_counts_32 rfl ?_
    refine ev_goto (tgt := 37) d_Model_counts_33 (by decide) ?_
    cases h
    exact ev_ret d_Model_counts_37 rfl
def f_Model_counts (M : Mm) (a0 : Int) (a1 : Int) (a2 : Int) (a3 : Int) (a4 : Int) : Option (Int) :=
  if a4 = 0 then
  if a3 ≠ 14 then
  (f_Model_costOf M a0 a1 a2 a3).bind (fun p3 =>
  some p3)
  else
  some 1000
  else
  if (mg M (cI a0) 16) ≠ 0 then
  if (0 : Int) ≤ (w32 ((w32 (10 * a1)) + a2)) ∧ (w32 ((w32 (10 * a1)) + a2)) < (ml M (cI (mg M (cI a0) 16)) : Int) then
  if a3 ≠ 14 then
  j_Model_counts_29 M ((w32 (a3 + 1))) ((mg M (cI (mg M (cI a0) 16)) ((w32 ((w32 (10 * a1)) + a2)) : Int).toNat))
  else
  j_Model_counts_29 M 0 ((mg M (cI (mg M (cI a0) 16)) ((w32 ((w32 (10 * a1)) + a2)) : Int).toNat))
  else none
  else none
theorem c_Model_counts {X : XX} {d : Nat} (hd : 1 ≤ d) {M : Mm} {a0 : Int} {a1 : Int} {a2 : Int} {a3 : Int} {a4 : Int} (hn_a0 : a0 ≠ 0) {p : Int} (h : f_Model_counts M a0 a1 a2 a3 a4 = some p) : Rn X d m_Model_counts [(12, a0), (0, a1), (0, a2), (0, a3), (0, a4)] M (some (0, p)) M := by
  refine Rn_of (by decide) rfl (Nat.le_of_ble_eq_true rfl) ?_
  unfold f_Model_counts at h
  refine ev_less (L' := [(0, (12, a0)), (1, (0, a1)), (2, (0, a2)), (3, (0, a3)), (4, (0, a4))]) [0, 1, 2, 3, 4] rfl ?_
  refine ev_iload 4 d_Model_counts_0 rfl ?_
  by_cases hc1 : a4 = 0
  · replace h := itp hc1 h
    refine ev_if_eq_t (tgt := 38) d_Model_counts_2 (by decide) hc1 ?_
    refine ev_iload_n 3 d_Model_counts_38 rfl rfl ?_
    refine ev_bipush d_Model_counts_39 rfl ?_
    by_cases hc2 : a3 ≠ 14
    · replace h := itp hc2 h
      refine ev_icmp_ne_t (tgt := 50) d_Model_counts_41 (by decide) hc2 ?_
      refine ev_aload_n 0 d_Model_counts_50 rfl (by decide) rfl ?_
      refine ev_iload_n 1 d_Model_counts_51 rfl rfl ?_
      refine ev_iload_n 2 d_Model_counts_52 rfl rfl ?_
      refine ev_iload_n 3 d_Model_counts_53 rfl rfl ?_
      obtain ⟨p3, hp3, h⟩ := bx h
      have hRp3 := c_Model_costOf (X := X) (d := d - 1) (by omega) hn_a0 hp3
      refine ev_callV2 (st2 := [(0, p3)]) (as := [(0, a1), (0, a2), (0, a3)]) (rest := []) rfl (by decide) (by decide) rfl hn_a0 rfl (Nat.le_of_ble_eq_true rfl) k_Model_costOf ⟨tw_1088, ts_81⟩ (by omega) tw_1086 d_Model_counts_54 hRp3 rfl ?_
      cases h
      exact ev_ret d_Model_counts_57 rfl
    · replace h := itn hc2 h
      refine ev_icmp_ne_f d_Model_counts_41 (by decide) hc2 ?_
      refine ev_sipush d_Model_counts_44 rfl ?_
      refine ev_goto (tgt := 57) d_Model_counts_47 (by decide) ?_
      cases h
      exact ev_ret d_Model_counts_57 rfl
  · replace h := itn hc1 h
    refine ev_if_eq_f d_Model_counts_2 (by decide) hc1 ?_
    refine ev_aload_n 0 d_Model_counts_5 rfl (by decide) rfl ?_
    refine ev_get (t := 12) (k := 16) (by decide) (by decide) rfl i_Model (by decide) rfl rfl tw_916 d_Model_counts_6 hn_a0 ?_
    refine ev_bipush d_Model_counts_9 rfl ?_
    refine ev_iload_n 1 d_Model_counts_11 rfl rfl ?_
    refine ev_imul d_Model_counts_12 ?_
    refine ev_iload_n 2 d_Model_counts_13 rfl rfl ?_
    refine ev_iadd d_Model_counts_14 ?_
    obtain ⟨hz4, h⟩ := gx h
    obtain ⟨hg5, h⟩ := gx h
    refine ev_iald d_Model_counts_15 hz4 hg5 ?_
    refine ev_iload_n 3 d_Model_counts_16 rfl rfl ?_
    refine ev_bipush d_Model_counts_17 rfl ?_
    by_cases hc6 : a3 ≠ 14
    · replace h := itp hc6 h
      refine ev_icmp_ne_t (tgt := 26) d_Model_counts_19 (by decide) hc6 ?_
      refine ev_iload_n 3 d_Model_counts_26 rfl rfl ?_
      refine ev_iconst d_Model_counts_27 rfl ?_
      refine ev_iadd d_Model_counts_28 ?_
      refine ev_less (L' := []) [] rfl ?_
      exact cj_Model_counts_29 hd h
    · replace h := itn hc6 h
      refine ev_icmp_ne_f d_Model_counts_19 (by decide) hc6 ?_
      refine ev_iconst d_Model_counts_22 rfl ?_
      refine ev_goto (tgt := 29) d_Model_counts_23 (by decide) ?_
      refine ev_less (L' := []) [] rfl ?_
      exact cj_Model_counts_29 hd h
def f_Model_mayBe (M : Mm) (a0 : Int) (a1 : Int) (a2 : Int) (a3 : Int) : Option (Int) :=
  if a3 ≠ 14 then
  if (mg M (cI a0) 1) ≤ a3 then
  some 0
  else
  if (mg M (cI a0) 5) ≠ 0 then
  if (0 : Int) ≤ a3 ∧ a3 < (ml M (cI (mg M (cI a0) 5)) : Int) then
  if (mg M (cI (mg M (cI a0) 5)) (a3 : Int).toNat) = 0 then
  some 0
  else
  (f_Model_costOf M a0 a1 a2 a3).bind (fun p6 =>
  if p6 = (-1) then
  some 0
  else
  some 1)
  else none
  else none
  else
  (f_Model_isMust M a0 a1 a2).bind (fun p8 =>
  if p8 ≠ 0 then
  some 0
  else
  some 1)
theorem c_Model_mayBe {X : XX} {d : Nat} (hd : 1 ≤ d) {M : Mm} {a0 : Int} {a1 : Int} {a2 : Int} {a3 : Int} (hn_a0 : a0 ≠ 0) {p : Int} (h : f_Model_mayBe M a0 a1 a2 a3 = some p) : Rn X d m_Model_mayBe [(12, a0), (0, a1), (0, a2), (0, a3)] M (some (0, p)) M := by
  refine Rn_of (by decide) rfl (Nat.le_of_ble_eq_true rfl) ?_
  unfold f_Model_mayBe at h
  refine ev_less (L' := [(0, (12, a0)), (1, (0, a1)), (2, (0, a2)), (3, (0, a3))]) [0, 1, 2, 3] rfl ?_
  refine ev_iload_n 3 d_Model_mayBe_0 rfl rfl ?_
  refine ev_bipush d_Model_mayBe_1 rfl ?_
  by_cases hc1 : a3 ≠ 14
  · replace h := itp hc1 h
    refine ev_icmp_ne_t (tgt := 21) d_Model_mayBe_3 (by decide) hc1 ?_
    refine ev_iload_n 3 d_Model_mayBe_21 rfl rfl ?_
    refine ev_aload_n 0 d_Model_mayBe_22 rfl (by decide) rfl ?_
    refine ev_get (t := 12) (k := 1) (by decide) (by decide) rfl i_Model (by decide) rfl rfl tw_901 d_Model_mayBe_23 hn_a0 ?_
    by_cases hc2 : (mg M (cI a0) 1) ≤ a3
    · replace h := itp hc2 h
      refine ev_icmp_ge_t (tgt := 53) d_Model_mayBe_26 (by decide) hc2 ?_
      refine ev_iconst d_Model_mayBe_53 rfl ?_
      cases h
      exact ev_retZ d_Model_mayBe_54 rfl (Or.inl rfl)
    · replace h := itn hc2 h
      refine ev_icmp_ge_f d_Model_mayBe_26 (by decide) hc2 ?_
      refine ev_aload_n 0 d_Model_mayBe_29 rfl (by decide) rfl ?_
      refine ev_get (t := 12) (k := 5) (by decide) (by decide) rfl i_Model (by decide) rfl rfl tw_905 d_Model_mayBe_30 hn_a0 ?_
      refine ev_iload_n 3 d_Model_mayBe_33 rfl rfl ?_
      obtain ⟨hz3, h⟩ := gx h
      obtain ⟨hg4, h⟩ := gx h
      refine ev_zald d_Model_mayBe_34 hz3 hg4 ?_
      by_cases hc5 : (mg M (cI (mg M (cI a0) 5)) (a3 : Int).toNat) = 0
      · replace h := itp hc5 h
        refine ev_if_eq_t (tgt := 53) d_Model_mayBe_35 (by decide) hc5 ?_
        refine ev_iconst d_Model_mayBe_53 rfl ?_
        cases h
        exact ev_retZ d_Model_mayBe_54 rfl (Or.inl rfl)
      · replace h := itn hc5 h
        refine ev_if_eq_f d_Model_mayBe_35 (by decide) hc5 ?_
        refine ev_aload_n 0 d_Model_mayBe_38 rfl (by decide) rfl ?_
        refine ev_iload_n 1 d_Model_mayBe_39 rfl rfl ?_
        refine ev_iload_n 2 d_Model_mayBe_40 rfl rfl ?_
        refine ev_iload_n 3 d_Model_mayBe_41 rfl rfl ?_
        obtain ⟨p6, hp6, h⟩ := bx h
        have hRp6 := c_Model_costOf (X := X) (d := d - 1) (by omega) hn_a0 hp6
        refine ev_callV2 (st2 := [(0, p6)]) (as := [(0, a1), (0, a2), (0, a3)]) (rest := []) rfl (by decide) (by decide) rfl hn_a0 rfl (Nat.le_of_ble_eq_true rfl) k_Model_costOf ⟨tw_1088, ts_81⟩ (by omega) tw_1086 d_Model_mayBe_42 hRp6 rfl ?_
        refine ev_iconst d_Model_mayBe_45 rfl ?_
        by_cases hc7 : p6 = (-1)
        · replace h := itp hc7 h
          refine ev_icmp_eq_t (tgt := 53) d_Model_mayBe_46 (by decide) hc7 ?_
          refine ev_iconst d_Model_mayBe_53 rfl ?_
          cases h
          exact ev_retZ d_Model_mayBe_54 rfl (Or.inl rfl)
        · replace h := itn hc7 h
          refine ev_icmp_eq_f d_Model_mayBe_46 (by decide) hc7 ?_
          refine ev_iconst d_Model_mayBe_49 rfl ?_
          refine ev_goto (tgt := 54) d_Model_mayBe_50 (by decide) ?_
          cases h
          exact ev_retZ d_Model_mayBe_54 rfl (Or.inr rfl)
  · replace h := itn hc1 h
    refine ev_icmp_ne_f d_Model_mayBe_3 (by decide) hc1 ?_
    refine ev_aload_n 0 d_Model_mayBe_6 rfl (by decide) rfl ?_
    refine ev_iload_n 1 d_Model_mayBe_7 rfl rfl ?_
    refine ev_iload_n 2 d_Model_mayBe_8 rfl rfl ?_
    obtain ⟨p8, hp8, h⟩ := bx h
    have hRp8 := c_Model_isMust (X := X) (d := d - 1) (by omega) hn_a0 hp8
    refine ev_callV2 (st2 := [(0, p8)]) (as := [(0, a1), (0, a2)]) (rest := []) rfl (by decide) (by decide) rfl hn_a0 rfl (Nat.le_of_ble_eq_true rfl) k_Model_isMust ⟨tw_1117, ts_86⟩ (by omega) tw_1115 d_Model_mayBe_9 hRp8 rfl ?_
    by_cases hc9 : p8 ≠ 0
    · replace h := itp hc9 h
      refine ev_if_ne_t (tgt := 19) d_Model_mayBe_12 (by decide) hc9 ?_
      refine ev_iconst d_Model_mayBe_19 rfl ?_
      cases h
      exact ev_retZ d_Model_mayBe_20 rfl (Or.inl rfl)
    · replace h := itn hc9 h
      refine ev_if_ne_f d_Model_mayBe_12 (by decide) hc9 ?_
      refine ev_iconst d_Model_mayBe_15 rfl ?_
      refine ev_goto (tgt := 20) d_Model_mayBe_16 (by decide) ?_
      cases h
      exact ev_retZ d_Model_mayBe_20 rfl (Or.inr rfl)
end
