noncomputable section
def f_Model_strain (M : Mm) (a0 : Int) : Option (Int × Mm) :=
  lt (mp M (cI a0) 0 0) (fun M1 =>
  some ((mg M1 (cI a0) 19), M1))
theorem c_Model_strain {X : XX} {d : Nat} (hd : 0 ≤ d) {M : Mm} {a0 : Int} (hn_a0 : a0 ≠ 0) {p : Int × Mm} (h : f_Model_strain M a0 = some p) : Rn X d m_Model_strain [(12, a0)] M (some (0, p.1)) p.2 := by
  refine Rn_of (by decide) rfl (Nat.le_of_ble_eq_true rfl) ?_
  unfold f_Model_strain at h
  refine ev_less (L' := [(0, (12, a0))]) [0] rfl ?_
  refine ev_aload_n 0 d_Model_strain_0 rfl (by decide) rfl ?_
  refine ev_iconst d_Model_strain_1 rfl ?_
  obtain ⟨M1, hM1, h⟩ := ltx h
  refine ev_put' (t := 12) (k := 0) (by decide) (by decide) rfl i_Model t_Model_ok n_Model (by decide) rfl rfl rfl rfl tw_900 d_Model_strain_2 hn_a0 hM1 ?_
  refine ev_aload_n 0 d_Model_strain_5 rfl (by decide) rfl ?_
  refine ev_get (t := 12) (k := 19) (by decide) (by decide) rfl i_Model (by decide) rfl rfl tw_919 d_Model_strain_6 hn_a0 ?_
  cases h
  exact ev_ret d_Model_strain_9 rfl
def f_Model_isDay (M : Mm) (a0 : Int) (a1 : Int) : Option (Int) :=
  if a1 < 0 then
  some 0
  else
  if 999 < a1 then
  some 0
  else
  some 1
theorem c_Model_isDay {X : XX} {d : Nat} (hd : 0 ≤ d) {M : Mm} {a0 : Int} {a1 : Int} (hn_a0 : a0 ≠ 0) {p : Int} (h : f_Model_isDay M a0 a1 = some p) : Rn X d m_Model_isDay [(12, a0), (0, a1)] M (some (0, p)) M := by
  refine Rn_of (by decide) rfl (Nat.le_of_ble_eq_true rfl) ?_
  unfold f_Model_isDay at h
  refine ev_less (L' := [(0, (12, a0)), (1, (0, a1))]) [0, 1] rfl ?_
  refine ev_iload_n 1 d_Model_isDay_0 rfl rfl ?_
  by_cases hc1 : a1 < 0
  · replace h := itp hc1 h
    refine ev_if_lt_t (tgt := 15) d_Model_isDay_1 (by decide) hc1 ?_
    refine ev_iconst d_Model_isDay_15 rfl ?_
    cases h
    exact ev_retZ d_Model_isDay_16 rfl (Or.inl rfl)
  · replace h := itn hc1 h
    refine ev_if_lt_f d_Model_isDay_1 (by decide) hc1 ?_
    refine ev_iload_n 1 d_Model_isDay_4 rfl rfl ?_
    refine ev_sipush d_Model_isDay_5 rfl ?_
    by_cases hc2 : 999 < a1
    · replace h := itp hc2 h
      refine ev_icmp_gt_t (tgt := 15) d_Model_isDay_8 (by decide) hc2 ?_
      refine ev_iconst d_Model_isDay_15 rfl ?_
      cases h
      exact ev_retZ d_Model_isDay_16 rfl (Or.inl rfl)
    · replace h := itn hc2 h
      refine ev_icmp_gt_f d_Model_isDay_8 (by decide) hc2 ?_
      refine ev_iconst d_Model_isDay_11 rfl ?_
      refine ev_goto (tgt := 16) d_Model_isDay_12 (by decide) ?_
      cases h
      exact ev_retZ d_Model_isDay_16 rfl (Or.inr rfl)
def f_Model_isThere (M : Mm) (a0 : Int) (a1 : Int) : Option (Int) :=
  if a1 = (-1) then
  some 1
  else
  if a1 = (-2) then
  some 1
  else
  (f_Model_isPlayer M a0 a1).bind (fun p3 =>
  if p3 = 0 then
  some 0
  else
  some 1)
theorem c_Model_isThere {X : XX} {d : Nat} (hd : 1 ≤ d) {M : Mm} {a0 : Int} {a1 : Int} (hn_a0 : a0 ≠ 0) {p : Int} (h : f_Model_isThere M a0 a1 = some p) : Rn X d m_Model_isThere [(12, a0), (0, a1)] M (some (0, p)) M := by
  refine Rn_of (by decide) rfl (Nat.le_of_ble_eq_true rfl) ?_
  unfold f_Model_isThere at h
  refine ev_less (L' := [(0, (12, a0)), (1, (0, a1))]) [0, 1] rfl ?_
  refine ev_iload_n 1 d_Model_isThere_0 rfl rfl ?_
  refine ev_iconst d_Model_isThere_1 rfl ?_
  by_cases hc1 : a1 = (-1)
  · replace h := itp hc1 h
    refine ev_icmp_eq_t (tgt := 19) d_Model_isThere_2 (by decide) hc1 ?_
    refine ev_iconst d_Model_isThere_19 rfl ?_
    refine ev_goto (tgt := 24) d_Model_isThere_20 (by decide) ?_
    cases h
    exact ev_retZ d_Model_isThere_24 rfl (Or.inr rfl)
  · replace h := itn hc1 h
    refine ev_icmp_eq_f d_Model_isThere_2 (by decide) hc1 ?_
    refine ev_iload_n 1 d_Model_isThere_5 rfl rfl ?_
    refine ev_bipush d_Model_isThere_6 rfl ?_
    by_cases hc2 : a1 = (-2)
    · replace h := itp hc2 h
      refine ev_icmp_eq_t (tgt := 19) d_Model_isThere_8 (by decide) hc2 ?_
      refine ev_iconst d_Model_isThere_19 rfl ?_
      refine ev_goto (tgt := 24) d_Model_isThere_20 (by decide) ?_
      cases h
      exact ev_retZ d_Model_isThere_24 rfl (Or.inr rfl)
    · replace h := itn hc2 h
      refine ev_icmp_eq_f d_Model_isThere_8 (by decide) hc2 ?_
      refine ev_aload_n 0 d_Model_isThere_11 rfl (by decide) rfl ?_
      refine ev_iload_n 1 d_Model_isThere_12 rfl rfl ?_
      obtain ⟨p3, hp3, h⟩ := bx h
      have hRp3 := c_Model_isPlayer (X := X) (d := d - 1) (by omega) hn_a0 hp3
      refine ev_callV2 (st2 := [(0, p3)]) (as := [(0, a1)]) (rest := []) rfl (by decide) (by decide) rfl hn_a0 rfl (Nat.le_of_ble_eq_true rfl) k_Model_isPlayer ⟨tw_1056, ts_77⟩ (by omega) tw_1054 d_Model_isThere_13 hRp3 rfl ?_
      by_cases hc4 : p3 = 0
      · replace h := itp hc4 h
        refine ev_if_eq_t (tgt := 23) d_Model_isThere_16 (by decide) hc4 ?_
        refine ev_iconst d_Model_isThere_23 rfl ?_
        cases h
        exact ev_retZ d_Model_isThere_24 rfl (Or.inl rfl)
      · replace h := itn hc4 h
        refine ev_if_eq_f d_Model_isThere_16 (by decide) hc4 ?_
        refine ev_iconst d_Model_isThere_19 rfl ?_
        refine ev_goto (tgt := 24) d_Model_isThere_20 (by decide) ?_
        cases h
        exact ev_retZ d_Model_isThere_24 rfl (Or.inr rfl)
def f_Model_tell (M : Mm) (a0 : Int) (a1 : Int) (a2 : Int) (a3 : Int) : Option (Int × Mm) :=
  lt (mp M (cI a0) 0 0) (fun M1 =>
  if a1 < 0 then
  some ((-1), M1)
  else
  if 29 < a1 then
  some ((-1), M1)
  else
  (f_Model_isDay M1 a0 a2).bind (fun p4 =>
  if p4 = 0 then
  some ((-1), M1)
  else
  (f_Model_isThere M1 a0 a3).bind (fun p6 =>
  if p6 = 0 then
  some ((-1), M1)
  else
  if (mg M1 (cI a0) 24) ≠ 200 then
  if (mg M1 (cI a0) 25) ≠ 0 then
  if (0 : Int) ≤ (mg M1 (cI a0) 24) ∧ (mg M1 (cI a0) 24) < (ml M1 (cI (mg M1 (cI a0) 25)) : Int) then
  lt (mp M1 (cI (mg M1 (cI a0) 25)) ((mg M1 (cI a0) 24) : Int).toNat a1) (fun M11 =>
  if (mg M11 (cI a0) 26) ≠ 0 then
  if (0 : Int) ≤ (mg M11 (cI a0) 24) ∧ (mg M11 (cI a0) 24) < (ml M11 (cI (mg M11 (cI a0) 26)) : Int) then
  lt (mp M11 (cI (mg M11 (cI a0) 26)) ((mg M11 (cI a0) 24) : Int).toNat a2) (fun M14 =>
  if (mg M14 (cI a0) 27) ≠ 0 then
  if (0 : Int) ≤ (mg M14 (cI a0) 24) ∧ (mg M14 (cI a0) 24) < (ml M14 (cI (mg M14 (cI a0) 27)) : Int) then
  lt (mp M14 (cI (mg M14 (cI a0) 27)) ((mg M14 (cI a0) 24) : Int).toNat a3) (fun M17 =>
  lt (mp M17 (cI a0) 24 (w32 ((mg M17 (cI a0) 24) + 1))) (fun M18 =>
  some ((w32 ((mg M18 (cI a0) 24) - 1)), M18)))
  else none
  else none)
  else none
  else none)
  else none
  else none
  else
  some ((-1), M1))))
theorem c_Model_tell {X : XX} {d : Nat} (hd : 2 ≤ d) {M : Mm} {a0 : Int} {a1 : Int} {a2 : Int} {a3 : Int} (hn_a0 : a0 ≠ 0) {p : Int × Mm} (h : f_Model_tell M a0 a1 a2 a3 = some p) : Rn X d m_Model_tell [(12, a0), (0, a1), (0, a2), (0, a3)] M (some (0, p.1)) p.2 := by
  refine Rn_of (by decide) rfl (Nat.le_of_ble_eq_true rfl) ?_
  unfold f_Model_tell at h
  refine ev_less (L' := [(0, (12, a0)), (1, (0, a1)), (2, (0, a2)), (3, (0, a3))]) [0, 1, 2, 3] rfl ?_
  refine ev_aload_n 0 d_Model_tell_0 rfl (by decide) rfl ?_
  refine ev_iconst d_Model_tell_1 rfl ?_
  obtain ⟨M1, hM1, h⟩ := ltx h
  refine ev_put' (t := 12) (k := 0) (by decide) (by decide) rfl i_Model t_Model_ok n_Model (by decide) rfl rfl rfl rfl tw_900 d_Model_tell_2 hn_a0 hM1 ?_
  refine ev_iload_n 1 d_Model_tell_5 rfl rfl ?_
  by_cases hc2 : a1 < 0
  · replace h := itp hc2 h
    refine ev_if_lt_t (tgt := 41) d_Model_tell_6 (by decide) hc2 ?_
    refine ev_iconst d_Model_tell_41 rfl ?_
    cases h
    exact ev_ret d_Model_tell_42 rfl
  · replace h := itn hc2 h
    refine ev_if_lt_f d_Model_tell_6 (by decide) hc2 ?_
    refine ev_iload_n 1 d_Model_tell_9 rfl rfl ?_
    refine ev_bipush d_Model_tell_10 rfl ?_
    by_cases hc3 : 29 < a1
    · replace h := itp hc3 h
      refine ev_icmp_gt_t (tgt := 41) d_Model_tell_12 (by decide) hc3 ?_
      refine ev_iconst d_Model_tell_41 rfl ?_
      cases h
      exact ev_ret d_Model_tell_42 rfl
    · replace h := itn hc3 h
      refine ev_icmp_gt_f d_Model_tell_12 (by decide) hc3 ?_
      refine ev_aload_n 0 d_Model_tell_15 rfl (by decide) rfl ?_
      refine ev_iload_n 2 d_Model_tell_16 rfl rfl ?_
      obtain ⟨p4, hp4, h⟩ := bx h
      have hRp4 := c_Model_isDay (X := X) (d := d - 1) (by omega) hn_a0 hp4
      refine ev_callV2 (st2 := [(0, p4)]) (as := [(0, a2)]) (rest := []) rfl (by decide) (by decide) rfl hn_a0 rfl (Nat.le_of_ble_eq_true rfl) k_Model_isDay ⟨tw_1177, ts_93⟩ (by omega) tw_1175 d_Model_tell_17 hRp4 rfl ?_
      by_cases hc5 : p4 = 0
      · replace h := itp hc5 h
        refine ev_if_eq_t (tgt := 41) d_Model_tell_20 (by decide) hc5 ?_
        refine ev_iconst d_Model_tell_41 rfl ?_
        cases h
        exact ev_ret d_Model_tell_42 rfl
      · replace h := itn hc5 h
        refine ev_if_eq_f d_Model_tell_20 (by decide) hc5 ?_
        refine ev_aload_n 0 d_Model_tell_23 rfl (by decide) rfl ?_
        refine ev_iload_n 3 d_Model_tell_24 rfl rfl ?_
        obtain ⟨p6, hp6, h⟩ := bx h
        have hRp6 := c_Model_isThere (X := X) (d := d - 1) (by omega) hn_a0 hp6
        refine ev_callV2 (st2 := [(0, p6)]) (as := [(0, a3)]) (rest := []) rfl (by decide) (by decide) rfl hn_a0 rfl (Nat.le_of_ble_eq_true rfl) k_Model_isThere ⟨tw_1181, ts_94⟩ (by omega) tw_1179 d_Model_tell_25 hRp6 rfl ?_
        by_cases hc7 : p6 = 0
        · replace h := itp hc7 h
          refine ev_if_eq_t (tgt := 41) d_Model_tell_28 (by decide) hc7 ?_
          refine ev_iconst d_Model_tell_41 rfl ?_
          cases h
          exact ev_ret d_Model_tell_42 rfl
        · replace h := itn hc7 h
          refine ev_if_eq_f d_Model_tell_28 (by decide) hc7 ?_
          refine ev_aload_n 0 d_Model_tell_31 rfl (by decide) rfl ?_
          refine ev_get (t := 12) (k := 24) (by decide) (by decide) rfl i_Model (by decide) rfl rfl tw_924 d_Model_tell_32 hn_a0 ?_
          refine ev_sipush d_Model_tell_35 rfl ?_
          by_cases hc8 : (mg M1 (cI a0) 24) ≠ 200
          · replace h := itp hc8 h
            refine ev_icmp_ne_t (tgt := 43) d_Model_tell_38 (by decide) hc8 ?_
            refine ev_aload_n 0 d_Model_tell_43 rfl (by decide) rfl ?_
            refine ev_get (t := 12) (k := 25) (by decide) (by decide) rfl i_Model (by decide) rfl rfl tw_925 d_Model_tell_44 hn_a0 ?_
            refine ev_aload_n 0 d_Model_tell_47 rfl (by decide) rfl ?_
            refine ev_get (t := 12) (k := 24) (by decide) (by decide) rfl i_Model (by decide) rfl rfl tw_924 d_Model_tell_48 hn_a0 ?_
            refine ev_iload_n 1 d_Model_tell_51 rfl rfl ?_
            obtain ⟨hz9, h⟩ := gx h
            obtain ⟨hg10, h⟩ := gx h
            obtain ⟨M11, hM11, h⟩ := ltx h
            refine ev_iast' d_Model_tell_52 hz9 hg10 hM11 ?_
            refine ev_aload_n 0 d_Model_tell_53 rfl (by decide) rfl ?_
            refine ev_get (t := 12) (k := 26) (by decide) (by decide) rfl i_Model (by decide) rfl rfl tw_926 d_Model_tell_54 hn_a0 ?_
            refine ev_aload_n 0 d_Model_tell_57 rfl (by decide) rfl ?_
            refine ev_get (t := 12) (k := 24) (by decide) (by decide) rfl i_Model (by decide) rfl rfl tw_924 d_Model_tell_58 hn_a0 ?_
            refine ev_iload_n 2 d_Model_tell_61 rfl rfl ?_
            obtain ⟨hz12, h⟩ := gx h
            obtain ⟨hg13, h⟩ := gx h
            obtain ⟨M14, hM14, h⟩ := ltx h
            refine ev_iast' d_Model_tell_62 hz12 hg13 hM14 ?_
            refine ev_aload_n 0 d_Model_tell_63 rfl (by decide) rfl ?_
            refine ev_get (t := 12) (k := 27) (by decide) (by decide) rfl i_Model (by decide) rfl rfl tw_927 d_Model_tell_64 hn_a0 ?_
            refine ev_aload_n 0 d_Model_tell_67 rfl (by decide) rfl ?_
            refine ev_get (t := 12) (k := 24) (by decide) (by decide) rfl i_Model (by decide) rfl rfl tw_924 d_Model_tell_68 hn_a0 ?_
            refine ev_iload_n 3 d_Model_tell_71 rfl rfl ?_
            obtain ⟨hz15, h⟩ := gx h
            obtain ⟨hg16, h⟩ := gx h
            obtain ⟨M17, hM17, h⟩ := ltx h
            refine ev_iast' d_Model_tell_72 hz15 hg16 hM17 ?_
            refine ev_aload_n 0 d_Model_tell_73 rfl (by decide) rfl ?_
            refine ev_aload_n 0 d_Model_tell_74 rfl (by decide) rfl ?_
            refine ev_get (t := 12) (k := 24) (by decide) (by decide) rfl i_Model (by decide) rfl rfl tw_924 d_Model_tell_75 hn_a0 ?_
            refine ev_iconst d_Model_tell_78 rfl ?_
            refine ev_iadd d_Model_tell_79 ?_
            obtain ⟨M18, hM18, h⟩ := ltx h
            refine ev_put' (t := 12) (k := 24) (by decide) (by decide) rfl i_Model t_Model_ok n_Model (by decide) rfl rfl rfl rfl tw_924 d_Model_tell_80 hn_a0 hM18 ?_
            refine ev_aload_n 0 d_Model_tell_83 rfl (by decide) rfl ?_
            refine ev_get (t := 12) (k := 24) (by decide) (by decide) rfl i_Model (by decide) rfl rfl tw_924 d_Model_tell_84 hn_a0 ?_
            refine ev_iconst d_Model_tell_87 rfl ?_
            refine ev_isub d_Model_tell_88 ?_
            cases h
            exact ev_ret d_Model_tell_89 rfl
          · replace h := itn hc8 h
            refine ev_icmp_ne_f d_Model_tell_38 (by decide) hc8 ?_
            refine ev_iconst d_Model_tell_41 rfl ?_
            cases h
            exact ev_ret d_Model_tell_42 rfl
def l_Model_whereIs_9 (M : Mm) (a0 : Int) (a1 : Int) (a2 : Int) (a3 : Int) (s : Int × Int × Int) : Option ((Int × Int × Int) ⊕ (Int)) :=
  if a3 ≤ s.2.2 then
  some (.inr s.2.1)
  else
  if (mg M (cI a0) 25) ≠ 0 then
  if (0 : Int) ≤ s.2.2 ∧ s.2.2 < (ml M (cI (mg M (cI a0) 25)) : Int) then
  if (mg M (cI (mg M (cI a0) 25)) (s.2.2 : Int).toNat) ≠ a1 then
  lt (w32 (s.2.2 + 1)) (fun x5 : Int =>
  some (.inl (s.1, s.2.1, x5)))
  else
  if (mg M (cI a0) 26) ≠ 0 then
  if (0 : Int) ≤ s.2.2 ∧ s.2.2 < (ml M (cI (mg M (cI a0) 26)) : Int) then
  if a2 < (mg M (cI (mg M (cI a0) 26)) (s.2.2 : Int).toNat) then
  lt (w32 (s.2.2 + 1)) (fun x9 : Int =>
  some (.inl (s.1, s.2.1, x9)))
  else
  if s.1 ≤ (mg M (cI (mg M (cI a0) 26)) (s.2.2 : Int).toNat) then
  lt ((mg M (cI (mg M (cI a0) 26)) (s.2.2 : Int).toNat)) (fun x11 : Int =>
  if (mg M (cI a0) 27) ≠ 0 then
  if (0 : Int) ≤ s.2.2 ∧ s.2.2 < (ml M (cI (mg M (cI a0) 27)) : Int) then
  lt ((mg M (cI (mg M (cI a0) 27)) (s.2.2 : Int).toNat)) (fun x14 : Int =>
  lt (w32 (s.2.2 + 1)) (fun x15 : Int =>
  some (.inl (x11, x14, x15))))
  else none
  else none)
  else
  lt (w32 (s.2.2 + 1)) (fun x16 : Int =>
  some (.inl (s.1, s.2.1, x16)))
  else none
  else none
  else none
  else none
theorem cs_l_Model_whereIs_9 {X : XX} {d : Nat} (hd : 0 ≤ d) {M : Mm} {a0 : Int} {a1 : Int} {a2 : Int} {a3 : Int} (hn_a0 : a0 ≠ 0) {s : Int × Int × Int} {x : (Int × Int × Int) ⊕ (Int)} {r : Option AV} {M' : Mm} (h : l_Model_whereIs_9 M a0 a1 a2 a3 s = some x) (hk1 : ∀ s : Int × Int × Int, x = .inl s → Ev X m_Model_whereIs d 9 [(0, (12, a0)), (1, (0, a1)), (2, (0, a2)), (3, (0, a3)), (4, (0, s.1)), (5, (0, s.2.1)), (6, (0, s.2.2))] [] M r M') (hk2 : ∀ t : Int, x = .inr t → Ev X m_Model_whereIs d 76 [(5, (0, t))] [] M r M') : Ev X m_Model_whereIs d 9 [(0, (12, a0)), (1, (0, a1)), (2, (0, a2)), (3, (0, a3)), (4, (0, s.1)), (5, (0, s.2.1)), (6, (0, s.2.2))] [] M r M' := by
  unfold l_Model_whereIs_9 at h
  refine ev_iload 6 d_Model_whereIs_9 rfl ?_
  refine ev_iload_n 3 d_Model_whereIs_11 rfl rfl ?_
  by_cases hc1 : a3 ≤ s.2.2
  · replace h := itp hc1 h
    refine ev_icmp_ge_t (tgt := 76) d_Model_whereIs_12 (by decide) hc1 ?_
    refine ev_less (L' := [(5, (0, s.2.1))]) [5] rfl ?_
    cases h
    exact hk2 _ rfl
  · replace h := itn hc1 h
    refine ev_icmp_ge_f d_Model_whereIs_12 (by decide) hc1 ?_
    refine ev_aload_n 0 d_Model_whereIs_15 rfl (by decide) rfl ?_
    refine ev_get (t := 12) (k := 25) (by decide) (by decide) rfl i_Model (by decide) rfl rfl tw_925 d_Model_whereIs_16 hn_a0 ?_
    refine ev_iload 6 d_Model_whereIs_19 rfl ?_
    obtain ⟨hz2, h⟩ := gx h
    obtain ⟨hg3, h⟩ := gx h
    refine ev_iald d_Model_whereIs_21 hz2 hg3 ?_
    refine ev_iload_n 1 d_Model_whereIs_22 rfl rfl ?_
    by_cases hc4 : (mg M (cI (mg M (cI a0) 25)) (s.2.2 : Int).toNat) ≠ a1
    · replace h := itp hc4 h
      refine ev_icmp_ne_t (tgt := 70) d_Model_whereIs_23 (by decide) hc4 ?_
      obtain ⟨x5, hx5, h⟩ := ltx h
      refine ev_iinc' 6 (y := x5) (L' := [(6, (0, x5)), (0, (12, a0)), (1, (0, a1)), (2, (0, a2)), (3, (0, a3)), (4, (0, s.1)), (5, (0, s.2.1))]) d_Model_whereIs_70 rfl (by decide) rfl hx5 ?_
      refine ev_goto (tgt := 9) d_Model_whereIs_73 (by decide) ?_
      refine ev_less (L' := [(0, (12, a0)), (1, (0, a1)), (2, (0, a2)), (3, (0, a3)), (4, (0, s.1)), (5, (0, s.2.1)), (6, (0, x5))]) [1, 2, 3, 4, 5, 6, 0] rfl ?_
      cases h
      exact hk1 _ rfl
    · replace h := itn hc4 h
      refine ev_icmp_ne_f d_Model_whereIs_23 (by decide) hc4 ?_
      refine ev_aload_n 0 d_Model_whereIs_26 rfl (by decide) rfl ?_
      refine ev_get (t := 12) (k := 26) (by decide) (by decide) rfl i_Model (by decide) rfl rfl tw_926 d_Model_whereIs_27 hn_a0 ?_
      refine ev_iload 6 d_Model_whereIs_30 rfl ?_
      obtain ⟨hz6, h⟩ := gx h
      obtain ⟨hg7, h⟩ := gx h
      refine ev_iald d_Model_whereIs_32 hz6 hg7 ?_
      refine ev_iload_n 2 d_Model_whereIs_33 rfl rfl ?_
      by_cases hc8 : a2 < (mg M (cI (mg M (cI a0) 26)) (s.2.2 : Int).toNat)
      · replace h := itp hc8 h
        refine ev_icmp_gt_t (tgt := 70) d_Model_whereIs_34 (by decide) hc8 ?_
        obtain ⟨x9, hx9, h⟩ := ltx h
        refine ev_iinc' 6 (y := x9) (L' := [(6, (0, x9)), (0, (12, a0)), (1, (0, a1)), (2, (0, a2)), (3, (0, a3)), (4, (0, s.1)), (5, (0, s.2.1))]) d_Model_whereIs_70 rfl (by decide) rfl hx9 ?_
        refine ev_goto (tgt := 9) d_Model_whereIs_73 (by decide) ?_
        refine ev_less (L' := [(0, (12, a0)), (1, (0, a1)), (2, (0, a2)), (3, (0, a3)), (4, (0, s.1)), (5, (0, s.2.1)), (6, (0, x9))]) [1, 2, 3, 4, 5, 6, 0] rfl ?_
        cases h
        exact hk1 _ rfl
      · replace h := itn hc8 h
        refine ev_icmp_gt_f d_Model_whereIs_34 (by decide) hc8 ?_
        refine ev_aload_n 0 d_Model_whereIs_37 rfl (by decide) rfl ?_
        refine ev_get (t := 12) (k := 26) (by decide) (by decide) rfl i_Model (by decide) rfl rfl tw_926 d_Model_whereIs_38 hn_a0 ?_
        refine ev_iload 6 d_Model_whereIs_41 rfl ?_
        refine ev_iald d_Model_whereIs_43 hz6 hg7 ?_
        refine ev_iload 4 d_Model_whereIs_44 rfl ?_
        by_cases hc10 : s.1 ≤ (mg M (cI (mg M (cI a0) 26)) (s.2.2 : Int).toNat)
        · replace h := itp hc10 h
          refine ev_icmp_ge_t (tgt := 52) d_Model_whereIs_46 (by decide) hc10 ?_
          refine ev_aload_n 0 d_Model_whereIs_52 rfl (by decide) rfl ?_
          refine ev_get (t := 12) (k := 26) (by decide) (by decide) rfl i_Model (by decide) rfl rfl tw_926 d_Model_whereIs_53 hn_a0 ?_
          refine ev_iload 6 d_Model_whereIs_56 rfl ?_
          refine ev_iald d_Model_whereIs_58 hz6 hg7 ?_
          obtain ⟨x11, hx11, h⟩ := ltx h
          refine ev_istore' (y := x11) (L' := [(4, (0, x11)), (0, (12, a0)), (1, (0, a1)), (2, (0, a2)), (3, (0, a3)), (5, (0, s.2.1)), (6, (0, s.2.2))]) d_Model_whereIs_59 (by decide) rfl hx11 ?_
          refine ev_aload_n 1 d_Model_whereIs_61 rfl (by decide) rfl ?_
          refine ev_get (t := 12) (k := 27) (by decide) (by decide) rfl i_Model (by decide) rfl rfl tw_927 d_Model_whereIs_62 hn_a0 ?_
          refine ev_iload 6 d_Model_whereIs_65 rfl ?_
          obtain ⟨hz12, h⟩ := gx h
          obtain ⟨hg13, h⟩ := gx h
          refine ev_iald d_Model_whereIs_67 hz12 hg13 ?_
          obtain ⟨x14, hx14, h⟩ := ltx h
          refine ev_istore' (y := x14) (L' := [(5, (0, x14)), (4, (0, x11)), (0, (12, a0)), (1, (0, a1)), (2, (0, a2)), (3, (0, a3)), (6, (0, s.2.2))]) d_Model_whereIs_68 (by decide) rfl hx14 ?_
          obtain ⟨x15, hx15, h⟩ := ltx h
          refine ev_iinc' 6 (y := x15) (L' := [(6, (0, x15)), (5, (0, x14)), (4, (0, x11)), (0, (12, a0)), (1, (0, a1)), (2, (0, a2)), (3, (0, a3))]) d_Model_whereIs_70 rfl (by decide) rfl hx15 ?_
          refine ev_goto (tgt := 9) d_Model_whereIs_73 (by decide) ?_
          refine ev_less (L' := [(0, (12, a0)), (1, (0, a1)), (2, (0, a2)), (3, (0, a3)), (4, (0, x11)), (5, (0, x14)), (6, (0, x15))]) [3, 4, 5, 6, 2, 1, 0] rfl ?_
          cases h
          exact hk1 _ rfl
        · replace h := itn hc10 h
          refine ev_icmp_ge_f d_Model_whereIs_46 (by decide) hc10 ?_
          refine ev_goto (tgt := 70) d_Model_whereIs_49 (by decide) ?_
          obtain ⟨x16, hx16, h⟩ := ltx h
          refine ev_iinc' 6 (y := x16) (L' := [(6, (0, x16)), (0, (12, a0)), (1, (0, a1)), (2, (0, a2)), (3, (0, a3)), (4, (0, s.1)), (5, (0, s.2.1))]) d_Model_whereIs_70 rfl (by decide) rfl hx16 ?_
          refine ev_goto (tgt := 9) d_Model_whereIs_73 (by decide) ?_
          refine ev_less (L' := [(0, (12, a0)), (1, (0, a1)), (2, (0, a2)), (3, (0, a3)), (4, (0, s.1)), (5, (0, s.2.1)), (6, (0, x16))]) [1, 2, 3, 4, 5, 6, 0] rfl ?_
          cases h
          exact hk1 _ rfl
def f_Model_whereIs (M : Mm) (a0 : Int) (a1 : Int) (a2 : Int) (a3 : Int) : Option (Int) :=
  (loopN (l_Model_whereIs_9 M a0 a1 a2 a3) FU ((-1), (-1), 0)).bind (fun t17 =>
  some t17)
theorem c_Model_whereIs {X : XX} {d : Nat} (hd : 0 ≤ d) {M : Mm} {a0 : Int} {a1 : Int} {a2 : Int} {a3 : Int} (hn_a0 : a0 ≠ 0) {p : Int} (h : f_Model_whereIs M a0 a1 a2 a3 = some p) : Rn X d m_Model_whereIs [(12, a0), (0, a1), (0, a2), (0, a3)] M (some (0, p)) M := by
  refine Rn_of (by decide) rfl (Nat.le_of_ble_eq_true rfl) ?_
  unfold f_Model_whereIs at h
  refine ev_less (L' := [(0, (12, a0)), (1, (0, a1)), (2, (0, a2)), (3, (0, a3))]) [0, 1, 2, 3] rfl ?_
  refine ev_iconst d_Model_whereIs_0 rfl ?_
  refine ev_istore (L' := [(4, (0, (-1))), (0, (12, a0)), (1, (0, a1)), (2, (0, a2)), (3, (0, a3))]) d_Model_whereIs_1 (by decide) rfl ?_
  refine ev_iconst d_Model_whereIs_3 rfl ?_
  refine ev_istore (L' := [(5, (0, (-1))), (4, (0, (-1))), (0, (12, a0)), (1, (0, a1)), (2, (0, a2)), (3, (0, a3))]) d_Model_whereIs_4 (by decide) rfl ?_
  refine ev_iconst d_Model_whereIs_6 rfl ?_
  refine ev_istore (L' := [(6, (0, 0)), (5, (0, (-1))), (4, (0, (-1))), (0, (12, a0)), (1, (0, a1)), (2, (0, a2)), (3, (0, a3))]) d_Model_whereIs_7 (by decide) rfl ?_
  obtain ⟨t17, ht17, h⟩ := bx h
  refine ev_less (L' := [(0, (12, a0)), (1, (0, a1)), (2, (0, a2)), (3, (0, a3)), (4, (0, (-1))), (5, (0, (-1))), (6, (0, 0))]) [3, 4, 5, 6, 2, 1, 0] rfl ?_
  refine loop_ev (step := l_Model_whereIs_9 M a0 a1 a2 a3) (P := fun w : Int × Int × Int => Ev X m_Model_whereIs d 9 [(0, (12, a0)), (1, (0, a1)), (2, (0, a2)), (3, (0, a3)), (4, (0, w.1)), (5, (0, w.2.1)), (6, (0, w.2.2))] [] M (some (0, p)) M) (Q := fun w => Ev X m_Model_whereIs d 76 [(5, (0, w))] [] M (some (0, p)) M) (fun w x hs k1 k2 => cs_l_Model_whereIs_9 hd hn_a0 hs k1 k2) FU ((-1), (-1), 0) t17 ht17 ?_
  refine ev_iload 0 d_Model_whereIs_76 rfl ?_
  cases h
  exact ev_ret d_Model_whereIs_78 rfl
def f_Model_where (M : Mm) (a0 : Int) (a1 : Int) (a2 : Int) (a3 : Int) : Option (Int × Mm) :=
  lt (mp M (cI a0) 0 0) (fun M1 =>
  if a1 < 0 then
  some ((-3), M1)
  else
  if 29 < a1 then
  some ((-3), M1)
  else
  (f_Model_isDay M1 a0 a2).bind (fun p4 =>
  if p4 = 0 then
  some ((-3), M1)
  else
  if a3 < 0 then
  some ((-3), M1)
  else
  if a3 ≤ (mg M1 (cI a0) 24) then
  (f_Model_whereIs M1 a0 a1 a2 a3).bind (fun p8 =>
  some (p8, M1))
  else
  some ((-3), M1)))
theorem c_Model_where {X : XX} {d : Nat} (hd : 1 ≤ d) {M : Mm} {a0 : Int} {a1 : Int} {a2 : Int} {a3 : Int} (hn_a0 : a0 ≠ 0) {p : Int × Mm} (h : f_Model_where M a0 a1 a2 a3 = some p) : Rn X d m_Model_where [(12, a0), (0, a1), (0, a2), (0, a3)] M (some (0, p.1)) p.2 := by
  refine Rn_of (by decide) rfl (Nat.le_of_ble_eq_true rfl) ?_
  unfold f_Model_where at h
  refine ev_less (L' := [(0, (12, a0)), (1, (0, a1)), (2, (0, a2)), (3, (0, a3))]) [0, 1, 2, 3] rfl ?_
  refine ev_aload_n 0 d_Model_where_0 rfl (by decide) rfl ?_
  refine ev_iconst d_Model_where_1 rfl ?_
  obtain ⟨M1, hM1, h⟩ := ltx h
  refine ev_put' (t := 12) (k := 0) (by decide) (by decide) rfl i_Model t_Model_ok n_Model (by decide) rfl rfl rfl rfl tw_900 d_Model_where_2 hn_a0 hM1 ?_
  refine ev_iload_n 1 d_Model_where_5 rfl rfl ?_
  by_cases hc2 : a1 < 0
  · replace h := itp hc2 h
    refine ev_if_lt_t (tgt := 35) d_Model_where_6 (by decide) hc2 ?_
    refine ev_bipush d_Model_where_35 rfl ?_
    refine ev_goto (tgt := 47) d_Model_where_37 (by decide) ?_
    cases h
    exact ev_ret d_Model_where_47 rfl
  · replace h := itn hc2 h
    refine ev_if_lt_f d_Model_where_6 (by decide) hc2 ?_
    refine ev_iload_n 1 d_Model_where_9 rfl rfl ?_
    refine ev_bipush d_Model_where_10 rfl ?_
    by_cases hc3 : 29 < a1
    · replace h := itp hc3 h
      refine ev_icmp_gt_t (tgt := 35) d_Model_where_12 (by decide) hc3 ?_
      refine ev_bipush d_Model_where_35 rfl ?_
      refine ev_goto (tgt := 47) d_Model_where_37 (by decide) ?_
      cases h
      exact ev_ret d_Model_where_47 rfl
    · replace h := itn hc3 h
      refine ev_icmp_gt_f d_Model_where_12 (by decide) hc3 ?_
      refine ev_aload_n 0 d_Model_where_15 rfl (by decide) rfl ?_
      refine ev_iload_n 2 d_Model_where_16 rfl rfl ?_
      obtain ⟨p4, hp4, h⟩ := bx h
      have hRp4 := c_Model_isDay (X := X) (d := d - 1) (by omega) hn_a0 hp4
      refine ev_callV2 (st2 := [(0, p4)]) (as := [(0, a2)]) (rest := []) rfl (by decide) (by decide) rfl hn_a0 rfl (Nat.le_of_ble_eq_true rfl) k_Model_isDay ⟨tw_1177, ts_93⟩ (by omega) tw_1175 d_Model_where_17 hRp4 rfl ?_
      by_cases hc5 : p4 = 0
      · replace h := itp hc5 h
        refine ev_if_eq_t (tgt := 35) d_Model_where_20 (by decide) hc5 ?_
        refine ev_bipush d_Model_where_35 rfl ?_
        refine ev_goto (tgt := 47) d_Model_where_37 (by decide) ?_
        cases h
        exact ev_ret d_Model_where_47 rfl
      · replace h := itn hc5 h
        refine ev_if_eq_f d_Model_where_20 (by decide) hc5 ?_
        refine ev_iload_n 3 d_Model_where_23 rfl rfl ?_
        by_cases hc6 : a3 < 0
        · replace h := itp hc6 h
          refine ev_if_lt_t (tgt := 35) d_Model_where_24 (by decide) hc6 ?_
          refine ev_bipush d_Model_where_35 rfl ?_
          refine ev_goto (tgt := 47) d_Model_where_37 (by decide) ?_
          cases h
          exact ev_ret d_Model_where_47 rfl
        · replace h := itn hc6 h
          refine ev_if_lt_f d_Model_where_24 (by decide) hc6 ?_
          refine ev_iload_n 3 d_Model_where_27 rfl rfl ?_
          refine ev_aload_n 0 d_Model_where_28 rfl (by decide) rfl ?_
          refine ev_get (t := 12) (k := 24) (by decide) (by decide) rfl i_Model (by decide) rfl rfl tw_924 d_Model_where_29 hn_a0 ?_
          by_cases hc7 : a3 ≤ (mg M1 (cI a0) 24)
          · replace h := itp hc7 h
            refine ev_icmp_le_t (tgt := 40) d_Model_where_32 (by decide) hc7 ?_
            refine ev_aload_n 0 d_Model_where_40 rfl (by decide) rfl ?_
            refine ev_iload_n 1 d_Model_where_41 rfl rfl ?_
            refine ev_iload_n 2 d_Model_where_42 rfl rfl ?_
            refine ev_iload_n 3 d_Model_where_43 rfl rfl ?_
            obtain ⟨p8, hp8, h⟩ := bx h
            have hRp8 := c_Model_whereIs (X := X) (d := d - 1) (by omega) hn_a0 hp8
            refine ev_callV2 (st2 := [(0, p8)]) (as := [(0, a1), (0, a2), (0, a3)]) (rest := []) rfl (by decide) (by decide) rfl hn_a0 rfl (Nat.le_of_ble_eq_true rfl) k_Model_whereIs ⟨tw_1189, ts_95⟩ (by omega) tw_1187 d_Model_where_44 hRp8 rfl ?_
            cases h
            exact ev_ret d_Model_where_47 rfl
          · replace h := itn hc7 h
            refine ev_icmp_le_f d_Model_where_32 (by decide) hc7 ?_
            refine ev_bipush d_Model_where_35 rfl ?_
            refine ev_goto (tgt := 47) d_Model_where_37 (by decide) ?_
            cases h
            exact ev_ret d_Model_where_47 rfl
def l_Model_copiesAt_6 (M : Mm) (a0 : Int) (a1 : Int) (a2 : Int) (a3 : Int) (s : Int × Int) : Option ((Int × Int) ⊕ (Int)) :=
  if 30 ≤ s.2 then
  some (.inr s.1)
  else
  (f_Model_whereIs M a0 s.2 a2 a3).bind (fun p2 =>
  if p2 ≠ a1 then
  lt (w32 (s.2 + 1)) (fun x4 : Int =>
  some (.inl (s.1, x4)))
  else
  lt ((w32 (s.1 + 1))) (fun x5 : Int =>
  lt (w32 (s.2 + 1)) (fun x6 : Int =>
  some (.inl (x5, x6)))))
theorem cs_l_Model_copiesAt_6 {X : XX} {d : Nat} (hd : 1 ≤ d) {M : Mm} {a0 : Int} {a1 : Int} {a2 : Int} {a3 : Int} (hn_a0 : a0 ≠ 0) {s : Int × Int} {x : (Int × Int) ⊕ (Int)} {r : Option AV} {M' : Mm} (h : l_Model_copiesAt_6 M a0 a1 a2 a3 s = some x) (hk1 : ∀ s : Int × Int, x = .inl s → Ev X m_Model_copiesAt d 6 [(0, (12, a0)), (1, (0, a1)), (2, (0, a2)), (3, (0, a3)), (4, (0, s.1)), (5, (0, s.2))] [] M r M') (hk2 : ∀ t : Int, x = .inr t → Ev X m_Model_copiesAt d 37 [(4, (0, t))] [] M r M') : Ev X m_Model_copiesAt d 6 [(0, (12, a0)), (1, (0, a1)), (2, (0, a2)), (3, (0, a3)), (4, (0, s.1)), (5, (0, s.2))] [] M r M' := by
  unfold l_Model_copiesAt_6 at h
  refine ev_iload 5 d_Model_copiesAt_6 rfl ?_
  refine ev_bipush d_Model_copiesAt_8 rfl ?_
  by_cases hc1 : 30 ≤ s.2
  · replace h := itp hc1 h
    refine ev_icmp_ge_t (tgt := 37) d_Model_copiesAt_10 (by decide) hc1 ?_
    refine ev_less (L' := [(4, (0, s.1))]) [4] rfl ?_
    cases h
    exact hk2 _ rfl
  · replace h := itn hc1 h
    refine ev_icmp_ge_f d_Model_copiesAt_10 (by decide) hc1 ?_
    refine ev_aload_n 0 d_Model_copiesAt_13 rfl (by decide) rfl ?_
    refine ev_iload 5 d_Model_copiesAt_14 rfl ?_
    refine ev_iload_n 2 d_Model_copiesAt_16 rfl rfl ?_
    refine ev_iload_n 3 d_Model_copiesAt_17 rfl rfl ?_
    obtain ⟨p2, hp2, h⟩ := bx h
    have hRp2 := c_Model_whereIs (X := X) (d := d - 1) (by omega) hn_a0 hp2
    refine ev_callV2 (st2 := [(0, p2)]) (as := [(0, s.2), (0, a2), (0, a3)]) (rest := []) rfl (by decide) (by decide) rfl hn_a0 rfl (Nat.le_of_ble_eq_true rfl) k_Model_whereIs ⟨tw_1189, ts_95⟩ (by omega) tw_1187 d_Model_copiesAt_18 hRp2 rfl ?_
    refine ev_iload_n 1 d_Model_copiesAt_21 rfl rfl ?_
    by_cases hc3 : p2 ≠ a1
    · replace h := itp hc3 h
      refine ev_icmp_ne_t (tgt := 31) d_Model_copiesAt_22 (by decide) hc3 ?_
      obtain ⟨x4, hx4, h⟩ := ltx h
      refine ev_iinc' 5 (y := x4) (L' := [(5, (0, x4)), (0, (12, a0)), (1, (0, a1)), (2, (0, a2)), (3, (0, a3)), (4, (0, s.1))]) d_Model_copiesAt_31 rfl (by decide) rfl hx4 ?_
      refine ev_goto (tgt := 6) d_Model_copiesAt_34 (by decide) ?_
      refine ev_less (L' := [(0, (12, a0)), (1, (0, a1)), (2, (0, a2)), (3, (0, a3)), (4, (0, s.1)), (5, (0, x4))]) [1, 2, 3, 4, 5, 0] rfl ?_
      cases h
      exact hk1 _ rfl
    · replace h := itn hc3 h
      refine ev_icmp_ne_f d_Model_copiesAt_22 (by decide) hc3 ?_
      refine ev_iload 4 d_Model_copiesAt_25 rfl ?_
      refine ev_iconst d_Model_copiesAt_27 rfl ?_
      refine ev_iadd d_Model_copiesAt_28 ?_
      obtain ⟨x5, hx5, h⟩ := ltx h
      refine ev_istore' (y := x5) (L' := [(4, (0, x5)), (0, (12, a0)), (1, (0, a1)), (2, (0, a2)), (3, (0, a3)), (5, (0, s.2))]) d_Model_copiesAt_29 (by decide) rfl hx5 ?_
      obtain ⟨x6, hx6, h⟩ := ltx h
      refine ev_iinc' 5 (y := x6) (L' := [(5, (0, x6)), (4, (0, x5)), (0, (12, a0)), (1, (0, a1)), (2, (0, a2)), (3, (0, a3))]) d_Model_copiesAt_31 rfl (by decide) rfl hx6 ?_
      refine ev_goto (tgt := 6) d_Model_copiesAt_34 (by decide) ?_
      refine ev_less (L' := [(0, (12, a0)), (1, (0, a1)), (2, (0, a2)), (3, (0, a3)), (4, (0, x5)), (5, (0, x6))]) [2, 3, 4, 5, 1, 0] rfl ?_
      cases h
      exact hk1 _ rfl
def f_Model_copiesAt (M : Mm) (a0 : Int) (a1 : Int) (a2 : Int) (a3 : Int) : Option (Int) :=
  (loopN (l_Model_copiesAt_6 M a0 a1 a2 a3) FU (0, 0)).bind (fun t7 =>
  some t7)
theorem c_Model_copiesAt {X : XX} {d : Nat} (hd : 1 ≤ d) {M : Mm} {a0 : Int} {a1 : Int} {a2 : Int} {a3 : Int} (hn_a0 : a0 ≠ 0) {p : Int} (h : f_Model_copiesAt M a0 a1 a2 a3 = some p) : Rn X d m_Model_copiesAt [(12, a0), (0, a1), (0, a2), (0, a3)] M (some (0, p)) M := by
  refine Rn_of (by decide) rfl (Nat.le_of_ble_eq_true rfl) ?_
  unfold f_Model_copiesAt at h
  refine ev_less (L' := [(0, (12, a0)), (1, (0, a1)), (2, (0, a2)), (3, (0, a3))]) [0, 1, 2, 3] rfl ?_
  refine ev_iconst d_Model_copiesAt_0 rfl ?_
  refine ev_istore (L' := [(4, (0, 0)), (0, (12, a0)), (1, (0, a1)), (2, (0, a2)), (3, (0, a3))]) d_Model_copiesAt_1 (by decide) rfl ?_
  refine ev_iconst d_Model_copiesAt_3 rfl ?_
  refine ev_istore (L' := [(5, (0, 0)), (4, (0, 0)), (0, (12, a0)), (1, (0, a1)), (2, (0, a2)), (3, (0, a3))]) d_Model_copiesAt_4 (by decide) rfl ?_
  obtain ⟨t7, ht7, h⟩ := bx h
  refine ev_less (L' := [(0, (12, a0)), (1, (0, a1)), (2, (0, a2)), (3, (0, a3)), (4, (0, 0)), (5, (0, 0))]) [2, 3, 4, 5, 1, 0] rfl ?_
  refine loop_ev (step := l_Model_copiesAt_6 M a0 a1 a2 a3) (P := fun w : Int × Int => Ev X m_Model_copiesAt d 6 [(0, (12, a0)), (1, (0, a1)), (2, (0, a2)), (3, (0, a3)), (4, (0, w.1)), (5, (0, w.2))] [] M (some (0, p)) M) (Q := fun w => Ev X m_Model_copiesAt d 37 [(4, (0, w))] [] M (some (0, p)) M) (fun w x hs k1 k2 => cs_l_Model_copiesAt_6 hd hn_a0 hs k1 k2) FU (0, 0) t7 ht7 ?_
  refine ev_iload 0 d_Model_copiesAt_37 rfl ?_
  cases h
  exact ev_ret d_Model_copiesAt_39 rfl
def f_Model_copies (M : Mm) (a0 : Int) (a1 : Int) (a2 : Int) (a3 : Int) : Option (Int × Mm) :=
  lt (mp M (cI a0) 0 0) (fun M1 =>
  (f_Model_isThere M1 a0 a1).bind (fun p2 =>
  if p2 = 0 then
  some ((-1), M1)
  else
  (f_Model_isDay M1 a0 a2).bind (fun p4 =>
  if p4 = 0 then
  some ((-1), M1)
  else
  if a3 < 0 then
  some ((-1), M1)
  else
  if a3 ≤ (mg M1 (cI a0) 24) then
  (f_Model_copiesAt M1 a0 a1 a2 a3).bind (fun p8 =>
  some (p8, M1))
  else
  some ((-1), M1))))
theorem c_Model_copies {X : XX} {d : Nat} (hd : 2 ≤ d) {M : Mm} {a0 : Int} {a1 : Int} {a2 : Int} {a3 : Int} (hn_a0 : a0 ≠ 0) {p : Int × Mm} (h : f_Model_copies M a0 a1 a2 a3 = some p) : Rn X d m_Model_copies [(12, a0), (0, a1), (0, a2), (0, a3)] M (some (0, p.1)) p.2 := by
  refine Rn_of (by decide) rfl (Nat.le_of_ble_eq_true rfl) ?_
  unfold f_Model_copies at h
  refine ev_less (L' := [(0, (12, a0)), (1, (0, a1)), (2, (0, a2)), (3, (0, a3))]) [0, 1, 2, 3] rfl ?_
  refine ev_aload_n 0 d_Model_copies_0 rfl (by decide) rfl ?_
  refine ev_iconst d_Model_copies_1 rfl ?_
  obtain ⟨M1, hM1, h⟩ := ltx h
  refine ev_put' (t := 12) (k := 0) (by decide) (by decide) rfl i_Model t_Model_ok n_Model (by decide) rfl rfl rfl rfl tw_900 d_Model_copies_2 hn_a0 hM1 ?_
  refine ev_aload_n 0 d_Model_copies_5 rfl (by decide) rfl ?_
  refine ev_iload_n 1 d_Model_copies_6 rfl rfl ?_
  obtain ⟨p2, hp2, h⟩ := bx h
  have hRp2 := c_Model_isThere (X := X) (d := d - 1) (by omega) hn_a0 hp2
  refine ev_callV2 (st2 := [(0, p2)]) (as := [(0, a1)]) (rest := []) rfl (by decide) (by decide) rfl hn_a0 rfl (Nat.le_of_ble_eq_true rfl) k_Model_isThere ⟨tw_1181, ts_94⟩ (by omega) tw_1179 d_Model_copies_7 hRp2 rfl ?_
  by_cases hc3 : p2 = 0
  · replace h := itp hc3 h
    refine ev_if_eq_t (tgt := 33) d_Model_copies_10 (by decide) hc3 ?_
    refine ev_iconst d_Model_copies_33 rfl ?_
    refine ev_goto (tgt := 44) d_Model_copies_34 (by decide) ?_
    cases h
    exact ev_ret d_Model_copies_44 rfl
  · replace h := itn hc3 h
    refine ev_if_eq_f d_Model_copies_10 (by decide) hc3 ?_
    refine ev_aload_n 0 d_Model_copies_13 rfl (by decide) rfl ?_
    refine ev_iload_n 2 d_Model_copies_14 rfl rfl ?_
    obtain ⟨p4, hp4, h⟩ := bx h
    have hRp4 := c_Model_isDay (X := X) (d := d - 1) (by omega) hn_a0 hp4
    refine ev_callV2 (st2 := [(0, p4)]) (as := [(0, a2)]) (rest := []) rfl (by decide) (by decide) rfl hn_a0 rfl (Nat.le_of_ble_eq_true rfl) k_Model_isDay ⟨tw_1177, ts_93⟩ (by omega) tw_1175 d_Model_copies_15 hRp4 rfl ?_
    by_cases hc5 : p4 = 0
    · replace h := itp hc5 h
      refine ev_if_eq_t (tgt := 33) d_Model_copies_18 (by decide) hc5 ?_
      refine ev_iconst d_Model_copies_33 rfl ?_
      refine ev_goto (tgt := 44) d_Model_copies_34 (by decide) ?_
      cases h
      exact ev_ret d_Model_copies_44 rfl
    · replace h := itn hc5 h
      refine ev_if_eq_f d_Model_copies_18 (by decide) hc5 ?_
      refine ev_iload_n 3 d_Model_copies_21 rfl rfl ?_
      by_cases hc6 : a3 < 0
      · replace h := itp hc6 h
        refine ev_if_lt_t (tgt := 33) d_Model_copies_22 (by decide) hc6 ?_
        refine ev_iconst d_Model_copies_33 rfl ?_
        refine ev_goto (tgt := 44) d_Model_copies_34 (by decide) ?_
        cases h
        exact ev_ret d_Model_copies_44 rfl
      · replace h := itn hc6 h
        refine ev_if_lt_f d_Model_copies_22 (by decide) hc6 ?_
        refine ev_iload_n 3 d_Model_copies_25 rfl rfl ?_
        refine ev_aload_n 0 d_Model_copies_26 rfl (by decide) rfl ?_
        refine ev_get (t := 12) (k := 24) (by decide) (by decide) rfl i_Model (by decide) rfl rfl tw_924 d_Model_copies_27 hn_a0 ?_
        by_cases hc7 : a3 ≤ (mg M1 (cI a0) 24)
        · replace h := itp hc7 h
          refine ev_icmp_le_t (tgt := 37) d_Model_copies_30 (by decide) hc7 ?_
          refine ev_aload_n 0 d_Model_copies_37 rfl (by decide) rfl ?_
          refine ev_iload_n 1 d_Model_copies_38 rfl rfl ?_
          refine ev_iload_n 2 d_Model_copies_39 rfl rfl ?_
          refine ev_iload_n 3 d_Model_copies_40 rfl rfl ?_
          obtain ⟨p8, hp8, h⟩ := bx h
          have hRp8 := c_Model_copiesAt (X := X) (d := d - 1) (by omega) hn_a0 hp8
          refine ev_callV2 (st2 := [(0, p8)]) (as := [(0, a1), (0, a2), (0, a3)]) (rest := []) rfl (by decide) (by decide) rfl hn_a0 rfl (Nat.le_of_ble_eq_true rfl) k_Model_copiesAt ⟨tw_1197, ts_96⟩ (by omega) tw_1195 d_Model_copies_41 hRp8 rfl ?_
          cases h
          exact ev_ret d_Model_copies_44 rfl
        · replace h := itn hc7 h
          refine ev_icmp_le_f d_Model_copies_30 (by decide) hc7 ?_
          refine ev_iconst d_Model_copies_33 rfl ?_
          refine ev_goto (tgt := 44) d_Model_copies_34 (by decide) ?_
          cases h
          exact ev_ret d_Model_copies_44 rfl
def f_Model_contest (M : Mm) (a0 : Int) (a1 : Int) : Option (Int × Mm) :=
  lt (mp M (cI a0) 0 0) (fun M1 =>
  (f_Model_isPlayer M1 a0 a1).bind (fun p2 =>
  if p2 = 0 then
  some ((-1), M1)
  else
  if (mg M1 (cI a0) 4) ≠ 0 then
  if (0 : Int) ≤ a1 ∧ a1 < (ml M1 (cI (mg M1 (cI a0) 4)) : Int) then
  if (mg M1 (cI (mg M1 (cI a0) 4)) (a1 : Int).toNat) ≠ 1000 then
  lt (mp M1 (cI (mg M1 (cI a0) 4)) (a1 : Int).toNat (w32 ((mg M1 (cI (mg M1 (cI a0) 4)) (a1 : Int).toNat) + 1))) (fun M7 =>
  if (mg M7 (cI a0) 4) ≠ 0 then
  if (0 : Int) ≤ a1 ∧ a1 < (ml M7 (cI (mg M7 (cI a0) 4)) : Int) then
  some ((mg M7 (cI (mg M7 (cI a0) 4)) (a1 : Int).toNat), M7)
  else none
  else none)
  else
  some ((-1), M1)
  else none
  else none))
theorem c_Model_contest {X : XX} {d : Nat} (hd : 1 ≤ d) {M : Mm} {a0 : Int} {a1 : Int} (hn_a0 : a0 ≠ 0) {p : Int × Mm} (h : f_Model_contest M a0 a1 = some p) : Rn X d m_Model_contest [(12, a0), (0, a1)] M (some (0, p.1)) p.2 := by
  refine Rn_of (by decide) rfl (Nat.le_of_ble_eq_true rfl) ?_
  unfold f_Model_contest at h
  refine ev_less (L' := [(0, (12, a0)), (1, (0, a1))]) [0, 1] rfl ?_
  refine ev_aload_n 0 d_Model_contest_0 rfl (by decide) rfl ?_
  refine ev_iconst d_Model_contest_1 rfl ?_
  obtain ⟨M1, hM1, h⟩ := ltx h
  refine ev_put' (t := 12) (k := 0) (by decide) (by decide) rfl i_Model t_Model_ok n_Model (by decide) rfl rfl rfl rfl tw_900 d_Model_contest_2 hn_a0 hM1 ?_
  refine ev_aload_n 0 d_Model_contest_5 rfl (by decide) rfl ?_
  refine ev_iload_n 1 d_Model_contest_6 rfl rfl ?_
  obtain ⟨p2, hp2, h⟩ := bx h
  have hRp2 := c_Model_isPlayer (X := X) (d := d - 1) (by omega) hn_a0 hp2
  refine ev_callV2 (st2 := [(0, p2)]) (as := [(0, a1)]) (rest := []) rfl (by decide) (by decide) rfl hn_a0 rfl (Nat.le_of_ble_eq_true rfl) k_Model_isPlayer ⟨tw_1056, ts_77⟩ (by omega) tw_1054 d_Model_contest_7 hRp2 rfl ?_
  by_cases hc3 : p2 = 0
  · replace h := itp hc3 h
    refine ev_if_eq_t (tgt := 25) d_Model_contest_10 (by decide) hc3 ?_
    refine ev_iconst d_Model_contest_25 rfl ?_
    cases h
    exact ev_ret d_Model_contest_26 rfl
  · replace h := itn hc3 h
    refine ev_if_eq_f d_Model_contest_10 (by decide) hc3 ?_
    refine ev_aload_n 0 d_Model_contest_13 rfl (by decide) rfl ?_
    refine ev_get (t := 12) (k := 4) (by decide) (by decide) rfl i_Model (by decide) rfl rfl tw_904 d_Model_contest_14 hn_a0 ?_
    refine ev_iload_n 1 d_Model_contest_17 rfl rfl ?_
    obtain ⟨hz4, h⟩ := gx h
    obtain ⟨hg5, h⟩ := gx h
    refine ev_iald d_Model_contest_18 hz4 hg5 ?_
    refine ev_sipush d_Model_contest_19 rfl ?_
    by_cases hc6 : (mg M1 (cI (mg M1 (cI a0) 4)) (a1 : Int).toNat) ≠ 1000
    · replace h := itp hc6 h
      refine ev_icmp_ne_t (tgt := 27) d_Model_contest_22 (by decide) hc6 ?_
      refine ev_aload_n 0 d_Model_contest_27 rfl (by decide) rfl ?_
      refine ev_get (t := 12) (k := 4) (by decide) (by decide) rfl i_Model (by decide) rfl rfl tw_904 d_Model_contest_28 hn_a0 ?_
      refine ev_iload_n 1 d_Model_contest_31 rfl rfl ?_
      refine ev_aload_n 0 d_Model_contest_32 rfl (by decide) rfl ?_
      refine ev_get (t := 12) (k := 4) (by decide) (by decide) rfl i_Model (by decide) rfl rfl tw_904 d_Model_contest_33 hn_a0 ?_
      refine ev_iload_n 1 d_Model_contest_36 rfl rfl ?_
      refine ev_iald d_Model_contest_37 hz4 hg5 ?_
      refine ev_iconst d_Model_contest_38 rfl ?_
      refine ev_iadd d_Model_contest_39 ?_
      obtain ⟨M7, hM7, h⟩ := ltx h
      refine ev_iast' d_Model_contest_40 hz4 hg5 hM7 ?_
      refine ev_aload_n 0 d_Model_contest_41 rfl (by decide) rfl ?_
      refine ev_get (t := 12) (k := 4) (by decide) (by decide) rfl i_Model (by decide) rfl rfl tw_904 d_Model_contest_42 hn_a0 ?_
      refine ev_iload_n 1 d_Model_contest_45 rfl rfl ?_
      obtain ⟨hz8, h⟩ := gx h
      obtain ⟨hg9, h⟩ := gx h
      refine ev_iald d_Model_contest_46 hz8 hg9 ?_
      cases h
      exact ev_ret d_Model_contest_47 rfl
    · replace h := itn hc6 h
      refine ev_icmp_ne_f d_Model_contest_22 (by decide) hc6 ?_
      refine ev_iconst d_Model_contest_25 rfl ?_
      cases h
      exact ev_ret d_Model_contest_26 rfl
def l_Model_count_69 (M : Mm) (a0 : Int) (s : Int × Int) : Option ((Int × Int) ⊕ (Int)) :=
  if (mg M (cI a0) 7) ≤ s.2 then
  some (.inr s.1)
  else
  (f_Model_lacking M a0 s.2).bind (fun p9 =>
  if p9 ≠ 0 then
  lt (w32 (s.2 + 1)) (fun x11 : Int =>
  some (.inl (s.1, x11)))
  else
  lt ((w32 (s.1 + 1))) (fun x12 : Int =>
  lt (w32 (s.2 + 1)) (fun x13 : Int =>
  some (.inl (x12, x13)))))
theorem cs_l_Model_count_69 {X : XX} {d : Nat} (hd : 2 ≤ d) {M : Mm} {a0 : Int} (hn_a0 : a0 ≠ 0) {s : Int × Int} {x : (Int × Int) ⊕ (Int)} {r : Option AV} {M' : Mm} (h : l_Model_count_69 M a0 s = some x) (hk1 : ∀ s : Int × Int, x = .inl s → Ev X m_Model_count d 69 [(0, (12, a0)), (2, (0, s.1)), (3, (0, s.2))] [] M r M') (hk2 : ∀ t : Int, x = .inr t → Ev X m_Model_count d 95 [(2, (0, t))] [] M r M') : Ev X m_Model_count d 69 [(0, (12, a0)), (2, (0, s.1)), (3, (0, s.2))] [] M r M' := by
  unfold l_Model_count_69 at h
  refine ev_iload_n 2 d_Model_count_69 rfl rfl ?_
  refine ev_aload_n 0 d_Model_count_70 rfl (by decide) rfl ?_
  refine ev_get (t := 12) (k := 7) (by decide) (by decide) rfl i_Model (by decide) rfl rfl tw_907 d_Model_count_71 hn_a0 ?_
  by_cases hc8 : (mg M (cI a0) 7) ≤ s.2
  · replace h := itp hc8 h
    refine ev_icmp_ge_t (tgt := 95) d_Model_count_74 (by decide) hc8 ?_
    refine ev_less (L' := [(2, (0, s.1))]) [1] rfl ?_
    cases h
    exact hk2 _ rfl
  · replace h := itn hc8 h
    refine ev_icmp_ge_f d_Model_count_74 (by decide) hc8 ?_
    refine ev_aload_n 0 d_Model_count_77 rfl (by decide) rfl ?_
    refine ev_iload_n 2 d_Model_count_78 rfl rfl ?_
    obtain ⟨p9, hp9, h⟩ := bx h
    have hRp9 := c_Model_lacking (X := X) (d := d - 1) (by omega) hn_a0 hp9
    refine ev_callV2 (st2 := [(0, p9)]) (as := [(0, s.2)]) (rest := []) rfl (by decide) (by decide) rfl hn_a0 rfl (Nat.le_of_ble_eq_true rfl) k_Model_lacking ⟨tw_1084, ts_80⟩ (by omega) tw_1082 d_Model_count_79 hRp9 rfl ?_
    by_cases hc10 : p9 ≠ 0
    · replace h := itp hc10 h
      refine ev_if_ne_t (tgt := 89) d_Model_count_82 (by decide) hc10 ?_
      obtain ⟨x11, hx11, h⟩ := ltx h
      refine ev_iinc' 2 (y := x11) (L' := [(3, (0, x11)), (0, (12, a0)), (2, (0, s.1))]) d_Model_count_89 rfl (by decide) rfl hx11 ?_
      refine ev_goto (tgt := 69) d_Model_count_92 (by decide) ?_
      refine ev_less (L' := [(0, (12, a0)), (2, (0, s.1)), (3, (0, x11))]) [1, 2, 0] rfl ?_
      cases h
      exact hk1 _ rfl
    · replace h := itn hc10 h
      refine ev_if_ne_f d_Model_count_82 (by decide) hc10 ?_
      refine ev_iload_n 1 d_Model_count_85 rfl rfl ?_
      refine ev_iconst d_Model_count_86 rfl ?_
      refine ev_iadd d_Model_count_87 ?_
      obtain ⟨x12, hx12, h⟩ := ltx h
      refine ev_istore_n' (y := x12) (L' := [(2, (0, x12)), (0, (12, a0)), (3, (0, s.2))]) d_Model_count_88 rfl (by decide) rfl hx12 ?_
      obtain ⟨x13, hx13, h⟩ := ltx h
      refine ev_iinc' 2 (y := x13) (L' := [(3, (0, x13)), (2, (0, x12)), (0, (12, a0))]) d_Model_count_89 rfl (by decide) rfl hx13 ?_
      refine ev_goto (tgt := 69) d_Model_count_92 (by decide) ?_
      refine ev_less (L' := [(0, (12, a0)), (2, (0, x12)), (3, (0, x13))]) [2, 1, 0] rfl ?_
      cases h
      exact hk1 _ rfl
def l_Model_count_23 (M : Mm) (a0 : Int) (s : Int × Int) : Option ((Int × Int) ⊕ (Int)) :=
  if (mg M (cI a0) 1) ≤ s.2 then
  some (.inr s.1)
  else
  if (mg M (cI a0) 5) ≠ 0 then
  if (0 : Int) ≤ s.2 ∧ s.2 < (ml M (cI (mg M (cI a0) 5)) : Int) then
  if (mg M (cI (mg M (cI a0) 5)) (s.2 : Int).toNat) = 0 then
  lt (w32 (s.2 + 1)) (fun x19 : Int =>
  some (.inl (s.1, x19)))
  else
  lt ((w32 (s.1 + 1))) (fun x20 : Int =>
  lt (w32 (s.2 + 1)) (fun x21 : Int =>
  some (.inl (x20, x21))))
  else none
  else none
theorem cs_l_Model_count_23 {X : XX} {d : Nat} (hd : 2 ≤ d) {M : Mm} {a0 : Int} (hn_a0 : a0 ≠ 0) {s : Int × Int} {x : (Int × Int) ⊕ (Int)} {r : Option AV} {M' : Mm} (h : l_Model_count_23 M a0 s = some x) (hk1 : ∀ s : Int × Int, x = .inl s → Ev X m_Model_count d 23 [(0, (12, a0)), (2, (0, s.1)), (3, (0, s.2))] [] M r M') (hk2 : ∀ t : Int, x = .inr t → Ev X m_Model_count d 50 [(2, (0, t))] [] M r M') : Ev X m_Model_count d 23 [(0, (12, a0)), (2, (0, s.1)), (3, (0, s.2))] [] M r M' := by
  unfold l_Model_count_23 at h
  refine ev_iload_n 2 d_Model_count_23 rfl rfl ?_
  refine ev_aload_n 0 d_Model_count_24 rfl (by decide) rfl ?_
  refine ev_get (t := 12) (k := 1) (by decide) (by decide) rfl i_Model (by decide) rfl rfl tw_901 d_Model_count_25 hn_a0 ?_
  by_cases hc15 : (mg M (cI a0) 1) ≤ s.2
  · replace h := itp hc15 h
    refine ev_icmp_ge_t (tgt := 50) d_Model_count_28 (by decide) hc15 ?_
    refine ev_less (L' := [(2, (0, s.1))]) [1] rfl ?_
    cases h
    exact hk2 _ rfl
  · replace h := itn hc15 h
    refine ev_icmp_ge_f d_Model_count_28 (by decide) hc15 ?_
    refine ev_aload_n 0 d_Model_count_31 rfl (by decide) rfl ?_
    refine ev_get (t := 12) (k := 5) (by decide) (by decide) rfl i_Model (by decide) rfl rfl tw_905 d_Model_count_32 hn_a0 ?_
    refine ev_iload_n 2 d_Model_count_35 rfl rfl ?_
    obtain ⟨hz16, h⟩ := gx h
    obtain ⟨hg17, h⟩ := gx h
    refine ev_zald d_Model_count_36 hz16 hg17 ?_
    by_cases hc18 : (mg M (cI (mg M (cI a0) 5)) (s.2 : Int).toNat) = 0
    · replace h := itp hc18 h
      refine ev_if_eq_t (tgt := 44) d_Model_count_37 (by decide) hc18 ?_
      obtain ⟨x19, hx19, h⟩ := ltx h
      refine ev_iinc' 2 (y := x19) (L' := [(3, (0, x19)), (0, (12, a0)), (2, (0, s.1))]) d_Model_count_44 rfl (by decide) rfl hx19 ?_
      refine ev_goto (tgt := 23) d_Model_count_47 (by decide) ?_
      refine ev_less (L' := [(0, (12, a0)), (2, (0, s.1)), (3, (0, x19))]) [1, 2, 0] rfl ?_
      cases h
      exact hk1 _ rfl
    · replace h := itn hc18 h
      refine ev_if_eq_f d_Model_count_37 (by decide) hc18 ?_
      refine ev_iload_n 1 d_Model_count_40 rfl rfl ?_
      refine ev_iconst d_Model_count_41 rfl ?_
      refine ev_iadd d_Model_count_42 ?_
      obtain ⟨x20, hx20, h⟩ := ltx h
      refine ev_istore_n' (y := x20) (L' := [(2, (0, x20)), (0, (12, a0)), (3, (0, s.2))]) d_Model_count_43 rfl (by decide) rfl hx20 ?_
      obtain ⟨x21, hx21, h⟩ := ltx h
      refine ev_iinc' 2 (y := x21) (L' := [(3, (0, x21)), (2, (0, x20)), (0, (12, a0))]) d_Model_count_44 rfl (by decide) rfl hx21 ?_
      refine ev_goto (tgt := 23) d_Model_count_47 (by decide) ?_
      refine ev_less (L' := [(0, (12, a0)), (2, (0, x20)), (3, (0, x21))]) [2, 1, 0] rfl ?_
      cases h
      exact hk1 _ rfl
def f_Model_count (M : Mm) (a0 : Int) (a1 : Int) : Option (Int × Mm) :=
  lt (mp M (cI a0) 0 0) (fun M1 =>
  if a1 ≠ 0 then
  if a1 ≠ 1 then
  if a1 ≠ 2 then
  if a1 ≠ 3 then
  if a1 ≠ 4 then
  if a1 ≠ 5 then
  some ((-1), M1)
  else
  some ((mg M1 (cI a0) 18), M1)
  else
  some ((mg M1 (cI a0) 24), M1)
  else
  (loopN (l_Model_count_69 M1 a0) FU (0, 0)).bind (fun t14 =>
  some (t14, M1))
  else
  some ((mg M1 (cI a0) 7), M1)
  else
  (loopN (l_Model_count_23 M1 a0) FU (0, 0)).bind (fun t22 =>
  some (t22, M1))
  else
  some ((mg M1 (cI a0) 1), M1))
theorem c_Model_count {X : XX} {d : Nat} (hd : 2 ≤ d) {M : Mm} {a0 : Int} {a1 : Int} (hn_a0 : a0 ≠ 0) {p : Int × Mm} (h : f_Model_count M a0 a1 = some p) : Rn X d m_Model_count [(12, a0), (0, a1)] M (some (0, p.1)) p.2 := by
  refine Rn_of (by decide) rfl (Nat.le_of_ble_eq_true rfl) ?_
  unfold f_Model_count at h
  refine ev_less (L' := [(0, (12, a0)), (1, (0, a1))]) [0, 1] rfl ?_
  refine ev_aload_n 0 d_Model_count_0 rfl (by decide) rfl ?_
  refine ev_iconst d_Model_count_1 rfl ?_
  obtain ⟨M1, hM1, h⟩ := ltx h
  refine ev_put' (t := 12) (k := 0) (by decide) (by decide) rfl i_Model t_Model_ok n_Model (by decide) rfl rfl rfl rfl tw_900 d_Model_count_2 hn_a0 hM1 ?_
  refine ev_iconst d_Model_count_5 rfl ?_
  refine ev_istore_n (L' := [(2, (0, 0)), (0, (12, a0)), (1, (0, a1))]) d_Model_count_6 rfl (by decide) rfl ?_
  refine ev_iload_n 2 d_Model_count_7 rfl rfl ?_
  by_cases hc2 : a1 ≠ 0
  · replace h := itp hc2 h
    refine ev_if_ne_t (tgt := 16) d_Model_count_8 (by decide) hc2 ?_
    refine ev_iload_n 2 d_Model_count_16 rfl rfl ?_
    refine ev_iconst d_Model_count_17 rfl ?_
    by_cases hc3 : a1 ≠ 1
    · replace h := itp hc3 h
      refine ev_icmp_ne_t (tgt := 52) d_Model_count_18 (by decide) hc3 ?_
      refine ev_iload_n 2 d_Model_count_52 rfl rfl ?_
      refine ev_iconst d_Model_count_53 rfl ?_
      by_cases hc4 : a1 ≠ 2
      · replace h := itp hc4 h
        refine ev_icmp_ne_t (tgt := 62) d_Model_count_54 (by decide) hc4 ?_
        refine ev_iload_n 2 d_Model_count_62 rfl rfl ?_
        refine ev_iconst d_Model_count_63 rfl ?_
        by_cases hc5 : a1 ≠ 3
        · replace h := itp hc5 h
          refine ev_icmp_ne_t (tgt := 97) d_Model_count_64 (by decide) hc5 ?_
          refine ev_iload_n 2 d_Model_count_97 rfl rfl ?_
          refine ev_iconst d_Model_count_98 rfl ?_
          by_cases hc6 : a1 ≠ 4
          · replace h := itp hc6 h
            refine ev_icmp_ne_t (tgt := 107) d_Model_count_99 (by decide) hc6 ?_
            refine ev_iload_n 2 d_Model_count_107 rfl rfl ?_
            refine ev_iconst d_Model_count_108 rfl ?_
            by_cases hc7 : a1 ≠ 5
            · replace h := itp hc7 h
              refine ev_icmp_ne_t (tgt := 119) d_Model_count_109 (by decide) hc7 ?_
              refine ev_iconst d_Model_count_119 rfl ?_
              cases h
              exact ev_ret d_Model_count_120 rfl
            · replace h := itn hc7 h
              refine ev_icmp_ne_f d_Model_count_109 (by decide) hc7 ?_
              refine ev_aload_n 1 d_Model_count_112 rfl (by decide) rfl ?_
              refine ev_get (t := 12) (k := 18) (by decide) (by decide) rfl i_Model (by decide) rfl rfl tw_918 d_Model_count_113 hn_a0 ?_
              refine ev_goto (tgt := 120) d_Model_count_116 (by decide) ?_
              cases h
              exact ev_ret d_Model_count_120 rfl
          · replace h := itn hc6 h
            refine ev_icmp_ne_f d_Model_count_99 (by decide) hc6 ?_
            refine ev_aload_n 1 d_Model_count_102 rfl (by decide) rfl ?_
            refine ev_get (t := 12) (k := 24) (by decide) (by decide) rfl i_Model (by decide) rfl rfl tw_924 d_Model_count_103 hn_a0 ?_
            cases h
            exact ev_ret d_Model_count_106 rfl
        · replace h := itn hc5 h
          refine ev_icmp_ne_f d_Model_count_64 (by decide) hc5 ?_
          refine ev_iconst d_Model_count_67 rfl ?_
          refine ev_istore_n (L' := [(3, (0, 0)), (2, (0, 0)), (0, (12, a0)), (1, (0, a1))]) d_Model_count_68 rfl (by decide) rfl ?_
          obtain ⟨t14, ht14, h⟩ := bx h
          refine ev_less (L' := [(0, (12, a0)), (2, (0, 0)), (3, (0, 0))]) [2, 1, 0] rfl ?_
          refine loop_ev (step := l_Model_count_69 M1 a0) (P := fun w : Int × Int => Ev X m_Model_count d 69 [(0, (12, a0)), (2, (0, w.1)), (3, (0, w.2))] [] M1 (some (0, p.1)) p.2) (Q := fun w => Ev X m_Model_count d 95 [(2, (0, w))] [] M1 (some (0, p.1)) p.2) (fun w x hs k1 k2 => cs_l_Model_count_69 hd hn_a0 hs k1 k2) FU (0, 0) t14 ht14 ?_
          refine ev_iload_n 0 d_Model_count_95 rfl rfl ?_
          cases h
          exact ev_ret d_Model_count_96 rfl
      · replace h := itn hc4 h
        refine ev_icmp_ne_f d_Model_count_54 (by decide) hc4 ?_
        refine ev_aload_n 1 d_Model_count_57 rfl (by decide) rfl ?_
        refine ev_get (t := 12) (k := 7) (by decide) (by decide) rfl i_Model (by decide) rfl rfl tw_907 d_Model_count_58 hn_a0 ?_
        cases h
        exact ev_ret d_Model_count_61 rfl
    · replace h := itn hc3 h
      refine ev_icmp_ne_f d_Model_count_18 (by decide) hc3 ?_
      refine ev_iconst d_Model_count_21 rfl ?_
      refine ev_istore_n (L' := [(3, (0, 0)), (2, (0, 0)), (0, (12, a0)), (1, (0, a1))]) d_Model_count_22 rfl (by decide) rfl ?_
      obtain ⟨t22, ht22, h⟩ := bx h
      refine ev_less (L' := [(0, (12, a0)), (2, (0, 0)), (3, (0, 0))]) [2, 1, 0] rfl ?_
      refine loop_ev (step := l_Model_count_23 M1 a0) (P := fun w : Int × Int => Ev X m_Model_count d 23 [(0, (12, a0)), (2, (0, w.1)), (3, (0, w.2))] [] M1 (some (0, p.1)) p.2) (Q := fun w => Ev X m_Model_count d 50 [(2, (0, w))] [] M1 (some (0, p.1)) p.2) (fun w x hs k1 k2 => cs_l_Model_count_23 hd hn_a0 hs k1 k2) FU (0, 0) t22 ht22 ?_
      refine ev_iload_n 0 d_Model_count_50 rfl rfl ?_
      cases h
      exact ev_ret d_Model_count_51 rfl
  · replace h := itn hc2 h
    refine ev_if_ne_f d_Model_count_8 (by decide) hc2 ?_
    refine ev_aload_n 1 d_Model_count_11 rfl (by decide) rfl ?_
    refine ev_get (t := 12) (k := 1) (by decide) (by decide) rfl i_Model (by decide) rfl rfl tw_901 d_Model_count_12 hn_a0 ?_
    cases h
    exact ev_ret d_Model_count_15 rfl
def l_Model_lay_3 (a0 : Int) (a1 : Int) (s : Int × Mm) : Option ((Int × Mm) ⊕ (Mm)) :=
  if s.1 < 0 then
  some (.inr s.2)
  else
  if (mg s.2 (cI a0) 28) ≠ 0 then
  if (0 : Int) ≤ (mg s.2 (cI a0) 29) ∧ (mg s.2 (cI a0) 29) < (ml s.2 (cI (mg s.2 (cI a0) 28)) : Int) then
  lt (mp s.2 (cI (mg s.2 (cI a0) 28)) ((mg s.2 (cI a0) 29) : Int).toNat (bAnd (bShr a1 s.1) 255)) (fun M4 =>
  lt (mp M4 (cI a0) 29 (w32 ((mg M4 (cI a0) 29) + 1))) (fun M5 =>
  lt (w32 (s.1 + (-8))) (fun x6 : Int =>
  some (.inl (x6, M5)))))
  else none
  else none
theorem cs_l_Model_lay_3 {X : XX} {d : Nat} (hd : 0 ≤ d) {a0 : Int} {a1 : Int} (hn_a0 : a0 ≠ 0) {s : Int × Mm} {x : (Int × Mm) ⊕ (Mm)} {r : Option AV} {M' : Mm} (h : l_Model_lay_3 a0 a1 s = some x) (hk1 : ∀ s : Int × Mm, x = .inl s → Ev X m_Model_lay d 3 [(0, (12, a0)), (1, (0, a1)), (2, (0, s.1))] [] s.2 r M') (hk2 : ∀ t : Mm, x = .inr t → Ev X m_Model_lay d 39 [] [] t r M') : Ev X m_Model_lay d 3 [(0, (12, a0)), (1, (0, a1)), (2, (0, s.1))] [] s.2 r M' := by
  unfold l_Model_lay_3 at h
  refine ev_iload_n 2 d_Model_lay_3 rfl rfl ?_
  by_cases hc1 : s.1 < 0
  · replace h := itp hc1 h
    refine ev_if_lt_t (tgt := 39) d_Model_lay_4 (by decide) hc1 ?_
    refine ev_less (L' := []) [] rfl ?_
    cases h
    exact hk2 _ rfl
  · replace h := itn hc1 h
    refine ev_if_lt_f d_Model_lay_4 (by decide) hc1 ?_
    refine ev_aload_n 0 d_Model_lay_7 rfl (by decide) rfl ?_
    refine ev_get (t := 12) (k := 28) (by decide) (by decide) rfl i_Model (by decide) rfl rfl tw_928 d_Model_lay_8 hn_a0 ?_
    refine ev_aload_n 0 d_Model_lay_11 rfl (by decide) rfl ?_
    refine ev_get (t := 12) (k := 29) (by decide) (by decide) rfl i_Model (by decide) rfl rfl tw_929 d_Model_lay_12 hn_a0 ?_
    refine ev_iload_n 1 d_Model_lay_15 rfl rfl ?_
    refine ev_iload_n 2 d_Model_lay_16 rfl rfl ?_
    refine ev_ishr d_Model_lay_17 ?_
    refine ev_sipush d_Model_lay_18 rfl ?_
    refine ev_iand d_Model_lay_21 ?_
    obtain ⟨hz2, h⟩ := gx h
    obtain ⟨hg3, h⟩ := gx h
    obtain ⟨M4, hM4, h⟩ := ltx h
    refine ev_iast' d_Model_lay_22 hz2 hg3 hM4 ?_
    refine ev_aload_n 0 d_Model_lay_23 rfl (by decide) rfl ?_
    refine ev_aload_n 0 d_Model_lay_24 rfl (by decide) rfl ?_
    refine ev_get (t := 12) (k := 29) (by decide) (by decide) rfl i_Model (by decide) rfl rfl tw_929 d_Model_lay_25 hn_a0 ?_
    refine ev_iconst d_Model_lay_28 rfl ?_
    refine ev_iadd d_Model_lay_29 ?_
    obtain ⟨M5, hM5, h⟩ := ltx h
    refine ev_put' (t := 12) (k := 29) (by decide) (by decide) rfl i_Model t_Model_ok n_Model (by decide) rfl rfl rfl rfl tw_929 d_Model_lay_30 hn_a0 hM5 ?_
    obtain ⟨x6, hx6, h⟩ := ltx h
    refine ev_iinc' 2 (y := x6) (L' := [(2, (0, x6)), (0, (12, a0)), (1, (0, a1))]) d_Model_lay_33 rfl (by decide) rfl hx6 ?_
    refine ev_goto (tgt := 3) d_Model_lay_36 (by decide) ?_
    refine ev_less (L' := [(0, (12, a0)), (1, (0, a1)), (2, (0, x6))]) [1, 2, 0] rfl ?_
    cases h
    exact hk1 _ rfl
def f_Model_lay (M : Mm) (a0 : Int) (a1 : Int) : Option (Mm) :=
  (loopN (l_Model_lay_3 a0 a1) FU (24, M)).bind (fun t7 =>
  some t7)
theorem c_Model_lay {X : XX} {d : Nat} (hd : 0 ≤ d) {M : Mm} {a0 : Int} {a1 : Int} (hn_a0 : a0 ≠ 0) {p : Mm} (h : f_Model_lay M a0 a1 = some p) : Rn X d m_Model_lay [(12, a0), (0, a1)] M none p := by
  refine Rn_of (by decide) rfl (Nat.le_of_ble_eq_true rfl) ?_
  unfold f_Model_lay at h
  refine ev_less (L' := [(0, (12, a0)), (1, (0, a1))]) [0, 1] rfl ?_
  refine ev_bipush d_Model_lay_0 rfl ?_
  refine ev_istore_n (L' := [(2, (0, 24)), (0, (12, a0)), (1, (0, a1))]) d_Model_lay_2 rfl (by decide) rfl ?_
  obtain ⟨t7, ht7, h⟩ := bx h
  refine ev_less (L' := [(0, (12, a0)), (1, (0, a1)), (2, (0, 24))]) [1, 2, 0] rfl ?_
  refine loop_ev (step := l_Model_lay_3 a0 a1) (P := fun w : Int × Mm => Ev X m_Model_lay d 3 [(0, (12, a0)), (1, (0, a1)), (2, (0, w.1))] [] w.2 none p) (Q := fun w => Ev X m_Model_lay d 39 [] [] w none p) (fun w x hs k1 k2 => cs_l_Model_lay_3 hd hn_a0 hs k1 k2) FU (24, M) t7 ht7 ?_
  cases h
  exact ev_retV d_Model_lay_39 rfl
def f_Model_feed (M : Mm) (a0 : Int) (a1 : Int) (a2 : Int) (a3 : Int) (a4 : Int) (a5 : Int) : Option (Int × Mm) :=
  lt (mp M (cI a0) 0 0) (fun M1 =>
  if (w32 ((mg M1 (cI a0) 29) + 20)) ≤ 800 then
  (f_Model_lay M1 a0 a1).bind (fun p3 =>
  (f_Model_lay p3 a0 a2).bind (fun p4 =>
  (f_Model_lay p4 a0 a3).bind (fun p5 =>
  (f_Model_lay p5 a0 a4).bind (fun p6 =>
  (f_Model_lay p6 a0 a5).bind (fun p7 =>
  some ((mg p7 (cI a0) 29), p7))))))
  else
  some ((-1), M1))
theorem c_Model_feed {X : XX} {d : Nat} (hd : 1 ≤ d) {M : Mm} {a0 : Int} {a1 : Int} {a2 : Int} {a3 : Int} {a4 : Int} {a5 : Int} (hn_a0 : a0 ≠ 0) {p : Int × Mm} (h : f_Model_feed M a0 a1 a2 a3 a4 a5 = some p) : Rn X d m_Model_feed [(12, a0), (0, a1), (0, a2), (0, a3), (0, a4), (0, a5)] M (some (0, p.1)) p.2 := by
  refine Rn_of (by decide) rfl (Nat.le_of_ble_eq_true rfl) ?_
  unfold f_Model_feed at h
  refine ev_less (L' := [(0, (12, a0)), (1, (0, a1)), (2, (0, a2)), (3, (0, a3)), (4, (0, a4)), (5, (0, a5))]) [0, 1, 2, 3, 4, 5] rfl ?_
  refine ev_aload_n 0 d_Model_feed_0 rfl (by decide) rfl ?_
  refine ev_iconst d_Model_feed_1 rfl ?_
  obtain ⟨M1, hM1, h⟩ := ltx h
  refine ev_put' (t := 12) (k := 0) (by decide) (by decide) rfl i_Model t_Model_ok n_Model (by decide) rfl rfl rfl rfl tw_900 d_Model_feed_2 hn_a0 hM1 ?_
  refine ev_aload_n 0 d_Model_feed_5 rfl (by decide) rfl ?_
  refine ev_get (t := 12) (k := 29) (by decide) (by decide) rfl i_Model (by decide) rfl rfl tw_929 d_Model_feed_6 hn_a0 ?_
  refine ev_bipush d_Model_feed_9 rfl ?_
  refine ev_iadd d_Model_feed_11 ?_
  refine ev_sipush d_Model_feed_12 rfl ?_
  by_cases hc2 : (w32 ((mg M1 (cI a0) 29) + 20)) ≤ 800
  · replace h := itp hc2 h
    refine ev_icmp_le_t (tgt := 20) d_Model_feed_15 (by decide) hc2 ?_
    refine ev_aload_n 0 d_Model_feed_20 rfl (by decide) rfl ?_
    refine ev_iload_n 1 d_Model_feed_21 rfl rfl ?_
    obtain ⟨p3, hp3, h⟩ := bx h
    have hRp3 := c_Model_lay (X := X) (d := d - 1) (by omega) hn_a0 hp3
    refine ev_callV2 (st2 := []) (as := [(0, a1)]) (rest := []) rfl (by decide) (by decide) rfl hn_a0 rfl (Nat.le_of_ble_eq_true rfl) k_Model_lay ⟨tw_1213, ts_97⟩ (by omega) tw_1211 d_Model_feed_22 hRp3 rfl ?_
    refine ev_aload_n 0 d_Model_feed_25 rfl (by decide) rfl ?_
    refine ev_iload_n 2 d_Model_feed_26 rfl rfl ?_
    obtain ⟨p4, hp4, h⟩ := bx h
    have hRp4 := c_Model_lay (X := X) (d := d - 1) (by omega) hn_a0 hp4
    refine ev_callV2 (st2 := []) (as := [(0, a2)]) (rest := []) rfl (by decide) (by decide) rfl hn_a0 rfl (Nat.le_of_ble_eq_true rfl) k_Model_lay ⟨tw_1213, ts_97⟩ (by omega) tw_1211 d_Model_feed_27 hRp4 rfl ?_
    refine ev_aload_n 0 d_Model_feed_30 rfl (by decide) rfl ?_
    refine ev_iload_n 3 d_Model_feed_31 rfl rfl ?_
    obtain ⟨p5, hp5, h⟩ := bx h
    have hRp5 := c_Model_lay (X := X) (d := d - 1) (by omega) hn_a0 hp5
    refine ev_callV2 (st2 := []) (as := [(0, a3)]) (rest := []) rfl (by decide) (by decide) rfl hn_a0 rfl (Nat.le_of_ble_eq_true rfl) k_Model_lay ⟨tw_1213, ts_97⟩ (by omega) tw_1211 d_Model_feed_32 hRp5 rfl ?_
    refine ev_aload_n 0 d_Model_feed_35 rfl (by decide) rfl ?_
    refine ev_iload 4 d_Model_feed_36 rfl ?_
    obtain ⟨p6, hp6, h⟩ := bx h
    have hRp6 := c_Model_lay (X := X) (d := d - 1) (by omega) hn_a0 hp6
    refine ev_callV2 (st2 := []) (as := [(0, a4)]) (rest := []) rfl (by decide) (by decide) rfl hn_a0 rfl (Nat.le_of_ble_eq_true rfl) k_Model_lay ⟨tw_1213, ts_97⟩ (by omega) tw_1211 d_Model_feed_38 hRp6 rfl ?_
    refine ev_aload_n 0 d_Model_feed_41 rfl (by decide) rfl ?_
    refine ev_iload 5 d_Model_feed_42 rfl ?_
    obtain ⟨p7, hp7, h⟩ := bx h
    have hRp7 := c_Model_lay (X := X) (d := d - 1) (by omega) hn_a0 hp7
    refine ev_callV2 (st2 := []) (as := [(0, a5)]) (rest := []) rfl (by decide) (by decide) rfl hn_a0 rfl (Nat.le_of_ble_eq_true rfl) k_Model_lay ⟨tw_1213, ts_97⟩ (by omega) tw_1211 d_Model_feed_44 hRp7 rfl ?_
    refine ev_aload_n 0 d_Model_feed_47 rfl (by decide) rfl ?_
    refine ev_get (t := 12) (k := 29) (by decide) (by decide) rfl i_Model (by decide) rfl rfl tw_929 d_Model_feed_48 hn_a0 ?_
    cases h
    exact ev_ret d_Model_feed_51 rfl
  · replace h := itn hc2 h
    refine ev_icmp_le_f d_Model_feed_15 (by decide) hc2 ?_
    refine ev_iconst d_Model_feed_18 rfl ?_
    cases h
    exact ev_ret d_Model_feed_19 rfl
def f_Model_end (M : Mm) (a0 : Int) (a1 : Int) : Option (Int × Mm) :=
  lt (mp M (cI a0) 0 0) (fun M1 =>
  if a1 < 0 then
  some ((-1), M1)
  else
  if a1 ≤ (mg M1 (cI a0) 29) then
  lt (mp M1 (cI a0) 29 a1) (fun M4 =>
  some (a1, M4))
  else
  some ((-1), M1))
theorem c_Model_end {X : XX} {d : Nat} (hd : 0 ≤ d) {M : Mm} {a0 : Int} {a1 : Int} (hn_a0 : a0 ≠ 0) {p : Int × Mm} (h : f_Model_end M a0 a1 = some p) : Rn X d m_Model_end [(12, a0), (0, a1)] M (some (0, p.1)) p.2 := by
  refine Rn_of (by decide) rfl (Nat.le_of_ble_eq_true rfl) ?_
  unfold f_Model_end at h
  refine ev_less (L' := [(0, (12, a0)), (1, (0, a1))]) [0, 1] rfl ?_
  refine ev_aload_n 0 d_Model_end_0 rfl (by decide) rfl ?_
  refine ev_iconst d_Model_end_1 rfl ?_
  obtain ⟨M1, hM1, h⟩ := ltx h
  refine ev_put' (t := 12) (k := 0) (by decide) (by decide) rfl i_Model t_Model_ok n_Model (by decide) rfl rfl rfl rfl tw_900 d_Model_end_2 hn_a0 hM1 ?_
  refine ev_iload_n 1 d_Model_end_5 rfl rfl ?_
  by_cases hc2 : a1 < 0
  · replace h := itp hc2 h
    refine ev_if_lt_t (tgt := 17) d_Model_end_6 (by decide) hc2 ?_
    refine ev_iconst d_Model_end_17 rfl ?_
    cases h
    exact ev_ret d_Model_end_18 rfl
  · replace h := itn hc2 h
    refine ev_if_lt_f d_Model_end_6 (by decide) hc2 ?_
    refine ev_iload_n 1 d_Model_end_9 rfl rfl ?_
    refine ev_aload_n 0 d_Model_end_10 rfl (by decide) rfl ?_
    refine ev_get (t := 12) (k := 29) (by decide) (by decide) rfl i_Model (by decide) rfl rfl tw_929 d_Model_end_11 hn_a0 ?_
    by_cases hc3 : a1 ≤ (mg M1 (cI a0) 29)
    · replace h := itp hc3 h
      refine ev_icmp_le_t (tgt := 19) d_Model_end_14 (by decide) hc3 ?_
      refine ev_aload_n 0 d_Model_end_19 rfl (by decide) rfl ?_
      refine ev_iload_n 1 d_Model_end_20 rfl rfl ?_
      obtain ⟨M4, hM4, h⟩ := ltx h
      refine ev_put' (t := 12) (k := 29) (by decide) (by decide) rfl i_Model t_Model_ok n_Model (by decide) rfl rfl rfl rfl tw_929 d_Model_end_21 hn_a0 hM4 ?_
      refine ev_iload_n 1 d_Model_end_24 rfl rfl ?_
      cases h
      exact ev_ret d_Model_end_25 rfl
    · replace h := itn hc3 h
      refine ev_icmp_le_f d_Model_end_14 (by decide) hc3 ?_
      refine ev_iconst d_Model_end_17 rfl ?_
      cases h
      exact ev_ret d_Model_end_18 rfl
def f_Model_fault (M : Mm) (a0 : Int) (a1 : Int) : Option (Int × Mm) :=
  lt (mp M (cI a0) 0 0) (fun M1 =>
  if a1 ≠ 0 then
  if a1 ≠ 1 then
  some ((-1), M1)
  else
  some ((mg M1 (cI a0) 36), M1)
  else
  some ((mg M1 (cI a0) 35), M1))
theorem c_Model_fault {X : XX} {d : Nat} (hd : 0 ≤ d) {M : Mm} {a0 : Int} {a1 : Int} (hn_a0 : a0 ≠ 0) {p : Int × Mm} (h : f_Model_fault M a0 a1 = some p) : Rn X d m_Model_fault [(12, a0), (0, a1)] M (some (0, p.1)) p.2 := by
  refine Rn_of (by decide) rfl (Nat.le_of_ble_eq_true rfl) ?_
  unfold f_Model_fault at h
  refine ev_less (L' := [(0, (12, a0)), (1, (0, a1))]) [0, 1] rfl ?_
  refine ev_aload_n 0 d_Model_fault_0 rfl (by decide) rfl ?_
  refine ev_iconst d_Model_fault_1 rfl ?_
  obtain ⟨M1, hM1, h⟩ := ltx h
  refine ev_put' (t := 12) (k := 0) (by decide) (by decide) rfl i_Model t_Model_ok n_Model (by decide) rfl rfl rfl rfl tw_900 d_Model_fault_2 hn_a0 hM1 ?_
  refine ev_iload_n 1 d_Model_fault_5 rfl rfl ?_
  by_cases hc2 : a1 ≠ 0
  · replace h := itp hc2 h
    refine ev_if_ne_t (tgt := 16) d_Model_fault_6 (by decide) hc2 ?_
    refine ev_iload_n 1 d_Model_fault_16 rfl rfl ?_
    refine ev_iconst d_Model_fault_17 rfl ?_
    by_cases hc3 : a1 ≠ 1
    · replace h := itp hc3 h
      refine ev_icmp_ne_t (tgt := 28) d_Model_fault_18 (by decide) hc3 ?_
      refine ev_iconst d_Model_fault_28 rfl ?_
      cases h
      exact ev_ret d_Model_fault_29 rfl
    · replace h := itn hc3 h
      refine ev_icmp_ne_f d_Model_fault_18 (by decide) hc3 ?_
      refine ev_aload_n 0 d_Model_fault_21 rfl (by decide) rfl ?_
      refine ev_get (t := 12) (k := 36) (by decide) (by decide) rfl i_Model (by decide) rfl rfl tw_936 d_Model_fault_22 hn_a0 ?_
      refine ev_goto (tgt := 29) d_Model_fault_25 (by decide) ?_
      cases h
      exact ev_ret d_Model_fault_29 rfl
  · replace h := itn hc2 h
    refine ev_if_ne_f d_Model_fault_6 (by decide) hc2 ?_
    refine ev_aload_n 0 d_Model_fault_9 rfl (by decide) rfl ?_
    refine ev_get (t := 12) (k := 35) (by decide) (by decide) rfl i_Model (by decide) rfl rfl tw_935 d_Model_fault_10 hn_a0 ?_
    refine ev_goto (tgt := 29) d_Model_fault_13 (by decide) ?_
    cases h
    exact ev_ret d_Model_fault_29 rfl
def f_Model_raw (M : Mm) (a0 : Int) : Option (Int) :=
  if (mg M (cI a0) 29) ≤ (mg M (cI a0) 30) then
  some (-1)
  else
  if (mg M (cI a0) 28) ≠ 0 then
  if (0 : Int) ≤ (mg M (cI a0) 30) ∧ (mg M (cI a0) 30) < (ml M (cI (mg M (cI a0) 28)) : Int) then
  some (mg M (cI (mg M (cI a0) 28)) ((mg M (cI a0) 30) : Int).toNat)
  else none
  else none
theorem c_Model_raw {X : XX} {d : Nat} (hd : 0 ≤ d) {M : Mm} {a0 : Int} (hn_a0 : a0 ≠ 0) {p : Int} (h : f_Model_raw M a0 = some p) : Rn X d m_Model_raw [(12, a0)] M (some (0, p)) M := by
  refine Rn_of (by decide) rfl (Nat.le_of_ble_eq_true rfl) ?_
  unfold f_Model_raw at h
  refine ev_less (L' := [(0, (12, a0))]) [0] rfl ?_
  refine ev_aload_n 0 d_Model_raw_0 rfl (by decide) rfl ?_
  refine ev_get (t := 12) (k := 30) (by decide) (by decide) rfl i_Model (by decide) rfl rfl tw_930 d_Model_raw_1 hn_a0 ?_
  refine ev_aload_n 0 d_Model_raw_4 rfl (by decide) rfl ?_
  refine ev_get (t := 12) (k := 29) (by decide) (by decide) rfl i_Model (by decide) rfl rfl tw_929 d_Model_raw_5 hn_a0 ?_
  by_cases hc1 : (mg M (cI a0) 29) ≤ (mg M (cI a0) 30)
  · replace h := itp hc1 h
    refine ev_icmp_ge_t (tgt := 23) d_Model_raw_8 (by decide) hc1 ?_
    refine ev_iconst d_Model_raw_23 rfl ?_
    cases h
    exact ev_ret d_Model_raw_24 rfl
  · replace h := itn hc1 h
    refine ev_icmp_ge_f d_Model_raw_8 (by decide) hc1 ?_
    refine ev_aload_n 0 d_Model_raw_11 rfl (by decide) rfl ?_
    refine ev_get (t := 12) (k := 28) (by decide) (by decide) rfl i_Model (by decide) rfl rfl tw_928 d_Model_raw_12 hn_a0 ?_
    refine ev_aload_n 0 d_Model_raw_15 rfl (by decide) rfl ?_
    refine ev_get (t := 12) (k := 30) (by decide) (by decide) rfl i_Model (by decide) rfl rfl tw_930 d_Model_raw_16 hn_a0 ?_
    obtain ⟨hz2, h⟩ := gx h
    obtain ⟨hg3, h⟩ := gx h
    refine ev_iald d_Model_raw_19 hz2 hg3 ?_
    refine ev_goto (tgt := 24) d_Model_raw_20 (by decide) ?_
    cases h
    exact ev_ret d_Model_raw_24 rfl
def f_Model_isSmall (M : Mm) (a0 : Int) (a1 : Int) : Option (Int) :=
  if a1 < 97 then
  some 0
  else
  if 122 < a1 then
  some 0
  else
  some 1
theorem c_Model_isSmall {X : XX} {d : Nat} (hd : 0 ≤ d) {M : Mm} {a0 : Int} {a1 : Int} (hn_a0 : a0 ≠ 0) {p : Int} (h : f_Model_isSmall M a0 a1 = some p) : Rn X d m_Model_isSmall [(12, a0), (0, a1)] M (some (0, p)) M := by
  refine Rn_of (by decide) rfl (Nat.le_of_ble_eq_true rfl) ?_
  unfold f_Model_isSmall at h
  refine ev_less (L' := [(0, (12, a0)), (1, (0, a1))]) [0, 1] rfl ?_
  refine ev_iload_n 1 d_Model_isSmall_0 rfl rfl ?_
  refine ev_bipush d_Model_isSmall_1 rfl ?_
  by_cases hc1 : a1 < 97
  · replace h := itp hc1 h
    refine ev_icmp_lt_t (tgt := 16) d_Model_isSmall_3 (by decide) hc1 ?_
    refine ev_iconst d_Model_isSmall_16 rfl ?_
    cases h
    exact ev_retZ d_Model_isSmall_17 rfl (Or.inl rfl)
  · replace h := itn hc1 h
    refine ev_icmp_lt_f d_Model_isSmall_3 (by decide) hc1 ?_
    refine ev_iload_n 1 d_Model_isSmall_6 rfl rfl ?_
    refine ev_bipush d_Model_isSmall_7 rfl ?_
    by_cases hc2 : 122 < a1
    · replace h := itp hc2 h
      refine ev_icmp_gt_t (tgt := 16) d_Model_isSmall_9 (by decide) hc2 ?_
      refine ev_iconst d_Model_isSmall_16 rfl ?_
      cases h
      exact ev_retZ d_Model_isSmall_17 rfl (Or.inl rfl)
    · replace h := itn hc2 h
      refine ev_icmp_gt_f d_Model_isSmall_9 (by decide) hc2 ?_
      refine ev_iconst d_Model_isSmall_12 rfl ?_
      refine ev_goto (tgt := 17) d_Model_isSmall_13 (by decide) ?_
      cases h
      exact ev_retZ d_Model_isSmall_17 rfl (Or.inr rfl)
def f_Model_isDigit (M : Mm) (a0 : Int) (a1 : Int) : Option (Int) :=
  if a1 < 48 then
  some 0
  else
  if 57 < a1 then
  some 0
  else
  some 1
theorem c_Model_isDigit {X : XX} {d : Nat} (hd : 0 ≤ d) {M : Mm} {a0 : Int} {a1 : Int} (hn_a0 : a0 ≠ 0) {p : Int} (h : f_Model_isDigit M a0 a1 = some p) : Rn X d m_Model_isDigit [(12, a0), (0, a1)] M (some (0, p)) M := by
  refine Rn_of (by decide) rfl (Nat.le_of_ble_eq_true rfl) ?_
  unfold f_Model_isDigit at h
  refine ev_less (L' := [(0, (12, a0)), (1, (0, a1))]) [0, 1] rfl ?_
  refine ev_iload_n 1 d_Model_isDigit_0 rfl rfl ?_
  refine ev_bipush d_Model_isDigit_1 rfl ?_
  by_cases hc1 : a1 < 48
  · replace h := itp hc1 h
    refine ev_icmp_lt_t (tgt := 16) d_Model_isDigit_3 (by decide) hc1 ?_
    refine ev_iconst d_Model_isDigit_16 rfl ?_
    cases h
    exact ev_retZ d_Model_isDigit_17 rfl (Or.inl rfl)
  · replace h := itn hc1 h
    refine ev_icmp_lt_f d_Model_isDigit_3 (by decide) hc1 ?_
    refine ev_iload_n 1 d_Model_isDigit_6 rfl rfl ?_
    refine ev_bipush d_Model_isDigit_7 rfl ?_
    by_cases hc2 : 57 < a1
    · replace h := itp hc2 h
      refine ev_icmp_gt_t (tgt := 16) d_Model_isDigit_9 (by decide) hc2 ?_
      refine ev_iconst d_Model_isDigit_16 rfl ?_
      cases h
      exact ev_retZ d_Model_isDigit_17 rfl (Or.inl rfl)
    · replace h := itn hc2 h
      refine ev_icmp_gt_f d_Model_isDigit_9 (by decide) hc2 ?_
      refine ev_iconst d_Model_isDigit_12 rfl ?_
      refine ev_goto (tgt := 17) d_Model_isDigit_13 (by decide) ?_
      cases h
      exact ev_retZ d_Model_isDigit_17 rfl (Or.inr rfl)
def j_Model_word_55 (M : Mm) (a5 : Int) (z6 : Int) : Option (Int) :=
  if a5 ≤ 0 then
  some z6
  else
  some (lOr (lShl z6 8) a5)
theorem cj_Model_word_55 {X : XX} {d : Nat} (hd : 0 ≤ d) {M : Mm} {a5 : Int} {z6 : Int} {p : Int} (h : j_Model_word_55 M a5 z6 = some p) : Ev X m_Model_word d 55 [(5, (0, a5)), (6, (1, z6))] [] M (some (1, p)) M := by
  unfold j_Model_word_55 at h
  refine ev_iload 0 d_Model_word_55 rfl ?_
  by_cases hc5 : a5 ≤ 0
  · replace h := itp hc5 h
    refine ev_if_le_t (tgt := 72) d_Model_word_57 (by decide) hc5 ?_
    refine ev_lload 1 d_Model_word_72 rfl ?_
    cases h
    exact ev_retL d_Model_word_74 rfl
  · replace h := itn hc5 h
    refine ev_if_le_f d_Model_word_57 (by decide) hc5 ?_
    refine ev_lload 1 d_Model_word_60 rfl ?_
    refine ev_bipush d_Model_word_62 rfl ?_
    refine ev_lshl d_Model_word_64 ?_
    refine ev_iload 0 d_Model_word_65 rfl ?_
    refine ev_i2l d_Model_word_67 ?_
    refine ev_lor d_Model_word_68 ?_
    refine ev_goto (tgt := 74) d_Model_word_69 (by decide) ?_
    cases h
    exact ev_retL d_Model_word_74 rfl
def j_Model_word_39 (M : Mm) (a4 : Int) (a5 : Int) (z6 : Int) : Option (Int) :=
  if a4 ≤ 0 then
  j_Model_word_55 M a5 z6
  else
  lt ((lOr (lShl z6 8) a4)) (fun x6 : Int =>
  j_Model_word_55 M a5 x6)
theorem cj_Model_word_39 {X : XX} {d : Nat} (hd : 0 ≤ d) {M : Mm} {a4 : Int} {a5 : Int} {z6 : Int} {p : Int} (h : j_Model_word_39 M a4 a5 z6 = some p) : Ev X m_Model_word d 39 [(4, (0, a4)), (5, (0, a5)), (6, (1, z6))] [] M (some (1, p)) M := by
  unfold j_Model_word_39 at h
  refine ev_iload 0 d_Model_word_39 rfl ?_
  by_cases hc4 : a4 ≤ 0
  · replace h := itp hc4 h
    refine ev_if_le_t (tgt := 55) d_Model_word_41 (by decide) hc4 ?_
    refine ev_less (L' := [(5, (0, a5)), (6, (1, z6))]) [1, 2] rfl ?_
    exact cj_Model_word_55 hd h
  · replace h := itn hc4 h
    refine ev_if_le_f d_Model_word_41 (by decide) hc4 ?_
    refine ev_lload 2 d_Model_word_44 rfl ?_
    refine ev_bipush d_Model_word_46 rfl ?_
    refine ev_lshl d_Model_word_48 ?_
    refine ev_iload 0 d_Model_word_49 rfl ?_
    refine ev_i2l d_Model_word_51 ?_
    refine ev_lor d_Model_word_52 ?_
    obtain ⟨x6, hx6, h⟩ := ltx h
    refine ev_lstore' (y := x6) (L' := [(6, (1, x6)), (4, (0, a4)), (5, (0, a5))]) d_Model_word_53 (by decide) rfl hx6 ?_
    refine ev_less (L' := [(5, (0, a5)), (6, (1, x6))]) [2, 0] rfl ?_
    exact cj_Model_word_55 hd h
def j_Model_word_25 (M : Mm) (a3 : Int) (a4 : Int) (a5 : Int) (z6 : Int) : Option (Int) :=
  if a3 ≤ 0 then
  j_Model_word_39 M a4 a5 z6
  else
  lt ((lOr (lShl z6 8) a3)) (fun x7 : Int =>
  j_Model_word_39 M a4 a5 x7)
theorem cj_Model_word_25 {X : XX} {d : Nat} (hd : 0 ≤ d) {M : Mm} {a3 : Int} {a4 : Int} {a5 : Int} {z6 : Int} {p : Int} (h : j_Model_word_25 M a3 a4 a5 z6 = some p) : Ev X m_Model_word d 25 [(3, (0, a3)), (4, (0, a4)), (5, (0, a5)), (6, (1, z6))] [] M (some (1, p)) M := by
  unfold j_Model_word_25 at h
  refine ev_iload_n 0 d_Model_word_25 rfl rfl ?_
  by_cases hc3 : a3 ≤ 0
  · replace h := itp hc3 h
    refine ev_if_le_t (tgt := 39) d_Model_word_26 (by decide) hc3 ?_
    refine ev_less (L' := [(4, (0, a4)), (5, (0, a5)), (6, (1, z6))]) [1, 2, 3] rfl ?_
    exact cj_Model_word_39 hd h
  · replace h := itn hc3 h
    refine ev_if_le_f d_Model_word_26 (by decide) hc3 ?_
    refine ev_lload 3 d_Model_word_29 rfl ?_
    refine ev_bipush d_Model_word_31 rfl ?_
    refine ev_lshl d_Model_word_33 ?_
    refine ev_iload_n 0 d_Model_word_34 rfl rfl ?_
    refine ev_i2l d_Model_word_35 ?_
    refine ev_lor d_Model_word_36 ?_
    obtain ⟨x7, hx7, h⟩ := ltx h
    refine ev_lstore' (y := x7) (L' := [(6, (1, x7)), (3, (0, a3)), (4, (0, a4)), (5, (0, a5))]) d_Model_word_37 (by decide) rfl hx7 ?_
    refine ev_less (L' := [(4, (0, a4)), (5, (0, a5)), (6, (1, x7))]) [2, 3, 0] rfl ?_
    exact cj_Model_word_39 hd h
def j_Model_word_11 (M : Mm) (a2 : Int) (a3 : Int) (a4 : Int) (a5 : Int) (z6 : Int) : Option (Int) :=
  if a2 ≤ 0 then
  j_Model_word_25 M a3 a4 a5 z6
  else
  lt ((lOr (lShl z6 8) a2)) (fun x8 : Int =>
  j_Model_word_25 M a3 a4 a5 x8)
theorem cj_Model_word_11 {X : XX} {d : Nat} (hd : 0 ≤ d) {M : Mm} {a2 : Int} {a3 : Int} {a4 : Int} {a5 : Int} {z6 : Int} {p : Int} (h : j_Model_word_11 M a2 a3 a4 a5 z6 = some p) : Ev X m_Model_word d 11 [(2, (0, a2)), (3, (0, a3)), (4, (0, a4)), (5, (0, a5)), (6, (1, z6))] [] M (some (1, p)) M := by
  unfold j_Model_word_11 at h
  refine ev_iload_n 0 d_Model_word_11 rfl rfl ?_
  by_cases hc2 : a2 ≤ 0
  · replace h := itp hc2 h
    refine ev_if_le_t (tgt := 25) d_Model_word_12 (by decide) hc2 ?_
    refine ev_less (L' := [(3, (0, a3)), (4, (0, a4)), (5, (0, a5)), (6, (1, z6))]) [1, 2, 3, 4] rfl ?_
    exact cj_Model_word_25 hd h
  · replace h := itn hc2 h
    refine ev_if_le_f d_Model_word_12 (by decide) hc2 ?_
    refine ev_lload 4 d_Model_word_15 rfl ?_
    refine ev_bipush d_Model_word_17 rfl ?_
    refine ev_lshl d_Model_word_19 ?_
    refine ev_iload_n 0 d_Model_word_20 rfl rfl ?_
    refine ev_i2l d_Model_word_21 ?_
    refine ev_lor d_Model_word_22 ?_
    obtain ⟨x8, hx8, h⟩ := ltx h
    refine ev_lstore' (y := x8) (L' := [(6, (1, x8)), (2, (0, a2)), (3, (0, a3)), (4, (0, a4)), (5, (0, a5))]) d_Model_word_23 (by decide) rfl hx8 ?_
    refine ev_less (L' := [(3, (0, a3)), (4, (0, a4)), (5, (0, a5)), (6, (1, x8))]) [2, 3, 4, 0] rfl ?_
    exact cj_Model_word_25 hd h
def f_Model_word (M : Mm) (a0 : Int) (a1 : Int) (a2 : Int) (a3 : Int) (a4 : Int) (a5 : Int) : Option (Int) :=
  if a1 ≤ 0 then
  j_Model_word_11 M a2 a3 a4 a5 0
  else
  j_Model_word_11 M a2 a3 a4 a5 a1
theorem c_Model_word {X : XX} {d : Nat} (hd : 0 ≤ d) {M : Mm} {a0 : Int} {a1 : Int} {a2 : Int} {a3 : Int} {a4 : Int} {a5 : Int} (hn_a0 : a0 ≠ 0) {p : Int} (h : f_Model_word M a0 a1 a2 a3 a4 a5 = some p) : Rn X d m_Model_word [(12, a0), (0, a1), (0, a2), (0, a3), (0, a4), (0, a5)] M (some (1, p)) M := by
  refine Rn_of (by decide) rfl (Nat.le_of_ble_eq_true rfl) ?_
  unfold f_Model_word at h
  refine ev_less (L' := [(0, (12, a0)), (1, (0, a1)), (2, (0, a2)), (3, (0, a3)), (4, (0, a4)), (5, (0, a5))]) [0, 1, 2, 3, 4, 5] rfl ?_
  refine ev_lconst (v := 0) d_Model_word_0 rfl rfl ?_
  refine ev_lstore (L' := [(6, (1, 0)), (0, (12, a0)), (1, (0, a1)), (2, (0, a2)), (3, (0, a3)), (4, (0, a4)), (5, (0, a5))]) d_Model_word_1 (by decide) rfl ?_
  refine ev_iload_n 2 d_Model_word_3 rfl rfl ?_
  by_cases hc1 : a1 ≤ 0
  · replace h := itp hc1 h
    refine ev_if_le_t (tgt := 11) d_Model_word_4 (by decide) hc1 ?_
    refine ev_less (L' := [(2, (0, a2)), (3, (0, a3)), (4, (0, a4)), (5, (0, a5)), (6, (1, 0))]) [3, 4, 5, 6, 0] rfl ?_
    exact cj_Model_word_11 hd h
  · replace h := itn hc1 h
    refine ev_if_le_f d_Model_word_4 (by decide) hc1 ?_
    refine ev_iload_n 2 d_Model_word_7 rfl rfl ?_
    refine ev_i2l d_Model_word_8 ?_
    refine ev_lstore (L' := [(6, (1, a1)), (0, (12, a0)), (1, (0, a1)), (2, (0, a2)), (3, (0, a3)), (4, (0, a4)), (5, (0, a5))]) d_Model_word_9 (by decide) rfl ?_
    refine ev_less (L' := [(2, (0, a2)), (3, (0, a3)), (4, (0, a4)), (5, (0, a5)), (6, (1, a1))]) [3, 4, 5, 6, 0] rfl ?_
    exact cj_Model_word_11 hd h
end
