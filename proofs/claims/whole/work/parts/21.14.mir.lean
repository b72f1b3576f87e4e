noncomputable section
def j_Model_open_34_4 (M : Mm) (a0 : Int) (z1 : Int) (z2 : Int) : Option ((Int × Int) ⊕ (Int)) :=
  lt ((w32 (z1 + 1))) (fun x5 : Int =>
  lt (w32 (z2 + 1)) (fun x6 : Int =>
  some (.inl (x5, x6))))
theorem cj_Model_open_34_4 {X : XX} {d : Nat} (hd : 0 ≤ d) {M : Mm} {a0 : Int} {z1 : Int} {z2 : Int} (hn_a0 : a0 ≠ 0) {x : (Int × Int) ⊕ (Int)} {r : Option AV} {M' : Mm} (h : j_Model_open_34_4 M a0 z1 z2 = some x) (hk1 : ∀ s : Int × Int, x = .inl s → Ev X m_Model_open d 4 [(0, (12, a0)), (1, (0, s.1)), (2, (0, s.2))] [] M r M') (hk2 : ∀ t : Int, x = .inr t → Ev X m_Model_open d 44 [(1, (0, t))] [] M r M') : Ev X m_Model_open d 34 [(0, (12, a0)), (1, (0, z1)), (2, (0, z2))] [] M r M' := by
  unfold j_Model_open_34_4 at h
  refine ev_iload_n 1 d_Model_open_34 rfl rfl ?_
  refine ev_iconst d_Model_open_35 rfl ?_
  refine ev_iadd d_Model_open_36 ?_
  obtain ⟨x5, hx5, h⟩ := ltx h
  refine ev_istore_n' (y := x5) (L' := [(1, (0, x5)), (0, (12, a0)), (2, (0, z2))]) d_Model_open_37 rfl (by decide) rfl hx5 ?_
  obtain ⟨x6, hx6, h⟩ := ltx h
  refine ev_iinc' 2 (y := x6) (L' := [(2, (0, x6)), (1, (0, x5)), (0, (12, a0))]) d_Model_open_38 rfl (by decide) rfl hx6 ?_
  refine ev_goto (tgt := 4) d_Model_open_41 (by decide) ?_
  refine ev_less (L' := [(0, (12, a0)), (1, (0, x5)), (2, (0, x6))]) [2, 1, 0] rfl ?_
  cases h
  exact hk1 _ rfl
def l_Model_open_4 (M : Mm) (a0 : Int) (s : Int × Int) : Option ((Int × Int) ⊕ (Int)) :=
  if (mg M (cI a0) 44) ≤ s.2 then
  some (.inr s.1)
  else
  if (mg M (cI a0) 45) ≠ 0 then
  if (0 : Int) ≤ s.2 ∧ s.2 < (ml M (cI (mg M (cI a0) 45)) : Int) then
  if (mg M (cI (mg M (cI a0) 45)) (s.2 : Int).toNat) = 33 then
  j_Model_open_34_4 M a0 s.1 s.2
  else
  if (mg M (cI (mg M (cI a0) 45)) (s.2 : Int).toNat) ≠ 40 then
  lt (w32 (s.2 + 1)) (fun x8 : Int =>
  some (.inl (s.1, x8)))
  else
  j_Model_open_34_4 M a0 s.1 s.2
  else none
  else none
theorem cs_l_Model_open_4 {X : XX} {d : Nat} (hd : 0 ≤ d) {M : Mm} {a0 : Int} (hn_a0 : a0 ≠ 0) {s : Int × Int} {x : (Int × Int) ⊕ (Int)} {r : Option AV} {M' : Mm} (h : l_Model_open_4 M a0 s = some x) (hk1 : ∀ s : Int × Int, x = .inl s → Ev X m_Model_open d 4 [(0, (12, a0)), (1, (0, s.1)), (2, (0, s.2))] [] M r M') (hk2 : ∀ t : Int, x = .inr t → Ev X m_Model_open d 44 [(1, (0, t))] [] M r M') : Ev X m_Model_open d 4 [(0, (12, a0)), (1, (0, s.1)), (2, (0, s.2))] [] M r M' := by
  unfold l_Model_open_4 at h
  refine ev_iload_n 2 d_Model_open_4 rfl rfl ?_
  refine ev_aload_n 0 d_Model_open_5 rfl (by decide) rfl ?_
  refine ev_get (t := 12) (k := 44) (by decide) (by decide) rfl i_Model (by decide) rfl rfl tw_944 d_Model_open_6 hn_a0 ?_
  by_cases hc1 : (mg M (cI a0) 44) ≤ s.2
  · replace h := itp hc1 h
    refine ev_icmp_ge_t (tgt := 44) d_Model_open_9 (by decide) hc1 ?_
    refine ev_less (L' := [(1, (0, s.1))]) [1] rfl ?_
    cases h
    exact hk2 _ rfl
  · replace h := itn hc1 h
    refine ev_icmp_ge_f d_Model_open_9 (by decide) hc1 ?_
    refine ev_aload_n 0 d_Model_open_12 rfl (by decide) rfl ?_
    refine ev_get (t := 12) (k := 45) (by decide) (by decide) rfl i_Model (by decide) rfl rfl tw_945 d_Model_open_13 hn_a0 ?_
    refine ev_iload_n 2 d_Model_open_16 rfl rfl ?_
    obtain ⟨hz2, h⟩ := gx h
    obtain ⟨hg3, h⟩ := gx h
    refine ev_iald d_Model_open_17 hz2 hg3 ?_
    refine ev_bipush d_Model_open_18 rfl ?_
    by_cases hc4 : (mg M (cI (mg M (cI a0) 45)) (s.2 : Int).toNat) = 33
    · replace h := itp hc4 h
      refine ev_icmp_eq_t (tgt := 34) d_Model_open_20 (by decide) hc4 ?_
      exact cj_Model_open_34_4 hd hn_a0 h hk1 hk2
    · replace h := itn hc4 h
      refine ev_icmp_eq_f d_Model_open_20 (by decide) hc4 ?_
      refine ev_aload_n 0 d_Model_open_23 rfl (by decide) rfl ?_
      refine ev_get (t := 12) (k := 45) (by decide) (by decide) rfl i_Model (by decide) rfl rfl tw_945 d_Model_open_24 hn_a0 ?_
      refine ev_iload_n 2 d_Model_open_27 rfl rfl ?_
      refine ev_iald d_Model_open_28 hz2 hg3 ?_
      refine ev_bipush d_Model_open_29 rfl ?_
      by_cases hc7 : (mg M (cI (mg M (cI a0) 45)) (s.2 : Int).toNat) ≠ 40
      · replace h := itp hc7 h
        refine ev_icmp_ne_t (tgt := 38) d_Model_open_31 (by decide) hc7 ?_
        obtain ⟨x8, hx8, h⟩ := ltx h
        refine ev_iinc' 2 (y := x8) (L' := [(2, (0, x8)), (0, (12, a0)), (1, (0, s.1))]) d_Model_open_38 rfl (by decide) rfl hx8 ?_
        refine ev_goto (tgt := 4) d_Model_open_41 (by decide) ?_
        refine ev_less (L' := [(0, (12, a0)), (1, (0, s.1)), (2, (0, x8))]) [1, 2, 0] rfl ?_
        cases h
        exact hk1 _ rfl
      · replace h := itn hc7 h
        refine ev_icmp_ne_f d_Model_open_31 (by decide) hc7 ?_
        exact cj_Model_open_34_4 hd hn_a0 h hk1 hk2
def f_Model_open (M : Mm) (a0 : Int) : Option (Int) :=
  (loopN (l_Model_open_4 M a0) FU (0, 0)).bind (fun t9 =>
  some t9)
theorem c_Model_open {X : XX} {d : Nat} (hd : 0 ≤ d) {M : Mm} {a0 : Int} (hn_a0 : a0 ≠ 0) {p : Int} (h : f_Model_open M a0 = some p) : Rn X d m_Model_open [(12, a0)] M (some (0, p)) M := by
  refine Rn_of (by decide) rfl (Nat.le_of_ble_eq_true rfl) ?_
  unfold f_Model_open at h
  refine ev_less (L' := [(0, (12, a0))]) [0] rfl ?_
  refine ev_iconst d_Model_open_0 rfl ?_
  refine ev_istore_n (L' := [(1, (0, 0)), (0, (12, a0))]) d_Model_open_1 rfl (by decide) rfl ?_
  refine ev_iconst d_Model_open_2 rfl ?_
  refine ev_istore_n (L' := [(2, (0, 0)), (1, (0, 0)), (0, (12, a0))]) d_Model_open_3 rfl (by decide) rfl ?_
  obtain ⟨t9, ht9, h⟩ := bx h
  refine ev_less (L' := [(0, (12, a0)), (1, (0, 0)), (2, (0, 0))]) [2, 1, 0] rfl ?_
  refine loop_ev (step := l_Model_open_4 M a0) (P := fun w : Int × Int => Ev X m_Model_open d 4 [(0, (12, a0)), (1, (0, w.1)), (2, (0, w.2))] [] M (some (0, p)) M) (Q := fun w => Ev X m_Model_open d 44 [(1, (0, w))] [] M (some (0, p)) M) (fun w x hs k1 k2 => cs_l_Model_open_4 hd hn_a0 hs k1 k2) FU (0, 0) t9 ht9 ?_
  refine ev_iload_n 0 d_Model_open_44 rfl rfl ?_
  cases h
  exact ev_ret d_Model_open_45 rfl
def j_Model_value_128 (M : Mm) (y0 : Int) (y1 : Int) : Option (Int × Mm) :=
  (f_Model_does M y1 y0 0).bind (fun p12 =>
  some (1, p12))
theorem cj_Model_value_128 {X : XX} {d : Nat} (hd : 1 ≤ d) {M : Mm} {y0 : Int} {y1 : Int} (hn_y1 : y1 ≠ 0) {p : Int × Mm} (h : j_Model_value_128 M y0 y1 = some p) : Ev X m_Model_value d 128 [] [(0, y0), (12, y1)] M (some (0, p.1)) p.2 := by
  unfold j_Model_value_128 at h
  refine ev_iconst d_Model_value_128 rfl ?_
  obtain ⟨p12, hp12, h⟩ := bx h
  have hRp12 := c_Model_does (X := X) (d := d - 1) (by omega) hn_y1 hp12
  refine ev_callV2 (st2 := []) (as := [(0, y0), (0, 0)]) (rest := []) rfl (by decide) (by decide) rfl hn_y1 rfl (Nat.le_of_ble_eq_true rfl) k_Model_does ⟨tw_1309, ts_117⟩ (by omega) tw_1307 d_Model_value_129 hRp12 rfl ?_
  refine ev_goto (tgt := 141) d_Model_value_132 (by decide) ?_
  refine ev_iconst d_Model_value_141 rfl ?_
  cases h
  exact ev_retZ d_Model_value_142 rfl (Or.inr rfl)
def f_Model_value (M : Mm) (a0 : Int) : Option (Int × Mm) :=
  if (mg M (cI a0) 32) ≠ 4 then
  if (mg M (cI a0) 32) ≠ 2 then
  (f_Model_fails M a0 1).bind (fun p3 =>
  some (p3.1, p3.2))
  else
  (f_Model_word M a0 97 103 101 0 0).bind (fun p4 =>
  if (mg M (cI a0) 34) ≠ p4 then
  (f_Model_word M a0 100 97 121 115 0).bind (fun p6 =>
  if (mg M (cI a0) 34) ≠ p6 then
  (f_Model_word M a0 112 97 115 116 0).bind (fun p8 =>
  if (mg M (cI a0) 34) ≠ p8 then
  (f_Model_word M a0 111 117 116 0 0).bind (fun p10 =>
  if (mg M (cI a0) 34) ≠ p10 then
  j_Model_value_128 M 5 a0
  else
  j_Model_value_128 M 4 a0)
  else
  j_Model_value_128 M 3 a0)
  else
  j_Model_value_128 M 2 a0)
  else
  j_Model_value_128 M 1 a0)
  else
  (f_Model_does M a0 0 (mg M (cI a0) 33)).bind (fun p13 =>
  some (1, p13))
theorem c_Model_value {X : XX} {d : Nat} (hd : 1 ≤ d) {M : Mm} {a0 : Int} (hn_a0 : a0 ≠ 0) {p : Int × Mm} (h : f_Model_value M a0 = some p) : Rn X d m_Model_value [(12, a0)] M (some (0, p.1)) p.2 := by
  refine Rn_of (by decide) rfl (Nat.le_of_ble_eq_true rfl) ?_
  unfold f_Model_value at h
  refine ev_less (L' := [(0, (12, a0))]) [0] rfl ?_
  refine ev_aload_n 0 d_Model_value_0 rfl (by decide) rfl ?_
  refine ev_get (t := 12) (k := 32) (by decide) (by decide) rfl i_Model (by decide) rfl rfl tw_932 d_Model_value_1 hn_a0 ?_
  refine ev_iconst d_Model_value_4 rfl ?_
  by_cases hc1 : (mg M (cI a0) 32) ≠ 4
  · replace h := itp hc1 h
    refine ev_icmp_ne_t (tgt := 20) d_Model_value_5 (by decide) hc1 ?_
    refine ev_aload_n 0 d_Model_value_20 rfl (by decide) rfl ?_
    refine ev_get (t := 12) (k := 32) (by decide) (by decide) rfl i_Model (by decide) rfl rfl tw_932 d_Model_value_21 hn_a0 ?_
    refine ev_iconst d_Model_value_24 rfl ?_
    by_cases hc2 : (mg M (cI a0) 32) ≠ 2
    · replace h := itp hc2 h
      refine ev_icmp_ne_t (tgt := 135) d_Model_value_25 (by decide) hc2 ?_
      refine ev_aload_n 0 d_Model_value_135 rfl (by decide) rfl ?_
      refine ev_iconst d_Model_value_136 rfl ?_
      obtain ⟨p3, hp3, h⟩ := bx h
      have hRp3 := c_Model_fails (X := X) (d := d - 1) (by omega) hn_a0 hp3
      refine ev_callV2 (st2 := [(0, p3.1)]) (as := [(0, 1)]) (rest := []) rfl (by decide) (by decide) rfl hn_a0 rfl (Nat.le_of_ble_eq_true rfl) k_Model_fails ⟨tw_1269, ts_108⟩ (by omega) tw_1267 d_Model_value_137 hRp3 rfl ?_
      cases h
      exact ev_retZ d_Model_value_140 rfl (hRp3.2.1 _ rfl rfl)
    · replace h := itn hc2 h
      refine ev_icmp_ne_f d_Model_value_25 (by decide) hc2 ?_
      refine ev_aload_n 0 d_Model_value_28 rfl (by decide) rfl ?_
      refine ev_aload_n 0 d_Model_value_29 rfl (by decide) rfl ?_
      refine ev_get (t := 12) (k := 34) (by decide) (by decide) rfl i_Model (by decide) rfl rfl tw_934 d_Model_value_30 hn_a0 ?_
      refine ev_aload_n 0 d_Model_value_33 rfl (by decide) rfl ?_
      refine ev_bipush d_Model_value_34 rfl ?_
      refine ev_bipush d_Model_value_36 rfl ?_
      refine ev_bipush d_Model_value_38 rfl ?_
      refine ev_iconst d_Model_value_40 rfl ?_
      refine ev_iconst d_Model_value_41 rfl ?_
      obtain ⟨p4, hp4, h⟩ := bx h
      have hRp4 := c_Model_word (X := X) (d := d - 1) (by omega) hn_a0 hp4
      refine ev_callV2 (st2 := [(1, p4), (1, (mg M (cI a0) 34)), (12, a0)]) (as := [(0, 97), (0, 103), (0, 101), (0, 0), (0, 0)]) (rest := [(1, (mg M (cI a0) 34)), (12, a0)]) rfl (by decide) (by decide) rfl hn_a0 rfl (Nat.le_of_ble_eq_true rfl) k_Model_word ⟨tw_1249, ts_103⟩ (by omega) tw_1247 d_Model_value_42 hRp4 rfl ?_
      refine ev_lcmp d_Model_value_45 ?_
      by_cases hc5 : (mg M (cI a0) 34) ≠ p4
      · replace h := itp hc5 h
        refine ev_if_ne_t (tgt := 53) d_Model_value_46 (by decide) ((lC_ne _ _).mpr hc5) ?_
        refine ev_aload_n 0 d_Model_value_53 rfl (by decide) rfl ?_
        refine ev_get (t := 12) (k := 34) (by decide) (by decide) rfl i_Model (by decide) rfl rfl tw_934 d_Model_value_54 hn_a0 ?_
        refine ev_aload_n 0 d_Model_value_57 rfl (by decide) rfl ?_
        refine ev_bipush d_Model_value_58 rfl ?_
        refine ev_bipush d_Model_value_60 rfl ?_
        refine ev_bipush d_Model_value_62 rfl ?_
        refine ev_bipush d_Model_value_64 rfl ?_
        refine ev_iconst d_Model_value_66 rfl ?_
        obtain ⟨p6, hp6, h⟩ := bx h
        have hRp6 := c_Model_word (X := X) (d := d - 1) (by omega) hn_a0 hp6
        refine ev_callV2 (st2 := [(1, p6), (1, (mg M (cI a0) 34)), (12, a0)]) (as := [(0, 100), (0, 97), (0, 121), (0, 115), (0, 0)]) (rest := [(1, (mg M (cI a0) 34)), (12, a0)]) rfl (by decide) (by decide) rfl hn_a0 rfl (Nat.le_of_ble_eq_true rfl) k_Model_word ⟨tw_1249, ts_103⟩ (by omega) tw_1247 d_Model_value_67 hRp6 rfl ?_
        refine ev_lcmp d_Model_value_70 ?_
        by_cases hc7 : (mg M (cI a0) 34) ≠ p6
        · replace h := itp hc7 h
          refine ev_if_ne_t (tgt := 78) d_Model_value_71 (by decide) ((lC_ne _ _).mpr hc7) ?_
          refine ev_aload_n 0 d_Model_value_78 rfl (by decide) rfl ?_
          refine ev_get (t := 12) (k := 34) (by decide) (by decide) rfl i_Model (by decide) rfl rfl tw_934 d_Model_value_79 hn_a0 ?_
          refine ev_aload_n 0 d_Model_value_82 rfl (by decide) rfl ?_
          refine ev_bipush d_Model_value_83 rfl ?_
          refine ev_bipush d_Model_value_85 rfl ?_
          refine ev_bipush d_Model_value_87 rfl ?_
          refine ev_bipush d_Model_value_89 rfl ?_
          refine ev_iconst d_Model_value_91 rfl ?_
          obtain ⟨p8, hp8, h⟩ := bx h
          have hRp8 := c_Model_word (X := X) (d := d - 1) (by omega) hn_a0 hp8
          refine ev_callV2 (st2 := [(1, p8), (1, (mg M (cI a0) 34)), (12, a0)]) (as := [(0, 112), (0, 97), (0, 115), (0, 116), (0, 0)]) (rest := [(1, (mg M (cI a0) 34)), (12, a0)]) rfl (by decide) (by decide) rfl hn_a0 rfl (Nat.le_of_ble_eq_true rfl) k_Model_word ⟨tw_1249, ts_103⟩ (by omega) tw_1247 d_Model_value_92 hRp8 rfl ?_
          refine ev_lcmp d_Model_value_95 ?_
          by_cases hc9 : (mg M (cI a0) 34) ≠ p8
          · replace h := itp hc9 h
            refine ev_if_ne_t (tgt := 103) d_Model_value_96 (by decide) ((lC_ne _ _).mpr hc9) ?_
            refine ev_aload_n 0 d_Model_value_103 rfl (by decide) rfl ?_
            refine ev_get (t := 12) (k := 34) (by decide) (by decide) rfl i_Model (by decide) rfl rfl tw_934 d_Model_value_104 hn_a0 ?_
            refine ev_aload_n 0 d_Model_value_107 rfl (by decide) rfl ?_
            refine ev_bipush d_Model_value_108 rfl ?_
            refine ev_bipush d_Model_value_110 rfl ?_
            refine ev_bipush d_Model_value_112 rfl ?_
            refine ev_iconst d_Model_value_114 rfl ?_
            refine ev_iconst d_Model_value_115 rfl ?_
            obtain ⟨p10, hp10, h⟩ := bx h
            have hRp10 := c_Model_word (X := X) (d := d - 1) (by omega) hn_a0 hp10
            refine ev_callV2 (st2 := [(1, p10), (1, (mg M (cI a0) 34)), (12, a0)]) (as := [(0, 111), (0, 117), (0, 116), (0, 0), (0, 0)]) (rest := [(1, (mg M (cI a0) 34)), (12, a0)]) rfl (by decide) (by decide) rfl hn_a0 rfl (Nat.le_of_ble_eq_true rfl) k_Model_word ⟨tw_1249, ts_103⟩ (by omega) tw_1247 d_Model_value_116 hRp10 rfl ?_
            refine ev_lcmp d_Model_value_119 ?_
            by_cases hc11 : (mg M (cI a0) 34) ≠ p10
            · replace h := itp hc11 h
              refine ev_if_ne_t (tgt := 127) d_Model_value_120 (by decide) ((lC_ne _ _).mpr hc11) ?_
              refine ev_iconst d_Model_value_127 rfl ?_
              refine ev_less (L' := []) [] rfl ?_
              exact cj_Model_value_128 hd hn_a0 h
            · replace h := itn hc11 h
              refine ev_if_ne_f d_Model_value_120 (by decide) (fun z => hc11 ((lC_ne _ _).mp z)) ?_
              refine ev_iconst d_Model_value_123 rfl ?_
              refine ev_goto (tgt := 128) d_Model_value_124 (by decide) ?_
              refine ev_less (L' := []) [] rfl ?_
              exact cj_Model_value_128 hd hn_a0 h
          · replace h := itn hc9 h
            refine ev_if_ne_f d_Model_value_96 (by decide) (fun z => hc9 ((lC_ne _ _).mp z)) ?_
            refine ev_iconst d_Model_value_99 rfl ?_
            refine ev_goto (tgt := 128) d_Model_value_100 (by decide) ?_
            refine ev_less (L' := []) [] rfl ?_
            exact cj_Model_value_128 hd hn_a0 h
        · replace h := itn hc7 h
          refine ev_if_ne_f d_Model_value_71 (by decide) (fun z => hc7 ((lC_ne _ _).mp z)) ?_
          refine ev_iconst d_Model_value_74 rfl ?_
          refine ev_goto (tgt := 128) d_Model_value_75 (by decide) ?_
          refine ev_less (L' := []) [] rfl ?_
          exact cj_Model_value_128 hd hn_a0 h
      · replace h := itn hc5 h
        refine ev_if_ne_f d_Model_value_46 (by decide) (fun z => hc5 ((lC_ne _ _).mp z)) ?_
        refine ev_iconst d_Model_value_49 rfl ?_
        refine ev_goto (tgt := 128) d_Model_value_50 (by decide) ?_
        refine ev_less (L' := []) [] rfl ?_
        exact cj_Model_value_128 hd hn_a0 h
  · replace h := itn hc1 h
    refine ev_icmp_ne_f d_Model_value_5 (by decide) hc1 ?_
    refine ev_aload_n 0 d_Model_value_8 rfl (by decide) rfl ?_
    refine ev_iconst d_Model_value_9 rfl ?_
    refine ev_aload_n 0 d_Model_value_10 rfl (by decide) rfl ?_
    refine ev_get (t := 12) (k := 33) (by decide) (by decide) rfl i_Model (by decide) rfl rfl tw_933 d_Model_value_11 hn_a0 ?_
    obtain ⟨p13, hp13, h⟩ := bx h
    have hRp13 := c_Model_does (X := X) (d := d - 1) (by omega) hn_a0 hp13
    refine ev_callV2 (st2 := []) (as := [(0, 0), (0, (mg M (cI a0) 33))]) (rest := []) rfl (by decide) (by decide) rfl hn_a0 rfl (Nat.le_of_ble_eq_true rfl) k_Model_does ⟨tw_1309, ts_117⟩ (by omega) tw_1307 d_Model_value_14 hRp13 rfl ?_
    refine ev_goto (tgt := 141) d_Model_value_17 (by decide) ?_
    refine ev_iconst d_Model_value_141 rfl ?_
    cases h
    exact ev_retZ d_Model_value_142 rfl (Or.inr rfl)
def f_Model_step (M : Mm) (a0 : Int) : Option (Mm) :=
  lt (mp M (cI a0) 47 (w32 ((mg M (cI a0) 47) + 1))) (fun M1 =>
  (f_Model_next M1 a0 1).bind (fun p2 =>
  some p2))
theorem c_Model_step {X : XX} {d : Nat} (hd : 3 ≤ d) {M : Mm} {a0 : Int} (hn_a0 : a0 ≠ 0) {p : Mm} (h : f_Model_step M a0 = some p) : Rn X d m_Model_step [(12, a0)] M none p := by
  refine Rn_of (by decide) rfl (Nat.le_of_ble_eq_true rfl) ?_
  unfold f_Model_step at h
  refine ev_less (L' := [(0, (12, a0))]) [0] rfl ?_
  refine ev_aload_n 0 d_Model_step_0 rfl (by decide) rfl ?_
  refine ev_aload_n 0 d_Model_step_1 rfl (by decide) rfl ?_
  refine ev_get (t := 12) (k := 47) (by decide) (by decide) rfl i_Model (by decide) rfl rfl tw_947 d_Model_step_2 hn_a0 ?_
  refine ev_iconst d_Model_step_5 rfl ?_
  refine ev_iadd d_Model_step_6 ?_
  obtain ⟨M1, hM1, h⟩ := ltx h
  refine ev_put' (t := 12) (k := 47) (by decide) (by decide) rfl i_Model t_Model_ok n_Model (by decide) rfl rfl rfl rfl tw_947 d_Model_step_7 hn_a0 hM1 ?_
  refine ev_aload_n 0 d_Model_step_10 rfl (by decide) rfl ?_
  refine ev_iconst d_Model_step_11 rfl ?_
  obtain ⟨p2, hp2, h⟩ := bx h
  have hRp2 := c_Model_next (X := X) (d := d - 1) (by omega) hn_a0 hp2
  refine ev_callV2 (st2 := []) (as := [(0, 1)]) (rest := []) rfl (by decide) (by decide) rfl hn_a0 rfl (Nat.le_of_ble_eq_true rfl) k_Model_next ⟨tw_1233, ts_99⟩ (by omega) tw_1231 d_Model_step_12 hRp2 rfl ?_
  cases h
  exact ev_retV d_Model_step_15 rfl
def j_Model_readSums_105_2 (M : Mm) (a0 : Int) (z1 : Int) : Option ((Int × Mm) ⊕ ((Int × Mm) ⊕ (Int × Mm))) :=
  if (mg M (cI a0) 45) ≠ 0 then
  if (0 : Int) ≤ (mg M (cI a0) 44) ∧ (mg M (cI a0) 44) < (ml M (cI (mg M (cI a0) 45)) : Int) then
  lt (mp M (cI (mg M (cI a0) 45)) ((mg M (cI a0) 44) : Int).toNat (mg M (cI a0) 33)) (fun M9 =>
  lt (mp M9 (cI a0) 44 (w32 ((mg M9 (cI a0) 44) + 1))) (fun M10 =>
  (f_Model_step M10 a0).bind (fun p11 =>
  some (.inl (z1, p11)))))
  else none
  else none
theorem cj_Model_readSums_105_2 {X : XX} {d : Nat} (hd : 4 ≤ d) {M : Mm} {a0 : Int} {z1 : Int} (hn_a0 : a0 ≠ 0) {x : (Int × Mm) ⊕ ((Int × Mm) ⊕ (Int × Mm))} {r : Option AV} {M' : Mm} (h : j_Model_readSums_105_2 M a0 z1 = some x) (hk1 : ∀ s : Int × Mm, x = .inl s → Ev X m_Model_readSums d 2 [(0, (12, a0)), (1, (0, s.1))] [] s.2 r M') (hk2 : ∀ q : Int × Mm, x = .inr (.inl q) → r = some (0, q.1) ∧ M' = q.2) (hk3 : ∀ t : Int × Mm, x = .inr (.inr t) → Ev X m_Model_readSums d 82 [(0, (12, a0)), (1, (0, t.1))] [] t.2 r M') : Ev X m_Model_readSums d 105 [(0, (12, a0)), (1, (0, z1))] [] M r M' := by
  unfold j_Model_readSums_105_2 at h
  refine ev_aload_n 0 d_Model_readSums_105 rfl (by decide) rfl ?_
  refine ev_get (t := 12) (k := 45) (by decide) (by decide) rfl i_Model (by decide) rfl rfl tw_945 d_Model_readSums_106 hn_a0 ?_
  refine ev_aload_n 0 d_Model_readSums_109 rfl (by decide) rfl ?_
  refine ev_get (t := 12) (k := 44) (by decide) (by decide) rfl i_Model (by decide) rfl rfl tw_944 d_Model_readSums_110 hn_a0 ?_
  refine ev_aload_n 0 d_Model_readSums_113 rfl (by decide) rfl ?_
  refine ev_get (t := 12) (k := 33) (by decide) (by decide) rfl i_Model (by decide) rfl rfl tw_933 d_Model_readSums_114 hn_a0 ?_
  obtain ⟨hz7, h⟩ := gx h
  obtain ⟨hg8, h⟩ := gx h
  obtain ⟨M9, hM9, h⟩ := ltx h
  refine ev_iast' d_Model_readSums_117 hz7 hg8 hM9 ?_
  refine ev_aload_n 0 d_Model_readSums_118 rfl (by decide) rfl ?_
  refine ev_aload_n 0 d_Model_readSums_119 rfl (by decide) rfl ?_
  refine ev_get (t := 12) (k := 44) (by decide) (by decide) rfl i_Model (by decide) rfl rfl tw_944 d_Model_readSums_120 hn_a0 ?_
  refine ev_iconst d_Model_readSums_123 rfl ?_
  refine ev_iadd d_Model_readSums_124 ?_
  obtain ⟨M10, hM10, h⟩ := ltx h
  refine ev_put' (t := 12) (k := 44) (by decide) (by decide) rfl i_Model t_Model_ok n_Model (by decide) rfl rfl rfl rfl tw_944 d_Model_readSums_125 hn_a0 hM10 ?_
  refine ev_aload_n 0 d_Model_readSums_128 rfl (by decide) rfl ?_
  obtain ⟨p11, hp11, h⟩ := bx h
  have hRp11 := c_Model_step (X := X) (d := d - 1) (by omega) hn_a0 hp11
  refine ev_callV2 (st2 := []) (as := []) (rest := []) rfl (by decide) (by decide) rfl hn_a0 rfl (Nat.le_of_ble_eq_true rfl) k_Model_step ⟨tw_1297, ts_114⟩ (by omega) tw_1295 d_Model_readSums_129 hRp11 rfl ?_
  refine ev_goto (tgt := 2) d_Model_readSums_132 (by decide) ?_
  cases h
  exact hk1 _ rfl
def j_Model_readSums_33_2 (M : Mm) (a0 : Int) (z1 : Int) : Option ((Int × Mm) ⊕ ((Int × Mm) ⊕ (Int × Mm))) :=
  (f_Model_settles M a0 4).bind (fun p6 =>
  j_Model_readSums_105_2 p6 a0 z1)
theorem cj_Model_readSums_33_2 {X : XX} {d : Nat} (hd : 4 ≤ d) {M : Mm} {a0 : Int} {z1 : Int} (hn_a0 : a0 ≠ 0) {x : (Int × Mm) ⊕ ((Int × Mm) ⊕ (Int × Mm))} {r : Option AV} {M' : Mm} (h : j_Model_readSums_33_2 M a0 z1 = some x) (hk1 : ∀ s : Int × Mm, x = .inl s → Ev X m_Model_readSums d 2 [(0, (12, a0)), (1, (0, s.1))] [] s.2 r M') (hk2 : ∀ q : Int × Mm, x = .inr (.inl q) → r = some (0, q.1) ∧ M' = q.2) (hk3 : ∀ t : Int × Mm, x = .inr (.inr t) → Ev X m_Model_readSums d 82 [(0, (12, a0)), (1, (0, t.1))] [] t.2 r M') : Ev X m_Model_readSums d 33 [(0, (12, a0)), (1, (0, z1))] [] M r M' := by
  unfold j_Model_readSums_33_2 at h
  refine ev_aload_n 0 d_Model_readSums_33 rfl (by decide) rfl ?_
  refine ev_iconst d_Model_readSums_34 rfl ?_
  obtain ⟨p6, hp6, h⟩ := bx h
  have hRp6 := c_Model_settles (X := X) (d := d - 1) (by omega) hn_a0 hp6
  refine ev_callV2 (st2 := []) (as := [(0, 4)]) (rest := []) rfl (by decide) (by decide) rfl hn_a0 rfl (Nat.le_of_ble_eq_true rfl) k_Model_settles ⟨tw_1313, ts_118⟩ (by omega) tw_1311 d_Model_readSums_35 hRp6 rfl ?_
  refine ev_goto (tgt := 105) d_Model_readSums_38 (by decide) ?_
  exact cj_Model_readSums_105_2 hd hn_a0 h hk1 hk2 hk3
def j_Model_readSums_72_2 (M : Mm) (a0 : Int) : Option ((Int × Mm) ⊕ ((Int × Mm) ⊕ (Int × Mm))) :=
  (f_Model_settles M a0 4).bind (fun p17 =>
  j_Model_readSums_105_2 p17 a0 1)
theorem cj_Model_readSums_72_2 {X : XX} {d : Nat} (hd : 4 ≤ d) {M : Mm} {a0 : Int} (hn_a0 : a0 ≠ 0) {x : (Int × Mm) ⊕ ((Int × Mm) ⊕ (Int × Mm))} {r : Option AV} {M' : Mm} (h : j_Model_readSums_72_2 M a0 = some x) (hk1 : ∀ s : Int × Mm, x = .inl s → Ev X m_Model_readSums d 2 [(0, (12, a0)), (1, (0, s.1))] [] s.2 r M') (hk2 : ∀ q : Int × Mm, x = .inr (.inl q) → r = some (0, q.1) ∧ M' = q.2) (hk3 : ∀ t : Int × Mm, x = .inr (.inr t) → Ev X m_Model_readSums d 82 [(0, (12, a0)), (1, (0, t.1))] [] t.2 r M') : Ev X m_Model_readSums d 72 [(0, (12, a0))] [] M r M' := by
  unfold j_Model_readSums_72_2 at h
  refine ev_aload_n 0 d_Model_readSums_72 rfl (by decide) rfl ?_
  refine ev_iconst d_Model_readSums_73 rfl ?_
  obtain ⟨p17, hp17, h⟩ := bx h
  have hRp17 := c_Model_settles (X := X) (d := d - 1) (by omega) hn_a0 hp17
  refine ev_callV2 (st2 := []) (as := [(0, 4)]) (rest := []) rfl (by decide) (by decide) rfl hn_a0 rfl (Nat.le_of_ble_eq_true rfl) k_Model_settles ⟨tw_1313, ts_118⟩ (by omega) tw_1311 d_Model_readSums_74 hRp17 rfl ?_
  refine ev_iconst d_Model_readSums_77 rfl ?_
  refine ev_istore_n (L' := [(1, (0, 1)), (0, (12, a0))]) d_Model_readSums_78 rfl (by decide) rfl ?_
  refine ev_goto (tgt := 105) d_Model_readSums_79 (by decide) ?_
  refine ev_less (L' := [(0, (12, a0)), (1, (0, 1))]) [1, 0] rfl ?_
  exact cj_Model_readSums_105_2 hd hn_a0 h hk1 hk2 hk3
def l_Model_readSums_2 (a0 : Int) (s : Int × Mm) : Option ((Int × Mm) ⊕ ((Int × Mm) ⊕ (Int × Mm))) :=
  (f_Model_value s.2 a0).bind (fun p1 =>
  if p1.1 ≠ 0 then
  (f_Model_step p1.2 a0).bind (fun p3 =>
  (f_Model_isSign p3 a0 43).bind (fun p4 =>
  if p4 ≠ 0 then
  j_Model_readSums_33_2 p3 a0 s.1
  else
  (f_Model_isSign p3 a0 45).bind (fun p12 =>
  if p12 = 0 then
  if s.1 ≠ 0 then
  some (.inr (.inr (s.1, p3)))
  else
  (f_Model_isSign p3 a0 60).bind (fun p15 =>
  if p15 ≠ 0 then
  j_Model_readSums_72_2 p3 a0
  else
  (f_Model_isSign p3 a0 61).bind (fun p18 =>
  if p18 ≠ 0 then
  j_Model_readSums_72_2 p3 a0
  else
  (f_Model_isSign p3 a0 62).bind (fun p20 =>
  if p20 = 0 then
  some (.inr (.inr (s.1, p3)))
  else
  j_Model_readSums_72_2 p3 a0)))
  else
  j_Model_readSums_33_2 p3 a0 s.1)))
  else
  some (.inr (.inl ((0, p1.2)))))
theorem cs_l_Model_readSums_2 {X : XX} {d : Nat} (hd : 4 ≤ d) {a0 : Int} (hn_a0 : a0 ≠ 0) {s : Int × Mm} {x : (Int × Mm) ⊕ ((Int × Mm) ⊕ (Int × Mm))} {r : Option AV} {M' : Mm} (h : l_Model_readSums_2 a0 s = some x) (hk1 : ∀ s : Int × Mm, x = .inl s → Ev X m_Model_readSums d 2 [(0, (12, a0)), (1, (0, s.1))] [] s.2 r M') (hk2 : ∀ q : Int × Mm, x = .inr (.inl q) → r = some (0, q.1) ∧ M' = q.2) (hk3 : ∀ t : Int × Mm, x = .inr (.inr t) → Ev X m_Model_readSums d 82 [(0, (12, a0)), (1, (0, t.1))] [] t.2 r M') : Ev X m_Model_readSums d 2 [(0, (12, a0)), (1, (0, s.1))] [] s.2 r M' := by
  unfold l_Model_readSums_2 at h
  refine ev_aload_n 0 d_Model_readSums_2 rfl (by decide) rfl ?_
  obtain ⟨p1, hp1, h⟩ := bx h
  have hRp1 := c_Model_value (X := X) (d := d - 1) (by omega) hn_a0 hp1
  refine ev_callV2 (st2 := [(0, p1.1)]) (as := []) (rest := []) rfl (by decide) (by decide) rfl hn_a0 rfl (Nat.le_of_ble_eq_true rfl) k_Model_value ⟨tw_1305, ts_116⟩ (by omega) tw_1303 d_Model_readSums_3 hRp1 rfl ?_
  by_cases hc2 : p1.1 ≠ 0
  · replace h := itp hc2 h
    refine ev_if_ne_t (tgt := 11) d_Model_readSums_6 (by decide) hc2 ?_
    refine ev_aload_n 0 d_Model_readSums_11 rfl (by decide) rfl ?_
    obtain ⟨p3, hp3, h⟩ := bx h
    have hRp3 := c_Model_step (X := X) (d := d - 1) (by omega) hn_a0 hp3
    refine ev_callV2 (st2 := []) (as := []) (rest := []) rfl (by decide) (by decide) rfl hn_a0 rfl (Nat.le_of_ble_eq_true rfl) k_Model_step ⟨tw_1297, ts_114⟩ (by omega) tw_1295 d_Model_readSums_12 hRp3 rfl ?_
    refine ev_aload_n 0 d_Model_readSums_15 rfl (by decide) rfl ?_
    refine ev_bipush d_Model_readSums_16 rfl ?_
    obtain ⟨p4, hp4, h⟩ := bx h
    have hRp4 := c_Model_isSign (X := X) (d := d - 1) (by omega) hn_a0 hp4
    refine ev_callV2 (st2 := [(0, p4)]) (as := [(0, 43)]) (rest := []) rfl (by decide) (by decide) rfl hn_a0 rfl (Nat.le_of_ble_eq_true rfl) k_Model_isSign ⟨tw_1273, ts_109⟩ (by omega) tw_1271 d_Model_readSums_18 hRp4 rfl ?_
    by_cases hc5 : p4 ≠ 0
    · replace h := itp hc5 h
      refine ev_if_ne_t (tgt := 33) d_Model_readSums_21 (by decide) hc5 ?_
      exact cj_Model_readSums_33_2 hd hn_a0 h hk1 hk2 hk3
    · replace h := itn hc5 h
      refine ev_if_ne_f d_Model_readSums_21 (by decide) hc5 ?_
      refine ev_aload_n 0 d_Model_readSums_24 rfl (by decide) rfl ?_
      refine ev_bipush d_Model_readSums_25 rfl ?_
      obtain ⟨p12, hp12, h⟩ := bx h
      have hRp12 := c_Model_isSign (X := X) (d := d - 1) (by omega) hn_a0 hp12
      refine ev_callV2 (st2 := [(0, p12)]) (as := [(0, 45)]) (rest := []) rfl (by decide) (by decide) rfl hn_a0 rfl (Nat.le_of_ble_eq_true rfl) k_Model_isSign ⟨tw_1273, ts_109⟩ (by omega) tw_1271 d_Model_readSums_27 hRp12 rfl ?_
      by_cases hc13 : p12 = 0
      · replace h := itp hc13 h
        refine ev_if_eq_t (tgt := 41) d_Model_readSums_30 (by decide) hc13 ?_
        refine ev_iload_n 1 d_Model_readSums_41 rfl rfl ?_
        by_cases hc14 : s.1 ≠ 0
        · replace h := itp hc14 h
          refine ev_if_ne_t (tgt := 82) d_Model_readSums_42 (by decide) hc14 ?_
          cases h
          exact hk3 _ rfl
        · replace h := itn hc14 h
          refine ev_if_ne_f d_Model_readSums_42 (by decide) hc14 ?_
          refine ev_aload_n 0 d_Model_readSums_45 rfl (by decide) rfl ?_
          refine ev_bipush d_Model_readSums_46 rfl ?_
          obtain ⟨p15, hp15, h⟩ := bx h
          have hRp15 := c_Model_isSign (X := X) (d := d - 1) (by omega) hn_a0 hp15
          refine ev_callV2 (st2 := [(0, p15)]) (as := [(0, 60)]) (rest := []) rfl (by decide) (by decide) rfl hn_a0 rfl (Nat.le_of_ble_eq_true rfl) k_Model_isSign ⟨tw_1273, ts_109⟩ (by omega) tw_1271 d_Model_readSums_48 hRp15 rfl ?_
          by_cases hc16 : p15 ≠ 0
          · replace h := itp hc16 h
            refine ev_if_ne_t (tgt := 72) d_Model_readSums_51 (by decide) hc16 ?_
            refine ev_less (L' := [(0, (12, a0))]) [0] rfl ?_
            exact cj_Model_readSums_72_2 hd hn_a0 h hk1 hk2 hk3
          · replace h := itn hc16 h
            refine ev_if_ne_f d_Model_readSums_51 (by decide) hc16 ?_
            refine ev_aload_n 0 d_Model_readSums_54 rfl (by decide) rfl ?_
            refine ev_bipush d_Model_readSums_55 rfl ?_
            obtain ⟨p18, hp18, h⟩ := bx h
            have hRp18 := c_Model_isSign (X := X) (d := d - 1) (by omega) hn_a0 hp18
            refine ev_callV2 (st2 := [(0, p18)]) (as := [(0, 61)]) (rest := []) rfl (by decide) (by decide) rfl hn_a0 rfl (Nat.le_of_ble_eq_true rfl) k_Model_isSign ⟨tw_1273, ts_109⟩ (by omega) tw_1271 d_Model_readSums_57 hRp18 rfl ?_
            by_cases hc19 : p18 ≠ 0
            · replace h := itp hc19 h
              refine ev_if_ne_t (tgt := 72) d_Model_readSums_60 (by decide) hc19 ?_
              refine ev_less (L' := [(0, (12, a0))]) [0] rfl ?_
              exact cj_Model_readSums_72_2 hd hn_a0 h hk1 hk2 hk3
            · replace h := itn hc19 h
              refine ev_if_ne_f d_Model_readSums_60 (by decide) hc19 ?_
              refine ev_aload_n 0 d_Model_readSums_63 rfl (by decide) rfl ?_
              refine ev_bipush d_Model_readSums_64 rfl ?_
              obtain ⟨p20, hp20, h⟩ := bx h
              have hRp20 := c_Model_isSign (X := X) (d := d - 1) (by omega) hn_a0 hp20
              refine ev_callV2 (st2 := [(0, p20)]) (as := [(0, 62)]) (rest := []) rfl (by decide) (by decide) rfl hn_a0 rfl (Nat.le_of_ble_eq_true rfl) k_Model_isSign ⟨tw_1273, ts_109⟩ (by omega) tw_1271 d_Model_readSums_66 hRp20 rfl ?_
              by_cases hc21 : p20 = 0
              · replace h := itp hc21 h
                refine ev_if_eq_t (tgt := 82) d_Model_readSums_69 (by decide) hc21 ?_
                cases h
                exact hk3 _ rfl
              · replace h := itn hc21 h
                refine ev_if_eq_f d_Model_readSums_69 (by decide) hc21 ?_
                refine ev_less (L' := [(0, (12, a0))]) [0] rfl ?_
                exact cj_Model_readSums_72_2 hd hn_a0 h hk1 hk2 hk3
      · replace h := itn hc13 h
        refine ev_if_eq_f d_Model_readSums_30 (by decide) hc13 ?_
        exact cj_Model_readSums_33_2 hd hn_a0 h hk1 hk2 hk3
  · replace h := itn hc2 h
    refine ev_if_ne_f d_Model_readSums_6 (by decide) hc2 ?_
    refine ev_iconst d_Model_readSums_9 rfl ?_
    cases h
    obtain ⟨rfl, rfl⟩ := hk2 _ rfl
    exact ev_retZ d_Model_readSums_10 rfl (Or.inl rfl)
def j_Model_readSums_82 (M : Mm) (a0 : Int) (z1 : Int) : Option (Int × Mm) :=
  (f_Model_settles M a0 3).bind (fun p25 =>
  if z1 ≠ 0 then
  some (1, p25)
  else
  (f_Model_fails p25 a0 1).bind (fun p27 =>
  if p27.1 = 0 then
  some (0, p27.2)
  else
  some (1, p27.2)))
theorem cj_Model_readSums_82 {X : XX} {d : Nat} (hd : 4 ≤ d) {M : Mm} {a0 : Int} {z1 : Int} (hn_a0 : a0 ≠ 0) {p : Int × Mm} (h : j_Model_readSums_82 M a0 z1 = some p) : Ev X m_Model_readSums d 82 [(0, (12, a0)), (1, (0, z1))] [] M (some (0, p.1)) p.2 := by
  unfold j_Model_readSums_82 at h
  refine ev_aload_n 0 d_Model_readSums_82 rfl (by decide) rfl ?_
  refine ev_iconst d_Model_readSums_83 rfl ?_
  obtain ⟨p25, hp25, h⟩ := bx h
  have hRp25 := c_Model_settles (X := X) (d := d - 1) (by omega) hn_a0 hp25
  refine ev_callV2 (st2 := []) (as := [(0, 3)]) (rest := []) rfl (by decide) (by decide) rfl hn_a0 rfl (Nat.le_of_ble_eq_true rfl) k_Model_settles ⟨tw_1313, ts_118⟩ (by omega) tw_1311 d_Model_readSums_84 hRp25 rfl ?_
  refine ev_iload_n 1 d_Model_readSums_87 rfl rfl ?_
  by_cases hc26 : z1 ≠ 0
  · replace h := itp hc26 h
    refine ev_if_ne_t (tgt := 99) d_Model_readSums_88 (by decide) hc26 ?_
    refine ev_iconst d_Model_readSums_99 rfl ?_
    refine ev_goto (tgt := 104) d_Model_readSums_100 (by decide) ?_
    cases h
    exact ev_retZ d_Model_readSums_104 rfl (Or.inr rfl)
  · replace h := itn hc26 h
    refine ev_if_ne_f d_Model_readSums_88 (by decide) hc26 ?_
    refine ev_aload_n 0 d_Model_readSums_91 rfl (by decide) rfl ?_
    refine ev_iconst d_Model_readSums_92 rfl ?_
    obtain ⟨p27, hp27, h⟩ := bx h
    have hRp27 := c_Model_fails (X := X) (d := d - 1) (by omega) hn_a0 hp27
    refine ev_callV2 (st2 := [(0, p27.1)]) (as := [(0, 1)]) (rest := []) rfl (by decide) (by decide) rfl hn_a0 rfl (Nat.le_of_ble_eq_true rfl) k_Model_fails ⟨tw_1269, ts_108⟩ (by omega) tw_1267 d_Model_readSums_93 hRp27 rfl ?_
    by_cases hc28 : p27.1 = 0
    · replace h := itp hc28 h
      refine ev_if_eq_t (tgt := 103) d_Model_readSums_96 (by decide) hc28 ?_
      refine ev_iconst d_Model_readSums_103 rfl ?_
      cases h
      exact ev_retZ d_Model_readSums_104 rfl (Or.inl rfl)
    · replace h := itn hc28 h
      refine ev_if_eq_f d_Model_readSums_96 (by decide) hc28 ?_
      refine ev_iconst d_Model_readSums_99 rfl ?_
      refine ev_goto (tgt := 104) d_Model_readSums_100 (by decide) ?_
      cases h
      exact ev_retZ d_Model_readSums_104 rfl (Or.inr rfl)
def f_Model_readSums (M : Mm) (a0 : Int) : Option (Int × Mm) :=
  (loopN (l_Model_readSums_2 a0) FU (0, M)).bind (fun t22 =>
  Sum.elim (fun q23 => some q23) (fun u24 =>
  j_Model_readSums_82 u24.2 a0 u24.1) t22)
theorem c_Model_readSums {X : XX} {d : Nat} (hd : 4 ≤ d) {M : Mm} {a0 : Int} (hn_a0 : a0 ≠ 0) {p : Int × Mm} (h : f_Model_readSums M a0 = some p) : Rn X d m_Model_readSums [(12, a0)] M (some (0, p.1)) p.2 := by
  refine Rn_of (by decide) rfl (Nat.le_of_ble_eq_true rfl) ?_
  unfold f_Model_readSums at h
  refine ev_less (L' := [(0, (12, a0))]) [0] rfl ?_
  refine ev_iconst d_Model_readSums_0 rfl ?_
  refine ev_istore_n (L' := [(1, (0, 0)), (0, (12, a0))]) d_Model_readSums_1 rfl (by decide) rfl ?_
  obtain ⟨t22, ht22, h⟩ := bx h
  refine ev_less (L' := [(0, (12, a0)), (1, (0, 0))]) [1, 0] rfl ?_
  refine loop_ev (step := l_Model_readSums_2 a0) (P := fun w : Int × Mm => Ev X m_Model_readSums d 2 [(0, (12, a0)), (1, (0, w.1))] [] w.2 (some (0, p.1)) p.2) (Q := fun u => (∀ q, u = .inl q → (some (0, p.1)) = some (0, q.1) ∧ p.2 = q.2) ∧ (∀ w, u = .inr w → Ev X m_Model_readSums d 82 [(0, (12, a0)), (1, (0, w.1))] [] w.2 (some (0, p.1)) p.2)) (fun w x hs k1 k2 => cs_l_Model_readSums_2 hd hn_a0 hs k1 (fun q e => (k2 _ e).1 q rfl) (fun t e => (k2 _ e).2 t rfl)) FU (0, M) t22 ht22 ?_
  refine ⟨fun qq e => ?_, fun tt e => ?_⟩
  · subst e; replace h := sx1 h; (obtain ⟨q23, rfl⟩ : ∃ y, y = qq := ⟨_, rfl⟩)
    cases h
    exact ⟨rfl, rfl⟩
  · subst e; replace h := sx2 h; (obtain ⟨u24, rfl⟩ : ∃ y, y = tt := ⟨_, rfl⟩)
    exact cj_Model_readSums_82 hd hn_a0 h
def j_Model_readRule_43_25 (M : Mm) (a0 : Int) : Option ((Mm) ⊕ (Int × Mm)) :=
  (f_Model_open M a0).bind (fun p8 =>
  if p8 ≠ 8 then
  if (mg M (cI a0) 45) ≠ 0 then
  if (0 : Int) ≤ (mg M (cI a0) 44) ∧ (mg M (cI a0) 44) < (ml M (cI (mg M (cI a0) 45)) : Int) then
  lt (mp M (cI (mg M (cI a0) 45)) ((mg M (cI a0) 44) : Int).toNat (mg M (cI a0) 33)) (fun M12 =>
  lt (mp M12 (cI a0) 44 (w32 ((mg M12 (cI a0) 44) + 1))) (fun M13 =>
  (f_Model_step M13 a0).bind (fun p14 =>
  some (.inl p14))))
  else none
  else none
  else
  (f_Model_fails M a0 4).bind (fun p15 =>
  some (.inr ((p15.1, p15.2)))))
theorem cj_Model_readRule_43_25 {X : XX} {d : Nat} (hd : 5 ≤ d) {M : Mm} {a0 : Int} (hn_a0 : a0 ≠ 0) {x : (Mm) ⊕ (Int × Mm)} {r : Option AV} {M' : Mm} (h : j_Model_readRule_43_25 M a0 = some x) (hk1 : ∀ s : Mm, x = .inl s → Ev X m_Model_readRule d 25 [(0, (12, a0))] [] s r M') (hk2 : ∀ q : Int × Mm, x = .inr q → r = some (0, q.1) ∧ M' = q.2) : Ev X m_Model_readRule d 43 [(0, (12, a0))] [] M r M' := by
  unfold j_Model_readRule_43_25 at h
  refine ev_aload_n 0 d_Model_readRule_43 rfl (by decide) rfl ?_
  obtain ⟨p8, hp8, h⟩ := bx h
  have hRp8 := c_Model_open (X := X) (d := d - 1) (by omega) hn_a0 hp8
  refine ev_callV2 (st2 := [(0, p8)]) (as := []) (rest := []) rfl (by decide) (by decide) rfl hn_a0 rfl (Nat.le_of_ble_eq_true rfl) k_Model_open ⟨tw_1293, ts_113⟩ (by omega) tw_1291 d_Model_readRule_44 hRp8 rfl ?_
  refine ev_bipush d_Model_readRule_47 rfl ?_
  by_cases hc9 : p8 ≠ 8
  · replace h := itp hc9 h
    refine ev_icmp_ne_t (tgt := 58) d_Model_readRule_49 (by decide) hc9 ?_
    refine ev_aload_n 0 d_Model_readRule_58 rfl (by decide) rfl ?_
    refine ev_get (t := 12) (k := 45) (by decide) (by decide) rfl i_Model (by decide) rfl rfl tw_945 d_Model_readRule_59 hn_a0 ?_
    refine ev_aload_n 0 d_Model_readRule_62 rfl (by decide) rfl ?_
    refine ev_get (t := 12) (k := 44) (by decide) (by decide) rfl i_Model (by decide) rfl rfl tw_944 d_Model_readRule_63 hn_a0 ?_
    refine ev_aload_n 0 d_Model_readRule_66 rfl (by decide) rfl ?_
    refine ev_get (t := 12) (k := 33) (by decide) (by decide) rfl i_Model (by decide) rfl rfl tw_933 d_Model_readRule_67 hn_a0 ?_
    obtain ⟨hz10, h⟩ := gx h
    obtain ⟨hg11, h⟩ := gx h
    obtain ⟨M12, hM12, h⟩ := ltx h
    refine ev_iast' d_Model_readRule_70 hz10 hg11 hM12 ?_
    refine ev_aload_n 0 d_Model_readRule_71 rfl (by decide) rfl ?_
    refine ev_aload_n 0 d_Model_readRule_72 rfl (by decide) rfl ?_
    refine ev_get (t := 12) (k := 44) (by decide) (by decide) rfl i_Model (by decide) rfl rfl tw_944 d_Model_readRule_73 hn_a0 ?_
    refine ev_iconst d_Model_readRule_76 rfl ?_
    refine ev_iadd d_Model_readRule_77 ?_
    obtain ⟨M13, hM13, h⟩ := ltx h
    refine ev_put' (t := 12) (k := 44) (by decide) (by decide) rfl i_Model t_Model_ok n_Model (by decide) rfl rfl rfl rfl tw_944 d_Model_readRule_78 hn_a0 hM13 ?_
    refine ev_aload_n 0 d_Model_readRule_81 rfl (by decide) rfl ?_
    obtain ⟨p14, hp14, h⟩ := bx h
    have hRp14 := c_Model_step (X := X) (d := d - 1) (by omega) hn_a0 hp14
    refine ev_callV2 (st2 := []) (as := []) (rest := []) rfl (by decide) (by decide) rfl hn_a0 rfl (Nat.le_of_ble_eq_true rfl) k_Model_step ⟨tw_1297, ts_114⟩ (by omega) tw_1295 d_Model_readRule_82 hRp14 rfl ?_
    refine ev_goto (tgt := 25) d_Model_readRule_85 (by decide) ?_
    cases h
    exact hk1 _ rfl
  · replace h := itn hc9 h
    refine ev_icmp_ne_f d_Model_readRule_49 (by decide) hc9 ?_
    refine ev_aload_n 0 d_Model_readRule_52 rfl (by decide) rfl ?_
    refine ev_iconst d_Model_readRule_53 rfl ?_
    obtain ⟨p15, hp15, h⟩ := bx h
    have hRp15 := c_Model_fails (X := X) (d := d - 1) (by omega) hn_a0 hp15
    refine ev_callV2 (st2 := [(0, p15.1)]) (as := [(0, 4)]) (rest := []) rfl (by decide) (by decide) rfl hn_a0 rfl (Nat.le_of_ble_eq_true rfl) k_Model_fails ⟨tw_1269, ts_108⟩ (by omega) tw_1267 d_Model_readRule_54 hRp15 rfl ?_
    cases h
    obtain ⟨rfl, rfl⟩ := hk2 _ rfl
    exact ev_retZ d_Model_readRule_57 rfl (hRp15.2.1 _ rfl rfl)
def j_Model_readRule_136_99 (M : Mm) (a0 : Int) (y0 : Int) (y1 : Int) : Option ((Int × Mm) ⊕ ((Int × Mm) ⊕ (Mm))) :=
  (f_Model_settles M y1 y0).bind (fun p25 =>
  if (mg p25 (cI a0) 45) ≠ 0 then
  if (0 : Int) ≤ (mg p25 (cI a0) 44) ∧ (mg p25 (cI a0) 44) < (ml p25 (cI (mg p25 (cI a0) 45)) : Int) then
  lt (mp p25 (cI (mg p25 (cI a0) 45)) ((mg p25 (cI a0) 44) : Int).toNat (mg p25 (cI a0) 33)) (fun M28 =>
  lt (mp M28 (cI a0) 44 (w32 ((mg M28 (cI a0) 44) + 1))) (fun M29 =>
  (f_Model_step M29 a0).bind (fun p30 =>
  some (.inl (1, p30)))))
  else none
  else none)
theorem cj_Model_readRule_136_99 {X : XX} {d : Nat} (hd : 5 ≤ d) {M : Mm} {a0 : Int} {y0 : Int} {y1 : Int} (hn_a0 : a0 ≠ 0) (hn_y1 : y1 ≠ 0) {x : (Int × Mm) ⊕ ((Int × Mm) ⊕ (Mm))} {r : Option AV} {M' : Mm} (h : j_Model_readRule_136_99 M a0 y0 y1 = some x) (hk1 : ∀ s : Int × Mm, x = .inl s → Ev X m_Model_readRule d 99 [(0, (12, a0)), (1, (0, s.1))] [] s.2 r M') (hk2 : ∀ q : Int × Mm, x = .inr (.inl q) → r = some (0, q.1) ∧ M' = q.2) (hk3 : ∀ t : Mm, x = .inr (.inr t) → Ev X m_Model_readRule d 253 [(0, (12, a0))] [] t r M') : Ev X m_Model_readRule d 136 [(0, (12, a0))] [(0, y0), (12, y1)] M r M' := by
  unfold j_Model_readRule_136_99 at h
  obtain ⟨p25, hp25, h⟩ := bx h
  have hRp25 := c_Model_settles (X := X) (d := d - 1) (by omega) hn_y1 hp25
  refine ev_callV2 (st2 := []) (as := [(0, y0)]) (rest := []) rfl (by decide) (by decide) rfl hn_y1 rfl (Nat.le_of_ble_eq_true rfl) k_Model_settles ⟨tw_1313, ts_118⟩ (by omega) tw_1311 d_Model_readRule_136 hRp25 rfl ?_
  refine ev_aload_n 0 d_Model_readRule_139 rfl (by decide) rfl ?_
  refine ev_get (t := 12) (k := 45) (by decide) (by decide) rfl i_Model (by decide) rfl rfl tw_945 d_Model_readRule_140 hn_a0 ?_
  refine ev_aload_n 0 d_Model_readRule_143 rfl (by decide) rfl ?_
  refine ev_get (t := 12) (k := 44) (by decide) (by decide) rfl i_Model (by decide) rfl rfl tw_944 d_Model_readRule_144 hn_a0 ?_
  refine ev_aload_n 0 d_Model_readRule_147 rfl (by decide) rfl ?_
  refine ev_get (t := 12) (k := 33) (by decide) (by decide) rfl i_Model (by decide) rfl rfl tw_933 d_Model_readRule_148 hn_a0 ?_
  obtain ⟨hz26, h⟩ := gx h
  obtain ⟨hg27, h⟩ := gx h
  obtain ⟨M28, hM28, h⟩ := ltx h
  refine ev_iast' d_Model_readRule_151 hz26 hg27 hM28 ?_
  refine ev_aload_n 0 d_Model_readRule_152 rfl (by decide) rfl ?_
  refine ev_aload_n 0 d_Model_readRule_153 rfl (by decide) rfl ?_
  refine ev_get (t := 12) (k := 44) (by decide) (by decide) rfl i_Model (by decide) rfl rfl tw_944 d_Model_readRule_154 hn_a0 ?_
  refine ev_iconst d_Model_readRule_157 rfl ?_
  refine ev_iadd d_Model_readRule_158 ?_
  obtain ⟨M29, hM29, h⟩ := ltx h
  refine ev_put' (t := 12) (k := 44) (by decide) (by decide) rfl i_Model t_Model_ok n_Model (by decide) rfl rfl rfl rfl tw_944 d_Model_readRule_159 hn_a0 hM29 ?_
  refine ev_iconst d_Model_readRule_162 rfl ?_
  refine ev_istore_n (L' := [(1, (0, 1)), (0, (12, a0))]) d_Model_readRule_163 rfl (by decide) rfl ?_
  refine ev_aload_n 1 d_Model_readRule_164 rfl (by decide) rfl ?_
  obtain ⟨p30, hp30, h⟩ := bx h
  have hRp30 := c_Model_step (X := X) (d := d - 1) (by omega) hn_a0 hp30
  refine ev_callV2 (st2 := []) (as := []) (rest := []) rfl (by decide) (by decide) rfl hn_a0 rfl (Nat.le_of_ble_eq_true rfl) k_Model_step ⟨tw_1297, ts_114⟩ (by omega) tw_1295 d_Model_readRule_165 hRp30 rfl ?_
  refine ev_goto (tgt := 99) d_Model_readRule_168 (by decide) ?_
  refine ev_less (L' := [(0, (12, a0)), (1, (0, 1))]) [1, 0] rfl ?_
  cases h
  exact hk1 _ rfl
def j_Model_readRule_121_99 (M : Mm) (a0 : Int) : Option ((Int × Mm) ⊕ ((Int × Mm) ⊕ (Mm))) :=
  (f_Model_isSign M a0 38).bind (fun p23 =>
  if p23 = 0 then
  j_Model_readRule_136_99 M a0 1 a0
  else
  j_Model_readRule_136_99 M a0 2 a0)
theorem cj_Model_readRule_121_99 {X : XX} {d : Nat} (hd : 5 ≤ d) {M : Mm} {a0 : Int} (hn_a0 : a0 ≠ 0) {x : (Int × Mm) ⊕ ((Int × Mm) ⊕ (Mm))} {r : Option AV} {M' : Mm} (h : j_Model_readRule_121_99 M a0 = some x) (hk1 : ∀ s : Int × Mm, x = .inl s → Ev X m_Model_readRule d 99 [(0, (12, a0)), (1, (0, s.1))] [] s.2 r M') (hk2 : ∀ q : Int × Mm, x = .inr (.inl q) → r = some (0, q.1) ∧ M' = q.2) (hk3 : ∀ t : Mm, x = .inr (.inr t) → Ev X m_Model_readRule d 253 [(0, (12, a0))] [] t r M') : Ev X m_Model_readRule d 121 [(0, (12, a0))] [] M r M' := by
  unfold j_Model_readRule_121_99 at h
  refine ev_aload_n 0 d_Model_readRule_121 rfl (by decide) rfl ?_
  refine ev_aload_n 0 d_Model_readRule_122 rfl (by decide) rfl ?_
  refine ev_bipush d_Model_readRule_123 rfl ?_
  obtain ⟨p23, hp23, h⟩ := bx h
  have hRp23 := c_Model_isSign (X := X) (d := d - 1) (by omega) hn_a0 hp23
  refine ev_callV2 (st2 := [(0, p23), (12, a0)]) (as := [(0, 38)]) (rest := [(12, a0)]) rfl (by decide) (by decide) rfl hn_a0 rfl (Nat.le_of_ble_eq_true rfl) k_Model_isSign ⟨tw_1273, ts_109⟩ (by omega) tw_1271 d_Model_readRule_125 hRp23 rfl ?_
  by_cases hc24 : p23 = 0
  · replace h := itp hc24 h
    refine ev_if_eq_t (tgt := 135) d_Model_readRule_128 (by decide) hc24 ?_
    refine ev_iconst d_Model_readRule_135 rfl ?_
    exact cj_Model_readRule_136_99 hd hn_a0 hn_a0 h hk1 hk2 hk3
  · replace h := itn hc24 h
    refine ev_if_eq_f d_Model_readRule_128 (by decide) hc24 ?_
    refine ev_iconst d_Model_readRule_131 rfl ?_
    refine ev_goto (tgt := 136) d_Model_readRule_132 (by decide) ?_
    exact cj_Model_readRule_136_99 hd hn_a0 hn_a0 h hk1 hk2 hk3
def j_Model_readRule_239_99 (M : Mm) (a0 : Int) : Option ((Int × Mm) ⊕ ((Int × Mm) ⊕ (Mm))) :=
  (f_Model_fails M a0 1).bind (fun p37 =>
  if p37.1 = 0 then
  some (.inr (.inl ((0, p37.2))))
  else
  some (.inr (.inl ((1, p37.2)))))
theorem cj_Model_readRule_239_99 {X : XX} {d : Nat} (hd : 5 ≤ d) {M : Mm} {a0 : Int} (hn_a0 : a0 ≠ 0) {x : (Int × Mm) ⊕ ((Int × Mm) ⊕ (Mm))} {r : Option AV} {M' : Mm} (h : j_Model_readRule_239_99 M a0 = some x) (hk1 : ∀ s : Int × Mm, x = .inl s → Ev X m_Model_readRule d 99 [(0, (12, a0)), (1, (0, s.1))] [] s.2 r M') (hk2 : ∀ q : Int × Mm, x = .inr (.inl q) → r = some (0, q.1) ∧ M' = q.2) (hk3 : ∀ t : Mm, x = .inr (.inr t) → Ev X m_Model_readRule d 253 [(0, (12, a0))] [] t r M') : Ev X m_Model_readRule d 239 [(0, (12, a0))] [] M r M' := by
  unfold j_Model_readRule_239_99 at h
  refine ev_aload_n 0 d_Model_readRule_239 rfl (by decide) rfl ?_
  refine ev_iconst d_Model_readRule_240 rfl ?_
  obtain ⟨p37, hp37, h⟩ := bx h
  have hRp37 := c_Model_fails (X := X) (d := d - 1) (by omega) hn_a0 hp37
  refine ev_callV2 (st2 := [(0, p37.1)]) (as := [(0, 1)]) (rest := []) rfl (by decide) (by decide) rfl hn_a0 rfl (Nat.le_of_ble_eq_true rfl) k_Model_fails ⟨tw_1269, ts_108⟩ (by omega) tw_1267 d_Model_readRule_241 hRp37 rfl ?_
  by_cases hc38 : p37.1 = 0
  · replace h := itp hc38 h
    refine ev_if_eq_t (tgt := 251) d_Model_readRule_244 (by decide) hc38 ?_
    refine ev_iconst d_Model_readRule_251 rfl ?_
    cases h
    obtain ⟨rfl, rfl⟩ := hk2 _ rfl
    exact ev_retZ d_Model_readRule_252 rfl (Or.inl rfl)
  · replace h := itn hc38 h
    refine ev_if_eq_f d_Model_readRule_244 (by decide) hc38 ?_
    refine ev_iconst d_Model_readRule_247 rfl ?_
    refine ev_goto (tgt := 252) d_Model_readRule_248 (by decide) ?_
    cases h
    obtain ⟨rfl, rfl⟩ := hk2 _ rfl
    exact ev_retZ d_Model_readRule_252 rfl (Or.inr rfl)
def l_Model_readRule_99 (a0 : Int) (s : Int × Mm) : Option ((Int × Mm) ⊕ ((Int × Mm) ⊕ (Mm))) :=
  if s.1 ≠ 0 then
  some (.inr (.inr s.2))
  else
  (f_Model_isSign s.2 a0 38).bind (fun p21 =>
  if p21 ≠ 0 then
  j_Model_readRule_121_99 s.2 a0
  else
  (f_Model_isSign s.2 a0 124).bind (fun p31 =>
  if p31 = 0 then
  (f_Model_isSign s.2 a0 41).bind (fun p33 =>
  if p33 = 0 then
  (f_Model_settles s.2 a0 1).bind (fun p35 =>
  if (mg p35 (cI a0) 32) ≠ 0 then
  j_Model_readRule_239_99 p35 a0
  else
  if (mg p35 (cI a0) 44) = 0 then
  some (.inr (.inl ((1, p35))))
  else
  j_Model_readRule_239_99 p35 a0)
  else
  (f_Model_settles s.2 a0 1).bind (fun p40 =>
  if (mg p40 (cI a0) 44) ≠ 0 then
  lt (mp p40 (cI a0) 44 (w32 ((mg p40 (cI a0) 44) - 1))) (fun M42 =>
  (f_Model_settles M42 a0 2).bind (fun p43 =>
  (f_Model_step p43 a0).bind (fun p44 =>
  some (.inl (s.1, p44)))))
  else
  (f_Model_fails p40 a0 1).bind (fun p45 =>
  some (.inr (.inl ((p45.1, p45.2)))))))
  else
  j_Model_readRule_121_99 s.2 a0))
theorem cs_l_Model_readRule_99 {X : XX} {d : Nat} (hd : 5 ≤ d) {a0 : Int} (hn_a0 : a0 ≠ 0) {s : Int × Mm} {x : (Int × Mm) ⊕ ((Int × Mm) ⊕ (Mm))} {r : Option AV} {M' : Mm} (h : l_Model_readRule_99 a0 s = some x) (hk1 : ∀ s : Int × Mm, x = .inl s → Ev X m_Model_readRule d 99 [(0, (12, a0)), (1, (0, s.1))] [] s.2 r M') (hk2 : ∀ q : Int × Mm, x = .inr (.inl q) → r = some (0, q.1) ∧ M' = q.2) (hk3 : ∀ t : Mm, x = .inr (.inr t) → Ev X m_Model_readRule d 253 [(0, (12, a0))] [] t r M') : Ev X m_Model_readRule d 99 [(0, (12, a0)), (1, (0, s.1))] [] s.2 r M' := by
  unfold l_Model_readRule_99 at h
  refine ev_iload_n 1 d_Model_readRule_99 rfl rfl ?_
  by_cases hc20 : s.1 ≠ 0
  · replace h := itp hc20 h
    refine ev_if_ne_t (tgt := 253) d_Model_readRule_100 (by decide) hc20 ?_
    refine ev_less (L' := [(0, (12, a0))]) [0] rfl ?_
    cases h
    exact hk3 _ rfl
  · replace h := itn hc20 h
    refine ev_if_ne_f d_Model_readRule_100 (by decide) hc20 ?_
    refine ev_aload_n 0 d_Model_readRule_103 rfl (by decide) rfl ?_
    refine ev_bipush d_Model_readRule_104 rfl ?_
    obtain ⟨p21, hp21, h⟩ := bx h
    have hRp21 := c_Model_isSign (X := X) (d := d - 1) (by omega) hn_a0 hp21
    refine ev_callV2 (st2 := [(0, p21)]) (as := [(0, 38)]) (rest := []) rfl (by decide) (by decide) rfl hn_a0 rfl (Nat.le_of_ble_eq_true rfl) k_Model_isSign ⟨tw_1273, ts_109⟩ (by omega) tw_1271 d_Model_readRule_106 hRp21 rfl ?_
    by_cases hc22 : p21 ≠ 0
    · replace h := itp hc22 h
      refine ev_if_ne_t (tgt := 121) d_Model_readRule_109 (by decide) hc22 ?_
      refine ev_less (L' := [(0, (12, a0))]) [0] rfl ?_
      exact cj_Model_readRule_121_99 hd hn_a0 h hk1 hk2 hk3
    · replace h := itn hc22 h
      refine ev_if_ne_f d_Model_readRule_109 (by decide) hc22 ?_
      refine ev_aload_n 0 d_Model_readRule_112 rfl (by decide) rfl ?_
      refine ev_bipush d_Model_readRule_113 rfl ?_
      obtain ⟨p31, hp31, h⟩ := bx h
      have hRp31 := c_Model_isSign (X := X) (d := d - 1) (by omega) hn_a0 hp31
      refine ev_callV2 (st2 := [(0, p31)]) (as := [(0, 124)]) (rest := []) rfl (by decide) (by decide) rfl hn_a0 rfl (Nat.le_of_ble_eq_true rfl) k_Model_isSign ⟨tw_1273, ts_109⟩ (by omega) tw_1271 d_Model_readRule_115 hRp31 rfl ?_
      by_cases hc32 : p31 = 0
      · replace h := itp hc32 h
        refine ev_if_eq_t (tgt := 171) d_Model_readRule_118 (by decide) hc32 ?_
        refine ev_aload_n 0 d_Model_readRule_171 rfl (by decide) rfl ?_
        refine ev_bipush d_Model_readRule_172 rfl ?_
        obtain ⟨p33, hp33, h⟩ := bx h
        have hRp33 := c_Model_isSign (X := X) (d := d - 1) (by omega) hn_a0 hp33
        refine ev_callV2 (st2 := [(0, p33)]) (as := [(0, 41)]) (rest := []) rfl (by decide) (by decide) rfl hn_a0 rfl (Nat.le_of_ble_eq_true rfl) k_Model_isSign ⟨tw_1273, ts_109⟩ (by omega) tw_1271 d_Model_readRule_174 hRp33 rfl ?_
        by_cases hc34 : p33 = 0
        · replace h := itp hc34 h
          refine ev_if_eq_t (tgt := 220) d_Model_readRule_177 (by decide) hc34 ?_
          refine ev_aload_n 0 d_Model_readRule_220 rfl (by decide) rfl ?_
          refine ev_iconst d_Model_readRule_221 rfl ?_
          obtain ⟨p35, hp35, h⟩ := bx h
          have hRp35 := c_Model_settles (X := X) (d := d - 1) (by omega) hn_a0 hp35
          refine ev_callV2 (st2 := []) (as := [(0, 1)]) (rest := []) rfl (by decide) (by decide) rfl hn_a0 rfl (Nat.le_of_ble_eq_true rfl) k_Model_settles ⟨tw_1313, ts_118⟩ (by omega) tw_1311 d_Model_readRule_222 hRp35 rfl ?_
          refine ev_aload_n 0 d_Model_readRule_225 rfl (by decide) rfl ?_
          refine ev_get (t := 12) (k := 32) (by decide) (by decide) rfl i_Model (by decide) rfl rfl tw_932 d_Model_readRule_226 hn_a0 ?_
          by_cases hc36 : (mg p35 (cI a0) 32) ≠ 0
          · replace h := itp hc36 h
            refine ev_if_ne_t (tgt := 239) d_Model_readRule_229 (by decide) hc36 ?_
            refine ev_less (L' := [(0, (12, a0))]) [0] rfl ?_
            exact cj_Model_readRule_239_99 hd hn_a0 h hk1 hk2 hk3
          · replace h := itn hc36 h
            refine ev_if_ne_f d_Model_readRule_229 (by decide) hc36 ?_
            refine ev_aload_n 0 d_Model_readRule_232 rfl (by decide) rfl ?_
            refine ev_get (t := 12) (k := 44) (by decide) (by decide) rfl i_Model (by decide) rfl rfl tw_944 d_Model_readRule_233 hn_a0 ?_
            by_cases hc39 : (mg p35 (cI a0) 44) = 0
            · replace h := itp hc39 h
              refine ev_if_eq_t (tgt := 247) d_Model_readRule_236 (by decide) hc39 ?_
              refine ev_iconst d_Model_readRule_247 rfl ?_
              refine ev_goto (tgt := 252) d_Model_readRule_248 (by decide) ?_
              cases h
              obtain ⟨rfl, rfl⟩ := hk2 _ rfl
              exact ev_retZ d_Model_readRule_252 rfl (Or.inr rfl)
            · replace h := itn hc39 h
              refine ev_if_eq_f d_Model_readRule_236 (by decide) hc39 ?_
              refine ev_less (L' := [(0, (12, a0))]) [0] rfl ?_
              exact cj_Model_readRule_239_99 hd hn_a0 h hk1 hk2 hk3
        · replace h := itn hc34 h
          refine ev_if_eq_f d_Model_readRule_177 (by decide) hc34 ?_
          refine ev_aload_n 0 d_Model_readRule_180 rfl (by decide) rfl ?_
          refine ev_iconst d_Model_readRule_181 rfl ?_
          obtain ⟨p40, hp40, h⟩ := bx h
          have hRp40 := c_Model_settles (X := X) (d := d - 1) (by omega) hn_a0 hp40
          refine ev_callV2 (st2 := []) (as := [(0, 1)]) (rest := []) rfl (by decide) (by decide) rfl hn_a0 rfl (Nat.le_of_ble_eq_true rfl) k_Model_settles ⟨tw_1313, ts_118⟩ (by omega) tw_1311 d_Model_readRule_182 hRp40 rfl ?_
          refine ev_aload_n 0 d_Model_readRule_185 rfl (by decide) rfl ?_
          refine ev_get (t := 12) (k := 44) (by decide) (by decide) rfl i_Model (by decide) rfl rfl tw_944 d_Model_readRule_186 hn_a0 ?_
          by_cases hc41 : (mg p40 (cI a0) 44) ≠ 0
          · replace h := itp hc41 h
            refine ev_if_ne_t (tgt := 198) d_Model_readRule_189 (by decide) hc41 ?_
            refine ev_aload_n 0 d_Model_readRule_198 rfl (by decide) rfl ?_
            refine ev_aload_n 0 d_Model_readRule_199 rfl (by decide) rfl ?_
            refine ev_get (t := 12) (k := 44) (by decide) (by decide) rfl i_Model (by decide) rfl rfl tw_944 d_Model_readRule_200 hn_a0 ?_
            refine ev_iconst d_Model_readRule_203 rfl ?_
            refine ev_isub d_Model_readRule_204 ?_
            obtain ⟨M42, hM42, h⟩ := ltx h
            refine ev_put' (t := 12) (k := 44) (by decide) (by decide) rfl i_Model t_Model_ok n_Model (by decide) rfl rfl rfl rfl tw_944 d_Model_readRule_205 hn_a0 hM42 ?_
            refine ev_aload_n 0 d_Model_readRule_208 rfl (by decide) rfl ?_
            refine ev_iconst d_Model_readRule_209 rfl ?_
            obtain ⟨p43, hp43, h⟩ := bx h
            have hRp43 := c_Model_settles (X := X) (d := d - 1) (by omega) hn_a0 hp43
            refine ev_callV2 (st2 := []) (as := [(0, 2)]) (rest := []) rfl (by decide) (by decide) rfl hn_a0 rfl (Nat.le_of_ble_eq_true rfl) k_Model_settles ⟨tw_1313, ts_118⟩ (by omega) tw_1311 d_Model_readRule_210 hRp43 rfl ?_
            refine ev_aload_n 0 d_Model_readRule_213 rfl (by decide) rfl ?_
            obtain ⟨p44, hp44, h⟩ := bx h
            have hRp44 := c_Model_step (X := X) (d := d - 1) (by omega) hn_a0 hp44
            refine ev_callV2 (st2 := []) (as := []) (rest := []) rfl (by decide) (by decide) rfl hn_a0 rfl (Nat.le_of_ble_eq_true rfl) k_Model_step ⟨tw_1297, ts_114⟩ (by omega) tw_1295 d_Model_readRule_214 hRp44 rfl ?_
            refine ev_goto (tgt := 99) d_Model_readRule_217 (by decide) ?_
            cases h
            exact hk1 _ rfl
          · replace h := itn hc41 h
            refine ev_if_ne_f d_Model_readRule_189 (by decide) hc41 ?_
            refine ev_aload_n 0 d_Model_readRule_192 rfl (by decide) rfl ?_
            refine ev_iconst d_Model_readRule_193 rfl ?_
            obtain ⟨p45, hp45, h⟩ := bx h
            have hRp45 := c_Model_fails (X := X) (d := d - 1) (by omega) hn_a0 hp45
            refine ev_callV2 (st2 := [(0, p45.1)]) (as := [(0, 1)]) (rest := []) rfl (by decide) (by decide) rfl hn_a0 rfl (Nat.le_of_ble_eq_true rfl) k_Model_fails ⟨tw_1269, ts_108⟩ (by omega) tw_1267 d_Model_readRule_194 hRp45 rfl ?_
            cases h
            obtain ⟨rfl, rfl⟩ := hk2 _ rfl
            exact ev_retZ d_Model_readRule_197 rfl (hRp45.2.1 _ rfl rfl)
      · replace h := itn hc32 h
        refine ev_if_eq_f d_Model_readRule_118 (by decide) hc32 ?_
        refine ev_less (L' := [(0, (12, a0))]) [0] rfl ?_
        exact cj_Model_readRule_121_99 hd hn_a0 h hk1 hk2 hk3
def l_Model_readRule_25 (a0 : Int) (s : Mm) : Option ((Mm) ⊕ (Int × Mm)) :=
  (f_Model_isSign s a0 33).bind (fun p6 =>
  if p6 ≠ 0 then
  j_Model_readRule_43_25 s a0
  else
  (f_Model_isSign s a0 40).bind (fun p16 =>
  if p16 = 0 then
  (f_Model_readSums s a0).bind (fun p18 =>
  if p18.1 ≠ 0 then
  (loopN (l_Model_readRule_99 a0) FU (0, p18.2)).bind (fun t46 =>
  Sum.elim (fun q47 => some (.inr q47)) (fun u48 =>
  some (.inl u48)) t46)
  else
  some (.inr ((0, p18.2))))
  else
  j_Model_readRule_43_25 s a0))
theorem cs_l_Model_readRule_25 {X : XX} {d : Nat} (hd : 5 ≤ d) {a0 : Int} (hn_a0 : a0 ≠ 0) {s : Mm} {x : (Mm) ⊕ (Int × Mm)} {r : Option AV} {M' : Mm} (h : l_Model_readRule_25 a0 s = some x) (hk1 : ∀ s : Mm, x = .inl s → Ev X m_Model_readRule d 25 [(0, (12, a0))] [] s r M') (hk2 : ∀ q : Int × Mm, x = .inr q → r = some (0, q.1) ∧ M' = q.2) : Ev X m_Model_readRule d 25 [(0, (12, a0))] [] s r M' := by
  unfold l_Model_readRule_25 at h
  refine ev_aload_n 0 d_Model_readRule_25 rfl (by decide) rfl ?_
  refine ev_bipush d_Model_readRule_26 rfl ?_
  obtain ⟨p6, hp6, h⟩ := bx h
  have hRp6 := c_Model_isSign (X := X) (d := d - 1) (by omega) hn_a0 hp6
  refine ev_callV2 (st2 := [(0, p6)]) (as := [(0, 33)]) (rest := []) rfl (by decide) (by decide) rfl hn_a0 rfl (Nat.le_of_ble_eq_true rfl) k_Model_isSign ⟨tw_1273, ts_109⟩ (by omega) tw_1271 d_Model_readRule_28 hRp6 rfl ?_
  by_cases hc7 : p6 ≠ 0
  · replace h := itp hc7 h
    refine ev_if_ne_t (tgt := 43) d_Model_readRule_31 (by decide) hc7 ?_
    exact cj_Model_readRule_43_25 hd hn_a0 h hk1 hk2
  · replace h := itn hc7 h
    refine ev_if_ne_f d_Model_readRule_31 (by decide) hc7 ?_
    refine ev_aload_n 0 d_Model_readRule_34 rfl (by decide) rfl ?_
    refine ev_bipush d_Model_readRule_35 rfl ?_
    obtain ⟨p16, hp16, h⟩ := bx h
    have hRp16 := c_Model_isSign (X := X) (d := d - 1) (by omega) hn_a0 hp16
    refine ev_callV2 (st2 := [(0, p16)]) (as := [(0, 40)]) (rest := []) rfl (by decide) (by decide) rfl hn_a0 rfl (Nat.le_of_ble_eq_true rfl) k_Model_isSign ⟨tw_1273, ts_109⟩ (by omega) tw_1271 d_Model_readRule_37 hRp16 rfl ?_
    by_cases hc17 : p16 = 0
    · replace h := itp hc17 h
      refine ev_if_eq_t (tgt := 88) d_Model_readRule_40 (by decide) hc17 ?_
      refine ev_aload_n 0 d_Model_readRule_88 rfl (by decide) rfl ?_
      obtain ⟨p18, hp18, h⟩ := bx h
      have hRp18 := c_Model_readSums (X := X) (d := d - 1) (by omega) hn_a0 hp18
      refine ev_callV2 (st2 := [(0, p18.1)]) (as := []) (rest := []) rfl (by decide) (by decide) rfl hn_a0 rfl (Nat.le_of_ble_eq_true rfl) k_Model_readSums ⟨tw_1301, ts_115⟩ (by omega) tw_1299 d_Model_readRule_89 hRp18 rfl ?_
      by_cases hc19 : p18.1 ≠ 0
      · replace h := itp hc19 h
        refine ev_if_ne_t (tgt := 97) d_Model_readRule_92 (by decide) hc19 ?_
        refine ev_iconst d_Model_readRule_97 rfl ?_
        refine ev_istore_n (L' := [(1, (0, 0)), (0, (12, a0))]) d_Model_readRule_98 rfl (by decide) rfl ?_
        obtain ⟨t46, ht46, h⟩ := bx h
        refine ev_less (L' := [(0, (12, a0)), (1, (0, 0))]) [1, 0] rfl ?_
        refine loop_ev (step := l_Model_readRule_99 a0) (P := fun w : Int × Mm => Ev X m_Model_readRule d 99 [(0, (12, a0)), (1, (0, w.1))] [] w.2 r M') (Q := fun u => (∀ q, u = .inl q → r = some (0, q.1) ∧ M' = q.2) ∧ (∀ w, u = .inr w → Ev X m_Model_readRule d 253 [(0, (12, a0))] [] w r M')) (fun w x hs k1 k2 => cs_l_Model_readRule_99 hd hn_a0 hs k1 (fun q e => (k2 _ e).1 q rfl) (fun t e => (k2 _ e).2 t rfl)) FU (0, p18.2) t46 ht46 ?_
        refine ⟨fun qq e => ?_, fun tt e => ?_⟩
        · subst e; replace h := sx1 h; (obtain ⟨q47, rfl⟩ : ∃ y, y = qq := ⟨_, rfl⟩)
          cases h
          exact hk2 _ rfl
        · subst e; replace h := sx2 h; (obtain ⟨u48, rfl⟩ : ∃ y, y = tt := ⟨_, rfl⟩)
          refine ev_goto (tgt := 25) d_Model_readRule_253 (by decide) ?_
          cases h
          exact hk1 _ rfl
      · replace h := itn hc19 h
        refine ev_if_ne_f d_Model_readRule_92 (by decide) hc19 ?_
        refine ev_iconst d_Model_readRule_95 rfl ?_
        cases h
        obtain ⟨rfl, rfl⟩ := hk2 _ rfl
        exact ev_retZ d_Model_readRule_96 rfl (Or.inl rfl)
    · replace h := itn hc17 h
      refine ev_if_eq_f d_Model_readRule_40 (by decide) hc17 ?_
      exact cj_Model_readRule_43_25 hd hn_a0 h hk1 hk2
def f_Model_readRule (M : Mm) (a0 : Int) : Option (Int × Mm) :=
  lt (mp M (cI a0) 30 0) (fun M1 =>
  lt (mp M1 (cI a0) 41 0) (fun M2 =>
  lt (mp M2 (cI a0) 44 0) (fun M3 =>
  lt (mp M3 (cI a0) 47 0) (fun M4 =>
  (f_Model_next M4 a0 1).bind (fun p5 =>
  (loopN (l_Model_readRule_25 a0) FU p5).bind (fun t49 =>
  some t49))))))
theorem c_Model_readRule {X : XX} {d : Nat} (hd : 5 ≤ d) {M : Mm} {a0 : Int} (hn_a0 : a0 ≠ 0) {p : Int × Mm} (h : f_Model_readRule M a0 = some p) : Rn X d m_Model_readRule [(12, a0)] M (some (0, p.1)) p.2 := by
  refine Rn_of (by decide) rfl (Nat.le_of_ble_eq_true rfl) ?_
  unfold f_Model_readRule at h
  refine ev_less (L' := [(0, (12, a0))]) [0] rfl ?_
  refine ev_aload_n 0 d_Model_readRule_0 rfl (by decide) rfl ?_
  refine ev_iconst d_Model_readRule_1 rfl ?_
  obtain ⟨M1, hM1, h⟩ := ltx h
  refine ev_put' (t := 12) (k := 30) (by decide) (by decide) rfl i_Model t_Model_ok n_Model (by decide) rfl rfl rfl rfl tw_930 d_Model_readRule_2 hn_a0 hM1 ?_
  refine ev_aload_n 0 d_Model_readRule_5 rfl (by decide) rfl ?_
  refine ev_iconst d_Model_readRule_6 rfl ?_
  obtain ⟨M2, hM2, h⟩ := ltx h
  refine ev_put' (t := 12) (k := 41) (by decide) (by decide) rfl i_Model t_Model_ok n_Model (by decide) rfl rfl rfl rfl tw_941 d_Model_readRule_7 hn_a0 hM2 ?_
  refine ev_aload_n 0 d_Model_readRule_10 rfl (by decide) rfl ?_
  refine ev_iconst d_Model_readRule_11 rfl ?_
  obtain ⟨M3, hM3, h⟩ := ltx h
  refine ev_put' (t := 12) (k := 44) (by decide) (by decide) rfl i_Model t_Model_ok n_Model (by decide) rfl rfl rfl rfl tw_944 d_Model_readRule_12 hn_a0 hM3 ?_
  refine ev_aload_n 0 d_Model_readRule_15 rfl (by decide) rfl ?_
  refine ev_iconst d_Model_readRule_16 rfl ?_
  obtain ⟨M4, hM4, h⟩ := ltx h
  refine ev_put' (t := 12) (k := 47) (by decide) (by decide) rfl i_Model t_Model_ok n_Model (by decide) rfl rfl rfl rfl tw_947 d_Model_readRule_17 hn_a0 hM4 ?_
  refine ev_aload_n 0 d_Model_readRule_20 rfl (by decide) rfl ?_
  refine ev_iconst d_Model_readRule_21 rfl ?_
  obtain ⟨p5, hp5, h⟩ := bx h
  have hRp5 := c_Model_next (X := X) (d := d - 1) (by omega) hn_a0 hp5
  refine ev_callV2 (st2 := []) (as := [(0, 1)]) (rest := []) rfl (by decide) (by decide) rfl hn_a0 rfl (Nat.le_of_ble_eq_true rfl) k_Model_next ⟨tw_1233, ts_99⟩ (by omega) tw_1231 d_Model_readRule_22 hRp5 rfl ?_
  obtain ⟨t49, ht49, h⟩ := bx h
  refine loop_ev (step := l_Model_readRule_25 a0) (P := fun w : Mm => Ev X m_Model_readRule d 25 [(0, (12, a0))] [] w (some (0, p.1)) p.2) (Q := fun q => (some (0, p.1)) = some (0, q.1) ∧ p.2 = q.2) (fun w x hs k1 k2 => cs_l_Model_readRule_25 hd hn_a0 hs k1 k2) FU p5 t49 ht49 ?_
  cases h
  exact ⟨rfl, rfl⟩
def l_Model_rule_41 (a0 : Int) (s : Int × Mm) : Option ((Int × Mm) ⊕ (Mm)) :=
  if (mg s.2 (cI a0) 38) ≤ s.1 then
  some (.inr s.2)
  else
  if (mg s.2 (cI a0) 42) ≠ 0 then
  if (0 : Int) ≤ s.1 ∧ s.1 < (ml s.2 (cI (mg s.2 (cI a0) 42)) : Int) then
  if (mg s.2 (cI a0) 39) ≠ 0 then
  if (0 : Int) ≤ s.1 ∧ s.1 < (ml s.2 (cI (mg s.2 (cI a0) 39)) : Int) then
  lt (mp s.2 (cI (mg s.2 (cI a0) 39)) (s.1 : Int).toNat (mg s.2 (cI (mg s.2 (cI a0) 42)) (s.1 : Int).toNat)) (fun M13 =>
  if (mg M13 (cI a0) 43) ≠ 0 then
  if (0 : Int) ≤ s.1 ∧ s.1 < (ml M13 (cI (mg M13 (cI a0) 43)) : Int) then
  if (mg M13 (cI a0) 40) ≠ 0 then
  if (0 : Int) ≤ s.1 ∧ s.1 < (ml M13 (cI (mg M13 (cI a0) 40)) : Int) then
  lt (mp M13 (cI (mg M13 (cI a0) 40)) (s.1 : Int).toNat (mg M13 (cI (mg M13 (cI a0) 43)) (s.1 : Int).toNat)) (fun M18 =>
  lt (w32 (s.1 + 1)) (fun x19 : Int =>
  some (.inl (x19, M18))))
  else none
  else none
  else none
  else none)
  else none
  else none
  else none
  else none
theorem cs_l_Model_rule_41 {X : XX} {d : Nat} (hd : 6 ≤ d) {a0 : Int} (hn_a0 : a0 ≠ 0) {s : Int × Mm} {x : (Int × Mm) ⊕ (Mm)} {r : Option AV} {M' : Mm} (h : l_Model_rule_41 a0 s = some x) (hk1 : ∀ s : Int × Mm, x = .inl s → Ev X m_Model_rule d 41 [(0, (12, a0)), (2, (0, s.1))] [] s.2 r M') (hk2 : ∀ t : Mm, x = .inr t → Ev X m_Model_rule d 79 [(0, (12, a0))] [] t r M') : Ev X m_Model_rule d 41 [(0, (12, a0)), (2, (0, s.1))] [] s.2 r M' := by
  unfold l_Model_rule_41 at h
  refine ev_iload_n 1 d_Model_rule_41 rfl rfl ?_
  refine ev_aload_n 0 d_Model_rule_42 rfl (by decide) rfl ?_
  refine ev_get (t := 12) (k := 38) (by decide) (by decide) rfl i_Model (by decide) rfl rfl tw_938 d_Model_rule_43 hn_a0 ?_
  by_cases hc8 : (mg s.2 (cI a0) 38) ≤ s.1
  · replace h := itp hc8 h
    refine ev_icmp_ge_t (tgt := 79) d_Model_rule_46 (by decide) hc8 ?_
    refine ev_less (L' := [(0, (12, a0))]) [0] rfl ?_
    cases h
    exact hk2 _ rfl
  · replace h := itn hc8 h
    refine ev_icmp_ge_f d_Model_rule_46 (by decide) hc8 ?_
    refine ev_aload_n 0 d_Model_rule_49 rfl (by decide) rfl ?_
    refine ev_get (t := 12) (k := 39) (by decide) (by decide) rfl i_Model (by decide) rfl rfl tw_939 d_Model_rule_50 hn_a0 ?_
    refine ev_iload_n 1 d_Model_rule_53 rfl rfl ?_
    refine ev_aload_n 0 d_Model_rule_54 rfl (by decide) rfl ?_
    refine ev_get (t := 12) (k := 42) (by decide) (by decide) rfl i_Model (by decide) rfl rfl tw_942 d_Model_rule_55 hn_a0 ?_
    refine ev_iload_n 1 d_Model_rule_58 rfl rfl ?_
    obtain ⟨hz9, h⟩ := gx h
    obtain ⟨hg10, h⟩ := gx h
    refine ev_iald d_Model_rule_59 hz9 hg10 ?_
    obtain ⟨hz11, h⟩ := gx h
    obtain ⟨hg12, h⟩ := gx h
    obtain ⟨M13, hM13, h⟩ := ltx h
    refine ev_iast' d_Model_rule_60 hz11 hg12 hM13 ?_
    refine ev_aload_n 0 d_Model_rule_61 rfl (by decide) rfl ?_
    refine ev_get (t := 12) (k := 40) (by decide) (by decide) rfl i_Model (by decide) rfl rfl tw_940 d_Model_rule_62 hn_a0 ?_
    refine ev_iload_n 1 d_Model_rule_65 rfl rfl ?_
    refine ev_aload_n 0 d_Model_rule_66 rfl (by decide) rfl ?_
    refine ev_get (t := 12) (k := 43) (by decide) (by decide) rfl i_Model (by decide) rfl rfl tw_943 d_Model_rule_67 hn_a0 ?_
    refine ev_iload_n 1 d_Model_rule_70 rfl rfl ?_
    obtain ⟨hz14, h⟩ := gx h
    obtain ⟨hg15, h⟩ := gx h
    refine ev_iald d_Model_rule_71 hz14 hg15 ?_
    obtain ⟨hz16, h⟩ := gx h
    obtain ⟨hg17, h⟩ := gx h
    obtain ⟨M18, hM18, h⟩ := ltx h
    refine ev_iast' d_Model_rule_72 hz16 hg17 hM18 ?_
    obtain ⟨x19, hx19, h⟩ := ltx h
    refine ev_iinc' 1 (y := x19) (L' := [(2, (0, x19)), (0, (12, a0))]) d_Model_rule_73 rfl (by decide) rfl hx19 ?_
    refine ev_goto (tgt := 41) d_Model_rule_76 (by decide) ?_
    refine ev_less (L' := [(0, (12, a0)), (2, (0, x19))]) [1, 0] rfl ?_
    cases h
    exact hk1 _ rfl
def f_Model_rule (M : Mm) (a0 : Int) : Option (Int × Mm) :=
  lt (mp M (cI a0) 0 0) (fun M1 =>
  (f_Model_readRule M1 a0).bind (fun p2 =>
  lt (mp p2.2 (cI a0) 29 0) (fun M3 =>
  if p2.1 ≠ 0 then
  lt (mp M3 (cI a0) 35 0) (fun M5 =>
  lt (mp M5 (cI a0) 36 (-1)) (fun M6 =>
  lt (mp M6 (cI a0) 38 (mg M6 (cI a0) 41)) (fun M7 =>
  (loopN (l_Model_rule_41 a0) FU (0, M7)).bind (fun t20 =>
  some ((mg t20 (cI a0) 47), t20)))))
  else
  some ((-1), M3))))
theorem c_Model_rule {X : XX} {d : Nat} (hd : 6 ≤ d) {M : Mm} {a0 : Int} (hn_a0 : a0 ≠ 0) {p : Int × Mm} (h : f_Model_rule M a0 = some p) : Rn X d m_Model_rule [(12, a0)] M (some (0, p.1)) p.2 := by
  refine Rn_of (by decide) rfl (Nat.le_of_ble_eq_true rfl) ?_
  unfold f_Model_rule at h
  refine ev_less (L' := [(0, (12, a0))]) [0] rfl ?_
  refine ev_aload_n 0 d_Model_rule_0 rfl (by decide) rfl ?_
  refine ev_iconst d_Model_rule_1 rfl ?_
  obtain ⟨M1, hM1, h⟩ := ltx h
  refine ev_put' (t := 12) (k := 0) (by decide) (by decide) rfl i_Model t_Model_ok n_Model (by decide) rfl rfl rfl rfl tw_900 d_Model_rule_2 hn_a0 hM1 ?_
  refine ev_aload_n 0 d_Model_rule_5 rfl (by decide) rfl ?_
  obtain ⟨p2, hp2, h⟩ := bx h
  have hRp2 := c_Model_readRule (X := X) (d := d - 1) (by omega) hn_a0 hp2
  refine ev_callV2 (st2 := [(0, p2.1)]) (as := []) (rest := []) rfl (by decide) (by decide) rfl hn_a0 rfl (Nat.le_of_ble_eq_true rfl) k_Model_readRule ⟨tw_1289, ts_112⟩ (by omega) tw_1287 d_Model_rule_6 hRp2 rfl ?_
  refine ev_istore_n (L' := [(1, (0, p2.1)), (0, (12, a0))]) d_Model_rule_9 rfl (by decide) rfl ?_
  refine ev_aload_n 1 d_Model_rule_10 rfl (by decide) rfl ?_
  refine ev_iconst d_Model_rule_11 rfl ?_
  obtain ⟨M3, hM3, h⟩ := ltx h
  refine ev_put' (t := 12) (k := 29) (by decide) (by decide) rfl i_Model t_Model_ok n_Model (by decide) rfl rfl rfl rfl tw_929 d_Model_rule_12 hn_a0 hM3 ?_
  refine ev_iload_n 0 d_Model_rule_15 rfl rfl ?_
  by_cases hc4 : p2.1 ≠ 0
  · replace h := itp hc4 h
    refine ev_if_ne_t (tgt := 21) d_Model_rule_16 (by decide) hc4 ?_
    refine ev_aload_n 1 d_Model_rule_21 rfl (by decide) rfl ?_
    refine ev_iconst d_Model_rule_22 rfl ?_
    obtain ⟨M5, hM5, h⟩ := ltx h
    refine ev_put' (t := 12) (k := 35) (by decide) (by decide) rfl i_Model t_Model_ok n_Model (by decide) rfl rfl rfl rfl tw_935 d_Model_rule_23 hn_a0 hM5 ?_
    refine ev_aload_n 1 d_Model_rule_26 rfl (by decide) rfl ?_
    refine ev_iconst d_Model_rule_27 rfl ?_
    obtain ⟨M6, hM6, h⟩ := ltx h
    refine ev_put' (t := 12) (k := 36) (by decide) (by decide) rfl i_Model t_Model_ok n_Model (by decide) rfl rfl rfl rfl tw_936 d_Model_rule_28 hn_a0 hM6 ?_
    refine ev_aload_n 1 d_Model_rule_31 rfl (by decide) rfl ?_
    refine ev_aload_n 1 d_Model_rule_32 rfl (by decide) rfl ?_
    refine ev_get (t := 12) (k := 41) (by decide) (by decide) rfl i_Model (by decide) rfl rfl tw_941 d_Model_rule_33 hn_a0 ?_
    obtain ⟨M7, hM7, h⟩ := ltx h
    refine ev_put' (t := 12) (k := 38) (by decide) (by decide) rfl i_Model t_Model_ok n_Model (by decide) rfl rfl rfl rfl tw_938 d_Model_rule_36 hn_a0 hM7 ?_
    refine ev_iconst d_Model_rule_39 rfl ?_
    refine ev_istore_n (L' := [(2, (0, 0)), (1, (0, p2.1)), (0, (12, a0))]) d_Model_rule_40 rfl (by decide) rfl ?_
    obtain ⟨t20, ht20, h⟩ := bx h
    refine ev_less (L' := [(0, (12, a0)), (2, (0, 0))]) [2, 0] rfl ?_
    refine loop_ev (step := l_Model_rule_41 a0) (P := fun w : Int × Mm => Ev X m_Model_rule d 41 [(0, (12, a0)), (2, (0, w.1))] [] w.2 (some (0, p.1)) p.2) (Q := fun w => Ev X m_Model_rule d 79 [(0, (12, a0))] [] w (some (0, p.1)) p.2) (fun w x hs k1 k2 => cs_l_Model_rule_41 hd hn_a0 hs k1 k2) FU (0, M7) t20 ht20 ?_
    refine ev_aload_n 0 d_Model_rule_79 rfl (by decide) rfl ?_
    refine ev_get (t := 12) (k := 47) (by decide) (by decide) rfl i_Model (by decide) rfl rfl tw_947 d_Model_rule_80 hn_a0 ?_
    cases h
    exact ev_ret d_Model_rule_83 rfl
  · replace h := itn hc4 h
    refine ev_if_ne_f d_Model_rule_16 (by decide) hc4 ?_
    refine ev_iconst d_Model_rule_19 rfl ?_
    cases h
    exact ev_ret d_Model_rule_20 rfl
def j_Model_done_112 (M : Mm) (y0 : Int) : Option (Int) :=
  if y0 = 0 then
  some 0
  else
  some 1
theorem cj_Model_done_112 {X : XX} {d : Nat} (hd : 0 ≤ d) {M : Mm} {y0 : Int} {p : Int} (h : j_Model_done_112 M y0 = some p) : Ev X m_Model_done d 112 [] [(0, y0)] M (some (0, p)) M := by
  unfold j_Model_done_112 at h
  refine ev_istore (L' := [(4, (0, y0))]) d_Model_done_112 (by decide) rfl ?_
  refine ev_iload 0 d_Model_done_114 rfl ?_
  by_cases hc8 : y0 = 0
  · replace h := itp hc8 h
    refine ev_if_eq_t (tgt := 123) d_Model_done_116 (by decide) hc8 ?_
    refine ev_iconst d_Model_done_123 rfl ?_
    cases h
    exact ev_ret d_Model_done_124 rfl
  · replace h := itn hc8 h
    refine ev_if_eq_f d_Model_done_116 (by decide) hc8 ?_
    refine ev_iconst d_Model_done_119 rfl ?_
    refine ev_goto (tgt := 124) d_Model_done_120 (by decide) ?_
    cases h
    exact ev_ret d_Model_done_124 rfl
def j_Model_done_107 (M : Mm) : Option (Int) :=
  j_Model_done_112 M 1
theorem cj_Model_done_107 {X : XX} {d : Nat} (hd : 0 ≤ d) {M : Mm} {p : Int} (h : j_Model_done_107 M = some p) : Ev X m_Model_done d 107 [] [] M (some (0, p)) M := by
  unfold j_Model_done_107 at h
  refine ev_iconst d_Model_done_107 rfl ?_
  refine ev_goto (tgt := 112) d_Model_done_108 (by decide) ?_
  exact cj_Model_done_112 hd h
def j_Model_done_95 (M : Mm) : Option (Int) :=
  j_Model_done_112 M 0
theorem cj_Model_done_95 {X : XX} {d : Nat} (hd : 0 ≤ d) {M : Mm} {p : Int} (h : j_Model_done_95 M = some p) : Ev X m_Model_done d 95 [] [] M (some (0, p)) M := by
  unfold j_Model_done_95 at h
  refine ev_iconst d_Model_done_95 rfl ?_
  refine ev_goto (tgt := 112) d_Model_done_96 (by decide) ?_
  exact cj_Model_done_112 hd h
def f_Model_done (M : Mm) (a0 : Int) (a1 : Int) (a2 : Int) (a3 : Int) : Option (Int) :=
  if a1 ≠ 43 then
  if a1 ≠ 45 then
  if a1 ≠ 60 then
  if a1 ≠ 61 then
  if a1 ≠ 62 then
  if a1 ≠ 38 then
  if a2 ≠ 0 then
  j_Model_done_107 M
  else
  if a3 = 0 then
  j_Model_done_112 M 0
  else
  j_Model_done_107 M
  else
  if a2 = 0 then
  j_Model_done_95 M
  else
  if a3 = 0 then
  j_Model_done_95 M
  else
  j_Model_done_112 M 1
  else
  if a2 ≤ a3 then
  j_Model_done_112 M 0
  else
  j_Model_done_112 M 1
  else
  if a2 ≠ a3 then
  j_Model_done_112 M 0
  else
  j_Model_done_112 M 1
  else
  if a3 ≤ a2 then
  j_Model_done_112 M 0
  else
  j_Model_done_112 M 1
  else
  some (w32 (a2 - a3))
  else
  some (w32 (a2 + a3))
theorem c_Model_done {X : XX} {d : Nat} (hd : 0 ≤ d) {M : Mm} {a0 : Int} {a1 : Int} {a2 : Int} {a3 : Int} (hn_a0 : a0 ≠ 0) {p : Int} (h : f_Model_done M a0 a1 a2 a3 = some p) : Rn X d m_Model_done [(12, a0), (0, a1), (0, a2), (0, a3)] M (some (0, p)) M := by
  refine Rn_of (by decide) rfl (Nat.le_of_ble_eq_true rfl) ?_
  unfold f_Model_done at h
  refine ev_less (L' := [(0, (12, a0)), (1, (0, a1)), (2, (0, a2)), (3, (0, a3))]) [0, 1, 2, 3] rfl ?_
  refine ev_iload_n 1 d_Model_done_0 rfl rfl ?_
  refine ev_bipush d_Model_done_1 rfl ?_
  by_cases hc1 : a1 ≠ 43
  · replace h := itp hc1 h
    refine ev_icmp_ne_t (tgt := 10) d_Model_done_3 (by decide) hc1 ?_
    refine ev_iload_n 1 d_Model_done_10 rfl rfl ?_
    refine ev_bipush d_Model_done_11 rfl ?_
    by_cases hc2 : a1 ≠ 45
    · replace h := itp hc2 h
      refine ev_icmp_ne_t (tgt := 20) d_Model_done_13 (by decide) hc2 ?_
      refine ev_iload_n 1 d_Model_done_20 rfl rfl ?_
      refine ev_bipush d_Model_done_21 rfl ?_
      by_cases hc3 : a1 ≠ 60
      · replace h := itp hc3 h
        refine ev_icmp_ne_t (tgt := 39) d_Model_done_23 (by decide) hc3 ?_
        refine ev_iload_n 1 d_Model_done_39 rfl rfl ?_
        refine ev_bipush d_Model_done_40 rfl ?_
        by_cases hc4 : a1 ≠ 61
        · replace h := itp hc4 h
          refine ev_icmp_ne_t (tgt := 58) d_Model_done_42 (by decide) hc4 ?_
          refine ev_iload_n 1 d_Model_done_58 rfl rfl ?_
          refine ev_bipush d_Model_done_59 rfl ?_
          by_cases hc5 : a1 ≠ 62
          · replace h := itp hc5 h
            refine ev_icmp_ne_t (tgt := 77) d_Model_done_61 (by decide) hc5 ?_
            refine ev_iload_n 1 d_Model_done_77 rfl rfl ?_
            refine ev_bipush d_Model_done_78 rfl ?_
            by_cases hc6 : a1 ≠ 38
            · replace h := itp hc6 h
              refine ev_icmp_ne_t (tgt := 99) d_Model_done_80 (by decide) hc6 ?_
              refine ev_iload_n 2 d_Model_done_99 rfl rfl ?_
              by_cases hc7 : a2 ≠ 0
              · replace h := itp hc7 h
                refine ev_if_ne_t (tgt := 107) d_Model_done_100 (by decide) hc7 ?_
                refine ev_less (L' := []) [] rfl ?_
                exact cj_Model_done_107 hd h
              · replace h := itn hc7 h
                refine ev_if_ne_f d_Model_done_100 (by decide) hc7 ?_
                refine ev_iload_n 3 d_Model_done_103 rfl rfl ?_
                by_cases hc9 : a3 = 0
                · replace h := itp hc9 h
                  refine ev_if_eq_t (tgt := 111) d_Model_done_104 (by decide) hc9 ?_
                  refine ev_iconst d_Model_done_111 rfl ?_
                  refine ev_less (L' := []) [] rfl ?_
                  exact cj_Model_done_112 hd h
                · replace h := itn hc9 h
                  refine ev_if_eq_f d_Model_done_104 (by decide) hc9 ?_
                  refine ev_less (L' := []) [] rfl ?_
                  exact cj_Model_done_107 hd h
            · replace h := itn hc6 h
              refine ev_icmp_ne_f d_Model_done_80 (by decide) hc6 ?_
              refine ev_iload_n 2 d_Model_done_83 rfl rfl ?_
              by_cases hc10 : a2 = 0
              · replace h := itp hc10 h
                refine ev_if_eq_t (tgt := 95) d_Model_done_84 (by decide) hc10 ?_
                refine ev_less (L' := []) [] rfl ?_
                exact cj_Model_done_95 hd h
              · replace h := itn hc10 h
                refine ev_if_eq_f d_Model_done_84 (by decide) hc10 ?_
                refine ev_iload_n 3 d_Model_done_87 rfl rfl ?_
                by_cases hc11 : a3 = 0
                · replace h := itp hc11 h
                  refine ev_if_eq_t (tgt := 95) d_Model_done_88 (by decide) hc11 ?_
                  refine ev_less (L' := []) [] rfl ?_
                  exact cj_Model_done_95 hd h
                · replace h := itn hc11 h
                  refine ev_if_eq_f d_Model_done_88 (by decide) hc11 ?_
                  refine ev_iconst d_Model_done_91 rfl ?_
                  refine ev_goto (tgt := 112) d_Model_done_92 (by decide) ?_
                  refine ev_less (L' := []) [] rfl ?_
                  exact cj_Model_done_112 hd h
          · replace h := itn hc5 h
            refine ev_icmp_ne_f d_Model_done_61 (by decide) hc5 ?_
            refine ev_iload_n 2 d_Model_done_64 rfl rfl ?_
            refine ev_iload_n 3 d_Model_done_65 rfl rfl ?_
            by_cases hc12 : a2 ≤ a3
            · replace h := itp hc12 h
              refine ev_icmp_le_t (tgt := 73) d_Model_done_66 (by decide) hc12 ?_
              refine ev_iconst d_Model_done_73 rfl ?_
              refine ev_goto (tgt := 112) d_Model_done_74 (by decide) ?_
              refine ev_less (L' := []) [] rfl ?_
              exact cj_Model_done_112 hd h
            · replace h := itn hc12 h
              refine ev_icmp_le_f d_Model_done_66 (by decide) hc12 ?_
              refine ev_iconst d_Model_done_69 rfl ?_
              refine ev_goto (tgt := 112) d_Model_done_70 (by decide) ?_
              refine ev_less (L' := []) [] rfl ?_
              exact cj_Model_done_112 hd h
        · replace h := itn hc4 h
          refine ev_icmp_ne_f d_Model_done_42 (by decide) hc4 ?_
          refine ev_iload_n 2 d_Model_done_45 rfl rfl ?_
          refine ev_iload_n 3 d_Model_done_46 rfl rfl ?_
          by_cases hc13 : a2 ≠ a3
          · replace h := itp hc13 h
            refine ev_icmp_ne_t (tgt := 54) d_Model_done_47 (by decide) hc13 ?_
            refine ev_iconst d_Model_done_54 rfl ?_
            refine ev_goto (tgt := 112) d_Model_done_55 (by decide) ?_
            refine ev_less (L' := []) [] rfl ?_
            exact cj_Model_done_112 hd h
          · replace h := itn hc13 h
            refine ev_icmp_ne_f d_Model_done_47 (by decide) hc13 ?_
            refine ev_iconst d_Model_done_50 rfl ?_
            refine ev_goto (tgt := 112) d_Model_done_51 (by decide) ?_
            refine ev_less (L' := []) [] rfl ?_
            exact cj_Model_done_112 hd h
      · replace h := itn hc3 h
        refine ev_icmp_ne_f d_Model_done_23 (by decide) hc3 ?_
        refine ev_iload_n 2 d_Model_done_26 rfl rfl ?_
        refine ev_iload_n 3 d_Model_done_27 rfl rfl ?_
        by_cases hc14 : a3 ≤ a2
        · replace h := itp hc14 h
          refine ev_icmp_ge_t (tgt := 35) d_Model_done_28 (by decide) hc14 ?_
          refine ev_iconst d_Model_done_35 rfl ?_
          refine ev_goto (tgt := 112) d_Model_done_36 (by decide) ?_
          refine ev_less (L' := []) [] rfl ?_
          exact cj_Model_done_112 hd h
        · replace h := itn hc14 h
          refine ev_icmp_ge_f d_Model_done_28 (by decide) hc14 ?_
          refine ev_iconst d_Model_done_31 rfl ?_
          refine ev_goto (tgt := 112) d_Model_done_32 (by decide) ?_
          refine ev_less (L' := []) [] rfl ?_
          exact cj_Model_done_112 hd h
    · replace h := itn hc2 h
      refine ev_icmp_ne_f d_Model_done_13 (by decide) hc2 ?_
      refine ev_iload_n 2 d_Model_done_16 rfl rfl ?_
      refine ev_iload_n 3 d_Model_done_17 rfl rfl ?_
      refine ev_isub d_Model_done_18 ?_
      cases h
      exact ev_ret d_Model_done_19 rfl
  · replace h := itn hc1 h
    refine ev_icmp_ne_f d_Model_done_3 (by decide) hc1 ?_
    refine ev_iload_n 2 d_Model_done_6 rfl rfl ?_
    refine ev_iload_n 3 d_Model_done_7 rfl rfl ?_
    refine ev_iadd d_Model_done_8 ?_
    cases h
    exact ev_ret d_Model_done_9 rfl
end
