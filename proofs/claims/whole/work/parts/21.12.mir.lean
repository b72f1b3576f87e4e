noncomputable section
def f_Model_isWordOf (M : Mm) (a0 : Int) (a1 : Int) : Option (Int) :=
  if a1 = 0 then
  (f_Model_word M a0 112 105 101 99 101).bind (fun p2 =>
  if (mg M (cI a0) 34) = p2 then
  some 1
  else
  (f_Model_word M a0 109 117 115 116 0).bind (fun p4 =>
  if (mg M (cI a0) 34) = p4 then
  some 1
  else
  (f_Model_word M a0 109 97 121 0 0).bind (fun p6 =>
  if (mg M (cI a0) 34) = p6 then
  some 1
  else
  (f_Model_word M a0 111 114 0 0 0).bind (fun p8 =>
  if (mg M (cI a0) 34) ≠ p8 then
  some 0
  else
  some 1))))
  else
  (f_Model_word M a0 97 103 101 0 0).bind (fun p10 =>
  if (mg M (cI a0) 34) = p10 then
  some 1
  else
  (f_Model_word M a0 100 97 121 115 0).bind (fun p12 =>
  if (mg M (cI a0) 34) = p12 then
  some 1
  else
  (f_Model_word M a0 112 97 115 116 0).bind (fun p14 =>
  if (mg M (cI a0) 34) = p14 then
  some 1
  else
  (f_Model_word M a0 111 117 116 0 0).bind (fun p16 =>
  if (mg M (cI a0) 34) = p16 then
  some 1
  else
  (f_Model_word M a0 100 97 121 0 0).bind (fun p18 =>
  if (mg M (cI a0) 34) ≠ p18 then
  some 0
  else
  some 1)))))
theorem c_Model_isWordOf {X : XX} {d : Nat} (hd : 1 ≤ d) {M : Mm} {a0 : Int} {a1 : Int} (hn_a0 : a0 ≠ 0) {p : Int} (h : f_Model_isWordOf M a0 a1 = some p) : Rn X d m_Model_isWordOf [(12, a0), (0, a1)] M (some (0, p)) M := by
  refine Rn_of (by decide) rfl (Nat.le_of_ble_eq_true rfl) ?_
  unfold f_Model_isWordOf at h
  refine ev_less (L' := [(0, (12, a0)), (1, (0, a1))]) [0, 1] rfl ?_
  refine ev_iload_n 1 d_Model_isWordOf_0 rfl rfl ?_
  by_cases hc1 : a1 = 0
  · replace h := itp hc1 h
    refine ev_if_eq_t (tgt := 112) d_Model_isWordOf_1 (by decide) hc1 ?_
    refine ev_aload_n 0 d_Model_isWordOf_112 rfl (by decide) rfl ?_
    refine ev_get (t := 12) (k := 34) (by decide) (by decide) rfl i_Model (by decide) rfl rfl tw_934 d_Model_isWordOf_113 hn_a0 ?_
    refine ev_aload_n 0 d_Model_isWordOf_116 rfl (by decide) rfl ?_
    refine ev_bipush d_Model_isWordOf_117 rfl ?_
    refine ev_bipush d_Model_isWordOf_119 rfl ?_
    refine ev_bipush d_Model_isWordOf_121 rfl ?_
    refine ev_bipush d_Model_isWordOf_123 rfl ?_
    refine ev_bipush d_Model_isWordOf_125 rfl ?_
    obtain ⟨p2, hp2, h⟩ := bx h
    have hRp2 := c_Model_word (X := X) (d := d - 1) (by omega) hn_a0 hp2
    refine ev_callV2 (st2 := [(1, p2), (1, (mg M (cI a0) 34))]) (as := [(0, 112), (0, 105), (0, 101), (0, 99), (0, 101)]) (rest := [(1, (mg M (cI a0) 34))]) rfl (by decide) (by decide) rfl hn_a0 rfl (Nat.le_of_ble_eq_true rfl) k_Model_word ⟨tw_1249, ts_103⟩ (by omega) tw_1247 d_Model_isWordOf_127 hRp2 rfl ?_
    refine ev_lcmp d_Model_isWordOf_130 ?_
    by_cases hc3 : (mg M (cI a0) 34) = p2
    · replace h := itp hc3 h
      refine ev_if_eq_t (tgt := 194) d_Model_isWordOf_131 (by decide) ((lC_eq _ _).mpr hc3) ?_
      refine ev_iconst d_Model_isWordOf_194 rfl ?_
      refine ev_goto (tgt := 199) d_Model_isWordOf_195 (by decide) ?_
      cases h
      exact ev_retZ d_Model_isWordOf_199 rfl (Or.inr rfl)
    · replace h := itn hc3 h
      refine ev_if_eq_f d_Model_isWordOf_131 (by decide) (fun z => hc3 ((lC_eq _ _).mp z)) ?_
      refine ev_aload_n 0 d_Model_isWordOf_134 rfl (by decide) rfl ?_
      refine ev_get (t := 12) (k := 34) (by decide) (by decide) rfl i_Model (by decide) rfl rfl tw_934 d_Model_isWordOf_135 hn_a0 ?_
      refine ev_aload_n 0 d_Model_isWordOf_138 rfl (by decide) rfl ?_
      refine ev_bipush d_Model_isWordOf_139 rfl ?_
      refine ev_bipush d_Model_isWordOf_141 rfl ?_
      refine ev_bipush d_Model_isWordOf_143 rfl ?_
      refine ev_bipush d_Model_isWordOf_145 rfl ?_
      refine ev_iconst d_Model_isWordOf_147 rfl ?_
      obtain ⟨p4, hp4, h⟩ := bx h
      have hRp4 := c_Model_word (X := X) (d := d - 1) (by omega) hn_a0 hp4
      refine ev_callV2 (st2 := [(1, p4), (1, (mg M (cI a0) 34))]) (as := [(0, 109), (0, 117), (0, 115), (0, 116), (0, 0)]) (rest := [(1, (mg M (cI a0) 34))]) rfl (by decide) (by decide) rfl hn_a0 rfl (Nat.le_of_ble_eq_true rfl) k_Model_word ⟨tw_1249, ts_103⟩ (by omega) tw_1247 d_Model_isWordOf_148 hRp4 rfl ?_
      refine ev_lcmp d_Model_isWordOf_151 ?_
      by_cases hc5 : (mg M (cI a0) 34) = p4
      · replace h := itp hc5 h
        refine ev_if_eq_t (tgt := 194) d_Model_isWordOf_152 (by decide) ((lC_eq _ _).mpr hc5) ?_
        refine ev_iconst d_Model_isWordOf_194 rfl ?_
        refine ev_goto (tgt := 199) d_Model_isWordOf_195 (by decide) ?_
        cases h
        exact ev_retZ d_Model_isWordOf_199 rfl (Or.inr rfl)
      · replace h := itn hc5 h
        refine ev_if_eq_f d_Model_isWordOf_152 (by decide) (fun z => hc5 ((lC_eq _ _).mp z)) ?_
        refine ev_aload_n 0 d_Model_isWordOf_155 rfl (by decide) rfl ?_
        refine ev_get (t := 12) (k := 34) (by decide) (by decide) rfl i_Model (by decide) rfl rfl tw_934 d_Model_isWordOf_156 hn_a0 ?_
        refine ev_aload_n 0 d_Model_isWordOf_159 rfl (by decide) rfl ?_
        refine ev_bipush d_Model_isWordOf_160 rfl ?_
        refine ev_bipush d_Model_isWordOf_162 rfl ?_
        refine ev_bipush d_Model_isWordOf_164 rfl ?_
        refine ev_iconst d_Model_isWordOf_166 rfl ?_
        refine ev_iconst d_Model_isWordOf_167 rfl ?_
        obtain ⟨p6, hp6, h⟩ := bx h
        have hRp6 := c_Model_word (X := X) (d := d - 1) (by omega) hn_a0 hp6
        refine ev_callV2 (st2 := [(1, p6), (1, (mg M (cI a0) 34))]) (as := [(0, 109), (0, 97), (0, 121), (0, 0), (0, 0)]) (rest := [(1, (mg M (cI a0) 34))]) rfl (by decide) (by decide) rfl hn_a0 rfl (Nat.le_of_ble_eq_true rfl) k_Model_word ⟨tw_1249, ts_103⟩ (by omega) tw_1247 d_Model_isWordOf_168 hRp6 rfl ?_
        refine ev_lcmp d_Model_isWordOf_171 ?_
        by_cases hc7 : (mg M (cI a0) 34) = p6
        · replace h := itp hc7 h
          refine ev_if_eq_t (tgt := 194) d_Model_isWordOf_172 (by decide) ((lC_eq _ _).mpr hc7) ?_
          refine ev_iconst d_Model_isWordOf_194 rfl ?_
          refine ev_goto (tgt := 199) d_Model_isWordOf_195 (by decide) ?_
          cases h
          exact ev_retZ d_Model_isWordOf_199 rfl (Or.inr rfl)
        · replace h := itn hc7 h
          refine ev_if_eq_f d_Model_isWordOf_172 (by decide) (fun z => hc7 ((lC_eq _ _).mp z)) ?_
          refine ev_aload_n 0 d_Model_isWordOf_175 rfl (by decide) rfl ?_
          refine ev_get (t := 12) (k := 34) (by decide) (by decide) rfl i_Model (by decide) rfl rfl tw_934 d_Model_isWordOf_176 hn_a0 ?_
          refine ev_aload_n 0 d_Model_isWordOf_179 rfl (by decide) rfl ?_
          refine ev_bipush d_Model_isWordOf_180 rfl ?_
          refine ev_bipush d_Model_isWordOf_182 rfl ?_
          refine ev_iconst d_Model_isWordOf_184 rfl ?_
          refine ev_iconst d_Model_isWordOf_185 rfl ?_
          refine ev_iconst d_Model_isWordOf_186 rfl ?_
          obtain ⟨p8, hp8, h⟩ := bx h
          have hRp8 := c_Model_word (X := X) (d := d - 1) (by omega) hn_a0 hp8
          refine ev_callV2 (st2 := [(1, p8), (1, (mg M (cI a0) 34))]) (as := [(0, 111), (0, 114), (0, 0), (0, 0), (0, 0)]) (rest := [(1, (mg M (cI a0) 34))]) rfl (by decide) (by decide) rfl hn_a0 rfl (Nat.le_of_ble_eq_true rfl) k_Model_word ⟨tw_1249, ts_103⟩ (by omega) tw_1247 d_Model_isWordOf_187 hRp8 rfl ?_
          refine ev_lcmp d_Model_isWordOf_190 ?_
          by_cases hc9 : (mg M (cI a0) 34) ≠ p8
          · replace h := itp hc9 h
            refine ev_if_ne_t (tgt := 198) d_Model_isWordOf_191 (by decide) ((lC_ne _ _).mpr hc9) ?_
            refine ev_iconst d_Model_isWordOf_198 rfl ?_
            cases h
            exact ev_retZ d_Model_isWordOf_199 rfl (Or.inl rfl)
          · replace h := itn hc9 h
            refine ev_if_ne_f d_Model_isWordOf_191 (by decide) (fun z => hc9 ((lC_ne _ _).mp z)) ?_
            refine ev_iconst d_Model_isWordOf_194 rfl ?_
            refine ev_goto (tgt := 199) d_Model_isWordOf_195 (by decide) ?_
            cases h
            exact ev_retZ d_Model_isWordOf_199 rfl (Or.inr rfl)
  · replace h := itn hc1 h
    refine ev_if_eq_f d_Model_isWordOf_1 (by decide) hc1 ?_
    refine ev_aload_n 0 d_Model_isWordOf_4 rfl (by decide) rfl ?_
    refine ev_get (t := 12) (k := 34) (by decide) (by decide) rfl i_Model (by decide) rfl rfl tw_934 d_Model_isWordOf_5 hn_a0 ?_
    refine ev_aload_n 0 d_Model_isWordOf_8 rfl (by decide) rfl ?_
    refine ev_bipush d_Model_isWordOf_9 rfl ?_
    refine ev_bipush d_Model_isWordOf_11 rfl ?_
    refine ev_bipush d_Model_isWordOf_13 rfl ?_
    refine ev_iconst d_Model_isWordOf_15 rfl ?_
    refine ev_iconst d_Model_isWordOf_16 rfl ?_
    obtain ⟨p10, hp10, h⟩ := bx h
    have hRp10 := c_Model_word (X := X) (d := d - 1) (by omega) hn_a0 hp10
    refine ev_callV2 (st2 := [(1, p10), (1, (mg M (cI a0) 34))]) (as := [(0, 97), (0, 103), (0, 101), (0, 0), (0, 0)]) (rest := [(1, (mg M (cI a0) 34))]) rfl (by decide) (by decide) rfl hn_a0 rfl (Nat.le_of_ble_eq_true rfl) k_Model_word ⟨tw_1249, ts_103⟩ (by omega) tw_1247 d_Model_isWordOf_17 hRp10 rfl ?_
    refine ev_lcmp d_Model_isWordOf_20 ?_
    by_cases hc11 : (mg M (cI a0) 34) = p10
    · replace h := itp hc11 h
      refine ev_if_eq_t (tgt := 106) d_Model_isWordOf_21 (by decide) ((lC_eq _ _).mpr hc11) ?_
      refine ev_iconst d_Model_isWordOf_106 rfl ?_
      refine ev_goto (tgt := 111) d_Model_isWordOf_107 (by decide) ?_
      cases h
      exact ev_retZ d_Model_isWordOf_111 rfl (Or.inr rfl)
    · replace h := itn hc11 h
      refine ev_if_eq_f d_Model_isWordOf_21 (by decide) (fun z => hc11 ((lC_eq _ _).mp z)) ?_
      refine ev_aload_n 0 d_Model_isWordOf_24 rfl (by decide) rfl ?_
      refine ev_get (t := 12) (k := 34) (by decide) (by decide) rfl i_Model (by decide) rfl rfl tw_934 d_Model_isWordOf_25 hn_a0 ?_
      refine ev_aload_n 0 d_Model_isWordOf_28 rfl (by decide) rfl ?_
      refine ev_bipush d_Model_isWordOf_29 rfl ?_
      refine ev_bipush d_Model_isWordOf_31 rfl ?_
      refine ev_bipush d_Model_isWordOf_33 rfl ?_
      refine ev_bipush d_Model_isWordOf_35 rfl ?_
      refine ev_iconst d_Model_isWordOf_37 rfl ?_
      obtain ⟨p12, hp12, h⟩ := bx h
      have hRp12 := c_Model_word (X := X) (d := d - 1) (by omega) hn_a0 hp12
      refine ev_callV2 (st2 := [(1, p12), (1, (mg M (cI a0) 34))]) (as := [(0, 100), (0, 97), (0, 121), (0, 115), (0, 0)]) (rest := [(1, (mg M (cI a0) 34))]) rfl (by decide) (by decide) rfl hn_a0 rfl (Nat.le_of_ble_eq_true rfl) k_Model_word ⟨tw_1249, ts_103⟩ (by omega) tw_1247 d_Model_isWordOf_38 hRp12 rfl ?_
      refine ev_lcmp d_Model_isWordOf_41 ?_
      by_cases hc13 : (mg M (cI a0) 34) = p12
      · replace h := itp hc13 h
        refine ev_if_eq_t (tgt := 106) d_Model_isWordOf_42 (by decide) ((lC_eq _ _).mpr hc13) ?_
        refine ev_iconst d_Model_isWordOf_106 rfl ?_
        refine ev_goto (tgt := 111) d_Model_isWordOf_107 (by decide) ?_
        cases h
        exact ev_retZ d_Model_isWordOf_111 rfl (Or.inr rfl)
      · replace h := itn hc13 h
        refine ev_if_eq_f d_Model_isWordOf_42 (by decide) (fun z => hc13 ((lC_eq _ _).mp z)) ?_
        refine ev_aload_n 0 d_Model_isWordOf_45 rfl (by decide) rfl ?_
        refine ev_get (t := 12) (k := 34) (by decide) (by decide) rfl i_Model (by decide) rfl rfl tw_934 d_Model_isWordOf_46 hn_a0 ?_
        refine ev_aload_n 0 d_Model_isWordOf_49 rfl (by decide) rfl ?_
        refine ev_bipush d_Model_isWordOf_50 rfl ?_
        refine ev_bipush d_Model_isWordOf_52 rfl ?_
        refine ev_bipush d_Model_isWordOf_54 rfl ?_
        refine ev_bipush d_Model_isWordOf_56 rfl ?_
        refine ev_iconst d_Model_isWordOf_58 rfl ?_
        obtain ⟨p14, hp14, h⟩ := bx h
        have hRp14 := c_Model_word (X := X) (d := d - 1) (by omega) hn_a0 hp14
        refine ev_callV2 (st2 := [(1, p14), (1, (mg M (cI a0) 34))]) (as := [(0, 112), (0, 97), (0, 115), (0, 116), (0, 0)]) (rest := [(1, (mg M (cI a0) 34))]) rfl (by decide) (by decide) rfl hn_a0 rfl (Nat.le_of_ble_eq_true rfl) k_Model_word ⟨tw_1249, ts_103⟩ (by omega) tw_1247 d_Model_isWordOf_59 hRp14 rfl ?_
        refine ev_lcmp d_Model_isWordOf_62 ?_
        by_cases hc15 : (mg M (cI a0) 34) = p14
        · replace h := itp hc15 h
          refine ev_if_eq_t (tgt := 106) d_Model_isWordOf_63 (by decide) ((lC_eq _ _).mpr hc15) ?_
          refine ev_iconst d_Model_isWordOf_106 rfl ?_
          refine ev_goto (tgt := 111) d_Model_isWordOf_107 (by decide) ?_
          cases h
          exact ev_retZ d_Model_isWordOf_111 rfl (Or.inr rfl)
        · replace h := itn hc15 h
          refine ev_if_eq_f d_Model_isWordOf_63 (by decide) (fun z => hc15 ((lC_eq _ _).mp z)) ?_
          refine ev_aload_n 0 d_Model_isWordOf_66 rfl (by decide) rfl ?_
          refine ev_get (t := 12) (k := 34) (by decide) (by decide) rfl i_Model (by decide) rfl rfl tw_934 d_Model_isWordOf_67 hn_a0 ?_
          refine ev_aload_n 0 d_Model_isWordOf_70 rfl (by decide) rfl ?_
          refine ev_bipush d_Model_isWordOf_71 rfl ?_
          refine ev_bipush d_Model_isWordOf_73 rfl ?_
          refine ev_bipush d_Model_isWordOf_75 rfl ?_
          refine ev_iconst d_Model_isWordOf_77 rfl ?_
          refine ev_iconst d_Model_isWordOf_78 rfl ?_
          obtain ⟨p16, hp16, h⟩ := bx h
          have hRp16 := c_Model_word (X := X) (d := d - 1) (by omega) hn_a0 hp16
          refine ev_callV2 (st2 := [(1, p16), (1, (mg M (cI a0) 34))]) (as := [(0, 111), (0, 117), (0, 116), (0, 0), (0, 0)]) (rest := [(1, (mg M (cI a0) 34))]) rfl (by decide) (by decide) rfl hn_a0 rfl (Nat.le_of_ble_eq_true rfl) k_Model_word ⟨tw_1249, ts_103⟩ (by omega) tw_1247 d_Model_isWordOf_79 hRp16 rfl ?_
          refine ev_lcmp d_Model_isWordOf_82 ?_
          by_cases hc17 : (mg M (cI a0) 34) = p16
          · replace h := itp hc17 h
            refine ev_if_eq_t (tgt := 106) d_Model_isWordOf_83 (by decide) ((lC_eq _ _).mpr hc17) ?_
            refine ev_iconst d_Model_isWordOf_106 rfl ?_
            refine ev_goto (tgt := 111) d_Model_isWordOf_107 (by decide) ?_
            cases h
            exact ev_retZ d_Model_isWordOf_111 rfl (Or.inr rfl)
          · replace h := itn hc17 h
            refine ev_if_eq_f d_Model_isWordOf_83 (by decide) (fun z => hc17 ((lC_eq _ _).mp z)) ?_
            refine ev_aload_n 0 d_Model_isWordOf_86 rfl (by decide) rfl ?_
            refine ev_get (t := 12) (k := 34) (by decide) (by decide) rfl i_Model (by decide) rfl rfl tw_934 d_Model_isWordOf_87 hn_a0 ?_
            refine ev_aload_n 0 d_Model_isWordOf_90 rfl (by decide) rfl ?_
            refine ev_bipush d_Model_isWordOf_91 rfl ?_
            refine ev_bipush d_Model_isWordOf_93 rfl ?_
            refine ev_bipush d_Model_isWordOf_95 rfl ?_
            refine ev_iconst d_Model_isWordOf_97 rfl ?_
            refine ev_iconst d_Model_isWordOf_98 rfl ?_
            obtain ⟨p18, hp18, h⟩ := bx h
            have hRp18 := c_Model_word (X := X) (d := d - 1) (by omega) hn_a0 hp18
            refine ev_callV2 (st2 := [(1, p18), (1, (mg M (cI a0) 34))]) (as := [(0, 100), (0, 97), (0, 121), (0, 0), (0, 0)]) (rest := [(1, (mg M (cI a0) 34))]) rfl (by decide) (by decide) rfl hn_a0 rfl (Nat.le_of_ble_eq_true rfl) k_Model_word ⟨tw_1249, ts_103⟩ (by omega) tw_1247 d_Model_isWordOf_99 hRp18 rfl ?_
            refine ev_lcmp d_Model_isWordOf_102 ?_
            by_cases hc19 : (mg M (cI a0) 34) ≠ p18
            · replace h := itp hc19 h
              refine ev_if_ne_t (tgt := 110) d_Model_isWordOf_103 (by decide) ((lC_ne _ _).mpr hc19) ?_
              refine ev_iconst d_Model_isWordOf_110 rfl ?_
              cases h
              exact ev_retZ d_Model_isWordOf_111 rfl (Or.inl rfl)
            · replace h := itn hc19 h
              refine ev_if_ne_f d_Model_isWordOf_103 (by decide) (fun z => hc19 ((lC_ne _ _).mp z)) ?_
              refine ev_iconst d_Model_isWordOf_106 rfl ?_
              refine ev_goto (tgt := 111) d_Model_isWordOf_107 (by decide) ?_
              cases h
              exact ev_retZ d_Model_isWordOf_111 rfl (Or.inr rfl)
def f_Model_isSignOf (M : Mm) (a0 : Int) (a1 : Int) (a2 : Int) : Option (Int) :=
  if a2 = 0 then
  if a1 = 58 then
  some 1
  else
  if a1 = 44 then
  some 1
  else
  if a1 ≠ 59 then
  some 0
  else
  some 1
  else
  if a1 = 124 then
  some 1
  else
  if a1 = 38 then
  some 1
  else
  if a1 = 33 then
  some 1
  else
  if a1 = 40 then
  some 1
  else
  if a1 = 41 then
  some 1
  else
  if a1 = 60 then
  some 1
  else
  if a1 = 61 then
  some 1
  else
  if a1 = 62 then
  some 1
  else
  if a1 = 43 then
  some 1
  else
  if a1 ≠ 45 then
  some 0
  else
  some 1
theorem c_Model_isSignOf {X : XX} {d : Nat} (hd : 0 ≤ d) {M : Mm} {a0 : Int} {a1 : Int} {a2 : Int} (hn_a0 : a0 ≠ 0) {p : Int} (h : f_Model_isSignOf M a0 a1 a2 = some p) : Rn X d m_Model_isSignOf [(12, a0), (0, a1), (0, a2)] M (some (0, p)) M := by
  refine Rn_of (by decide) rfl (Nat.le_of_ble_eq_true rfl) ?_
  unfold f_Model_isSignOf at h
  refine ev_less (L' := [(0, (12, a0)), (1, (0, a1)), (2, (0, a2))]) [0, 1, 2] rfl ?_
  refine ev_iload_n 2 d_Model_isSignOf_0 rfl rfl ?_
  by_cases hc1 : a2 = 0
  · replace h := itp hc1 h
    refine ev_if_eq_t (tgt := 70) d_Model_isSignOf_1 (by decide) hc1 ?_
    refine ev_iload_n 1 d_Model_isSignOf_70 rfl rfl ?_
    refine ev_bipush d_Model_isSignOf_71 rfl ?_
    by_cases hc2 : a1 = 58
    · replace h := itp hc2 h
      refine ev_icmp_eq_t (tgt := 88) d_Model_isSignOf_73 (by decide) hc2 ?_
      refine ev_iconst d_Model_isSignOf_88 rfl ?_
      refine ev_goto (tgt := 93) d_Model_isSignOf_89 (by decide) ?_
      cases h
      exact ev_retZ d_Model_isSignOf_93 rfl (Or.inr rfl)
    · replace h := itn hc2 h
      refine ev_icmp_eq_f d_Model_isSignOf_73 (by decide) hc2 ?_
      refine ev_iload_n 1 d_Model_isSignOf_76 rfl rfl ?_
      refine ev_bipush d_Model_isSignOf_77 rfl ?_
      by_cases hc3 : a1 = 44
      · replace h := itp hc3 h
        refine ev_icmp_eq_t (tgt := 88) d_Model_isSignOf_79 (by decide) hc3 ?_
        refine ev_iconst d_Model_isSignOf_88 rfl ?_
        refine ev_goto (tgt := 93) d_Model_isSignOf_89 (by decide) ?_
        cases h
        exact ev_retZ d_Model_isSignOf_93 rfl (Or.inr rfl)
      · replace h := itn hc3 h
        refine ev_icmp_eq_f d_Model_isSignOf_79 (by decide) hc3 ?_
        refine ev_iload_n 1 d_Model_isSignOf_82 rfl rfl ?_
        refine ev_bipush d_Model_isSignOf_83 rfl ?_
        by_cases hc4 : a1 ≠ 59
        · replace h := itp hc4 h
          refine ev_icmp_ne_t (tgt := 92) d_Model_isSignOf_85 (by decide) hc4 ?_
          refine ev_iconst d_Model_isSignOf_92 rfl ?_
          cases h
          exact ev_retZ d_Model_isSignOf_93 rfl (Or.inl rfl)
        · replace h := itn hc4 h
          refine ev_icmp_ne_f d_Model_isSignOf_85 (by decide) hc4 ?_
          refine ev_iconst d_Model_isSignOf_88 rfl ?_
          refine ev_goto (tgt := 93) d_Model_isSignOf_89 (by decide) ?_
          cases h
          exact ev_retZ d_Model_isSignOf_93 rfl (Or.inr rfl)
  · replace h := itn hc1 h
    refine ev_if_eq_f d_Model_isSignOf_1 (by decide) hc1 ?_
    refine ev_iload_n 1 d_Model_isSignOf_4 rfl rfl ?_
    refine ev_bipush d_Model_isSignOf_5 rfl ?_
    by_cases hc5 : a1 = 124
    · replace h := itp hc5 h
      refine ev_icmp_eq_t (tgt := 64) d_Model_isSignOf_7 (by decide) hc5 ?_
      refine ev_iconst d_Model_isSignOf_64 rfl ?_
      refine ev_goto (tgt := 69) d_Model_isSignOf_65 (by decide) ?_
      cases h
      exact ev_retZ d_Model_isSignOf_69 rfl (Or.inr rfl)
    · replace h := itn hc5 h
      refine ev_icmp_eq_f d_Model_isSignOf_7 (by decide) hc5 ?_
      refine ev_iload_n 1 d_Model_isSignOf_10 rfl rfl ?_
      refine ev_bipush d_Model_isSignOf_11 rfl ?_
      by_cases hc6 : a1 = 38
      · replace h := itp hc6 h
        refine ev_icmp_eq_t (tgt := 64) d_Model_isSignOf_13 (by decide) hc6 ?_
        refine ev_iconst d_Model_isSignOf_64 rfl ?_
        refine ev_goto (tgt := 69) d_Model_isSignOf_65 (by decide) ?_
        cases h
        exact ev_retZ d_Model_isSignOf_69 rfl (Or.inr rfl)
      · replace h := itn hc6 h
        refine ev_icmp_eq_f d_Model_isSignOf_13 (by decide) hc6 ?_
        refine ev_iload_n 1 d_Model_isSignOf_16 rfl rfl ?_
        refine ev_bipush d_Model_isSignOf_17 rfl ?_
        by_cases hc7 : a1 = 33
        · replace h := itp hc7 h
          refine ev_icmp_eq_t (tgt := 64) d_Model_isSignOf_19 (by decide) hc7 ?_
          refine ev_iconst d_Model_isSignOf_64 rfl ?_
          refine ev_goto (tgt := 69) d_Model_isSignOf_65 (by decide) ?_
          cases h
          exact ev_retZ d_Model_isSignOf_69 rfl (Or.inr rfl)
        · replace h := itn hc7 h
          refine ev_icmp_eq_f d_Model_isSignOf_19 (by decide) hc7 ?_
          refine ev_iload_n 1 d_Model_isSignOf_22 rfl rfl ?_
          refine ev_bipush d_Model_isSignOf_23 rfl ?_
          by_cases hc8 : a1 = 40
          · replace h := itp hc8 h
            refine ev_icmp_eq_t (tgt := 64) d_Model_isSignOf_25 (by decide) hc8 ?_
            refine ev_iconst d_Model_isSignOf_64 rfl ?_
            refine ev_goto (tgt := 69) d_Model_isSignOf_65 (by decide) ?_
            cases h
            exact ev_retZ d_Model_isSignOf_69 rfl (Or.inr rfl)
          · replace h := itn hc8 h
            refine ev_icmp_eq_f d_Model_isSignOf_25 (by decide) hc8 ?_
            refine ev_iload_n 1 d_Model_isSignOf_28 rfl rfl ?_
            refine ev_bipush d_Model_isSignOf_29 rfl ?_
            by_cases hc9 : a1 = 41
            · replace h := itp hc9 h
              refine ev_icmp_eq_t (tgt := 64) d_Model_isSignOf_31 (by decide) hc9 ?_
              refine ev_iconst d_Model_isSignOf_64 rfl ?_
              refine ev_goto (tgt := 69) d_Model_isSignOf_65 (by decide) ?_
              cases h
              exact ev_retZ d_Model_isSignOf_69 rfl (Or.inr rfl)
            · replace h := itn hc9 h
              refine ev_icmp_eq_f d_Model_isSignOf_31 (by decide) hc9 ?_
              refine ev_iload_n 1 d_Model_isSignOf_34 rfl rfl ?_
              refine ev_bipush d_Model_isSignOf_35 rfl ?_
              by_cases hc10 : a1 = 60
              · replace h := itp hc10 h
                refine ev_icmp_eq_t (tgt := 64) d_Model_isSignOf_37 (by decide) hc10 ?_
                refine ev_iconst d_Model_isSignOf_64 rfl ?_
                refine ev_goto (tgt := 69) d_Model_isSignOf_65 (by decide) ?_
                cases h
                exact ev_retZ d_Model_isSignOf_69 rfl (Or.inr rfl)
              · replace h := itn hc10 h
                refine ev_icmp_eq_f d_Model_isSignOf_37 (by decide) hc10 ?_
                refine ev_iload_n 1 d_Model_isSignOf_40 rfl rfl ?_
                refine ev_bipush d_Model_isSignOf_41 rfl ?_
                by_cases hc11 : a1 = 61
                · replace h := itp hc11 h
                  refine ev_icmp_eq_t (tgt := 64) d_Model_isSignOf_43 (by decide) hc11 ?_
                  refine ev_iconst d_Model_isSignOf_64 rfl ?_
                  refine ev_goto (tgt := 69) d_Model_isSignOf_65 (by decide) ?_
                  cases h
                  exact ev_retZ d_Model_isSignOf_69 rfl (Or.inr rfl)
                · replace h := itn hc11 h
                  refine ev_icmp_eq_f d_Model_isSignOf_43 (by decide) hc11 ?_
                  refine ev_iload_n 1 d_Model_isSignOf_46 rfl rfl ?_
                  refine ev_bipush d_Model_isSignOf_47 rfl ?_
                  by_cases hc12 : a1 = 62
                  · replace h := itp hc12 h
                    refine ev_icmp_eq_t (tgt := 64) d_Model_isSignOf_49 (by decide) hc12 ?_
                    refine ev_iconst d_Model_isSignOf_64 rfl ?_
                    refine ev_goto (tgt := 69) d_Model_isSignOf_65 (by decide) ?_
                    cases h
                    exact ev_retZ d_Model_isSignOf_69 rfl (Or.inr rfl)
                  · replace h := itn hc12 h
                    refine ev_icmp_eq_f d_Model_isSignOf_49 (by decide) hc12 ?_
                    refine ev_iload_n 1 d_Model_isSignOf_52 rfl rfl ?_
                    refine ev_bipush d_Model_isSignOf_53 rfl ?_
                    by_cases hc13 : a1 = 43
                    · replace h := itp hc13 h
                      refine ev_icmp_eq_t (tgt := 64) d_Model_isSignOf_55 (by decide) hc13 ?_
                      refine ev_iconst d_Model_isSignOf_64 rfl ?_
                      refine ev_goto (tgt := 69) d_Model_isSignOf_65 (by decide) ?_
                      cases h
                      exact ev_retZ d_Model_isSignOf_69 rfl (Or.inr rfl)
                    · replace h := itn hc13 h
                      refine ev_icmp_eq_f d_Model_isSignOf_55 (by decide) hc13 ?_
                      refine ev_iload_n 1 d_Model_isSignOf_58 rfl rfl ?_
                      refine ev_bipush d_Model_isSignOf_59 rfl ?_
                      by_cases hc14 : a1 ≠ 45
                      · replace h := itp hc14 h
                        refine ev_icmp_ne_t (tgt := 68) d_Model_isSignOf_61 (by decide) hc14 ?_
                        refine ev_iconst d_Model_isSignOf_68 rfl ?_
                        cases h
                        exact ev_retZ d_Model_isSignOf_69 rfl (Or.inl rfl)
                      · replace h := itn hc14 h
                        refine ev_icmp_ne_f d_Model_isSignOf_61 (by decide) hc14 ?_
                        refine ev_iconst d_Model_isSignOf_64 rfl ?_
                        refine ev_goto (tgt := 69) d_Model_isSignOf_65 (by decide) ?_
                        cases h
                        exact ev_retZ d_Model_isSignOf_69 rfl (Or.inr rfl)
def j_Model_next_18_0 (M : Mm) (a0 : Int) (a1 : Int) : Option ((Mm) ⊕ (Mm)) :=
  lt (mp M (cI a0) 30 (w32 ((mg M (cI a0) 30) + 1))) (fun M3 =>
  some (.inl M3))
theorem cj_Model_next_18_0 {X : XX} {d : Nat} (hd : 2 ≤ d) {M : Mm} {a0 : Int} {a1 : Int} (hn_a0 : a0 ≠ 0) {x : (Mm) ⊕ (Mm)} {r : Option AV} {M' : Mm} (h : j_Model_next_18_0 M a0 a1 = some x) (hk1 : ∀ s : Mm, x = .inl s → Ev X m_Model_next d 0 [(0, (12, a0)), (1, (0, a1))] [] s r M') (hk2 : ∀ t : Mm, x = .inr t → Ev X m_Model_next d 31 [(0, (12, a0)), (1, (0, a1))] [] t r M') : Ev X m_Model_next d 18 [(0, (12, a0)), (1, (0, a1))] [] M r M' := by
  unfold j_Model_next_18_0 at h
  refine ev_aload_n 0 d_Model_next_18 rfl (by decide) rfl ?_
  refine ev_aload_n 0 d_Model_next_19 rfl (by decide) rfl ?_
  refine ev_get (t := 12) (k := 30) (by decide) (by decide) rfl i_Model (by decide) rfl rfl tw_930 d_Model_next_20 hn_a0 ?_
  refine ev_iconst d_Model_next_23 rfl ?_
  refine ev_iadd d_Model_next_24 ?_
  obtain ⟨M3, hM3, h⟩ := ltx h
  refine ev_put' (t := 12) (k := 30) (by decide) (by decide) rfl i_Model t_Model_ok n_Model (by decide) rfl rfl rfl rfl tw_930 d_Model_next_25 hn_a0 hM3 ?_
  refine ev_goto (tgt := 0) d_Model_next_28 (by decide) ?_
  cases h
  exact hk1 _ rfl
def l_Model_next_0 (a0 : Int) (a1 : Int) (s : Mm) : Option ((Mm) ⊕ (Mm)) :=
  (f_Model_raw s a0).bind (fun p1 =>
  if p1 = 32 then
  j_Model_next_18_0 s a0 a1
  else
  (f_Model_raw s a0).bind (fun p4 =>
  if p4 ≠ 10 then
  some (.inr s)
  else
  j_Model_next_18_0 s a0 a1))
theorem cs_l_Model_next_0 {X : XX} {d : Nat} (hd : 2 ≤ d) {a0 : Int} {a1 : Int} (hn_a0 : a0 ≠ 0) {s : Mm} {x : (Mm) ⊕ (Mm)} {r : Option AV} {M' : Mm} (h : l_Model_next_0 a0 a1 s = some x) (hk1 : ∀ s : Mm, x = .inl s → Ev X m_Model_next d 0 [(0, (12, a0)), (1, (0, a1))] [] s r M') (hk2 : ∀ t : Mm, x = .inr t → Ev X m_Model_next d 31 [(0, (12, a0)), (1, (0, a1))] [] t r M') : Ev X m_Model_next d 0 [(0, (12, a0)), (1, (0, a1))] [] s r M' := by
  unfold l_Model_next_0 at h
  refine ev_aload_n 0 d_Model_next_0 rfl (by decide) rfl ?_
  obtain ⟨p1, hp1, h⟩ := bx h
  have hRp1 := c_Model_raw (X := X) (d := d - 1) (by omega) hn_a0 hp1
  refine ev_callV2 (st2 := [(0, p1)]) (as := []) (rest := []) rfl (by decide) (by decide) rfl hn_a0 rfl (Nat.le_of_ble_eq_true rfl) k_Model_raw ⟨tw_1237, ts_100⟩ (by omega) tw_1235 d_Model_next_1 hRp1 rfl ?_
  refine ev_bipush d_Model_next_4 rfl ?_
  by_cases hc2 : p1 = 32
  · replace h := itp hc2 h
    refine ev_icmp_eq_t (tgt := 18) d_Model_next_6 (by decide) hc2 ?_
    exact cj_Model_next_18_0 hd hn_a0 h hk1 hk2
  · replace h := itn hc2 h
    refine ev_icmp_eq_f d_Model_next_6 (by decide) hc2 ?_
    refine ev_aload_n 0 d_Model_next_9 rfl (by decide) rfl ?_
    obtain ⟨p4, hp4, h⟩ := bx h
    have hRp4 := c_Model_raw (X := X) (d := d - 1) (by omega) hn_a0 hp4
    refine ev_callV2 (st2 := [(0, p4)]) (as := []) (rest := []) rfl (by decide) (by decide) rfl hn_a0 rfl (Nat.le_of_ble_eq_true rfl) k_Model_raw ⟨tw_1237, ts_100⟩ (by omega) tw_1235 d_Model_next_10 hRp4 rfl ?_
    refine ev_bipush d_Model_next_13 rfl ?_
    by_cases hc5 : p4 ≠ 10
    · replace h := itp hc5 h
      refine ev_icmp_ne_t (tgt := 31) d_Model_next_15 (by decide) hc5 ?_
      cases h
      exact hk2 _ rfl
    · replace h := itn hc5 h
      refine ev_icmp_ne_f d_Model_next_15 (by decide) hc5 ?_
      exact cj_Model_next_18_0 hd hn_a0 h hk1 hk2
def j_Model_next_280 (M : Mm) (a0 : Int) : Option (Mm) :=
  lt (mp M (cI a0) 30 (w32 ((mg M (cI a0) 30) + 1))) (fun M18 =>
  some M18)
theorem cj_Model_next_280 {X : XX} {d : Nat} (hd : 2 ≤ d) {M : Mm} {a0 : Int} (hn_a0 : a0 ≠ 0) {p : Mm} (h : j_Model_next_280 M a0 = some p) : Ev X m_Model_next d 280 [(0, (12, a0))] [] M none p := by
  unfold j_Model_next_280 at h
  refine ev_aload_n 0 d_Model_next_280 rfl (by decide) rfl ?_
  refine ev_aload_n 0 d_Model_next_281 rfl (by decide) rfl ?_
  refine ev_get (t := 12) (k := 30) (by decide) (by decide) rfl i_Model (by decide) rfl rfl tw_930 d_Model_next_282 hn_a0 ?_
  refine ev_iconst d_Model_next_285 rfl ?_
  refine ev_iadd d_Model_next_286 ?_
  obtain ⟨M18, hM18, h⟩ := ltx h
  refine ev_put' (t := 12) (k := 30) (by decide) (by decide) rfl i_Model t_Model_ok n_Model (by decide) rfl rfl rfl rfl tw_930 d_Model_next_287 hn_a0 hM18 ?_
  cases h
  exact ev_retV d_Model_next_290 rfl
def j_Model_next_230_194 (M : Mm) (a0 : Int) (z3 : Int) (z4 : Int) : Option ((Int × Mm) ⊕ (Int × Mm)) :=
  lt ((w32 (z3 + 1))) (fun x26 : Int =>
  lt (mp M (cI a0) 30 (w32 ((mg M (cI a0) 30) + 1))) (fun M27 =>
  some (.inl (x26, M27))))
theorem cj_Model_next_230_194 {X : XX} {d : Nat} (hd : 2 ≤ d) {M : Mm} {a0 : Int} {z3 : Int} {z4 : Int} (hn_a0 : a0 ≠ 0) {x : (Int × Mm) ⊕ (Int × Mm)} {r : Option AV} {M' : Mm} (h : j_Model_next_230_194 M a0 z3 z4 = some x) (hk1 : ∀ s : Int × Mm, x = .inl s → Ev X m_Model_next d 194 [(0, (12, a0)), (3, (0, s.1)), (4, (0, z4))] [] s.2 r M') (hk2 : ∀ t : Int × Mm, x = .inr t → Ev X m_Model_next d 247 [(0, (12, a0)), (3, (0, t.1)), (4, (0, z4))] [] t.2 r M') : Ev X m_Model_next d 230 [(0, (12, a0)), (3, (0, z3)), (4, (0, z4))] [] M r M' := by
  unfold j_Model_next_230_194 at h
  refine ev_iload_n 1 d_Model_next_230 rfl rfl ?_
  refine ev_iconst d_Model_next_231 rfl ?_
  refine ev_iadd d_Model_next_232 ?_
  obtain ⟨x26, hx26, h⟩ := ltx h
  refine ev_istore_n' (y := x26) (L' := [(3, (0, x26)), (0, (12, a0)), (4, (0, z4))]) d_Model_next_233 rfl (by decide) rfl hx26 ?_
  refine ev_aload_n 1 d_Model_next_234 rfl (by decide) rfl ?_
  refine ev_aload_n 1 d_Model_next_235 rfl (by decide) rfl ?_
  refine ev_get (t := 12) (k := 30) (by decide) (by decide) rfl i_Model (by decide) rfl rfl tw_930 d_Model_next_236 hn_a0 ?_
  refine ev_iconst d_Model_next_239 rfl ?_
  refine ev_iadd d_Model_next_240 ?_
  obtain ⟨M27, hM27, h⟩ := ltx h
  refine ev_put' (t := 12) (k := 30) (by decide) (by decide) rfl i_Model t_Model_ok n_Model (by decide) rfl rfl rfl rfl tw_930 d_Model_next_241 hn_a0 hM27 ?_
  refine ev_goto (tgt := 194) d_Model_next_244 (by decide) ?_
  refine ev_less (L' := [(0, (12, a0)), (3, (0, x26)), (4, (0, z4))]) [1, 0, 2] rfl ?_
  cases h
  exact hk1 _ rfl
def l_Model_next_194 (a0 : Int) (z4 : Int) (s : Int × Mm) : Option ((Int × Mm) ⊕ (Int × Mm)) :=
  (f_Model_raw s.2 a0).bind (fun p22 =>
  (f_Model_isDigit s.2 a0 p22).bind (fun p23 =>
  if p23 = 0 then
  some (.inr (s.1, s.2))
  else
  if z4 ≤ s.1 then
  j_Model_next_230_194 s.2 a0 s.1 z4
  else
  (f_Model_raw s.2 a0).bind (fun p28 =>
  lt (mp s.2 (cI a0) 33 (w32 ((w32 ((w32 (10 * (mg s.2 (cI a0) 33))) + p28)) - 48))) (fun M29 =>
  j_Model_next_230_194 M29 a0 s.1 z4))))
theorem cs_l_Model_next_194 {X : XX} {d : Nat} (hd : 2 ≤ d) {a0 : Int} {z4 : Int} (hn_a0 : a0 ≠ 0) {s : Int × Mm} {x : (Int × Mm) ⊕ (Int × Mm)} {r : Option AV} {M' : Mm} (h : l_Model_next_194 a0 z4 s = some x) (hk1 : ∀ s : Int × Mm, x = .inl s → Ev X m_Model_next d 194 [(0, (12, a0)), (3, (0, s.1)), (4, (0, z4))] [] s.2 r M') (hk2 : ∀ t : Int × Mm, x = .inr t → Ev X m_Model_next d 247 [(0, (12, a0)), (3, (0, t.1)), (4, (0, z4))] [] t.2 r M') : Ev X m_Model_next d 194 [(0, (12, a0)), (3, (0, s.1)), (4, (0, z4))] [] s.2 r M' := by
  unfold l_Model_next_194 at h
  refine ev_aload_n 0 d_Model_next_194 rfl (by decide) rfl ?_
  refine ev_aload_n 0 d_Model_next_195 rfl (by decide) rfl ?_
  obtain ⟨p22, hp22, h⟩ := bx h
  have hRp22 := c_Model_raw (X := X) (d := d - 1) (by omega) hn_a0 hp22
  refine ev_callV2 (st2 := [(0, p22), (12, a0)]) (as := []) (rest := [(12, a0)]) rfl (by decide) (by decide) rfl hn_a0 rfl (Nat.le_of_ble_eq_true rfl) k_Model_raw ⟨tw_1237, ts_100⟩ (by omega) tw_1235 d_Model_next_196 hRp22 rfl ?_
  obtain ⟨p23, hp23, h⟩ := bx h
  have hRp23 := c_Model_isDigit (X := X) (d := d - 1) (by omega) hn_a0 hp23
  refine ev_callV2 (st2 := [(0, p23)]) (as := [(0, p22)]) (rest := []) rfl (by decide) (by decide) rfl hn_a0 rfl (Nat.le_of_ble_eq_true rfl) k_Model_isDigit ⟨tw_1253, ts_104⟩ (by omega) tw_1251 d_Model_next_199 hRp23 rfl ?_
  by_cases hc24 : p23 = 0
  · replace h := itp hc24 h
    refine ev_if_eq_t (tgt := 247) d_Model_next_202 (by decide) hc24 ?_
    cases h
    exact hk2 _ rfl
  · replace h := itn hc24 h
    refine ev_if_eq_f d_Model_next_202 (by decide) hc24 ?_
    refine ev_iload_n 1 d_Model_next_205 rfl rfl ?_
    refine ev_iload 2 d_Model_next_206 rfl ?_
    by_cases hc25 : z4 ≤ s.1
    · replace h := itp hc25 h
      refine ev_icmp_ge_t (tgt := 230) d_Model_next_208 (by decide) hc25 ?_
      exact cj_Model_next_230_194 hd hn_a0 h hk1 hk2
    · replace h := itn hc25 h
      refine ev_icmp_ge_f d_Model_next_208 (by decide) hc25 ?_
      refine ev_aload_n 0 d_Model_next_211 rfl (by decide) rfl ?_
      refine ev_bipush d_Model_next_212 rfl ?_
      refine ev_aload_n 0 d_Model_next_214 rfl (by decide) rfl ?_
      refine ev_get (t := 12) (k := 33) (by decide) (by decide) rfl i_Model (by decide) rfl rfl tw_933 d_Model_next_215 hn_a0 ?_
      refine ev_imul d_Model_next_218 ?_
      refine ev_aload_n 0 d_Model_next_219 rfl (by decide) rfl ?_
      obtain ⟨p28, hp28, h⟩ := bx h
      have hRp28 := c_Model_raw (X := X) (d := d - 1) (by omega) hn_a0 hp28
      refine ev_callV2 (st2 := [(0, p28), (0, (w32 (10 * (mg s.2 (cI a0) 33)))), (12, a0)]) (as := []) (rest := [(0, (w32 (10 * (mg s.2 (cI a0) 33)))), (12, a0)]) rfl (by decide) (by decide) rfl hn_a0 rfl (Nat.le_of_ble_eq_true rfl) k_Model_raw ⟨tw_1237, ts_100⟩ (by omega) tw_1235 d_Model_next_220 hRp28 rfl ?_
      refine ev_iadd d_Model_next_223 ?_
      refine ev_bipush d_Model_next_224 rfl ?_
      refine ev_isub d_Model_next_226 ?_
      obtain ⟨M29, hM29, h⟩ := ltx h
      refine ev_put' (t := 12) (k := 33) (by decide) (by decide) rfl i_Model t_Model_ok n_Model (by decide) rfl rfl rfl rfl tw_933 d_Model_next_227 hn_a0 hM29 ?_
      exact cj_Model_next_230_194 hd hn_a0 h hk1 hk2
def j_Model_next_187 (M : Mm) (a0 : Int) (z3 : Int) (y0 : Int) : Option (Mm) :=
  lt (mp M (cI a0) 33 0) (fun M21 =>
  (loopN (l_Model_next_194 a0 y0) FU (z3, M21)).bind (fun t30 =>
  if y0 < t30.1 then
  some t30.2
  else
  lt (mp t30.2 (cI a0) 32 4) (fun M32 =>
  some M32)))
theorem cj_Model_next_187 {X : XX} {d : Nat} (hd : 2 ≤ d) {M : Mm} {a0 : Int} {z3 : Int} {y0 : Int} (hn_a0 : a0 ≠ 0) {p : Mm} (h : j_Model_next_187 M a0 z3 y0 = some p) : Ev X m_Model_next d 187 [(0, (12, a0)), (3, (0, z3))] [(0, y0)] M none p := by
  unfold j_Model_next_187 at h
  refine ev_istore (L' := [(4, (0, y0)), (0, (12, a0)), (3, (0, z3))]) d_Model_next_187 (by decide) rfl ?_
  refine ev_aload_n 1 d_Model_next_189 rfl (by decide) rfl ?_
  refine ev_iconst d_Model_next_190 rfl ?_
  obtain ⟨M21, hM21, h⟩ := ltx h
  refine ev_put' (t := 12) (k := 33) (by decide) (by decide) rfl i_Model t_Model_ok n_Model (by decide) rfl rfl rfl rfl tw_933 d_Model_next_191 hn_a0 hM21 ?_
  obtain ⟨t30, ht30, h⟩ := bx h
  refine ev_less (L' := [(0, (12, a0)), (3, (0, z3)), (4, (0, y0))]) [1, 2, 0] rfl ?_
  refine loop_ev (step := l_Model_next_194 a0 y0) (P := fun w : Int × Mm => Ev X m_Model_next d 194 [(0, (12, a0)), (3, (0, w.1)), (4, (0, y0))] [] w.2 none p) (Q := fun w => Ev X m_Model_next d 247 [(0, (12, a0)), (3, (0, w.1)), (4, (0, y0))] [] w.2 none p) (fun w x hs k1 k2 => cs_l_Model_next_194 hd hn_a0 hs k1 k2) FU (z3, M21) t30 ht30 ?_
  refine ev_iload_n 1 d_Model_next_247 rfl rfl ?_
  refine ev_iload 2 d_Model_next_248 rfl ?_
  by_cases hc31 : y0 < t30.1
  · replace h := itp hc31 h
    refine ev_icmp_gt_t (tgt := 258) d_Model_next_250 (by decide) hc31 ?_
    refine ev_goto (tgt := 290) d_Model_next_258 (by decide) ?_
    cases h
    exact ev_retV d_Model_next_290 rfl
  · replace h := itn hc31 h
    refine ev_icmp_gt_f d_Model_next_250 (by decide) hc31 ?_
    refine ev_aload_n 0 d_Model_next_253 rfl (by decide) rfl ?_
    refine ev_iconst d_Model_next_254 rfl ?_
    obtain ⟨M32, hM32, h⟩ := ltx h
    refine ev_put' (t := 12) (k := 32) (by decide) (by decide) rfl i_Model t_Model_ok n_Model (by decide) rfl rfl rfl rfl tw_932 d_Model_next_255 hn_a0 hM32 ?_
    refine ev_goto (tgt := 290) d_Model_next_258 (by decide) ?_
    cases h
    exact ev_retV d_Model_next_290 rfl
def j_Model_next_111_77 (M : Mm) (a0 : Int) (a1 : Int) (z3 : Int) : Option ((Int × Mm) ⊕ (Int × Mm)) :=
  lt ((w32 (z3 + 1))) (fun x38 : Int =>
  lt (mp M (cI a0) 30 (w32 ((mg M (cI a0) 30) + 1))) (fun M39 =>
  some (.inl (x38, M39))))
theorem cj_Model_next_111_77 {X : XX} {d : Nat} (hd : 2 ≤ d) {M : Mm} {a0 : Int} {a1 : Int} {z3 : Int} (hn_a0 : a0 ≠ 0) {x : (Int × Mm) ⊕ (Int × Mm)} {r : Option AV} {M' : Mm} (h : j_Model_next_111_77 M a0 a1 z3 = some x) (hk1 : ∀ s : Int × Mm, x = .inl s → Ev X m_Model_next d 77 [(0, (12, a0)), (1, (0, a1)), (3, (0, s.1))] [] s.2 r M') (hk2 : ∀ t : Int × Mm, x = .inr t → Ev X m_Model_next d 128 [(0, (12, a0)), (1, (0, a1)), (3, (0, t.1))] [] t.2 r M') : Ev X m_Model_next d 111 [(0, (12, a0)), (1, (0, a1)), (3, (0, z3))] [] M r M' := by
  unfold j_Model_next_111_77 at h
  refine ev_iload_n 2 d_Model_next_111 rfl rfl ?_
  refine ev_iconst d_Model_next_112 rfl ?_
  refine ev_iadd d_Model_next_113 ?_
  obtain ⟨x38, hx38, h⟩ := ltx h
  refine ev_istore_n' (y := x38) (L' := [(3, (0, x38)), (0, (12, a0)), (1, (0, a1))]) d_Model_next_114 rfl (by decide) rfl hx38 ?_
  refine ev_aload_n 1 d_Model_next_115 rfl (by decide) rfl ?_
  refine ev_aload_n 1 d_Model_next_116 rfl (by decide) rfl ?_
  refine ev_get (t := 12) (k := 30) (by decide) (by decide) rfl i_Model (by decide) rfl rfl tw_930 d_Model_next_117 hn_a0 ?_
  refine ev_iconst d_Model_next_120 rfl ?_
  refine ev_iadd d_Model_next_121 ?_
  obtain ⟨M39, hM39, h⟩ := ltx h
  refine ev_put' (t := 12) (k := 30) (by decide) (by decide) rfl i_Model t_Model_ok n_Model (by decide) rfl rfl rfl rfl tw_930 d_Model_next_122 hn_a0 hM39 ?_
  refine ev_goto (tgt := 77) d_Model_next_125 (by decide) ?_
  refine ev_less (L' := [(0, (12, a0)), (1, (0, a1)), (3, (0, x38))]) [1, 2, 0] rfl ?_
  cases h
  exact hk1 _ rfl
def l_Model_next_77 (a0 : Int) (a1 : Int) (s : Int × Mm) : Option ((Int × Mm) ⊕ (Int × Mm)) :=
  (f_Model_raw s.2 a0).bind (fun p34 =>
  (f_Model_isSmall s.2 a0 p34).bind (fun p35 =>
  if p35 = 0 then
  some (.inr (s.1, s.2))
  else
  if 7 ≤ s.1 then
  j_Model_next_111_77 s.2 a0 a1 s.1
  else
  (f_Model_raw s.2 a0).bind (fun p40 =>
  lt (mp s.2 (cI a0) 34 (lOr (lShl (mg s.2 (cI a0) 34) 8) p40)) (fun M41 =>
  j_Model_next_111_77 M41 a0 a1 s.1))))
theorem cs_l_Model_next_77 {X : XX} {d : Nat} (hd : 2 ≤ d) {a0 : Int} {a1 : Int} (hn_a0 : a0 ≠ 0) {s : Int × Mm} {x : (Int × Mm) ⊕ (Int × Mm)} {r : Option AV} {M' : Mm} (h : l_Model_next_77 a0 a1 s = some x) (hk1 : ∀ s : Int × Mm, x = .inl s → Ev X m_Model_next d 77 [(0, (12, a0)), (1, (0, a1)), (3, (0, s.1))] [] s.2 r M') (hk2 : ∀ t : Int × Mm, x = .inr t → Ev X m_Model_next d 128 [(0, (12, a0)), (1, (0, a1)), (3, (0, t.1))] [] t.2 r M') : Ev X m_Model_next d 77 [(0, (12, a0)), (1, (0, a1)), (3, (0, s.1))] [] s.2 r M' := by
  unfold l_Model_next_77 at h
  refine ev_aload_n 0 d_Model_next_77 rfl (by decide) rfl ?_
  refine ev_aload_n 0 d_Model_next_78 rfl (by decide) rfl ?_
  obtain ⟨p34, hp34, h⟩ := bx h
  have hRp34 := c_Model_raw (X := X) (d := d - 1) (by omega) hn_a0 hp34
  refine ev_callV2 (st2 := [(0, p34), (12, a0)]) (as := []) (rest := [(12, a0)]) rfl (by decide) (by decide) rfl hn_a0 rfl (Nat.le_of_ble_eq_true rfl) k_Model_raw ⟨tw_1237, ts_100⟩ (by omega) tw_1235 d_Model_next_79 hRp34 rfl ?_
  obtain ⟨p35, hp35, h⟩ := bx h
  have hRp35 := c_Model_isSmall (X := X) (d := d - 1) (by omega) hn_a0 hp35
  refine ev_callV2 (st2 := [(0, p35)]) (as := [(0, p34)]) (rest := []) rfl (by decide) (by decide) rfl hn_a0 rfl (Nat.le_of_ble_eq_true rfl) k_Model_isSmall ⟨tw_1241, ts_101⟩ (by omega) tw_1239 d_Model_next_82 hRp35 rfl ?_
  by_cases hc36 : p35 = 0
  · replace h := itp hc36 h
    refine ev_if_eq_t (tgt := 128) d_Model_next_85 (by decide) hc36 ?_
    cases h
    exact hk2 _ rfl
  · replace h := itn hc36 h
    refine ev_if_eq_f d_Model_next_85 (by decide) hc36 ?_
    refine ev_iload_n 2 d_Model_next_88 rfl rfl ?_
    refine ev_bipush d_Model_next_89 rfl ?_
    by_cases hc37 : 7 ≤ s.1
    · replace h := itp hc37 h
      refine ev_icmp_ge_t (tgt := 111) d_Model_next_91 (by decide) hc37 ?_
      exact cj_Model_next_111_77 hd hn_a0 h hk1 hk2
    · replace h := itn hc37 h
      refine ev_icmp_ge_f d_Model_next_91 (by decide) hc37 ?_
      refine ev_aload_n 0 d_Model_next_94 rfl (by decide) rfl ?_
      refine ev_aload_n 0 d_Model_next_95 rfl (by decide) rfl ?_
      refine ev_get (t := 12) (k := 34) (by decide) (by decide) rfl i_Model (by decide) rfl rfl tw_934 d_Model_next_96 hn_a0 ?_
      refine ev_bipush d_Model_next_99 rfl ?_
      refine ev_lshl d_Model_next_101 ?_
      refine ev_aload_n 0 d_Model_next_102 rfl (by decide) rfl ?_
      obtain ⟨p40, hp40, h⟩ := bx h
      have hRp40 := c_Model_raw (X := X) (d := d - 1) (by omega) hn_a0 hp40
      refine ev_callV2 (st2 := [(0, p40), (1, (lShl (mg s.2 (cI a0) 34) 8)), (12, a0)]) (as := []) (rest := [(1, (lShl (mg s.2 (cI a0) 34) 8)), (12, a0)]) rfl (by decide) (by decide) rfl hn_a0 rfl (Nat.le_of_ble_eq_true rfl) k_Model_raw ⟨tw_1237, ts_100⟩ (by omega) tw_1235 d_Model_next_103 hRp40 rfl ?_
      refine ev_i2l d_Model_next_106 ?_
      refine ev_lor d_Model_next_107 ?_
      obtain ⟨M41, hM41, h⟩ := ltx h
      refine ev_put' (t := 12) (k := 34) (by decide) (by decide) rfl i_Model t_Model_ok n_Model (by decide) rfl rfl rfl rfl tw_934 d_Model_next_108 hn_a0 hM41 ?_
      exact cj_Model_next_111_77 hd hn_a0 h hk1 hk2
def j_Model_next_150 (M : Mm) (a0 : Int) (a1 : Int) (z3 : Int) : Option (Mm) :=
  if 7 ≤ z3 then
  some M
  else
  if a1 ≠ 0 then
  some M
  else
  lt (mp M (cI a0) 32 3) (fun M46 =>
  some M46)
theorem cj_Model_next_150 {X : XX} {d : Nat} (hd : 2 ≤ d) {M : Mm} {a0 : Int} {a1 : Int} {z3 : Int} (hn_a0 : a0 ≠ 0) {p : Mm} (h : j_Model_next_150 M a0 a1 z3 = some p) : Ev X m_Model_next d 150 [(0, (12, a0)), (1, (0, a1)), (3, (0, z3))] [] M none p := by
  unfold j_Model_next_150 at h
  refine ev_iload_n 2 d_Model_next_150 rfl rfl ?_
  refine ev_bipush d_Model_next_151 rfl ?_
  by_cases hc44 : 7 ≤ z3
  · replace h := itp hc44 h
    refine ev_icmp_ge_t (tgt := 165) d_Model_next_153 (by decide) hc44 ?_
    refine ev_goto (tgt := 290) d_Model_next_165 (by decide) ?_
    cases h
    exact ev_retV d_Model_next_290 rfl
  · replace h := itn hc44 h
    refine ev_icmp_ge_f d_Model_next_153 (by decide) hc44 ?_
    refine ev_iload_n 1 d_Model_next_156 rfl rfl ?_
    by_cases hc45 : a1 ≠ 0
    · replace h := itp hc45 h
      refine ev_if_ne_t (tgt := 165) d_Model_next_157 (by decide) hc45 ?_
      refine ev_goto (tgt := 290) d_Model_next_165 (by decide) ?_
      cases h
      exact ev_retV d_Model_next_290 rfl
    · replace h := itn hc45 h
      refine ev_if_ne_f d_Model_next_157 (by decide) hc45 ?_
      refine ev_aload_n 0 d_Model_next_160 rfl (by decide) rfl ?_
      refine ev_iconst d_Model_next_161 rfl ?_
      obtain ⟨M46, hM46, h⟩ := ltx h
      refine ev_put' (t := 12) (k := 32) (by decide) (by decide) rfl i_Model t_Model_ok n_Model (by decide) rfl rfl rfl rfl tw_932 d_Model_next_162 hn_a0 hM46 ?_
      refine ev_goto (tgt := 290) d_Model_next_165 (by decide) ?_
      cases h
      exact ev_retV d_Model_next_290 rfl
def f_Model_next (M : Mm) (a0 : Int) (a1 : Int) : Option (Mm) :=
  (loopN (l_Model_next_0 a0 a1) FU M).bind (fun t6 =>
  lt (mp t6 (cI a0) 31 (mg t6 (cI a0) 30)) (fun M7 =>
  lt (mp M7 (cI a0) 32 1) (fun M8 =>
  (f_Model_raw M8 a0).bind (fun p9 =>
  if p9 ≠ (-1) then
  (f_Model_isSmall M8 a0 p9).bind (fun p11 =>
  if p11 = 0 then
  (f_Model_isDigit M8 a0 p9).bind (fun p13 =>
  if p13 = 0 then
  lt (mp M8 (cI a0) 33 p9) (fun M15 =>
  (f_Model_isSignOf M15 a0 p9 a1).bind (fun p16 =>
  if p16 = 0 then
  j_Model_next_280 M15 a0
  else
  lt (mp M15 (cI a0) 32 5) (fun M19 =>
  j_Model_next_280 M19 a0)))
  else
  if a1 = 0 then
  j_Model_next_187 M8 a0 0 2
  else
  j_Model_next_187 M8 a0 0 4)
  else
  lt (mp M8 (cI a0) 34 0) (fun M33 =>
  (loopN (l_Model_next_77 a0 a1) FU (0, M33)).bind (fun t42 =>
  if 7 ≤ t42.1 then
  j_Model_next_150 t42.2 a0 a1 t42.1
  else
  (f_Model_isWordOf t42.2 a0 a1).bind (fun p47 =>
  if p47 = 0 then
  j_Model_next_150 t42.2 a0 a1 t42.1
  else
  lt (mp t42.2 (cI a0) 32 2) (fun M49 =>
  some M49)))))
  else
  lt (mp M8 (cI a0) 32 0) (fun M50 =>
  some M50)))))
theorem c_Model_next {X : XX} {d : Nat} (hd : 2 ≤ d) {M : Mm} {a0 : Int} {a1 : Int} (hn_a0 : a0 ≠ 0) {p : Mm} (h : f_Model_next M a0 a1 = some p) : Rn X d m_Model_next [(12, a0), (0, a1)] M none p := by
  refine Rn_of (by decide) rfl (Nat.le_of_ble_eq_true rfl) ?_
  unfold f_Model_next at h
  refine ev_less (L' := [(0, (12, a0)), (1, (0, a1))]) [0, 1] rfl ?_
  obtain ⟨t6, ht6, h⟩ := bx h
  refine loop_ev (step := l_Model_next_0 a0 a1) (P := fun w : Mm => Ev X m_Model_next d 0 [(0, (12, a0)), (1, (0, a1))] [] w none p) (Q := fun w => Ev X m_Model_next d 31 [(0, (12, a0)), (1, (0, a1))] [] w none p) (fun w x hs k1 k2 => cs_l_Model_next_0 hd hn_a0 hs k1 k2) FU M t6 ht6 ?_
  refine ev_aload_n 0 d_Model_next_31 rfl (by decide) rfl ?_
  refine ev_aload_n 0 d_Model_next_32 rfl (by decide) rfl ?_
  refine ev_get (t := 12) (k := 30) (by decide) (by decide) rfl i_Model (by decide) rfl rfl tw_930 d_Model_next_33 hn_a0 ?_
  obtain ⟨M7, hM7, h⟩ := ltx h
  refine ev_put' (t := 12) (k := 31) (by decide) (by decide) rfl i_Model t_Model_ok n_Model (by decide) rfl rfl rfl rfl tw_931 d_Model_next_36 hn_a0 hM7 ?_
  refine ev_aload_n 0 d_Model_next_39 rfl (by decide) rfl ?_
  refine ev_iconst d_Model_next_40 rfl ?_
  obtain ⟨M8, hM8, h⟩ := ltx h
  refine ev_put' (t := 12) (k := 32) (by decide) (by decide) rfl i_Model t_Model_ok n_Model (by decide) rfl rfl rfl rfl tw_932 d_Model_next_41 hn_a0 hM8 ?_
  refine ev_aload_n 0 d_Model_next_44 rfl (by decide) rfl ?_
  obtain ⟨p9, hp9, h⟩ := bx h
  have hRp9 := c_Model_raw (X := X) (d := d - 1) (by omega) hn_a0 hp9
  refine ev_callV2 (st2 := [(0, p9)]) (as := []) (rest := []) rfl (by decide) (by decide) rfl hn_a0 rfl (Nat.le_of_ble_eq_true rfl) k_Model_raw ⟨tw_1237, ts_100⟩ (by omega) tw_1235 d_Model_next_45 hRp9 rfl ?_
  refine ev_istore_n (L' := [(2, (0, p9)), (0, (12, a0)), (1, (0, a1))]) d_Model_next_48 rfl (by decide) rfl ?_
  refine ev_iload_n 0 d_Model_next_49 rfl rfl ?_
  refine ev_iconst d_Model_next_50 rfl ?_
  by_cases hc10 : p9 ≠ (-1)
  · replace h := itp hc10 h
    refine ev_icmp_ne_t (tgt := 62) d_Model_next_51 (by decide) hc10 ?_
    refine ev_aload_n 1 d_Model_next_62 rfl (by decide) rfl ?_
    refine ev_iload_n 0 d_Model_next_63 rfl rfl ?_
    obtain ⟨p11, hp11, h⟩ := bx h
    have hRp11 := c_Model_isSmall (X := X) (d := d - 1) (by omega) hn_a0 hp11
    refine ev_callV2 (st2 := [(0, p11)]) (as := [(0, p9)]) (rest := []) rfl (by decide) (by decide) rfl hn_a0 rfl (Nat.le_of_ble_eq_true rfl) k_Model_isSmall ⟨tw_1241, ts_101⟩ (by omega) tw_1239 d_Model_next_64 hRp11 rfl ?_
    by_cases hc12 : p11 = 0
    · replace h := itp hc12 h
      refine ev_if_eq_t (tgt := 168) d_Model_next_67 (by decide) hc12 ?_
      refine ev_aload_n 1 d_Model_next_168 rfl (by decide) rfl ?_
      refine ev_iload_n 0 d_Model_next_169 rfl rfl ?_
      obtain ⟨p13, hp13, h⟩ := bx h
      have hRp13 := c_Model_isDigit (X := X) (d := d - 1) (by omega) hn_a0 hp13
      refine ev_callV2 (st2 := [(0, p13)]) (as := [(0, p9)]) (rest := []) rfl (by decide) (by decide) rfl hn_a0 rfl (Nat.le_of_ble_eq_true rfl) k_Model_isDigit ⟨tw_1253, ts_104⟩ (by omega) tw_1251 d_Model_next_170 hRp13 rfl ?_
      by_cases hc14 : p13 = 0
      · replace h := itp hc14 h
        refine ev_if_eq_t (tgt := 261) d_Model_next_173 (by decide) hc14 ?_
        refine ev_aload_n 1 d_Model_next_261 rfl (by decide) rfl ?_
        refine ev_iload_n 0 d_Model_next_262 rfl rfl ?_
        obtain ⟨M15, hM15, h⟩ := ltx h
        refine ev_put' (t := 12) (k := 33) (by decide) (by decide) rfl i_Model t_Model_ok n_Model (by decide) rfl rfl rfl rfl tw_933 d_Model_next_263 hn_a0 hM15 ?_
        refine ev_aload_n 1 d_Model_next_266 rfl (by decide) rfl ?_
        refine ev_iload_n 0 d_Model_next_267 rfl rfl ?_
        refine ev_iload_n 2 d_Model_next_268 rfl rfl ?_
        obtain ⟨p16, hp16, h⟩ := bx h
        have hRp16 := c_Model_isSignOf (X := X) (d := d - 1) (by omega) hn_a0 hp16
        refine ev_callV2 (st2 := [(0, p16)]) (as := [(0, p9), (0, a1)]) (rest := []) rfl (by decide) (by decide) rfl hn_a0 rfl (Nat.le_of_ble_eq_true rfl) k_Model_isSignOf ⟨tw_1257, ts_105⟩ (by omega) tw_1255 d_Model_next_269 hRp16 rfl ?_
        by_cases hc17 : p16 = 0
        · replace h := itp hc17 h
          refine ev_if_eq_t (tgt := 280) d_Model_next_272 (by decide) hc17 ?_
          refine ev_less (L' := [(0, (12, a0))]) [1] rfl ?_
          exact cj_Model_next_280 hd hn_a0 h
        · replace h := itn hc17 h
          refine ev_if_eq_f d_Model_next_272 (by decide) hc17 ?_
          refine ev_aload_n 1 d_Model_next_275 rfl (by decide) rfl ?_
          refine ev_iconst d_Model_next_276 rfl ?_
          obtain ⟨M19, hM19, h⟩ := ltx h
          refine ev_put' (t := 12) (k := 32) (by decide) (by decide) rfl i_Model t_Model_ok n_Model (by decide) rfl rfl rfl rfl tw_932 d_Model_next_277 hn_a0 hM19 ?_
          refine ev_less (L' := [(0, (12, a0))]) [1] rfl ?_
          exact cj_Model_next_280 hd hn_a0 h
      · replace h := itn hc14 h
        refine ev_if_eq_f d_Model_next_173 (by decide) hc14 ?_
        refine ev_iconst d_Model_next_176 rfl ?_
        refine ev_istore_n (L' := [(3, (0, 0)), (2, (0, p9)), (0, (12, a0)), (1, (0, a1))]) d_Model_next_177 rfl (by decide) rfl ?_
        refine ev_iload_n 3 d_Model_next_178 rfl rfl ?_
        by_cases hc20 : a1 = 0
        · replace h := itp hc20 h
          refine ev_if_eq_t (tgt := 186) d_Model_next_179 (by decide) hc20 ?_
          refine ev_iconst d_Model_next_186 rfl ?_
          refine ev_less (L' := [(0, (12, a0)), (3, (0, 0))]) [2, 0] rfl ?_
          exact cj_Model_next_187 hd hn_a0 h
        · replace h := itn hc20 h
          refine ev_if_eq_f d_Model_next_179 (by decide) hc20 ?_
          refine ev_iconst d_Model_next_182 rfl ?_
          refine ev_goto (tgt := 187) d_Model_next_183 (by decide) ?_
          refine ev_less (L' := [(0, (12, a0)), (3, (0, 0))]) [2, 0] rfl ?_
          exact cj_Model_next_187 hd hn_a0 h
    · replace h := itn hc12 h
      refine ev_if_eq_f d_Model_next_67 (by decide) hc12 ?_
      refine ev_iconst d_Model_next_70 rfl ?_
      refine ev_istore_n (L' := [(3, (0, 0)), (2, (0, p9)), (0, (12, a0)), (1, (0, a1))]) d_Model_next_71 rfl (by decide) rfl ?_
      refine ev_aload_n 2 d_Model_next_72 rfl (by decide) rfl ?_
      refine ev_lconst (v := 0) d_Model_next_73 rfl rfl ?_
      obtain ⟨M33, hM33, h⟩ := ltx h
      refine ev_put' (t := 12) (k := 34) (by decide) (by decide) rfl i_Model t_Model_ok n_Model (by decide) rfl rfl rfl rfl tw_934 d_Model_next_74 hn_a0 hM33 ?_
      obtain ⟨t42, ht42, h⟩ := bx h
      refine ev_less (L' := [(0, (12, a0)), (1, (0, a1)), (3, (0, 0))]) [2, 3, 0] rfl ?_
      refine loop_ev (step := l_Model_next_77 a0 a1) (P := fun w : Int × Mm => Ev X m_Model_next d 77 [(0, (12, a0)), (1, (0, a1)), (3, (0, w.1))] [] w.2 none p) (Q := fun w => Ev X m_Model_next d 128 [(0, (12, a0)), (1, (0, a1)), (3, (0, w.1))] [] w.2 none p) (fun w x hs k1 k2 => cs_l_Model_next_77 hd hn_a0 hs k1 k2) FU (0, M33) t42 ht42 ?_
      refine ev_iload_n 2 d_Model_next_128 rfl rfl ?_
      refine ev_bipush d_Model_next_129 rfl ?_
      by_cases hc43 : 7 ≤ t42.1
      · replace h := itp hc43 h
        refine ev_icmp_ge_t (tgt := 150) d_Model_next_131 (by decide) hc43 ?_
        exact cj_Model_next_150 hd hn_a0 h
      · replace h := itn hc43 h
        refine ev_icmp_ge_f d_Model_next_131 (by decide) hc43 ?_
        refine ev_aload_n 0 d_Model_next_134 rfl (by decide) rfl ?_
        refine ev_iload_n 1 d_Model_next_135 rfl rfl ?_
        obtain ⟨p47, hp47, h⟩ := bx h
        have hRp47 := c_Model_isWordOf (X := X) (d := d - 1) (by omega) hn_a0 hp47
        refine ev_callV2 (st2 := [(0, p47)]) (as := [(0, a1)]) (rest := []) rfl (by decide) (by decide) rfl hn_a0 rfl (Nat.le_of_ble_eq_true rfl) k_Model_isWordOf ⟨tw_1245, ts_102⟩ (by omega) tw_1243 d_Model_next_136 hRp47 rfl ?_
        by_cases hc48 : p47 = 0
        · replace h := itp hc48 h
          refine ev_if_eq_t (tgt := 150) d_Model_next_139 (by decide) hc48 ?_
          exact cj_Model_next_150 hd hn_a0 h
        · replace h := itn hc48 h
          refine ev_if_eq_f d_Model_next_139 (by decide) hc48 ?_
          refine ev_aload_n 0 d_Model_next_142 rfl (by decide) rfl ?_
          refine ev_iconst d_Model_next_143 rfl ?_
          obtain ⟨M49, hM49, h⟩ := ltx h
          refine ev_put' (t := 12) (k := 32) (by decide) (by decide) rfl i_Model t_Model_ok n_Model (by decide) rfl rfl rfl rfl tw_932 d_Model_next_144 hn_a0 hM49 ?_
          refine ev_goto (tgt := 165) d_Model_next_147 (by decide) ?_
          refine ev_goto (tgt := 290) d_Model_next_165 (by decide) ?_
          cases h
          exact ev_retV d_Model_next_290 rfl
  · replace h := itn hc10 h
    refine ev_icmp_ne_f d_Model_next_51 (by decide) hc10 ?_
    refine ev_aload_n 1 d_Model_next_54 rfl (by decide) rfl ?_
    refine ev_iconst d_Model_next_55 rfl ?_
    obtain ⟨M50, hM50, h⟩ := ltx h
    refine ev_put' (t := 12) (k := 32) (by decide) (by decide) rfl i_Model t_Model_ok n_Model (by decide) rfl rfl rfl rfl tw_932 d_Model_next_56 hn_a0 hM50 ?_
    refine ev_goto (tgt := 290) d_Model_next_59 (by decide) ?_
    cases h
    exact ev_retV d_Model_next_290 rfl
def f_Model_fails (M : Mm) (a0 : Int) (a1 : Int) : Option (Int × Mm) :=
  lt (mp M (cI a0) 35 a1) (fun M1 =>
  lt (mp M1 (cI a0) 36 (mg M1 (cI a0) 31)) (fun M2 =>
  some (0, M2)))
theorem c_Model_fails {X : XX} {d : Nat} (hd : 0 ≤ d) {M : Mm} {a0 : Int} {a1 : Int} (hn_a0 : a0 ≠ 0) {p : Int × Mm} (h : f_Model_fails M a0 a1 = some p) : Rn X d m_Model_fails [(12, a0), (0, a1)] M (some (0, p.1)) p.2 := by
  refine Rn_of (by decide) rfl (Nat.le_of_ble_eq_true rfl) ?_
  unfold f_Model_fails at h
  refine ev_less (L' := [(0, (12, a0)), (1, (0, a1))]) [0, 1] rfl ?_
  refine ev_aload_n 0 d_Model_fails_0 rfl (by decide) rfl ?_
  refine ev_iload_n 1 d_Model_fails_1 rfl rfl ?_
  obtain ⟨M1, hM1, h⟩ := ltx h
  refine ev_put' (t := 12) (k := 35) (by decide) (by decide) rfl i_Model t_Model_ok n_Model (by decide) rfl rfl rfl rfl tw_935 d_Model_fails_2 hn_a0 hM1 ?_
  refine ev_aload_n 0 d_Model_fails_5 rfl (by decide) rfl ?_
  refine ev_aload_n 0 d_Model_fails_6 rfl (by decide) rfl ?_
  refine ev_get (t := 12) (k := 31) (by decide) (by decide) rfl i_Model (by decide) rfl rfl tw_931 d_Model_fails_7 hn_a0 ?_
  obtain ⟨M2, hM2, h⟩ := ltx h
  refine ev_put' (t := 12) (k := 36) (by decide) (by decide) rfl i_Model t_Model_ok n_Model (by decide) rfl rfl rfl rfl tw_936 d_Model_fails_10 hn_a0 hM2 ?_
  refine ev_iconst d_Model_fails_13 rfl ?_
  cases h
  exact ev_retZ d_Model_fails_14 rfl (Or.inl rfl)
def f_Model_isWord (M : Mm) (a0 : Int) (a1 : Int) (a2 : Int) (a3 : Int) (a4 : Int) (a5 : Int) : Option (Int) :=
  if (mg M (cI a0) 32) ≠ 2 then
  some 0
  else
  (f_Model_word M a0 a1 a2 a3 a4 a5).bind (fun p2 =>
  if (mg M (cI a0) 34) ≠ p2 then
  some 0
  else
  some 1)
theorem c_Model_isWord {X : XX} {d : Nat} (hd : 1 ≤ d) {M : Mm} {a0 : Int} {a1 : Int} {a2 : Int} {a3 : Int} {a4 : Int} {a5 : Int} (hn_a0 : a0 ≠ 0) {p : Int} (h : f_Model_isWord M a0 a1 a2 a3 a4 a5 = some p) : Rn X d m_Model_isWord [(12, a0), (0, a1), (0, a2), (0, a3), (0, a4), (0, a5)] M (some (0, p)) M := by
  refine Rn_of (by decide) rfl (Nat.le_of_ble_eq_true rfl) ?_
  unfold f_Model_isWord at h
  refine ev_less (L' := [(0, (12, a0)), (1, (0, a1)), (2, (0, a2)), (3, (0, a3)), (4, (0, a4)), (5, (0, a5))]) [0, 1, 2, 3, 4, 5] rfl ?_
  refine ev_aload_n 0 d_Model_isWord_0 rfl (by decide) rfl ?_
  refine ev_get (t := 12) (k := 32) (by decide) (by decide) rfl i_Model (by decide) rfl rfl tw_932 d_Model_isWord_1 hn_a0 ?_
  refine ev_iconst d_Model_isWord_4 rfl ?_
  by_cases hc1 : (mg M (cI a0) 32) ≠ 2
  · replace h := itp hc1 h
    refine ev_icmp_ne_t (tgt := 31) d_Model_isWord_5 (by decide) hc1 ?_
    refine ev_iconst d_Model_isWord_31 rfl ?_
    cases h
    exact ev_retZ d_Model_isWord_32 rfl (Or.inl rfl)
  · replace h := itn hc1 h
    refine ev_icmp_ne_f d_Model_isWord_5 (by decide) hc1 ?_
    refine ev_aload_n 0 d_Model_isWord_8 rfl (by decide) rfl ?_
    refine ev_get (t := 12) (k := 34) (by decide) (by decide) rfl i_Model (by decide) rfl rfl tw_934 d_Model_isWord_9 hn_a0 ?_
    refine ev_aload_n 0 d_Model_isWord_12 rfl (by decide) rfl ?_
    refine ev_iload_n 1 d_Model_isWord_13 rfl rfl ?_
    refine ev_iload_n 2 d_Model_isWord_14 rfl rfl ?_
    refine ev_iload_n 3 d_Model_isWord_15 rfl rfl ?_
    refine ev_iload 4 d_Model_isWord_16 rfl ?_
    refine ev_iload 5 d_Model_isWord_18 rfl ?_
    obtain ⟨p2, hp2, h⟩ := bx h
    have hRp2 := c_Model_word (X := X) (d := d - 1) (by omega) hn_a0 hp2
    refine ev_callV2 (st2 := [(1, p2), (1, (mg M (cI a0) 34))]) (as := [(0, a1), (0, a2), (0, a3), (0, a4), (0, a5)]) (rest := [(1, (mg M (cI a0) 34))]) rfl (by decide) (by decide) rfl hn_a0 rfl (Nat.le_of_ble_eq_true rfl) k_Model_word ⟨tw_1249, ts_103⟩ (by omega) tw_1247 d_Model_isWord_20 hRp2 rfl ?_
    refine ev_lcmp d_Model_isWord_23 ?_
    by_cases hc3 : (mg M (cI a0) 34) ≠ p2
    · replace h := itp hc3 h
      refine ev_if_ne_t (tgt := 31) d_Model_isWord_24 (by decide) ((lC_ne _ _).mpr hc3) ?_
      refine ev_iconst d_Model_isWord_31 rfl ?_
      cases h
      exact ev_retZ d_Model_isWord_32 rfl (Or.inl rfl)
    · replace h := itn hc3 h
      refine ev_if_ne_f d_Model_isWord_24 (by decide) (fun z => hc3 ((lC_ne _ _).mp z)) ?_
      refine ev_iconst d_Model_isWord_27 rfl ?_
      refine ev_goto (tgt := 32) d_Model_isWord_28 (by decide) ?_
      cases h
      exact ev_retZ d_Model_isWord_32 rfl (Or.inr rfl)
def f_Model_isSign (M : Mm) (a0 : Int) (a1 : Int) : Option (Int) :=
  if (mg M (cI a0) 32) ≠ 5 then
  some 0
  else
  if (mg M (cI a0) 33) ≠ a1 then
  some 0
  else
  some 1
theorem c_Model_isSign {X : XX} {d : Nat} (hd : 0 ≤ d) {M : Mm} {a0 : Int} {a1 : Int} (hn_a0 : a0 ≠ 0) {p : Int} (h : f_Model_isSign M a0 a1 = some p) : Rn X d m_Model_isSign [(12, a0), (0, a1)] M (some (0, p)) M := by
  refine Rn_of (by decide) rfl (Nat.le_of_ble_eq_true rfl) ?_
  unfold f_Model_isSign at h
  refine ev_less (L' := [(0, (12, a0)), (1, (0, a1))]) [0, 1] rfl ?_
  refine ev_aload_n 0 d_Model_isSign_0 rfl (by decide) rfl ?_
  refine ev_get (t := 12) (k := 32) (by decide) (by decide) rfl i_Model (by decide) rfl rfl tw_932 d_Model_isSign_1 hn_a0 ?_
  refine ev_iconst d_Model_isSign_4 rfl ?_
  by_cases hc1 : (mg M (cI a0) 32) ≠ 5
  · replace h := itp hc1 h
    refine ev_icmp_ne_t (tgt := 20) d_Model_isSign_5 (by decide) hc1 ?_
    refine ev_iconst d_Model_isSign_20 rfl ?_
    cases h
    exact ev_retZ d_Model_isSign_21 rfl (Or.inl rfl)
  · replace h := itn hc1 h
    refine ev_icmp_ne_f d_Model_isSign_5 (by decide) hc1 ?_
    refine ev_aload_n 0 d_Model_isSign_8 rfl (by decide) rfl ?_
    refine ev_get (t := 12) (k := 33) (by decide) (by decide) rfl i_Model (by decide) rfl rfl tw_933 d_Model_isSign_9 hn_a0 ?_
    refine ev_iload_n 1 d_Model_isSign_12 rfl rfl ?_
    by_cases hc2 : (mg M (cI a0) 33) ≠ a1
    · replace h := itp hc2 h
      refine ev_icmp_ne_t (tgt := 20) d_Model_isSign_13 (by decide) hc2 ?_
      refine ev_iconst d_Model_isSign_20 rfl ?_
      cases h
      exact ev_retZ d_Model_isSign_21 rfl (Or.inl rfl)
    · replace h := itn hc2 h
      refine ev_icmp_ne_f d_Model_isSign_13 (by decide) hc2 ?_
      refine ev_iconst d_Model_isSign_16 rfl ?_
      refine ev_goto (tgt := 21) d_Model_isSign_17 (by decide) ?_
      cases h
      exact ev_retZ d_Model_isSign_21 rfl (Or.inr rfl)
def j_Model_takes_30 (M : Mm) (a0 : Int) : Option (Int × Mm) :=
  (f_Model_fails M a0 3).bind (fun p3 =>
  if p3.1 = 0 then
  some (0, p3.2)
  else
  some (1, p3.2))
theorem cj_Model_takes_30 {X : XX} {d : Nat} (hd : 1 ≤ d) {M : Mm} {a0 : Int} (hn_a0 : a0 ≠ 0) {p : Int × Mm} (h : j_Model_takes_30 M a0 = some p) : Ev X m_Model_takes d 30 [(0, (12, a0))] [] M (some (0, p.1)) p.2 := by
  unfold j_Model_takes_30 at h
  refine ev_aload_n 0 d_Model_takes_30 rfl (by decide) rfl ?_
  refine ev_iconst d_Model_takes_31 rfl ?_
  obtain ⟨p3, hp3, h⟩ := bx h
  have hRp3 := c_Model_fails (X := X) (d := d - 1) (by omega) hn_a0 hp3
  refine ev_callV2 (st2 := [(0, p3.1)]) (as := [(0, 3)]) (rest := []) rfl (by decide) (by decide) rfl hn_a0 rfl (Nat.le_of_ble_eq_true rfl) k_Model_fails ⟨tw_1269, ts_108⟩ (by omega) tw_1267 d_Model_takes_32 hRp3 rfl ?_
  by_cases hc4 : p3.1 = 0
  · replace h := itp hc4 h
    refine ev_if_eq_t (tgt := 42) d_Model_takes_35 (by decide) hc4 ?_
    refine ev_iconst d_Model_takes_42 rfl ?_
    cases h
    exact ev_retZ d_Model_takes_43 rfl (Or.inl rfl)
  · replace h := itn hc4 h
    refine ev_if_eq_f d_Model_takes_35 (by decide) hc4 ?_
    refine ev_iconst d_Model_takes_38 rfl ?_
    refine ev_goto (tgt := 43) d_Model_takes_39 (by decide) ?_
    cases h
    exact ev_retZ d_Model_takes_43 rfl (Or.inr rfl)
def f_Model_takes (M : Mm) (a0 : Int) (a1 : Int) (a2 : Int) : Option (Int × Mm) :=
  if (mg M (cI a0) 32) = 4 then
  if (mg M (cI a0) 33) < a1 then
  j_Model_takes_30 M a0
  else
  if (mg M (cI a0) 33) ≤ a2 then
  some (1, M)
  else
  j_Model_takes_30 M a0
  else
  (f_Model_fails M a0 1).bind (fun p6 =>
  some (p6.1, p6.2))
theorem c_Model_takes {X : XX} {d : Nat} (hd : 1 ≤ d) {M : Mm} {a0 : Int} {a1 : Int} {a2 : Int} (hn_a0 : a0 ≠ 0) {p : Int × Mm} (h : f_Model_takes M a0 a1 a2 = some p) : Rn X d m_Model_takes [(12, a0), (0, a1), (0, a2)] M (some (0, p.1)) p.2 := by
  refine Rn_of (by decide) rfl (Nat.le_of_ble_eq_true rfl) ?_
  unfold f_Model_takes at h
  refine ev_less (L' := [(0, (12, a0)), (1, (0, a1)), (2, (0, a2))]) [0, 1, 2] rfl ?_
  refine ev_aload_n 0 d_Model_takes_0 rfl (by decide) rfl ?_
  refine ev_get (t := 12) (k := 32) (by decide) (by decide) rfl i_Model (by decide) rfl rfl tw_932 d_Model_takes_1 hn_a0 ?_
  refine ev_iconst d_Model_takes_4 rfl ?_
  by_cases hc1 : (mg M (cI a0) 32) = 4
  · replace h := itp hc1 h
    refine ev_icmp_eq_t (tgt := 14) d_Model_takes_5 (by decide) hc1 ?_
    refine ev_aload_n 0 d_Model_takes_14 rfl (by decide) rfl ?_
    refine ev_get (t := 12) (k := 33) (by decide) (by decide) rfl i_Model (by decide) rfl rfl tw_933 d_Model_takes_15 hn_a0 ?_
    refine ev_iload_n 1 d_Model_takes_18 rfl rfl ?_
    by_cases hc2 : (mg M (cI a0) 33) < a1
    · replace h := itp hc2 h
      refine ev_icmp_lt_t (tgt := 30) d_Model_takes_19 (by decide) hc2 ?_
      refine ev_less (L' := [(0, (12, a0))]) [0] rfl ?_
      exact cj_Model_takes_30 hd hn_a0 h
    · replace h := itn hc2 h
      refine ev_icmp_lt_f d_Model_takes_19 (by decide) hc2 ?_
      refine ev_aload_n 0 d_Model_takes_22 rfl (by decide) rfl ?_
      refine ev_get (t := 12) (k := 33) (by decide) (by decide) rfl i_Model (by decide) rfl rfl tw_933 d_Model_takes_23 hn_a0 ?_
      refine ev_iload_n 2 d_Model_takes_26 rfl rfl ?_
      by_cases hc5 : (mg M (cI a0) 33) ≤ a2
      · replace h := itp hc5 h
        refine ev_icmp_le_t (tgt := 38) d_Model_takes_27 (by decide) hc5 ?_
        refine ev_iconst d_Model_takes_38 rfl ?_
        refine ev_goto (tgt := 43) d_Model_takes_39 (by decide) ?_
        cases h
        exact ev_retZ d_Model_takes_43 rfl (Or.inr rfl)
      · replace h := itn hc5 h
        refine ev_icmp_le_f d_Model_takes_27 (by decide) hc5 ?_
        refine ev_less (L' := [(0, (12, a0))]) [0] rfl ?_
        exact cj_Model_takes_30 hd hn_a0 h
  · replace h := itn hc1 h
    refine ev_icmp_eq_f d_Model_takes_5 (by decide) hc1 ?_
    refine ev_aload_n 0 d_Model_takes_8 rfl (by decide) rfl ?_
    refine ev_iconst d_Model_takes_9 rfl ?_
    obtain ⟨p6, hp6, h⟩ := bx h
    have hRp6 := c_Model_fails (X := X) (d := d - 1) (by omega) hn_a0 hp6
    refine ev_callV2 (st2 := [(0, p6.1)]) (as := [(0, 1)]) (rest := []) rfl (by decide) (by decide) rfl hn_a0 rfl (Nat.le_of_ble_eq_true rfl) k_Model_fails ⟨tw_1269, ts_108⟩ (by omega) tw_1267 d_Model_takes_10 hRp6 rfl ?_
    cases h
    exact ev_retZ d_Model_takes_13 rfl (hRp6.2.1 _ rfl rfl)
end
