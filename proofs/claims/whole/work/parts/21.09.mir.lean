noncomputable section
def l_Model_finds_18 (a0 : Int) (a1 : Int) (a2 : Int) (z3 : Int) (z4 : Int) (s : Int × Mm) : Option ((Int × Mm) ⊕ (Mm)) :=
  if z4 ≤ s.1 then
  some (.inr s.2)
  else
  if (mg s.2 (cI a0) 17) ≠ 0 then
  if (0 : Int) ≤ (w32 ((w32 (16384 * z3)) + s.1)) ∧ (w32 ((w32 (16384 * z3)) + s.1)) < (ml s.2 (cI (mg s.2 (cI a0) 17)) : Int) then
  lt (mp s.2 (cI (mg s.2 (cI a0) 17)) ((w32 ((w32 (16384 * z3)) + s.1)) : Int).toNat 0) (fun M8 =>
  lt (w32 (s.1 + 1)) (fun x9 : Int =>
  some (.inl (x9, M8))))
  else none
  else none
theorem cs_l_Model_finds_18 {X : XX} {d : Nat} (hd : 2 ≤ d) {a0 : Int} {a1 : Int} {a2 : Int} {z3 : Int} {z4 : Int} (hn_a0 : a0 ≠ 0) {s : Int × Mm} {x : (Int × Mm) ⊕ (Mm)} {r : Option AV} {M' : Mm} (h : l_Model_finds_18 a0 a1 a2 z3 z4 s = some x) (hk1 : ∀ s : Int × Mm, x = .inl s → Ev X m_Model_finds d 18 [(0, (12, a0)), (1, (0, a1)), (2, (0, a2)), (3, (0, z3)), (4, (0, z4)), (5, (0, s.1))] [] s.2 r M') (hk2 : ∀ t : Mm, x = .inr t → Ev X m_Model_finds d 45 [(0, (12, a0)), (1, (0, a1)), (2, (0, a2)), (3, (0, z3)), (4, (0, z4))] [] t r M') : Ev X m_Model_finds d 18 [(0, (12, a0)), (1, (0, a1)), (2, (0, a2)), (3, (0, z3)), (4, (0, z4)), (5, (0, s.1))] [] s.2 r M' := by
  unfold l_Model_finds_18 at h
  refine ev_iload 5 d_Model_finds_18 rfl ?_
  refine ev_iload 4 d_Model_finds_20 rfl ?_
  by_cases hc5 : z4 ≤ s.1
  · replace h := itp hc5 h
    refine ev_icmp_ge_t (tgt := 45) d_Model_finds_22 (by decide) hc5 ?_
    refine ev_less (L' := [(0, (12, a0)), (1, (0, a1)), (2, (0, a2)), (3, (0, z3)), (4, (0, z4))]) [0, 1, 2, 3, 4] rfl ?_
    cases h
    exact hk2 _ rfl
  · replace h := itn hc5 h
    refine ev_icmp_ge_f d_Model_finds_22 (by decide) hc5 ?_
    refine ev_aload_n 0 d_Model_finds_25 rfl (by decide) rfl ?_
    refine ev_get (t := 12) (k := 17) (by decide) (by decide) rfl i_Model (by decide) rfl rfl tw_917 d_Model_finds_26 hn_a0 ?_
    refine ev_sipush d_Model_finds_29 rfl ?_
    refine ev_iload_n 3 d_Model_finds_32 rfl rfl ?_
    refine ev_imul d_Model_finds_33 ?_
    refine ev_iload 5 d_Model_finds_34 rfl ?_
    refine ev_iadd d_Model_finds_36 ?_
    refine ev_iconst d_Model_finds_37 rfl ?_
    obtain ⟨hz6, h⟩ := gx h
    obtain ⟨hg7, h⟩ := gx h
    obtain ⟨M8, hM8, h⟩ := ltx h
    refine ev_iast' d_Model_finds_38 hz6 hg7 hM8 ?_
    obtain ⟨x9, hx9, h⟩ := ltx h
    refine ev_iinc' 5 (y := x9) (L' := [(5, (0, x9)), (0, (12, a0)), (1, (0, a1)), (2, (0, a2)), (3, (0, z3)), (4, (0, z4))]) d_Model_finds_39 rfl (by decide) rfl hx9 ?_
    refine ev_goto (tgt := 18) d_Model_finds_42 (by decide) ?_
    refine ev_less (L' := [(0, (12, a0)), (1, (0, a1)), (2, (0, a2)), (3, (0, z3)), (4, (0, z4)), (5, (0, x9))]) [1, 2, 3, 4, 5, 0] rfl ?_
    cases h
    exact hk1 _ rfl
def j_Model_finds_143_72 (M : Mm) (a0 : Int) (a1 : Int) (a2 : Int) (z4 : Int) (z5 : Int) (z6 : Int) (z7 : Int) (z8 : Int) (y0 : Int) (y1 : Int) (y2 : Int) : Option ((Int × Int) ⊕ (Int)) :=
  if y2 ≠ 0 then
  if (0 : Int) ≤ (w32 (y1 + y0)) ∧ (w32 (y1 + y0)) < (ml M (cI y2) : Int) then
  lt ((mg M (cI y2) ((w32 (y1 + y0)) : Int).toNat)) (fun x22 : Int =>
  if 1000000 ≤ x22 then
  lt (w32 (z8 + 1)) (fun x24 : Int =>
  some (.inl (z7, x24)))
  else
  (f_Model_counts M a0 a1 z5 z8 a2).bind (fun p25 =>
  if z7 ≤ (w32 (x22 + p25)) then
  lt (w32 (z8 + 1)) (fun x27 : Int =>
  some (.inl (z7, x27)))
  else
  (f_Model_counts M a0 a1 z5 z8 a2).bind (fun p28 =>
  lt ((w32 (x22 + p28))) (fun x29 : Int =>
  lt (w32 (z8 + 1)) (fun x30 : Int =>
  some (.inl (x29, x30)))))))
  else none
  else none
theorem cj_Model_finds_143_72 {X : XX} {d : Nat} (hd : 2 ≤ d) {M : Mm} {a0 : Int} {a1 : Int} {a2 : Int} {z4 : Int} {z5 : Int} {z6 : Int} {z7 : Int} {z8 : Int} {y0 : Int} {y1 : Int} {y2 : Int} (hn_a0 : a0 ≠ 0) {x : (Int × Int) ⊕ (Int)} {r : Option AV} {M' : Mm} (h : j_Model_finds_143_72 M a0 a1 a2 z4 z5 z6 z7 z8 y0 y1 y2 = some x) (hk1 : ∀ s : Int × Int, x = .inl s → Ev X m_Model_finds d 72 [(0, (12, a0)), (1, (0, a1)), (2, (0, a2)), (4, (0, z4)), (5, (0, z5)), (6, (0, z6)), (7, (0, s.1)), (8, (0, s.2))] [] M r M') (hk2 : ∀ t : Int, x = .inr t → Ev X m_Model_finds d 193 [(0, (12, a0)), (1, (0, a1)), (2, (0, a2)), (4, (0, z4)), (5, (0, z5)), (6, (0, z6)), (7, (0, t))] [] M r M') : Ev X m_Model_finds d 143 [(0, (12, a0)), (1, (0, a1)), (2, (0, a2)), (4, (0, z4)), (5, (0, z5)), (6, (0, z6)), (7, (0, z7)), (8, (0, z8))] [(0, y0), (0, y1), (13, y2)] M r M' := by
  unfold j_Model_finds_143_72 at h
  refine ev_iadd d_Model_finds_143 ?_
  obtain ⟨hz20, h⟩ := gx h
  obtain ⟨hg21, h⟩ := gx h
  refine ev_iald d_Model_finds_144 hz20 hg21 ?_
  obtain ⟨x22, hx22, h⟩ := ltx h
  refine ev_istore' (y := x22) (L' := [(9, (0, x22)), (0, (12, a0)), (1, (0, a1)), (2, (0, a2)), (4, (0, z4)), (5, (0, z5)), (6, (0, z6)), (7, (0, z7)), (8, (0, z8))]) d_Model_finds_145 (by decide) rfl hx22 ?_
  refine ev_iload 0 d_Model_finds_147 rfl ?_
  refine ev_ldc (v := 1000000) d_Model_finds_149 tw_1110 rfl ?_
  by_cases hc23 : 1000000 ≤ x22
  · replace h := itp hc23 h
    refine ev_icmp_ge_t (tgt := 187) d_Model_finds_151 (by decide) hc23 ?_
    obtain ⟨x24, hx24, h⟩ := ltx h
    refine ev_iinc' 8 (y := x24) (L' := [(8, (0, x24)), (9, (0, x22)), (0, (12, a0)), (1, (0, a1)), (2, (0, a2)), (4, (0, z4)), (5, (0, z5)), (6, (0, z6)), (7, (0, z7))]) d_Model_finds_187 rfl (by decide) rfl hx24 ?_
    refine ev_goto (tgt := 72) d_Model_finds_190 (by decide) ?_
    refine ev_less (L' := [(0, (12, a0)), (1, (0, a1)), (2, (0, a2)), (4, (0, z4)), (5, (0, z5)), (6, (0, z6)), (7, (0, z7)), (8, (0, x24))]) [2, 3, 4, 5, 6, 7, 8, 0] rfl ?_
    cases h
    exact hk1 _ rfl
  · replace h := itn hc23 h
    refine ev_icmp_ge_f d_Model_finds_151 (by decide) hc23 ?_
    refine ev_iload 0 d_Model_finds_154 rfl ?_
    refine ev_aload_n 1 d_Model_finds_156 rfl (by decide) rfl ?_
    refine ev_iload_n 2 d_Model_finds_157 rfl rfl ?_
    refine ev_iload 5 d_Model_finds_158 rfl ?_
    refine ev_iload 8 d_Model_finds_160 rfl ?_
    refine ev_iload_n 3 d_Model_finds_162 rfl rfl ?_
    obtain ⟨p25, hp25, h⟩ := bx h
    have hRp25 := c_Model_counts (X := X) (d := d - 1) (by omega) hn_a0 hp25
    refine ev_callV2 (st2 := [(0, p25), (0, x22)]) (as := [(0, a1), (0, z5), (0, z8), (0, a2)]) (rest := [(0, x22)]) rfl (by decide) (by decide) rfl hn_a0 rfl (Nat.le_of_ble_eq_true rfl) k_Model_counts ⟨tw_1121, ts_87⟩ (by omega) tw_1119 d_Model_finds_163 hRp25 rfl ?_
    refine ev_iadd d_Model_finds_166 ?_
    refine ev_iload 7 d_Model_finds_167 rfl ?_
    by_cases hc26 : z7 ≤ (w32 (x22 + p25))
    · replace h := itp hc26 h
      refine ev_icmp_ge_t (tgt := 187) d_Model_finds_169 (by decide) hc26 ?_
      obtain ⟨x27, hx27, h⟩ := ltx h
      refine ev_iinc' 8 (y := x27) (L' := [(8, (0, x27)), (9, (0, x22)), (0, (12, a0)), (1, (0, a1)), (2, (0, a2)), (4, (0, z4)), (5, (0, z5)), (6, (0, z6)), (7, (0, z7))]) d_Model_finds_187 rfl (by decide) rfl hx27 ?_
      refine ev_goto (tgt := 72) d_Model_finds_190 (by decide) ?_
      refine ev_less (L' := [(0, (12, a0)), (1, (0, a1)), (2, (0, a2)), (4, (0, z4)), (5, (0, z5)), (6, (0, z6)), (7, (0, z7)), (8, (0, x27))]) [2, 3, 4, 5, 6, 7, 8, 0] rfl ?_
      cases h
      exact hk1 _ rfl
    · replace h := itn hc26 h
      refine ev_icmp_ge_f d_Model_finds_169 (by decide) hc26 ?_
      refine ev_iload 0 d_Model_finds_172 rfl ?_
      refine ev_aload_n 1 d_Model_finds_174 rfl (by decide) rfl ?_
      refine ev_iload_n 2 d_Model_finds_175 rfl rfl ?_
      refine ev_iload 5 d_Model_finds_176 rfl ?_
      refine ev_iload 8 d_Model_finds_178 rfl ?_
      refine ev_iload_n 3 d_Model_finds_180 rfl rfl ?_
      obtain ⟨p28, hp28, h⟩ := bx h
      have hRp28 := c_Model_counts (X := X) (d := d - 1) (by omega) hn_a0 hp28
      refine ev_callV2 (st2 := [(0, p28), (0, x22)]) (as := [(0, a1), (0, z5), (0, z8), (0, a2)]) (rest := [(0, x22)]) rfl (by decide) (by decide) rfl hn_a0 rfl (Nat.le_of_ble_eq_true rfl) k_Model_counts ⟨tw_1121, ts_87⟩ (by omega) tw_1119 d_Model_finds_181 hRp28 rfl ?_
      refine ev_iadd d_Model_finds_184 ?_
      obtain ⟨x29, hx29, h⟩ := ltx h
      refine ev_istore' (y := x29) (L' := [(7, (0, x29)), (9, (0, x22)), (0, (12, a0)), (1, (0, a1)), (2, (0, a2)), (4, (0, z4)), (5, (0, z5)), (6, (0, z6)), (8, (0, z8))]) d_Model_finds_185 (by decide) rfl hx29 ?_
      obtain ⟨x30, hx30, h⟩ := ltx h
      refine ev_iinc' 8 (y := x30) (L' := [(8, (0, x30)), (7, (0, x29)), (9, (0, x22)), (0, (12, a0)), (1, (0, a1)), (2, (0, a2)), (4, (0, z4)), (5, (0, z5)), (6, (0, z6))]) d_Model_finds_187 rfl (by decide) rfl hx30 ?_
      refine ev_goto (tgt := 72) d_Model_finds_190 (by decide) ?_
      refine ev_less (L' := [(0, (12, a0)), (1, (0, a1)), (2, (0, a2)), (4, (0, z4)), (5, (0, z5)), (6, (0, z6)), (7, (0, x29)), (8, (0, x30))]) [3, 4, 5, 6, 7, 8, 1, 0] rfl ?_
      cases h
      exact hk1 _ rfl
def j_Model_finds_112_72 (M : Mm) (a0 : Int) (a1 : Int) (a2 : Int) (z4 : Int) (z5 : Int) (z6 : Int) (z7 : Int) (z8 : Int) : Option ((Int × Int) ⊕ (Int)) :=
  if 14 ≤ z8 then
  j_Model_finds_143_72 M a0 a1 a2 z4 z5 z6 z7 z8 z6 ((w32 (16384 * (w32 (z5 + 1))))) ((mg M (cI a0) 17))
  else
  j_Model_finds_143_72 M a0 a1 a2 z4 z5 z6 z7 z8 ((bOr z6 (bShl 1 z8))) ((w32 (16384 * (w32 (z5 + 1))))) ((mg M (cI a0) 17))
theorem cj_Model_finds_112_72 {X : XX} {d : Nat} (hd : 2 ≤ d) {M : Mm} {a0 : Int} {a1 : Int} {a2 : Int} {z4 : Int} {z5 : Int} {z6 : Int} {z7 : Int} {z8 : Int} (hn_a0 : a0 ≠ 0) {x : (Int × Int) ⊕ (Int)} {r : Option AV} {M' : Mm} (h : j_Model_finds_112_72 M a0 a1 a2 z4 z5 z6 z7 z8 = some x) (hk1 : ∀ s : Int × Int, x = .inl s → Ev X m_Model_finds d 72 [(0, (12, a0)), (1, (0, a1)), (2, (0, a2)), (4, (0, z4)), (5, (0, z5)), (6, (0, z6)), (7, (0, s.1)), (8, (0, s.2))] [] M r M') (hk2 : ∀ t : Int, x = .inr t → Ev X m_Model_finds d 193 [(0, (12, a0)), (1, (0, a1)), (2, (0, a2)), (4, (0, z4)), (5, (0, z5)), (6, (0, z6)), (7, (0, t))] [] M r M') : Ev X m_Model_finds d 112 [(0, (12, a0)), (1, (0, a1)), (2, (0, a2)), (4, (0, z4)), (5, (0, z5)), (6, (0, z6)), (7, (0, z7)), (8, (0, z8))] [] M r M' := by
  unfold j_Model_finds_112_72 at h
  refine ev_aload_n 0 d_Model_finds_112 rfl (by decide) rfl ?_
  refine ev_get (t := 12) (k := 17) (by decide) (by decide) rfl i_Model (by decide) rfl rfl tw_917 d_Model_finds_113 hn_a0 ?_
  refine ev_sipush d_Model_finds_116 rfl ?_
  refine ev_iload 4 d_Model_finds_119 rfl ?_
  refine ev_iconst d_Model_finds_121 rfl ?_
  refine ev_iadd d_Model_finds_122 ?_
  refine ev_imul d_Model_finds_123 ?_
  refine ev_iload 7 d_Model_finds_124 rfl ?_
  refine ev_bipush d_Model_finds_126 rfl ?_
  by_cases hc19 : 14 ≤ z8
  · replace h := itp hc19 h
    refine ev_icmp_ge_t (tgt := 141) d_Model_finds_128 (by decide) hc19 ?_
    refine ev_iload 5 d_Model_finds_141 rfl ?_
    exact cj_Model_finds_143_72 hd hn_a0 h hk1 hk2
  · replace h := itn hc19 h
    refine ev_icmp_ge_f d_Model_finds_128 (by decide) hc19 ?_
    refine ev_iload 5 d_Model_finds_131 rfl ?_
    refine ev_iconst d_Model_finds_133 rfl ?_
    refine ev_iload 7 d_Model_finds_134 rfl ?_
    refine ev_ishl d_Model_finds_136 ?_
    refine ev_ior d_Model_finds_137 ?_
    refine ev_goto (tgt := 143) d_Model_finds_138 (by decide) ?_
    exact cj_Model_finds_143_72 hd hn_a0 h hk1 hk2
def l_Model_finds_72 (M : Mm) (a0 : Int) (a1 : Int) (a2 : Int) (z4 : Int) (z5 : Int) (z6 : Int) (s : Int × Int) : Option ((Int × Int) ⊕ (Int)) :=
  if 15 ≤ s.2 then
  some (.inr s.1)
  else
  (f_Model_mayBe M a0 a1 z5 s.2).bind (fun p15 =>
  if p15 = 0 then
  lt (w32 (s.2 + 1)) (fun x17 : Int =>
  some (.inl (s.1, x17)))
  else
  if 14 ≤ s.2 then
  j_Model_finds_112_72 M a0 a1 a2 z4 z5 z6 s.1 s.2
  else
  if (bAnd (bShr z6 s.2) 1) ≠ 1 then
  j_Model_finds_112_72 M a0 a1 a2 z4 z5 z6 s.1 s.2
  else
  lt (w32 (s.2 + 1)) (fun x32 : Int =>
  some (.inl (s.1, x32))))
theorem cs_l_Model_finds_72 {X : XX} {d : Nat} (hd : 2 ≤ d) {M : Mm} {a0 : Int} {a1 : Int} {a2 : Int} {z4 : Int} {z5 : Int} {z6 : Int} (hn_a0 : a0 ≠ 0) {s : Int × Int} {x : (Int × Int) ⊕ (Int)} {r : Option AV} {M' : Mm} (h : l_Model_finds_72 M a0 a1 a2 z4 z5 z6 s = some x) (hk1 : ∀ s : Int × Int, x = .inl s → Ev X m_Model_finds d 72 [(0, (12, a0)), (1, (0, a1)), (2, (0, a2)), (4, (0, z4)), (5, (0, z5)), (6, (0, z6)), (7, (0, s.1)), (8, (0, s.2))] [] M r M') (hk2 : ∀ t : Int, x = .inr t → Ev X m_Model_finds d 193 [(0, (12, a0)), (1, (0, a1)), (2, (0, a2)), (4, (0, z4)), (5, (0, z5)), (6, (0, z6)), (7, (0, t))] [] M r M') : Ev X m_Model_finds d 72 [(0, (12, a0)), (1, (0, a1)), (2, (0, a2)), (4, (0, z4)), (5, (0, z5)), (6, (0, z6)), (7, (0, s.1)), (8, (0, s.2))] [] M r M' := by
  unfold l_Model_finds_72 at h
  refine ev_iload 7 d_Model_finds_72 rfl ?_
  refine ev_bipush d_Model_finds_74 rfl ?_
  by_cases hc14 : 15 ≤ s.2
  · replace h := itp hc14 h
    refine ev_icmp_ge_t (tgt := 193) d_Model_finds_76 (by decide) hc14 ?_
    refine ev_less (L' := [(0, (12, a0)), (1, (0, a1)), (2, (0, a2)), (4, (0, z4)), (5, (0, z5)), (6, (0, z6)), (7, (0, s.1))]) [0, 1, 2, 3, 4, 5, 6] rfl ?_
    cases h
    exact hk2 _ rfl
  · replace h := itn hc14 h
    refine ev_icmp_ge_f d_Model_finds_76 (by decide) hc14 ?_
    refine ev_aload_n 0 d_Model_finds_79 rfl (by decide) rfl ?_
    refine ev_iload_n 1 d_Model_finds_80 rfl rfl ?_
    refine ev_iload 4 d_Model_finds_81 rfl ?_
    refine ev_iload 7 d_Model_finds_83 rfl ?_
    obtain ⟨p15, hp15, h⟩ := bx h
    have hRp15 := c_Model_mayBe (X := X) (d := d - 1) (by omega) hn_a0 hp15
    refine ev_callV2 (st2 := [(0, p15)]) (as := [(0, a1), (0, z5), (0, s.2)]) (rest := []) rfl (by decide) (by decide) rfl hn_a0 rfl (Nat.le_of_ble_eq_true rfl) k_Model_mayBe ⟨tw_1113, ts_85⟩ (by omega) tw_1111 d_Model_finds_85 hRp15 rfl ?_
    by_cases hc16 : p15 = 0
    · replace h := itp hc16 h
      refine ev_if_eq_t (tgt := 187) d_Model_finds_88 (by decide) hc16 ?_
      obtain ⟨x17, hx17, h⟩ := ltx h
      refine ev_iinc' 7 (y := x17) (L' := [(8, (0, x17)), (0, (12, a0)), (1, (0, a1)), (2, (0, a2)), (4, (0, z4)), (5, (0, z5)), (6, (0, z6)), (7, (0, s.1))]) d_Model_finds_187 rfl (by decide) rfl hx17 ?_
      refine ev_goto (tgt := 72) d_Model_finds_190 (by decide) ?_
      refine ev_less (L' := [(0, (12, a0)), (1, (0, a1)), (2, (0, a2)), (4, (0, z4)), (5, (0, z5)), (6, (0, z6)), (7, (0, s.1)), (8, (0, x17))]) [1, 2, 3, 4, 5, 6, 7, 0] rfl ?_
      cases h
      exact hk1 _ rfl
    · replace h := itn hc16 h
      refine ev_if_eq_f d_Model_finds_88 (by decide) hc16 ?_
      refine ev_iload 7 d_Model_finds_91 rfl ?_
      refine ev_bipush d_Model_finds_93 rfl ?_
      by_cases hc18 : 14 ≤ s.2
      · replace h := itp hc18 h
        refine ev_icmp_ge_t (tgt := 112) d_Model_finds_95 (by decide) hc18 ?_
        exact cj_Model_finds_112_72 hd hn_a0 h hk1 hk2
      · replace h := itn hc18 h
        refine ev_icmp_ge_f d_Model_finds_95 (by decide) hc18 ?_
        refine ev_iload 5 d_Model_finds_98 rfl ?_
        refine ev_iload 7 d_Model_finds_100 rfl ?_
        refine ev_ishr d_Model_finds_102 ?_
        refine ev_iconst d_Model_finds_103 rfl ?_
        refine ev_iand d_Model_finds_104 ?_
        refine ev_iconst d_Model_finds_105 rfl ?_
        by_cases hc31 : (bAnd (bShr z6 s.2) 1) ≠ 1
        · replace h := itp hc31 h
          refine ev_icmp_ne_t (tgt := 112) d_Model_finds_106 (by decide) hc31 ?_
          exact cj_Model_finds_112_72 hd hn_a0 h hk1 hk2
        · replace h := itn hc31 h
          refine ev_icmp_ne_f d_Model_finds_106 (by decide) hc31 ?_
          refine ev_goto (tgt := 187) d_Model_finds_109 (by decide) ?_
          obtain ⟨x32, hx32, h⟩ := ltx h
          refine ev_iinc' 7 (y := x32) (L' := [(8, (0, x32)), (0, (12, a0)), (1, (0, a1)), (2, (0, a2)), (4, (0, z4)), (5, (0, z5)), (6, (0, z6)), (7, (0, s.1))]) d_Model_finds_187 rfl (by decide) rfl hx32 ?_
          refine ev_goto (tgt := 72) d_Model_finds_190 (by decide) ?_
          refine ev_less (L' := [(0, (12, a0)), (1, (0, a1)), (2, (0, a2)), (4, (0, z4)), (5, (0, z5)), (6, (0, z6)), (7, (0, s.1)), (8, (0, x32))]) [1, 2, 3, 4, 5, 6, 7, 0] rfl ?_
          cases h
          exact hk1 _ rfl
def l_Model_finds_58 (a0 : Int) (a1 : Int) (a2 : Int) (z4 : Int) (z5 : Int) (s : Int × Mm) : Option ((Int × Mm) ⊕ (Mm)) :=
  if z4 ≤ s.1 then
  some (.inr s.2)
  else
  (loopN (l_Model_finds_72 s.2 a0 a1 a2 z4 z5 s.1) FU (1000000, 0)).bind (fun t33 =>
  if (mg s.2 (cI a0) 17) ≠ 0 then
  if (0 : Int) ≤ (w32 ((w32 (16384 * z5)) + s.1)) ∧ (w32 ((w32 (16384 * z5)) + s.1)) < (ml s.2 (cI (mg s.2 (cI a0) 17)) : Int) then
  lt (mp s.2 (cI (mg s.2 (cI a0) 17)) ((w32 ((w32 (16384 * z5)) + s.1)) : Int).toNat t33) (fun M36 =>
  lt (w32 (s.1 + 1)) (fun x37 : Int =>
  some (.inl (x37, M36))))
  else none
  else none)
theorem cs_l_Model_finds_58 {X : XX} {d : Nat} (hd : 2 ≤ d) {a0 : Int} {a1 : Int} {a2 : Int} {z4 : Int} {z5 : Int} (hn_a0 : a0 ≠ 0) {s : Int × Mm} {x : (Int × Mm) ⊕ (Mm)} {r : Option AV} {M' : Mm} (h : l_Model_finds_58 a0 a1 a2 z4 z5 s = some x) (hk1 : ∀ s : Int × Mm, x = .inl s → Ev X m_Model_finds d 58 [(0, (12, a0)), (1, (0, a1)), (2, (0, a2)), (4, (0, z4)), (5, (0, z5)), (6, (0, s.1))] [] s.2 r M') (hk2 : ∀ t : Mm, x = .inr t → Ev X m_Model_finds d 215 [(0, (12, a0)), (1, (0, a1)), (2, (0, a2)), (4, (0, z4)), (5, (0, z5))] [] t r M') : Ev X m_Model_finds d 58 [(0, (12, a0)), (1, (0, a1)), (2, (0, a2)), (4, (0, z4)), (5, (0, z5)), (6, (0, s.1))] [] s.2 r M' := by
  unfold l_Model_finds_58 at h
  refine ev_iload 5 d_Model_finds_58 rfl ?_
  refine ev_iload 3 d_Model_finds_60 rfl ?_
  by_cases hc13 : z4 ≤ s.1
  · replace h := itp hc13 h
    refine ev_icmp_ge_t (tgt := 215) d_Model_finds_62 (by decide) hc13 ?_
    refine ev_less (L' := [(0, (12, a0)), (1, (0, a1)), (2, (0, a2)), (4, (0, z4)), (5, (0, z5))]) [0, 1, 2, 3, 4] rfl ?_
    cases h
    exact hk2 _ rfl
  · replace h := itn hc13 h
    refine ev_icmp_ge_f d_Model_finds_62 (by decide) hc13 ?_
    refine ev_ldc (v := 1000000) d_Model_finds_65 tw_1110 rfl ?_
    refine ev_istore (L' := [(7, (0, 1000000)), (0, (12, a0)), (1, (0, a1)), (2, (0, a2)), (4, (0, z4)), (5, (0, z5)), (6, (0, s.1))]) d_Model_finds_67 (by decide) rfl ?_
    refine ev_iconst d_Model_finds_69 rfl ?_
    refine ev_istore (L' := [(8, (0, 0)), (7, (0, 1000000)), (0, (12, a0)), (1, (0, a1)), (2, (0, a2)), (4, (0, z4)), (5, (0, z5)), (6, (0, s.1))]) d_Model_finds_70 (by decide) rfl ?_
    obtain ⟨t33, ht33, h⟩ := bx h
    refine ev_less (L' := [(0, (12, a0)), (1, (0, a1)), (2, (0, a2)), (4, (0, z4)), (5, (0, z5)), (6, (0, s.1)), (7, (0, 1000000)), (8, (0, 0))]) [2, 3, 4, 5, 6, 7, 1, 0] rfl ?_
    refine loop_ev (step := l_Model_finds_72 s.2 a0 a1 a2 z4 z5 s.1) (P := fun w : Int × Int => Ev X m_Model_finds d 72 [(0, (12, a0)), (1, (0, a1)), (2, (0, a2)), (4, (0, z4)), (5, (0, z5)), (6, (0, s.1)), (7, (0, w.1)), (8, (0, w.2))] [] s.2 r M') (Q := fun w => Ev X m_Model_finds d 193 [(0, (12, a0)), (1, (0, a1)), (2, (0, a2)), (4, (0, z4)), (5, (0, z5)), (6, (0, s.1)), (7, (0, w))] [] s.2 r M') (fun w x hs k1 k2 => cs_l_Model_finds_72 hd hn_a0 hs k1 k2) FU (1000000, 0) t33 ht33 ?_
    refine ev_aload_n 0 d_Model_finds_193 rfl (by decide) rfl ?_
    refine ev_get (t := 12) (k := 17) (by decide) (by decide) rfl i_Model (by decide) rfl rfl tw_917 d_Model_finds_194 hn_a0 ?_
    refine ev_sipush d_Model_finds_197 rfl ?_
    refine ev_iload 4 d_Model_finds_200 rfl ?_
    refine ev_imul d_Model_finds_202 ?_
    refine ev_iload 5 d_Model_finds_203 rfl ?_
    refine ev_iadd d_Model_finds_205 ?_
    refine ev_iload 6 d_Model_finds_206 rfl ?_
    obtain ⟨hz34, h⟩ := gx h
    obtain ⟨hg35, h⟩ := gx h
    obtain ⟨M36, hM36, h⟩ := ltx h
    refine ev_iast' d_Model_finds_208 hz34 hg35 hM36 ?_
    obtain ⟨x37, hx37, h⟩ := ltx h
    refine ev_iinc' 5 (y := x37) (L' := [(6, (0, x37)), (0, (12, a0)), (1, (0, a1)), (2, (0, a2)), (4, (0, z4)), (5, (0, z5)), (7, (0, t33))]) d_Model_finds_209 rfl (by decide) rfl hx37 ?_
    refine ev_goto (tgt := 58) d_Model_finds_212 (by decide) ?_
    refine ev_less (L' := [(0, (12, a0)), (1, (0, a1)), (2, (0, a2)), (4, (0, z4)), (5, (0, z5)), (6, (0, x37))]) [1, 2, 3, 4, 5, 0] rfl ?_
    cases h
    exact hk1 _ rfl
def l_Model_finds_50 (a0 : Int) (a1 : Int) (a2 : Int) (z4 : Int) (s : Int × Mm) : Option ((Int × Mm) ⊕ (Mm)) :=
  if s.1 < 0 then
  some (.inr s.2)
  else
  (loopN (l_Model_finds_58 a0 a1 a2 z4 s.1) FU (0, s.2)).bind (fun t38 =>
  lt (w32 (s.1 + (-1))) (fun x39 : Int =>
  some (.inl (x39, t38))))
theorem cs_l_Model_finds_50 {X : XX} {d : Nat} (hd : 2 ≤ d) {a0 : Int} {a1 : Int} {a2 : Int} {z4 : Int} (hn_a0 : a0 ≠ 0) {s : Int × Mm} {x : (Int × Mm) ⊕ (Mm)} {r : Option AV} {M' : Mm} (h : l_Model_finds_50 a0 a1 a2 z4 s = some x) (hk1 : ∀ s : Int × Mm, x = .inl s → Ev X m_Model_finds d 50 [(0, (12, a0)), (1, (0, a1)), (2, (0, a2)), (4, (0, z4)), (5, (0, s.1))] [] s.2 r M') (hk2 : ∀ t : Mm, x = .inr t → Ev X m_Model_finds d 221 [] [] t r M') : Ev X m_Model_finds d 50 [(0, (12, a0)), (1, (0, a1)), (2, (0, a2)), (4, (0, z4)), (5, (0, s.1))] [] s.2 r M' := by
  unfold l_Model_finds_50 at h
  refine ev_iload 4 d_Model_finds_50 rfl ?_
  by_cases hc12 : s.1 < 0
  · replace h := itp hc12 h
    refine ev_if_lt_t (tgt := 221) d_Model_finds_52 (by decide) hc12 ?_
    refine ev_less (L' := []) [] rfl ?_
    cases h
    exact hk2 _ rfl
  · replace h := itn hc12 h
    refine ev_if_lt_f d_Model_finds_52 (by decide) hc12 ?_
    refine ev_iconst d_Model_finds_55 rfl ?_
    refine ev_istore (L' := [(6, (0, 0)), (0, (12, a0)), (1, (0, a1)), (2, (0, a2)), (4, (0, z4)), (5, (0, s.1))]) d_Model_finds_56 (by decide) rfl ?_
    obtain ⟨t38, ht38, h⟩ := bx h
    refine ev_less (L' := [(0, (12, a0)), (1, (0, a1)), (2, (0, a2)), (4, (0, z4)), (5, (0, s.1)), (6, (0, 0))]) [1, 2, 3, 4, 5, 0] rfl ?_
    refine loop_ev (step := l_Model_finds_58 a0 a1 a2 z4 s.1) (P := fun w : Int × Mm => Ev X m_Model_finds d 58 [(0, (12, a0)), (1, (0, a1)), (2, (0, a2)), (4, (0, z4)), (5, (0, s.1)), (6, (0, w.1))] [] w.2 r M') (Q := fun w => Ev X m_Model_finds d 215 [(0, (12, a0)), (1, (0, a1)), (2, (0, a2)), (4, (0, z4)), (5, (0, s.1))] [] w r M') (fun w x hs k1 k2 => cs_l_Model_finds_58 hd hn_a0 hs k1 k2) FU (0, s.2) t38 ht38 ?_
    obtain ⟨x39, hx39, h⟩ := ltx h
    refine ev_iinc' 4 (y := x39) (L' := [(5, (0, x39)), (0, (12, a0)), (1, (0, a1)), (2, (0, a2)), (4, (0, z4))]) d_Model_finds_215 rfl (by decide) rfl hx39 ?_
    refine ev_goto (tgt := 50) d_Model_finds_218 (by decide) ?_
    refine ev_less (L' := [(0, (12, a0)), (1, (0, a1)), (2, (0, a2)), (4, (0, z4)), (5, (0, x39))]) [1, 2, 3, 4, 0] rfl ?_
    cases h
    exact hk1 _ rfl
def f_Model_finds (M : Mm) (a0 : Int) (a1 : Int) (a2 : Int) : Option (Mm) :=
  if (mg M (cI a0) 12) ≠ 0 then
  if (0 : Int) ≤ a1 ∧ a1 < (ml M (cI (mg M (cI a0) 12)) : Int) then
  lt ((mg M (cI (mg M (cI a0) 12)) (a1 : Int).toNat)) (fun x3 : Int =>
  lt ((bShl 1 (mg M (cI a0) 1))) (fun x4 : Int =>
  (loopN (l_Model_finds_18 a0 a1 a2 x3 x4) FU (0, M)).bind (fun t10 =>
  lt ((w32 (x3 - 1))) (fun x11 : Int =>
  (loopN (l_Model_finds_50 a0 a1 a2 x4) FU (x11, t10)).bind (fun t40 =>
  some t40)))))
  else none
  else none
theorem c_Model_finds {X : XX} {d : Nat} (hd : 2 ≤ d) {M : Mm} {a0 : Int} {a1 : Int} {a2 : Int} (hn_a0 : a0 ≠ 0) {p : Mm} (h : f_Model_finds M a0 a1 a2 = some p) : Rn X d m_Model_finds [(12, a0), (0, a1), (0, a2)] M none p := by
  refine Rn_of (by decide) rfl (Nat.le_of_ble_eq_true rfl) ?_
  unfold f_Model_finds at h
  refine ev_less (L' := [(0, (12, a0)), (1, (0, a1)), (2, (0, a2))]) [0, 1, 2] rfl ?_
  refine ev_aload_n 0 d_Model_finds_0 rfl (by decide) rfl ?_
  refine ev_get (t := 12) (k := 12) (by decide) (by decide) rfl i_Model (by decide) rfl rfl tw_912 d_Model_finds_1 hn_a0 ?_
  refine ev_iload_n 1 d_Model_finds_4 rfl rfl ?_
  obtain ⟨hz1, h⟩ := gx h
  obtain ⟨hg2, h⟩ := gx h
  refine ev_iald d_Model_finds_5 hz1 hg2 ?_
  obtain ⟨x3, hx3, h⟩ := ltx h
  refine ev_istore_n' (y := x3) (L' := [(3, (0, x3)), (0, (12, a0)), (1, (0, a1)), (2, (0, a2))]) d_Model_finds_6 rfl (by decide) rfl hx3 ?_
  refine ev_iconst d_Model_finds_7 rfl ?_
  refine ev_aload_n 1 d_Model_finds_8 rfl (by decide) rfl ?_
  refine ev_get (t := 12) (k := 1) (by decide) (by decide) rfl i_Model (by decide) rfl rfl tw_901 d_Model_finds_9 hn_a0 ?_
  refine ev_ishl d_Model_finds_12 ?_
  obtain ⟨x4, hx4, h⟩ := ltx h
  refine ev_istore' (y := x4) (L' := [(4, (0, x4)), (3, (0, x3)), (0, (12, a0)), (1, (0, a1)), (2, (0, a2))]) d_Model_finds_13 (by decide) rfl hx4 ?_
  refine ev_iconst d_Model_finds_15 rfl ?_
  refine ev_istore (L' := [(5, (0, 0)), (4, (0, x4)), (3, (0, x3)), (0, (12, a0)), (1, (0, a1)), (2, (0, a2))]) d_Model_finds_16 (by decide) rfl ?_
  obtain ⟨t10, ht10, h⟩ := bx h
  refine ev_less (L' := [(0, (12, a0)), (1, (0, a1)), (2, (0, a2)), (3, (0, x3)), (4, (0, x4)), (5, (0, 0))]) [3, 4, 5, 2, 1, 0] rfl ?_
  refine loop_ev (step := l_Model_finds_18 a0 a1 a2 x3 x4) (P := fun w : Int × Mm => Ev X m_Model_finds d 18 [(0, (12, a0)), (1, (0, a1)), (2, (0, a2)), (3, (0, x3)), (4, (0, x4)), (5, (0, w.1))] [] w.2 none p) (Q := fun w => Ev X m_Model_finds d 45 [(0, (12, a0)), (1, (0, a1)), (2, (0, a2)), (3, (0, x3)), (4, (0, x4))] [] w none p) (fun w x hs k1 k2 => cs_l_Model_finds_18 hd hn_a0 hs k1 k2) FU (0, M) t10 ht10 ?_
  refine ev_iload_n 3 d_Model_finds_45 rfl rfl ?_
  refine ev_iconst d_Model_finds_46 rfl ?_
  refine ev_isub d_Model_finds_47 ?_
  obtain ⟨x11, hx11, h⟩ := ltx h
  refine ev_istore' (y := x11) (L' := [(5, (0, x11)), (0, (12, a0)), (1, (0, a1)), (2, (0, a2)), (3, (0, x3)), (4, (0, x4))]) d_Model_finds_48 (by decide) rfl hx11 ?_
  obtain ⟨t40, ht40, h⟩ := bx h
  refine ev_less (L' := [(0, (12, a0)), (1, (0, a1)), (2, (0, a2)), (4, (0, x4)), (5, (0, x11))]) [1, 2, 3, 5, 0] rfl ?_
  refine loop_ev (step := l_Model_finds_50 a0 a1 a2 x4) (P := fun w : Int × Mm => Ev X m_Model_finds d 50 [(0, (12, a0)), (1, (0, a1)), (2, (0, a2)), (4, (0, x4)), (5, (0, w.1))] [] w.2 none p) (Q := fun w => Ev X m_Model_finds d 221 [] [] w none p) (fun w x hs k1 k2 => cs_l_Model_finds_50 hd hn_a0 hs k1 k2) FU (x11, t10) t40 ht40 ?_
  cases h
  exact ev_retV d_Model_finds_221 rfl
def j_Model_fits_56 (M : Mm) (a0 : Int) (a1 : Int) (a2 : Int) (a3 : Int) (a4 : Int) (a5 : Int) (y0 : Int) (y1 : Int) (y2 : Int) : Option (Int) :=
  if y2 ≠ 0 then
  if (0 : Int) ≤ (w32 (y1 + y0)) ∧ (w32 (y1 + y0)) < (ml M (cI y2) : Int) then
  lt ((mg M (cI y2) ((w32 (y1 + y0)) : Int).toNat)) (fun x7 : Int =>
  if 1000000 ≤ x7 then
  some 0
  else
  (f_Model_counts M a0 a1 a2 a3 a5).bind (fun p9 =>
  if (mg M (cI a0) 17) ≠ 0 then
  if (0 : Int) ≤ (w32 ((w32 (16384 * a2)) + a4)) ∧ (w32 ((w32 (16384 * a2)) + a4)) < (ml M (cI (mg M (cI a0) 17)) : Int) then
  if (w32 (x7 + p9)) ≠ (mg M (cI (mg M (cI a0) 17)) ((w32 ((w32 (16384 * a2)) + a4)) : Int).toNat) then
  some 0
  else
  some 1
  else none
  else none))
  else none
  else none
theorem cj_Model_fits_56 {X : XX} {d : Nat} (hd : 2 ≤ d) {M : Mm} {a0 : Int} {a1 : Int} {a2 : Int} {a3 : Int} {a4 : Int} {a5 : Int} {y0 : Int} {y1 : Int} {y2 : Int} (hn_a0 : a0 ≠ 0) {p : Int} (h : j_Model_fits_56 M a0 a1 a2 a3 a4 a5 y0 y1 y2 = some p) : Ev X m_Model_fits d 56 [(0, (12, a0)), (1, (0, a1)), (2, (0, a2)), (3, (0, a3)), (4, (0, a4)), (5, (0, a5))] [(0, y0), (0, y1), (13, y2)] M (some (0, p)) M := by
  unfold j_Model_fits_56 at h
  refine ev_iadd d_Model_fits_56 ?_
  obtain ⟨hz5, h⟩ := gx h
  obtain ⟨hg6, h⟩ := gx h
  refine ev_iald d_Model_fits_57 hz5 hg6 ?_
  obtain ⟨x7, hx7, h⟩ := ltx h
  refine ev_istore' (y := x7) (L' := [(6, (0, x7)), (0, (12, a0)), (1, (0, a1)), (2, (0, a2)), (3, (0, a3)), (4, (0, a4)), (5, (0, a5))]) d_Model_fits_58 (by decide) rfl hx7 ?_
  refine ev_iload 0 d_Model_fits_60 rfl ?_
  refine ev_ldc (v := 1000000) d_Model_fits_62 tw_1110 rfl ?_
  by_cases hc8 : 1000000 ≤ x7
  · replace h := itp hc8 h
    refine ev_icmp_ge_t (tgt := 99) d_Model_fits_64 (by decide) hc8 ?_
    refine ev_iconst d_Model_fits_99 rfl ?_
    cases h
    exact ev_retZ d_Model_fits_100 rfl (Or.inl rfl)
  · replace h := itn hc8 h
    refine ev_icmp_ge_f d_Model_fits_64 (by decide) hc8 ?_
    refine ev_iload 0 d_Model_fits_67 rfl ?_
    refine ev_aload_n 1 d_Model_fits_69 rfl (by decide) rfl ?_
    refine ev_iload_n 2 d_Model_fits_70 rfl rfl ?_
    refine ev_iload_n 3 d_Model_fits_71 rfl rfl ?_
    refine ev_iload_n 4 d_Model_fits_72 rfl rfl ?_
    refine ev_iload 6 d_Model_fits_73 rfl ?_
    obtain ⟨p9, hp9, h⟩ := bx h
    have hRp9 := c_Model_counts (X := X) (d := d - 1) (by omega) hn_a0 hp9
    refine ev_callV2 (st2 := [(0, p9), (0, x7)]) (as := [(0, a1), (0, a2), (0, a3), (0, a5)]) (rest := [(0, x7)]) rfl (by decide) (by decide) rfl hn_a0 rfl (Nat.le_of_ble_eq_true rfl) k_Model_counts ⟨tw_1121, ts_87⟩ (by omega) tw_1119 d_Model_fits_75 hRp9 rfl ?_
    refine ev_iadd d_Model_fits_78 ?_
    refine ev_aload_n 1 d_Model_fits_79 rfl (by decide) rfl ?_
    refine ev_get (t := 12) (k := 17) (by decide) (by decide) rfl i_Model (by decide) rfl rfl tw_917 d_Model_fits_80 hn_a0 ?_
    refine ev_sipush d_Model_fits_83 rfl ?_
    refine ev_iload_n 3 d_Model_fits_86 rfl rfl ?_
    refine ev_imul d_Model_fits_87 ?_
    refine ev_iload 5 d_Model_fits_88 rfl ?_
    refine ev_iadd d_Model_fits_90 ?_
    obtain ⟨hz10, h⟩ := gx h
    obtain ⟨hg11, h⟩ := gx h
    refine ev_iald d_Model_fits_91 hz10 hg11 ?_
    by_cases hc12 : (w32 (x7 + p9)) ≠ (mg M (cI (mg M (cI a0) 17)) ((w32 ((w32 (16384 * a2)) + a4)) : Int).toNat)
    · replace h := itp hc12 h
      refine ev_icmp_ne_t (tgt := 99) d_Model_fits_92 (by decide) hc12 ?_
      refine ev_iconst d_Model_fits_99 rfl ?_
      cases h
      exact ev_retZ d_Model_fits_100 rfl (Or.inl rfl)
    · replace h := itn hc12 h
      refine ev_icmp_ne_f d_Model_fits_92 (by decide) hc12 ?_
      refine ev_iconst d_Model_fits_95 rfl ?_
      refine ev_goto (tgt := 100) d_Model_fits_96 (by decide) ?_
      cases h
      exact ev_retZ d_Model_fits_100 rfl (Or.inr rfl)
def j_Model_fits_28 (M : Mm) (a0 : Int) (a1 : Int) (a2 : Int) (a3 : Int) (a4 : Int) (a5 : Int) : Option (Int) :=
  if 14 ≤ a3 then
  j_Model_fits_56 M a0 a1 a2 a3 a4 a5 a4 ((w32 (16384 * (w32 (a2 + 1))))) ((mg M (cI a0) 17))
  else
  j_Model_fits_56 M a0 a1 a2 a3 a4 a5 ((bOr a4 (bShl 1 a3))) ((w32 (16384 * (w32 (a2 + 1))))) ((mg M (cI a0) 17))
theorem cj_Model_fits_28 {X : XX} {d : Nat} (hd : 2 ≤ d) {M : Mm} {a0 : Int} {a1 : Int} {a2 : Int} {a3 : Int} {a4 : Int} {a5 : Int} (hn_a0 : a0 ≠ 0) {p : Int} (h : j_Model_fits_28 M a0 a1 a2 a3 a4 a5 = some p) : Ev X m_Model_fits d 28 [(0, (12, a0)), (1, (0, a1)), (2, (0, a2)), (3, (0, a3)), (4, (0, a4)), (5, (0, a5))] [] M (some (0, p)) M := by
  unfold j_Model_fits_28 at h
  refine ev_aload_n 0 d_Model_fits_28 rfl (by decide) rfl ?_
  refine ev_get (t := 12) (k := 17) (by decide) (by decide) rfl i_Model (by decide) rfl rfl tw_917 d_Model_fits_29 hn_a0 ?_
  refine ev_sipush d_Model_fits_32 rfl ?_
  refine ev_iload_n 2 d_Model_fits_35 rfl rfl ?_
  refine ev_iconst d_Model_fits_36 rfl ?_
  refine ev_iadd d_Model_fits_37 ?_
  refine ev_imul d_Model_fits_38 ?_
  refine ev_iload_n 3 d_Model_fits_39 rfl rfl ?_
  refine ev_bipush d_Model_fits_40 rfl ?_
  by_cases hc4 : 14 ≤ a3
  · replace h := itp hc4 h
    refine ev_icmp_ge_t (tgt := 54) d_Model_fits_42 (by decide) hc4 ?_
    refine ev_iload 4 d_Model_fits_54 rfl ?_
    exact cj_Model_fits_56 hd hn_a0 h
  · replace h := itn hc4 h
    refine ev_icmp_ge_f d_Model_fits_42 (by decide) hc4 ?_
    refine ev_iload 4 d_Model_fits_45 rfl ?_
    refine ev_iconst d_Model_fits_47 rfl ?_
    refine ev_iload_n 3 d_Model_fits_48 rfl rfl ?_
    refine ev_ishl d_Model_fits_49 ?_
    refine ev_ior d_Model_fits_50 ?_
    refine ev_goto (tgt := 56) d_Model_fits_51 (by decide) ?_
    exact cj_Model_fits_56 hd hn_a0 h
def f_Model_fits (M : Mm) (a0 : Int) (a1 : Int) (a2 : Int) (a3 : Int) (a4 : Int) (a5 : Int) : Option (Int) :=
  (f_Model_mayBe M a0 a1 a2 a3).bind (fun p1 =>
  if p1 = 0 then
  some 0
  else
  if 14 ≤ a3 then
  j_Model_fits_28 M a0 a1 a2 a3 a4 a5
  else
  if (bAnd (bShr a4 a3) 1) ≠ 1 then
  j_Model_fits_28 M a0 a1 a2 a3 a4 a5
  else
  some 0)
theorem c_Model_fits {X : XX} {d : Nat} (hd : 2 ≤ d) {M : Mm} {a0 : Int} {a1 : Int} {a2 : Int} {a3 : Int} {a4 : Int} {a5 : Int} (hn_a0 : a0 ≠ 0) {p : Int} (h : f_Model_fits M a0 a1 a2 a3 a4 a5 = some p) : Rn X d m_Model_fits [(12, a0), (0, a1), (0, a2), (0, a3), (0, a4), (0, a5)] M (some (0, p)) M := by
  refine Rn_of (by decide) rfl (Nat.le_of_ble_eq_true rfl) ?_
  unfold f_Model_fits at h
  refine ev_less (L' := [(0, (12, a0)), (1, (0, a1)), (2, (0, a2)), (3, (0, a3)), (4, (0, a4)), (5, (0, a5))]) [0, 1, 2, 3, 4, 5] rfl ?_
  refine ev_aload_n 0 d_Model_fits_0 rfl (by decide) rfl ?_
  refine ev_iload_n 1 d_Model_fits_1 rfl rfl ?_
  refine ev_iload_n 2 d_Model_fits_2 rfl rfl ?_
  refine ev_iload_n 3 d_Model_fits_3 rfl rfl ?_
  obtain ⟨p1, hp1, h⟩ := bx h
  have hRp1 := c_Model_mayBe (X := X) (d := d - 1) (by omega) hn_a0 hp1
  refine ev_callV2 (st2 := [(0, p1)]) (as := [(0, a1), (0, a2), (0, a3)]) (rest := []) rfl (by decide) (by decide) rfl hn_a0 rfl (Nat.le_of_ble_eq_true rfl) k_Model_mayBe ⟨tw_1113, ts_85⟩ (by omega) tw_1111 d_Model_fits_4 hRp1 rfl ?_
  by_cases hc2 : p1 = 0
  · replace h := itp hc2 h
    refine ev_if_eq_t (tgt := 26) d_Model_fits_7 (by decide) hc2 ?_
    refine ev_iconst d_Model_fits_26 rfl ?_
    cases h
    exact ev_retZ d_Model_fits_27 rfl (Or.inl rfl)
  · replace h := itn hc2 h
    refine ev_if_eq_f d_Model_fits_7 (by decide) hc2 ?_
    refine ev_iload_n 3 d_Model_fits_10 rfl rfl ?_
    refine ev_bipush d_Model_fits_11 rfl ?_
    by_cases hc3 : 14 ≤ a3
    · replace h := itp hc3 h
      refine ev_icmp_ge_t (tgt := 28) d_Model_fits_13 (by decide) hc3 ?_
      exact cj_Model_fits_28 hd hn_a0 h
    · replace h := itn hc3 h
      refine ev_icmp_ge_f d_Model_fits_13 (by decide) hc3 ?_
      refine ev_iload 4 d_Model_fits_16 rfl ?_
      refine ev_iload_n 3 d_Model_fits_18 rfl rfl ?_
      refine ev_ishr d_Model_fits_19 ?_
      refine ev_iconst d_Model_fits_20 rfl ?_
      refine ev_iand d_Model_fits_21 ?_
      refine ev_iconst d_Model_fits_22 rfl ?_
      by_cases hc13 : (bAnd (bShr a4 a3) 1) ≠ 1
      · replace h := itp hc13 h
        refine ev_icmp_ne_t (tgt := 28) d_Model_fits_23 (by decide) hc13 ?_
        exact cj_Model_fits_28 hd hn_a0 h
      · replace h := itn hc13 h
        refine ev_icmp_ne_f d_Model_fits_23 (by decide) hc13 ?_
        refine ev_iconst d_Model_fits_26 rfl ?_
        cases h
        exact ev_retZ d_Model_fits_27 rfl (Or.inl rfl)
def l_Model_seats_49 (M : Mm) (a0 : Int) (a1 : Int) (a2 : Int) (z3 : Int) (z4 : Int) (z5 : Int) (z6 : Int) (s : Int) : Option ((Int) ⊕ (Int)) :=
  (f_Model_fits M a0 a1 z6 s z3 a2).bind (fun p9 =>
  if p9 ≠ 0 then
  some (.inr s)
  else
  lt ((w32 (s + 1))) (fun x11 : Int =>
  some (.inl x11)))
theorem cs_l_Model_seats_49 {X : XX} {d : Nat} (hd : 3 ≤ d) {M : Mm} {a0 : Int} {a1 : Int} {a2 : Int} {z3 : Int} {z4 : Int} {z5 : Int} {z6 : Int} (hn_a0 : a0 ≠ 0) {s : Int} {x : (Int) ⊕ (Int)} {r : Option AV} {M' : Mm} (h : l_Model_seats_49 M a0 a1 a2 z3 z4 z5 z6 s = some x) (hk1 : ∀ s : Int, x = .inl s → Ev X m_Model_seats d 49 [(0, (12, a0)), (1, (0, a1)), (2, (0, a2)), (3, (0, z3)), (4, (0, z4)), (5, (0, z5)), (6, (0, z6)), (7, (0, s))] [] M r M') (hk2 : ∀ t : Int, x = .inr t → Ev X m_Model_seats d 72 [(0, (12, a0)), (1, (0, a1)), (2, (0, a2)), (3, (0, z3)), (4, (0, z4)), (5, (0, z5)), (6, (0, z6)), (7, (0, t))] [] M r M') : Ev X m_Model_seats d 49 [(0, (12, a0)), (1, (0, a1)), (2, (0, a2)), (3, (0, z3)), (4, (0, z4)), (5, (0, z5)), (6, (0, z6)), (7, (0, s))] [] M r M' := by
  unfold l_Model_seats_49 at h
  refine ev_aload_n 0 d_Model_seats_49 rfl (by decide) rfl ?_
  refine ev_iload_n 1 d_Model_seats_50 rfl rfl ?_
  refine ev_iload 6 d_Model_seats_51 rfl ?_
  refine ev_iload 7 d_Model_seats_53 rfl ?_
  refine ev_iload_n 3 d_Model_seats_55 rfl rfl ?_
  refine ev_iload_n 2 d_Model_seats_56 rfl rfl ?_
  obtain ⟨p9, hp9, h⟩ := bx h
  have hRp9 := c_Model_fits (X := X) (d := d - 1) (by omega) hn_a0 hp9
  refine ev_callV2 (st2 := [(0, p9)]) (as := [(0, a1), (0, z6), (0, s), (0, z3), (0, a2)]) (rest := []) rfl (by decide) (by decide) rfl hn_a0 rfl (Nat.le_of_ble_eq_true rfl) k_Model_fits ⟨tw_1125, ts_88⟩ (by omega) tw_1123 d_Model_seats_57 hRp9 rfl ?_
  by_cases hc10 : p9 ≠ 0
  · replace h := itp hc10 h
    refine ev_if_ne_t (tgt := 72) d_Model_seats_60 (by decide) hc10 ?_
    cases h
    exact hk2 _ rfl
  · replace h := itn hc10 h
    refine ev_if_ne_f d_Model_seats_60 (by decide) hc10 ?_
    refine ev_iload 7 d_Model_seats_63 rfl ?_
    refine ev_iconst d_Model_seats_65 rfl ?_
    refine ev_iadd d_Model_seats_66 ?_
    obtain ⟨x11, hx11, h⟩ := ltx h
    refine ev_istore' (y := x11) (L' := [(7, (0, x11)), (0, (12, a0)), (1, (0, a1)), (2, (0, a2)), (3, (0, z3)), (4, (0, z4)), (5, (0, z5)), (6, (0, z6))]) d_Model_seats_67 (by decide) rfl hx11 ?_
    refine ev_goto (tgt := 49) d_Model_seats_69 (by decide) ?_
    refine ev_less (L' := [(0, (12, a0)), (1, (0, a1)), (2, (0, a2)), (3, (0, z3)), (4, (0, z4)), (5, (0, z5)), (6, (0, z6)), (7, (0, x11))]) [1, 2, 3, 4, 5, 6, 7, 0] rfl ?_
    cases h
    exact hk1 _ rfl
def j_Model_seats_113_35 (M : Mm) (a0 : Int) (a1 : Int) (a2 : Int) (z3 : Int) (z4 : Int) (z5 : Int) (z6 : Int) (z7 : Int) (y0 : Int) (y1 : Int) (y2 : Int) : Option ((Int × Int × Int × Int × Mm) ⊕ (Int × Int × Mm)) :=
  if y2 ≠ 0 then
  if (0 : Int) ≤ y1 ∧ y1 < (ml M (cI y2) : Int) then
  lt (mp M (cI y2) (y1 : Int).toNat y0) (fun M18 =>
  if 14 ≤ z7 then
  lt (w32 (z6 + 1)) (fun x20 : Int =>
  some (.inl (z3, z4, z5, x20, M18)))
  else
  lt ((bOr z3 (bShl 1 z7))) (fun x21 : Int =>
  lt ((w32 (z4 + 1))) (fun x22 : Int =>
  lt (w32 (z6 + 1)) (fun x23 : Int =>
  some (.inl (x21, x22, z5, x23, M18))))))
  else none
  else none
theorem cj_Model_seats_113_35 {X : XX} {d : Nat} (hd : 3 ≤ d) {M : Mm} {a0 : Int} {a1 : Int} {a2 : Int} {z3 : Int} {z4 : Int} {z5 : Int} {z6 : Int} {z7 : Int} {y0 : Int} {y1 : Int} {y2 : Int} (hn_a0 : a0 ≠ 0) {x : (Int × Int × Int × Int × Mm) ⊕ (Int × Int × Mm)} {r : Option AV} {M' : Mm} (h : j_Model_seats_113_35 M a0 a1 a2 z3 z4 z5 z6 z7 y0 y1 y2 = some x) (hk1 : ∀ s : Int × Int × Int × Int × Mm, x = .inl s → Ev X m_Model_seats d 35 [(0, (12, a0)), (1, (0, a1)), (2, (0, a2)), (3, (0, s.1)), (4, (0, s.2.1)), (5, (0, s.2.2.1)), (6, (0, s.2.2.2.1))] [] s.2.2.2.2 r M') (hk2 : ∀ t : Int × Int × Mm, x = .inr t → Ev X m_Model_seats d 140 [(2, (0, a2)), (4, (0, t.1)), (5, (0, t.2.1))] [] t.2.2 r M') : Ev X m_Model_seats d 113 [(0, (12, a0)), (1, (0, a1)), (2, (0, a2)), (3, (0, z3)), (4, (0, z4)), (5, (0, z5)), (6, (0, z6)), (7, (0, z7))] [(0, y0), (0, y1), (13, y2)] M r M' := by
  unfold j_Model_seats_113_35 at h
  obtain ⟨hz16, h⟩ := gx h
  obtain ⟨hg17, h⟩ := gx h
  obtain ⟨M18, hM18, h⟩ := ltx h
  refine ev_iast' d_Model_seats_113 hz16 hg17 hM18 ?_
  refine ev_iload 7 d_Model_seats_114 rfl ?_
  refine ev_bipush d_Model_seats_116 rfl ?_
  by_cases hc19 : 14 ≤ z7
  · replace h := itp hc19 h
    refine ev_icmp_ge_t (tgt := 134) d_Model_seats_118 (by decide) hc19 ?_
    obtain ⟨x20, hx20, h⟩ := ltx h
    refine ev_iinc' 6 (y := x20) (L' := [(6, (0, x20)), (0, (12, a0)), (1, (0, a1)), (2, (0, a2)), (3, (0, z3)), (4, (0, z4)), (5, (0, z5)), (7, (0, z7))]) d_Model_seats_134 rfl (by decide) rfl hx20 ?_
    refine ev_goto (tgt := 35) d_Model_seats_137 (by decide) ?_
    refine ev_less (L' := [(0, (12, a0)), (1, (0, a1)), (2, (0, a2)), (3, (0, z3)), (4, (0, z4)), (5, (0, z5)), (6, (0, x20))]) [1, 2, 3, 4, 5, 6, 0] rfl ?_
    cases h
    exact hk1 _ rfl
  · replace h := itn hc19 h
    refine ev_icmp_ge_f d_Model_seats_118 (by decide) hc19 ?_
    refine ev_iload_n 3 d_Model_seats_121 rfl rfl ?_
    refine ev_iconst d_Model_seats_122 rfl ?_
    refine ev_iload 7 d_Model_seats_123 rfl ?_
    refine ev_ishl d_Model_seats_125 ?_
    refine ev_ior d_Model_seats_126 ?_
    obtain ⟨x21, hx21, h⟩ := ltx h
    refine ev_istore_n' (y := x21) (L' := [(3, (0, x21)), (0, (12, a0)), (1, (0, a1)), (2, (0, a2)), (4, (0, z4)), (5, (0, z5)), (6, (0, z6)), (7, (0, z7))]) d_Model_seats_127 rfl (by decide) rfl hx21 ?_
    refine ev_iload 4 d_Model_seats_128 rfl ?_
    refine ev_iconst d_Model_seats_130 rfl ?_
    refine ev_iadd d_Model_seats_131 ?_
    obtain ⟨x22, hx22, h⟩ := ltx h
    refine ev_istore' (y := x22) (L' := [(4, (0, x22)), (3, (0, x21)), (0, (12, a0)), (1, (0, a1)), (2, (0, a2)), (5, (0, z5)), (6, (0, z6)), (7, (0, z7))]) d_Model_seats_132 (by decide) rfl hx22 ?_
    obtain ⟨x23, hx23, h⟩ := ltx h
    refine ev_iinc' 6 (y := x23) (L' := [(6, (0, x23)), (4, (0, x22)), (3, (0, x21)), (0, (12, a0)), (1, (0, a1)), (2, (0, a2)), (5, (0, z5)), (7, (0, z7))]) d_Model_seats_134 rfl (by decide) rfl hx23 ?_
    refine ev_goto (tgt := 35) d_Model_seats_137 (by decide) ?_
    refine ev_less (L' := [(0, (12, a0)), (1, (0, a1)), (2, (0, a2)), (3, (0, x21)), (4, (0, x22)), (5, (0, z5)), (6, (0, x23))]) [3, 4, 5, 2, 1, 6, 0] rfl ?_
    cases h
    exact hk1 _ rfl
def l_Model_seats_35 (a0 : Int) (a1 : Int) (a2 : Int) (s : Int × Int × Int × Int × Mm) : Option ((Int × Int × Int × Int × Mm) ⊕ (Int × Int × Mm)) :=
  if (mg s.2.2.2.2 (cI a0) 12) ≠ 0 then
  if (0 : Int) ≤ a1 ∧ a1 < (ml s.2.2.2.2 (cI (mg s.2.2.2.2 (cI a0) 12)) : Int) then
  if (mg s.2.2.2.2 (cI (mg s.2.2.2.2 (cI a0) 12)) (a1 : Int).toNat) ≤ s.2.2.2.1 then
  some (.inr (s.2.1, s.2.2.1, s.2.2.2.2))
  else
  (loopN (l_Model_seats_49 s.2.2.2.2 a0 a1 a2 s.1 s.2.1 s.2.2.1 s.2.2.2.1) FU 0).bind (fun t12 =>
  (f_Model_counts s.2.2.2.2 a0 a1 s.2.2.2.1 t12 1).bind (fun p13 =>
  lt ((w32 (s.2.2.1 + p13))) (fun x14 : Int =>
  if t12 ≠ 14 then
  j_Model_seats_113_35 s.2.2.2.2 a0 a1 a2 s.1 s.2.1 x14 s.2.2.2.1 t12 ((w32 (t12 + 1))) ((w32 ((w32 (10 * a1)) + s.2.2.2.1))) ((mg s.2.2.2.2 (cI a0) 16))
  else
  j_Model_seats_113_35 s.2.2.2.2 a0 a1 a2 s.1 s.2.1 x14 s.2.2.2.1 t12 0 ((w32 ((w32 (10 * a1)) + s.2.2.2.1))) ((mg s.2.2.2.2 (cI a0) 16)))))
  else none
  else none
theorem cs_l_Model_seats_35 {X : XX} {d : Nat} (hd : 3 ≤ d) {a0 : Int} {a1 : Int} {a2 : Int} (hn_a0 : a0 ≠ 0) {s : Int × Int × Int × Int × Mm} {x : (Int × Int × Int × Int × Mm) ⊕ (Int × Int × Mm)} {r : Option AV} {M' : Mm} (h : l_Model_seats_35 a0 a1 a2 s = some x) (hk1 : ∀ s : Int × Int × Int × Int × Mm, x = .inl s → Ev X m_Model_seats d 35 [(0, (12, a0)), (1, (0, a1)), (2, (0, a2)), (3, (0, s.1)), (4, (0, s.2.1)), (5, (0, s.2.2.1)), (6, (0, s.2.2.2.1))] [] s.2.2.2.2 r M') (hk2 : ∀ t : Int × Int × Mm, x = .inr t → Ev X m_Model_seats d 140 [(2, (0, a2)), (4, (0, t.1)), (5, (0, t.2.1))] [] t.2.2 r M') : Ev X m_Model_seats d 35 [(0, (12, a0)), (1, (0, a1)), (2, (0, a2)), (3, (0, s.1)), (4, (0, s.2.1)), (5, (0, s.2.2.1)), (6, (0, s.2.2.2.1))] [] s.2.2.2.2 r M' := by
  unfold l_Model_seats_35 at h
  refine ev_iload 6 d_Model_seats_35 rfl ?_
  refine ev_aload_n 0 d_Model_seats_37 rfl (by decide) rfl ?_
  refine ev_get (t := 12) (k := 12) (by decide) (by decide) rfl i_Model (by decide) rfl rfl tw_912 d_Model_seats_38 hn_a0 ?_
  refine ev_iload_n 1 d_Model_seats_41 rfl rfl ?_
  obtain ⟨hz6, h⟩ := gx h
  obtain ⟨hg7, h⟩ := gx h
  refine ev_iald d_Model_seats_42 hz6 hg7 ?_
  by_cases hc8 : (mg s.2.2.2.2 (cI (mg s.2.2.2.2 (cI a0) 12)) (a1 : Int).toNat) ≤ s.2.2.2.1
  · replace h := itp hc8 h
    refine ev_icmp_ge_t (tgt := 140) d_Model_seats_43 (by decide) hc8 ?_
    refine ev_less (L' := [(2, (0, a2)), (4, (0, s.2.1)), (5, (0, s.2.2.1))]) [2, 4, 5] rfl ?_
    cases h
    exact hk2 _ rfl
  · replace h := itn hc8 h
    refine ev_icmp_ge_f d_Model_seats_43 (by decide) hc8 ?_
    refine ev_iconst d_Model_seats_46 rfl ?_
    refine ev_istore (L' := [(7, (0, 0)), (0, (12, a0)), (1, (0, a1)), (2, (0, a2)), (3, (0, s.1)), (4, (0, s.2.1)), (5, (0, s.2.2.1)), (6, (0, s.2.2.2.1))]) d_Model_seats_47 (by decide) rfl ?_
    obtain ⟨t12, ht12, h⟩ := bx h
    refine ev_less (L' := [(0, (12, a0)), (1, (0, a1)), (2, (0, a2)), (3, (0, s.1)), (4, (0, s.2.1)), (5, (0, s.2.2.1)), (6, (0, s.2.2.2.1)), (7, (0, 0))]) [1, 2, 3, 4, 5, 6, 7, 0] rfl ?_
    refine loop_ev (step := l_Model_seats_49 s.2.2.2.2 a0 a1 a2 s.1 s.2.1 s.2.2.1 s.2.2.2.1) (P := fun w : Int => Ev X m_Model_seats d 49 [(0, (12, a0)), (1, (0, a1)), (2, (0, a2)), (3, (0, s.1)), (4, (0, s.2.1)), (5, (0, s.2.2.1)), (6, (0, s.2.2.2.1)), (7, (0, w))] [] s.2.2.2.2 r M') (Q := fun w => Ev X m_Model_seats d 72 [(0, (12, a0)), (1, (0, a1)), (2, (0, a2)), (3, (0, s.1)), (4, (0, s.2.1)), (5, (0, s.2.2.1)), (6, (0, s.2.2.2.1)), (7, (0, w))] [] s.2.2.2.2 r M') (fun w x hs k1 k2 => cs_l_Model_seats_49 hd hn_a0 hs k1 k2) FU 0 t12 ht12 ?_
    refine ev_iload 5 d_Model_seats_72 rfl ?_
    refine ev_aload_n 0 d_Model_seats_74 rfl (by decide) rfl ?_
    refine ev_iload_n 1 d_Model_seats_75 rfl rfl ?_
    refine ev_iload 6 d_Model_seats_76 rfl ?_
    refine ev_iload 7 d_Model_seats_78 rfl ?_
    refine ev_iconst d_Model_seats_80 rfl ?_
    obtain ⟨p13, hp13, h⟩ := bx h
    have hRp13 := c_Model_counts (X := X) (d := d - 1) (by omega) hn_a0 hp13
    refine ev_callV2 (st2 := [(0, p13), (0, s.2.2.1)]) (as := [(0, a1), (0, s.2.2.2.1), (0, t12), (0, 1)]) (rest := [(0, s.2.2.1)]) rfl (by decide) (by decide) rfl hn_a0 rfl (Nat.le_of_ble_eq_true rfl) k_Model_counts ⟨tw_1121, ts_87⟩ (by omega) tw_1119 d_Model_seats_81 hRp13 rfl ?_
    refine ev_iadd d_Model_seats_84 ?_
    obtain ⟨x14, hx14, h⟩ := ltx h
    refine ev_istore' (y := x14) (L' := [(5, (0, x14)), (0, (12, a0)), (1, (0, a1)), (2, (0, a2)), (3, (0, s.1)), (4, (0, s.2.1)), (6, (0, s.2.2.2.1)), (7, (0, t12))]) d_Model_seats_85 (by decide) rfl hx14 ?_
    refine ev_aload_n 1 d_Model_seats_87 rfl (by decide) rfl ?_
    refine ev_get (t := 12) (k := 16) (by decide) (by decide) rfl i_Model (by decide) rfl rfl tw_916 d_Model_seats_88 hn_a0 ?_
    refine ev_bipush d_Model_seats_91 rfl ?_
    refine ev_iload_n 2 d_Model_seats_93 rfl rfl ?_
    refine ev_imul d_Model_seats_94 ?_
    refine ev_iload 6 d_Model_seats_95 rfl ?_
    refine ev_iadd d_Model_seats_97 ?_
    refine ev_iload 7 d_Model_seats_98 rfl ?_
    refine ev_bipush d_Model_seats_100 rfl ?_
    by_cases hc15 : t12 ≠ 14
    · replace h := itp hc15 h
      refine ev_icmp_ne_t (tgt := 109) d_Model_seats_102 (by decide) hc15 ?_
      refine ev_iload 7 d_Model_seats_109 rfl ?_
      refine ev_iconst d_Model_seats_111 rfl ?_
      refine ev_iadd d_Model_seats_112 ?_
      refine ev_less (L' := [(0, (12, a0)), (1, (0, a1)), (2, (0, a2)), (3, (0, s.1)), (4, (0, s.2.1)), (5, (0, x14)), (6, (0, s.2.2.2.1)), (7, (0, t12))]) [1, 2, 3, 4, 5, 0, 6, 7] rfl ?_
      exact cj_Model_seats_113_35 hd hn_a0 h hk1 hk2
    · replace h := itn hc15 h
      refine ev_icmp_ne_f d_Model_seats_102 (by decide) hc15 ?_
      refine ev_iconst d_Model_seats_105 rfl ?_
      refine ev_goto (tgt := 113) d_Model_seats_106 (by decide) ?_
      refine ev_less (L' := [(0, (12, a0)), (1, (0, a1)), (2, (0, a2)), (3, (0, s.1)), (4, (0, s.2.1)), (5, (0, x14)), (6, (0, s.2.2.2.1)), (7, (0, t12))]) [1, 2, 3, 4, 5, 0, 6, 7] rfl ?_
      exact cj_Model_seats_113_35 hd hn_a0 h hk1 hk2
def f_Model_seats (M : Mm) (a0 : Int) (a1 : Int) (a2 : Int) : Option (Int × Mm) :=
  (f_Model_isPiece M a0 a1).bind (fun p1 =>
  if p1 = 0 then
  some ((-1), M)
  else
  (f_Model_lacking M a0 a1).bind (fun p3 =>
  if p3 = 0 then
  (f_Model_finds M a0 a1 a2).bind (fun p5 =>
  (loopN (l_Model_seats_35 a0 a1 a2) FU (0, 0, 0, 0, p5)).bind (fun t24 =>
  if a2 = 0 then
  some (t24.1, t24.2.2)
  else
  some (t24.2.1, t24.2.2)))
  else
  some ((-1), M)))
theorem c_Model_seats {X : XX} {d : Nat} (hd : 3 ≤ d) {M : Mm} {a0 : Int} {a1 : Int} {a2 : Int} (hn_a0 : a0 ≠ 0) {p : Int × Mm} (h : f_Model_seats M a0 a1 a2 = some p) : Rn X d m_Model_seats [(12, a0), (0, a1), (0, a2)] M (some (0, p.1)) p.2 := by
  refine Rn_of (by decide) rfl (Nat.le_of_ble_eq_true rfl) ?_
  unfold f_Model_seats at h
  refine ev_less (L' := [(0, (12, a0)), (1, (0, a1)), (2, (0, a2))]) [0, 1, 2] rfl ?_
  refine ev_aload_n 0 d_Model_seats_0 rfl (by decide) rfl ?_
  refine ev_iload_n 1 d_Model_seats_1 rfl rfl ?_
  obtain ⟨p1, hp1, h⟩ := bx h
  have hRp1 := c_Model_isPiece (X := X) (d := d - 1) (by omega) hn_a0 hp1
  refine ev_callV2 (st2 := [(0, p1)]) (as := [(0, a1)]) (rest := []) rfl (by decide) (by decide) rfl hn_a0 rfl (Nat.le_of_ble_eq_true rfl) k_Model_isPiece ⟨tw_1076, ts_79⟩ (by omega) tw_1074 d_Model_seats_2 hRp1 rfl ?_
  by_cases hc2 : p1 = 0
  · replace h := itp hc2 h
    refine ev_if_eq_t (tgt := 16) d_Model_seats_5 (by decide) hc2 ?_
    refine ev_iconst d_Model_seats_16 rfl ?_
    cases h
    exact ev_ret d_Model_seats_17 rfl
  · replace h := itn hc2 h
    refine ev_if_eq_f d_Model_seats_5 (by decide) hc2 ?_
    refine ev_aload_n 0 d_Model_seats_8 rfl (by decide) rfl ?_
    refine ev_iload_n 1 d_Model_seats_9 rfl rfl ?_
    obtain ⟨p3, hp3, h⟩ := bx h
    have hRp3 := c_Model_lacking (X := X) (d := d - 1) (by omega) hn_a0 hp3
    refine ev_callV2 (st2 := [(0, p3)]) (as := [(0, a1)]) (rest := []) rfl (by decide) (by decide) rfl hn_a0 rfl (Nat.le_of_ble_eq_true rfl) k_Model_lacking ⟨tw_1084, ts_80⟩ (by omega) tw_1082 d_Model_seats_10 hRp3 rfl ?_
    by_cases hc4 : p3 = 0
    · replace h := itp hc4 h
      refine ev_if_eq_t (tgt := 18) d_Model_seats_13 (by decide) hc4 ?_
      refine ev_aload_n 0 d_Model_seats_18 rfl (by decide) rfl ?_
      refine ev_iload_n 1 d_Model_seats_19 rfl rfl ?_
      refine ev_iload_n 2 d_Model_seats_20 rfl rfl ?_
      obtain ⟨p5, hp5, h⟩ := bx h
      have hRp5 := c_Model_finds (X := X) (d := d - 1) (by omega) hn_a0 hp5
      refine ev_callV2 (st2 := []) (as := [(0, a1), (0, a2)]) (rest := []) rfl (by decide) (by decide) rfl hn_a0 rfl (Nat.le_of_ble_eq_true rfl) k_Model_finds ⟨tw_1108, ts_84⟩ (by omega) tw_1106 d_Model_seats_21 hRp5 rfl ?_
      refine ev_iconst d_Model_seats_24 rfl ?_
      refine ev_istore_n (L' := [(3, (0, 0)), (0, (12, a0)), (1, (0, a1)), (2, (0, a2))]) d_Model_seats_25 rfl (by decide) rfl ?_
      refine ev_iconst d_Model_seats_26 rfl ?_
      refine ev_istore (L' := [(4, (0, 0)), (3, (0, 0)), (0, (12, a0)), (1, (0, a1)), (2, (0, a2))]) d_Model_seats_27 (by decide) rfl ?_
      refine ev_iconst d_Model_seats_29 rfl ?_
      refine ev_istore (L' := [(5, (0, 0)), (4, (0, 0)), (3, (0, 0)), (0, (12, a0)), (1, (0, a1)), (2, (0, a2))]) d_Model_seats_30 (by decide) rfl ?_
      refine ev_iconst d_Model_seats_32 rfl ?_
      refine ev_istore (L' := [(6, (0, 0)), (5, (0, 0)), (4, (0, 0)), (3, (0, 0)), (0, (12, a0)), (1, (0, a1)), (2, (0, a2))]) d_Model_seats_33 (by decide) rfl ?_
      obtain ⟨t24, ht24, h⟩ := bx h
      refine ev_less (L' := [(0, (12, a0)), (1, (0, a1)), (2, (0, a2)), (3, (0, 0)), (4, (0, 0)), (5, (0, 0)), (6, (0, 0))]) [4, 5, 6, 3, 2, 1, 0] rfl ?_
      refine loop_ev (step := l_Model_seats_35 a0 a1 a2) (P := fun w : Int × Int × Int × Int × Mm => Ev X m_Model_seats d 35 [(0, (12, a0)), (1, (0, a1)), (2, (0, a2)), (3, (0, w.1)), (4, (0, w.2.1)), (5, (0, w.2.2.1)), (6, (0, w.2.2.2.1))] [] w.2.2.2.2 (some (0, p.1)) p.2) (Q := fun w => Ev X m_Model_seats d 140 [(2, (0, a2)), (4, (0, w.1)), (5, (0, w.2.1))] [] w.2.2 (some (0, p.1)) p.2) (fun w x hs k1 k2 => cs_l_Model_seats_35 hd hn_a0 hs k1 k2) FU (0, 0, 0, 0, p5) t24 ht24 ?_
      refine ev_iload_n 0 d_Model_seats_140 rfl rfl ?_
      by_cases hc25 : a2 = 0
      · replace h := itp hc25 h
        refine ev_if_eq_t (tgt := 149) d_Model_seats_141 (by decide) hc25 ?_
        refine ev_iload 1 d_Model_seats_149 rfl ?_
        cases h
        exact ev_ret d_Model_seats_151 rfl
      · replace h := itn hc25 h
        refine ev_if_eq_f d_Model_seats_141 (by decide) hc25 ?_
        refine ev_iload 2 d_Model_seats_144 rfl ?_
        refine ev_goto (tgt := 151) d_Model_seats_146 (by decide) ?_
        cases h
        exact ev_ret d_Model_seats_151 rfl
    · replace h := itn hc4 h
      refine ev_if_eq_f d_Model_seats_13 (by decide) hc4 ?_
      refine ev_iconst d_Model_seats_16 rfl ?_
      cases h
      exact ev_ret d_Model_seats_17 rfl
def f_Model_seat (M : Mm) (a0 : Int) (a1 : Int) : Option (Int × Mm) :=
  lt (mp M (cI a0) 0 0) (fun M1 =>
  (f_Model_seats M1 a0 a1 0).bind (fun p2 =>
  some (p2.1, p2.2)))
theorem c_Model_seat {X : XX} {d : Nat} (hd : 4 ≤ d) {M : Mm} {a0 : Int} {a1 : Int} (hn_a0 : a0 ≠ 0) {p : Int × Mm} (h : f_Model_seat M a0 a1 = some p) : Rn X d m_Model_seat [(12, a0), (0, a1)] M (some (0, p.1)) p.2 := by
  refine Rn_of (by decide) rfl (Nat.le_of_ble_eq_true rfl) ?_
  unfold f_Model_seat at h
  refine ev_less (L' := [(0, (12, a0)), (1, (0, a1))]) [0, 1] rfl ?_
  refine ev_aload_n 0 d_Model_seat_0 rfl (by decide) rfl ?_
  refine ev_iconst d_Model_seat_1 rfl ?_
  obtain ⟨M1, hM1, h⟩ := ltx h
  refine ev_put' (t := 12) (k := 0) (by decide) (by decide) rfl i_Model t_Model_ok n_Model (by decide) rfl rfl rfl rfl tw_900 d_Model_seat_2 hn_a0 hM1 ?_
  refine ev_aload_n 0 d_Model_seat_5 rfl (by decide) rfl ?_
  refine ev_iload_n 1 d_Model_seat_6 rfl rfl ?_
  refine ev_iconst d_Model_seat_7 rfl ?_
  obtain ⟨p2, hp2, h⟩ := bx h
  have hRp2 := c_Model_seats (X := X) (d := d - 1) (by omega) hn_a0 hp2
  refine ev_callV2 (st2 := [(0, p2.1)]) (as := [(0, a1), (0, 0)]) (rest := []) rfl (by decide) (by decide) rfl hn_a0 rfl (Nat.le_of_ble_eq_true rfl) k_Model_seats ⟨tw_1104, ts_83⟩ (by omega) tw_1102 d_Model_seat_8 hRp2 rfl ?_
  cases h
  exact ev_ret d_Model_seat_11 rfl
def f_Model_again (M : Mm) (a0 : Int) (a1 : Int) : Option (Int × Mm) :=
  lt (mp M (cI a0) 0 0) (fun M1 =>
  (f_Model_seats M1 a0 a1 1).bind (fun p2 =>
  some (p2.1, p2.2)))
theorem c_Model_again {X : XX} {d : Nat} (hd : 4 ≤ d) {M : Mm} {a0 : Int} {a1 : Int} (hn_a0 : a0 ≠ 0) {p : Int × Mm} (h : f_Model_again M a0 a1 = some p) : Rn X d m_Model_again [(12, a0), (0, a1)] M (some (0, p.1)) p.2 := by
  refine Rn_of (by decide) rfl (Nat.le_of_ble_eq_true rfl) ?_
  unfold f_Model_again at h
  refine ev_less (L' := [(0, (12, a0)), (1, (0, a1))]) [0, 1] rfl ?_
  refine ev_aload_n 0 d_Model_again_0 rfl (by decide) rfl ?_
  refine ev_iconst d_Model_again_1 rfl ?_
  obtain ⟨M1, hM1, h⟩ := ltx h
  refine ev_put' (t := 12) (k := 0) (by decide) (by decide) rfl i_Model t_Model_ok n_Model (by decide) rfl rfl rfl rfl tw_900 d_Model_again_2 hn_a0 hM1 ?_
  refine ev_aload_n 0 d_Model_again_5 rfl (by decide) rfl ?_
  refine ev_iload_n 1 d_Model_again_6 rfl rfl ?_
  refine ev_iconst d_Model_again_7 rfl ?_
  obtain ⟨p2, hp2, h⟩ := bx h
  have hRp2 := c_Model_seats (X := X) (d := d - 1) (by omega) hn_a0 hp2
  refine ev_callV2 (st2 := [(0, p2.1)]) (as := [(0, a1), (0, 1)]) (rest := []) rfl (by decide) (by decide) rfl hn_a0 rfl (Nat.le_of_ble_eq_true rfl) k_Model_seats ⟨tw_1104, ts_83⟩ (by omega) tw_1102 d_Model_again_8 hRp2 rfl ?_
  cases h
  exact ev_ret d_Model_again_11 rfl
def f_Model_isPart (M : Mm) (a0 : Int) (a1 : Int) (a2 : Int) : Option (Int) :=
  (f_Model_isPiece M a0 a1).bind (fun p1 =>
  if p1 = 0 then
  some 0
  else
  if a2 < 0 then
  some 0
  else
  if (mg M (cI a0) 12) ≠ 0 then
  if (0 : Int) ≤ a1 ∧ a1 < (ml M (cI (mg M (cI a0) 12)) : Int) then
  if (mg M (cI (mg M (cI a0) 12)) (a1 : Int).toNat) ≤ a2 then
  some 0
  else
  some 1
  else none
  else none)
theorem c_Model_isPart {X : XX} {d : Nat} (hd : 1 ≤ d) {M : Mm} {a0 : Int} {a1 : Int} {a2 : Int} (hn_a0 : a0 ≠ 0) {p : Int} (h : f_Model_isPart M a0 a1 a2 = some p) : Rn X d m_Model_isPart [(12, a0), (0, a1), (0, a2)] M (some (0, p)) M := by
  refine Rn_of (by decide) rfl (Nat.le_of_ble_eq_true rfl) ?_
  unfold f_Model_isPart at h
  refine ev_less (L' := [(0, (12, a0)), (1, (0, a1)), (2, (0, a2))]) [0, 1, 2] rfl ?_
  refine ev_aload_n 0 d_Model_isPart_0 rfl (by decide) rfl ?_
  refine ev_iload_n 1 d_Model_isPart_1 rfl rfl ?_
  obtain ⟨p1, hp1, h⟩ := bx h
  have hRp1 := c_Model_isPiece (X := X) (d := d - 1) (by omega) hn_a0 hp1
  refine ev_callV2 (st2 := [(0, p1)]) (as := [(0, a1)]) (rest := []) rfl (by decide) (by decide) rfl hn_a0 rfl (Nat.le_of_ble_eq_true rfl) k_Model_isPiece ⟨tw_1076, ts_79⟩ (by omega) tw_1074 d_Model_isPart_2 hRp1 rfl ?_
  by_cases hc2 : p1 = 0
  · replace h := itp hc2 h
    refine ev_if_eq_t (tgt := 26) d_Model_isPart_5 (by decide) hc2 ?_
    refine ev_iconst d_Model_isPart_26 rfl ?_
    cases h
    exact ev_retZ d_Model_isPart_27 rfl (Or.inl rfl)
  · replace h := itn hc2 h
    refine ev_if_eq_f d_Model_isPart_5 (by decide) hc2 ?_
    refine ev_iload_n 2 d_Model_isPart_8 rfl rfl ?_
    by_cases hc3 : a2 < 0
    · replace h := itp hc3 h
      refine ev_if_lt_t (tgt := 26) d_Model_isPart_9 (by decide) hc3 ?_
      refine ev_iconst d_Model_isPart_26 rfl ?_
      cases h
      exact ev_retZ d_Model_isPart_27 rfl (Or.inl rfl)
    · replace h := itn hc3 h
      refine ev_if_lt_f d_Model_isPart_9 (by decide) hc3 ?_
      refine ev_iload_n 2 d_Model_isPart_12 rfl rfl ?_
      refine ev_aload_n 0 d_Model_isPart_13 rfl (by decide) rfl ?_
      refine ev_get (t := 12) (k := 12) (by decide) (by decide) rfl i_Model (by decide) rfl rfl tw_912 d_Model_isPart_14 hn_a0 ?_
      refine ev_iload_n 1 d_Model_isPart_17 rfl rfl ?_
      obtain ⟨hz4, h⟩ := gx h
      obtain ⟨hg5, h⟩ := gx h
      refine ev_iald d_Model_isPart_18 hz4 hg5 ?_
      by_cases hc6 : (mg M (cI (mg M (cI a0) 12)) (a1 : Int).toNat) ≤ a2
      · replace h := itp hc6 h
        refine ev_icmp_ge_t (tgt := 26) d_Model_isPart_19 (by decide) hc6 ?_
        refine ev_iconst d_Model_isPart_26 rfl ?_
        cases h
        exact ev_retZ d_Model_isPart_27 rfl (Or.inl rfl)
      · replace h := itn hc6 h
        refine ev_icmp_ge_f d_Model_isPart_19 (by decide) hc6 ?_
        refine ev_iconst d_Model_isPart_22 rfl ?_
        refine ev_goto (tgt := 27) d_Model_isPart_23 (by decide) ?_
        cases h
        exact ev_retZ d_Model_isPart_27 rfl (Or.inr rfl)
def f_Model_chair (M : Mm) (a0 : Int) (a1 : Int) (a2 : Int) : Option (Int × Mm) :=
  lt (mp M (cI a0) 0 0) (fun M1 =>
  (f_Model_isPart M1 a0 a1 a2).bind (fun p2 =>
  if p2 = 0 then
  some ((-1), M1)
  else
  if (mg M1 (cI a0) 16) ≠ 0 then
  if (0 : Int) ≤ (w32 ((w32 (10 * a1)) + a2)) ∧ (w32 ((w32 (10 * a1)) + a2)) < (ml M1 (cI (mg M1 (cI a0) 16)) : Int) then
  some ((w32 ((mg M1 (cI (mg M1 (cI a0) 16)) ((w32 ((w32 (10 * a1)) + a2)) : Int).toNat) - 1)), M1)
  else none
  else none))
theorem c_Model_chair {X : XX} {d : Nat} (hd : 2 ≤ d) {M : Mm} {a0 : Int} {a1 : Int} {a2 : Int} (hn_a0 : a0 ≠ 0) {p : Int × Mm} (h : f_Model_chair M a0 a1 a2 = some p) : Rn X d m_Model_chair [(12, a0), (0, a1), (0, a2)] M (some (0, p.1)) p.2 := by
  refine Rn_of (by decide) rfl (Nat.le_of_ble_eq_true rfl) ?_
  unfold f_Model_chair at h
  refine ev_less (L' := [(0, (12, a0)), (1, (0, a1)), (2, (0, a2))]) [0, 1, 2] rfl ?_
  refine ev_aload_n 0 d_Model_chair_0 rfl (by decide) rfl ?_
  refine ev_iconst d_Model_chair_1 rfl ?_
  obtain ⟨M1, hM1, h⟩ := ltx h
  refine ev_put' (t := 12) (k := 0) (by decide) (by decide) rfl i_Model t_Model_ok n_Model (by decide) rfl rfl rfl rfl tw_900 d_Model_chair_2 hn_a0 hM1 ?_
  refine ev_aload_n 0 d_Model_chair_5 rfl (by decide) rfl ?_
  refine ev_iload_n 1 d_Model_chair_6 rfl rfl ?_
  refine ev_iload_n 2 d_Model_chair_7 rfl rfl ?_
  obtain ⟨p2, hp2, h⟩ := bx h
  have hRp2 := c_Model_isPart (X := X) (d := d - 1) (by omega) hn_a0 hp2
  refine ev_callV2 (st2 := [(0, p2)]) (as := [(0, a1), (0, a2)]) (rest := []) rfl (by decide) (by decide) rfl hn_a0 rfl (Nat.le_of_ble_eq_true rfl) k_Model_isPart ⟨tw_1137, ts_89⟩ (by omega) tw_1135 d_Model_chair_8 hRp2 rfl ?_
  by_cases hc3 : p2 = 0
  · replace h := itp hc3 h
    refine ev_if_eq_t (tgt := 30) d_Model_chair_11 (by decide) hc3 ?_
    refine ev_iconst d_Model_chair_30 rfl ?_
    cases h
    exact ev_ret d_Model_chair_31 rfl
  · replace h := itn hc3 h
    refine ev_if_eq_f d_Model_chair_11 (by decide) hc3 ?_
    refine ev_aload_n 0 d_Model_chair_14 rfl (by decide) rfl ?_
    refine ev_get (t := 12) (k := 16) (by decide) (by decide) rfl i_Model (by decide) rfl rfl tw_916 d_Model_chair_15 hn_a0 ?_
    refine ev_bipush d_Model_chair_18 rfl ?_
    refine ev_iload_n 1 d_Model_chair_20 rfl rfl ?_
    refine ev_imul d_Model_chair_21 ?_
    refine ev_iload_n 2 d_Model_chair_22 rfl rfl ?_
    refine ev_iadd d_Model_chair_23 ?_
    obtain ⟨hz4, h⟩ := gx h
    obtain ⟨hg5, h⟩ := gx h
    refine ev_iald d_Model_chair_24 hz4 hg5 ?_
    refine ev_iconst d_Model_chair_25 rfl ?_
    refine ev_isub d_Model_chair_26 ?_
    refine ev_goto (tgt := 31) d_Model_chair_27 (by decide) ?_
    cases h
    exact ev_ret d_Model_chair_31 rfl
def j_Model_sit_88 (M : Mm) (a0 : Int) (a1 : Int) (a2 : Int) (a3 : Int) : Option (Int × Mm) :=
  if (mg M (cI a0) 16) ≠ 0 then
  if (0 : Int) ≤ (w32 ((w32 (10 * a1)) + a2)) ∧ (w32 ((w32 (10 * a1)) + a2)) < (ml M (cI (mg M (cI a0) 16)) : Int) then
  lt (mp M (cI (mg M (cI a0) 16)) ((w32 ((w32 (10 * a1)) + a2)) : Int).toNat (w32 (a3 + 1))) (fun M7 =>
  some (1, M7))
  else none
  else none
theorem cj_Model_sit_88 {X : XX} {d : Nat} (hd : 2 ≤ d) {M : Mm} {a0 : Int} {a1 : Int} {a2 : Int} {a3 : Int} (hn_a0 : a0 ≠ 0) {p : Int × Mm} (h : j_Model_sit_88 M a0 a1 a2 a3 = some p) : Ev X m_Model_sit d 88 [(0, (12, a0)), (1, (0, a1)), (2, (0, a2)), (3, (0, a3))] [] M (some (0, p.1)) p.2 := by
  unfold j_Model_sit_88 at h
  refine ev_aload_n 0 d_Model_sit_88 rfl (by decide) rfl ?_
  refine ev_get (t := 12) (k := 16) (by decide) (by decide) rfl i_Model (by decide) rfl rfl tw_916 d_Model_sit_89 hn_a0 ?_
  refine ev_bipush d_Model_sit_92 rfl ?_
  refine ev_iload_n 1 d_Model_sit_94 rfl rfl ?_
  refine ev_imul d_Model_sit_95 ?_
  refine ev_iload_n 2 d_Model_sit_96 rfl rfl ?_
  refine ev_iadd d_Model_sit_97 ?_
  refine ev_iload_n 3 d_Model_sit_98 rfl rfl ?_
  refine ev_iconst d_Model_sit_99 rfl ?_
  refine ev_iadd d_Model_sit_100 ?_
  obtain ⟨hz5, h⟩ := gx h
  obtain ⟨hg6, h⟩ := gx h
  obtain ⟨M7, hM7, h⟩ := ltx h
  refine ev_iast' d_Model_sit_101 hz5 hg6 hM7 ?_
  refine ev_iconst d_Model_sit_102 rfl ?_
  cases h
  exact ev_retZ d_Model_sit_103 rfl (Or.inr rfl)
def l_Model_sit_45 (M : Mm) (a0 : Int) (a1 : Int) (a2 : Int) (a3 : Int) (s : Int) : Option ((Int) ⊕ ((Int × Mm) ⊕ (Unit))) :=
  if (mg M (cI a0) 12) ≠ 0 then
  if (0 : Int) ≤ a1 ∧ a1 < (ml M (cI (mg M (cI a0) 12)) : Int) then
  if (mg M (cI (mg M (cI a0) 12)) (a1 : Int).toNat) ≤ s then
  some (.inr (.inr ()))
  else
  if s = a2 then
  lt (w32 (s + 1)) (fun x16 : Int =>
  some (.inl x16))
  else
  if (mg M (cI a0) 16) ≠ 0 then
  if (0 : Int) ≤ (w32 ((w32 (10 * a1)) + s)) ∧ (w32 ((w32 (10 * a1)) + s)) < (ml M (cI (mg M (cI a0) 16)) : Int) then
  if (mg M (cI (mg M (cI a0) 16)) ((w32 ((w32 (10 * a1)) + s)) : Int).toNat) ≠ (w32 (a3 + 1)) then
  lt (w32 (s + 1)) (fun x20 : Int =>
  some (.inl x20))
  else
  some (.inr (.inl ((0, M))))
  else none
  else none
  else none
  else none
theorem cs_l_Model_sit_45 {X : XX} {d : Nat} (hd : 2 ≤ d) {M : Mm} {a0 : Int} {a1 : Int} {a2 : Int} {a3 : Int} (hn_a0 : a0 ≠ 0) {s : Int} {x : (Int) ⊕ ((Int × Mm) ⊕ (Unit))} {r : Option AV} {M' : Mm} (h : l_Model_sit_45 M a0 a1 a2 a3 s = some x) (hk1 : ∀ s : Int, x = .inl s → Ev X m_Model_sit d 45 [(0, (12, a0)), (1, (0, a1)), (2, (0, a2)), (3, (0, a3)), (4, (0, s))] [] M r M') (hk2 : ∀ q : Int × Mm, x = .inr (.inl q) → r = some (0, q.1) ∧ M' = q.2) (hk3 : ∀ t : Unit, x = .inr (.inr t) → Ev X m_Model_sit d 88 [(0, (12, a0)), (1, (0, a1)), (2, (0, a2)), (3, (0, a3))] [] M r M') : Ev X m_Model_sit d 45 [(0, (12, a0)), (1, (0, a1)), (2, (0, a2)), (3, (0, a3)), (4, (0, s))] [] M r M' := by
  unfold l_Model_sit_45 at h
  refine ev_iload 4 d_Model_sit_45 rfl ?_
  refine ev_aload_n 0 d_Model_sit_47 rfl (by decide) rfl ?_
  refine ev_get (t := 12) (k := 12) (by decide) (by decide) rfl i_Model (by decide) rfl rfl tw_912 d_Model_sit_48 hn_a0 ?_
  refine ev_iload_n 1 d_Model_sit_51 rfl rfl ?_
  obtain ⟨hz12, h⟩ := gx h
  obtain ⟨hg13, h⟩ := gx h
  refine ev_iald d_Model_sit_52 hz12 hg13 ?_
  by_cases hc14 : (mg M (cI (mg M (cI a0) 12)) (a1 : Int).toNat) ≤ s
  · replace h := itp hc14 h
    refine ev_icmp_ge_t (tgt := 88) d_Model_sit_53 (by decide) hc14 ?_
    refine ev_less (L' := [(0, (12, a0)), (1, (0, a1)), (2, (0, a2)), (3, (0, a3))]) [0, 1, 2, 3] rfl ?_
    cases h
    exact hk3 _ rfl
  · replace h := itn hc14 h
    refine ev_icmp_ge_f d_Model_sit_53 (by decide) hc14 ?_
    refine ev_iload 4 d_Model_sit_56 rfl ?_
    refine ev_iload_n 2 d_Model_sit_58 rfl rfl ?_
    by_cases hc15 : s = a2
    · replace h := itp hc15 h
      refine ev_icmp_eq_t (tgt := 82) d_Model_sit_59 (by decide) hc15 ?_
      obtain ⟨x16, hx16, h⟩ := ltx h
      refine ev_iinc' 4 (y := x16) (L' := [(4, (0, x16)), (0, (12, a0)), (1, (0, a1)), (2, (0, a2)), (3, (0, a3))]) d_Model_sit_82 rfl (by decide) rfl hx16 ?_
      refine ev_goto (tgt := 45) d_Model_sit_85 (by decide) ?_
      refine ev_less (L' := [(0, (12, a0)), (1, (0, a1)), (2, (0, a2)), (3, (0, a3)), (4, (0, x16))]) [1, 2, 3, 4, 0] rfl ?_
      cases h
      exact hk1 _ rfl
    · replace h := itn hc15 h
      refine ev_icmp_eq_f d_Model_sit_59 (by decide) hc15 ?_
      refine ev_aload_n 0 d_Model_sit_62 rfl (by decide) rfl ?_
      refine ev_get (t := 12) (k := 16) (by decide) (by decide) rfl i_Model (by decide) rfl rfl tw_916 d_Model_sit_63 hn_a0 ?_
      refine ev_bipush d_Model_sit_66 rfl ?_
      refine ev_iload_n 1 d_Model_sit_68 rfl rfl ?_
      refine ev_imul d_Model_sit_69 ?_
      refine ev_iload 4 d_Model_sit_70 rfl ?_
      refine ev_iadd d_Model_sit_72 ?_
      obtain ⟨hz17, h⟩ := gx h
      obtain ⟨hg18, h⟩ := gx h
      refine ev_iald d_Model_sit_73 hz17 hg18 ?_
      refine ev_iload_n 3 d_Model_sit_74 rfl rfl ?_
      refine ev_iconst d_Model_sit_75 rfl ?_
      refine ev_iadd d_Model_sit_76 ?_
      by_cases hc19 : (mg M (cI (mg M (cI a0) 16)) ((w32 ((w32 (10 * a1)) + s)) : Int).toNat) ≠ (w32 (a3 + 1))
      · replace h := itp hc19 h
        refine ev_icmp_ne_t (tgt := 82) d_Model_sit_77 (by decide) hc19 ?_
        obtain ⟨x20, hx20, h⟩ := ltx h
        refine ev_iinc' 4 (y := x20) (L' := [(4, (0, x20)), (0, (12, a0)), (1, (0, a1)), (2, (0, a2)), (3, (0, a3))]) d_Model_sit_82 rfl (by decide) rfl hx20 ?_
        refine ev_goto (tgt := 45) d_Model_sit_85 (by decide) ?_
        refine ev_less (L' := [(0, (12, a0)), (1, (0, a1)), (2, (0, a2)), (3, (0, a3)), (4, (0, x20))]) [1, 2, 3, 4, 0] rfl ?_
        cases h
        exact hk1 _ rfl
      · replace h := itn hc19 h
        refine ev_icmp_ne_f d_Model_sit_77 (by decide) hc19 ?_
        refine ev_iconst d_Model_sit_80 rfl ?_
        cases h
        obtain ⟨rfl, rfl⟩ := hk2 _ rfl
        exact ev_retZ d_Model_sit_81 rfl (Or.inl rfl)
def f_Model_sit (M : Mm) (a0 : Int) (a1 : Int) (a2 : Int) (a3 : Int) : Option (Int × Mm) :=
  lt (mp M (cI a0) 0 0) (fun M1 =>
  (f_Model_isPart M1 a0 a1 a2).bind (fun p2 =>
  if p2 ≠ 0 then
  if a3 = (-1) then
  j_Model_sit_88 M1 a0 a1 a2 a3
  else
  (f_Model_isPlayer M1 a0 a3).bind (fun p8 =>
  if p8 = 0 then
  some (0, M1)
  else
  (f_Model_costOf M1 a0 a1 a2 a3).bind (fun p10 =>
  if p10 ≠ (-1) then
  (loopN (l_Model_sit_45 M1 a0 a1 a2 a3) FU 0).bind (fun t21 =>
  Sum.elim (fun q22 => some q22) (fun u23 =>
  j_Model_sit_88 M1 a0 a1 a2 a3) t21)
  else
  some (0, M1)))
  else
  some (0, M1)))
theorem c_Model_sit {X : XX} {d : Nat} (hd : 2 ≤ d) {M : Mm} {a0 : Int} {a1 : Int} {a2 : Int} {a3 : Int} (hn_a0 : a0 ≠ 0) {p : Int × Mm} (h : f_Model_sit M a0 a1 a2 a3 = some p) : Rn X d m_Model_sit [(12, a0), (0, a1), (0, a2), (0, a3)] M (some (0, p.1)) p.2 := by
  refine Rn_of (by decide) rfl (Nat.le_of_ble_eq_true rfl) ?_
  unfold f_Model_sit at h
  refine ev_less (L' := [(0, (12, a0)), (1, (0, a1)), (2, (0, a2)), (3, (0, a3))]) [0, 1, 2, 3] rfl ?_
  refine ev_aload_n 0 d_Model_sit_0 rfl (by decide) rfl ?_
  refine ev_iconst d_Model_sit_1 rfl ?_
  obtain ⟨M1, hM1, h⟩ := ltx h
  refine ev_put' (t := 12) (k := 0) (by decide) (by decide) rfl i_Model t_Model_ok n_Model (by decide) rfl rfl rfl rfl tw_900 d_Model_sit_2 hn_a0 hM1 ?_
  refine ev_aload_n 0 d_Model_sit_5 rfl (by decide) rfl ?_
  refine ev_iload_n 1 d_Model_sit_6 rfl rfl ?_
  refine ev_iload_n 2 d_Model_sit_7 rfl rfl ?_
  obtain ⟨p2, hp2, h⟩ := bx h
  have hRp2 := c_Model_isPart (X := X) (d := d - 1) (by omega) hn_a0 hp2
  refine ev_callV2 (st2 := [(0, p2)]) (as := [(0, a1), (0, a2)]) (rest := []) rfl (by decide) (by decide) rfl hn_a0 rfl (Nat.le_of_ble_eq_true rfl) k_Model_isPart ⟨tw_1137, ts_89⟩ (by omega) tw_1135 d_Model_sit_8 hRp2 rfl ?_
  by_cases hc3 : p2 ≠ 0
  · replace h := itp hc3 h
    refine ev_if_ne_t (tgt := 16) d_Model_sit_11 (by decide) hc3 ?_
    refine ev_iload_n 3 d_Model_sit_16 rfl rfl ?_
    refine ev_iconst d_Model_sit_17 rfl ?_
    by_cases hc4 : a3 = (-1)
    · replace h := itp hc4 h
      refine ev_icmp_eq_t (tgt := 88) d_Model_sit_18 (by decide) hc4 ?_
      exact cj_Model_sit_88 hd hn_a0 h
    · replace h := itn hc4 h
      refine ev_icmp_eq_f d_Model_sit_18 (by decide) hc4 ?_
      refine ev_aload_n 0 d_Model_sit_21 rfl (by decide) rfl ?_
      refine ev_iload_n 3 d_Model_sit_22 rfl rfl ?_
      obtain ⟨p8, hp8, h⟩ := bx h
      have hRp8 := c_Model_isPlayer (X := X) (d := d - 1) (by omega) hn_a0 hp8
      refine ev_callV2 (st2 := [(0, p8)]) (as := [(0, a3)]) (rest := []) rfl (by decide) (by decide) rfl hn_a0 rfl (Nat.le_of_ble_eq_true rfl) k_Model_isPlayer ⟨tw_1056, ts_77⟩ (by omega) tw_1054 d_Model_sit_23 hRp8 rfl ?_
      by_cases hc9 : p8 = 0
      · replace h := itp hc9 h
        refine ev_if_eq_t (tgt := 40) d_Model_sit_26 (by decide) hc9 ?_
        refine ev_iconst d_Model_sit_40 rfl ?_
        cases h
        exact ev_retZ d_Model_sit_41 rfl (Or.inl rfl)
      · replace h := itn hc9 h
        refine ev_if_eq_f d_Model_sit_26 (by decide) hc9 ?_
        refine ev_aload_n 0 d_Model_sit_29 rfl (by decide) rfl ?_
        refine ev_iload_n 1 d_Model_sit_30 rfl rfl ?_
        refine ev_iload_n 2 d_Model_sit_31 rfl rfl ?_
        refine ev_iload_n 3 d_Model_sit_32 rfl rfl ?_
        obtain ⟨p10, hp10, h⟩ := bx h
        have hRp10 := c_Model_costOf (X := X) (d := d - 1) (by omega) hn_a0 hp10
        refine ev_callV2 (st2 := [(0, p10)]) (as := [(0, a1), (0, a2), (0, a3)]) (rest := []) rfl (by decide) (by decide) rfl hn_a0 rfl (Nat.le_of_ble_eq_true rfl) k_Model_costOf ⟨tw_1088, ts_81⟩ (by omega) tw_1086 d_Model_sit_33 hRp10 rfl ?_
        refine ev_iconst d_Model_sit_36 rfl ?_
        by_cases hc11 : p10 ≠ (-1)
        · replace h := itp hc11 h
          refine ev_icmp_ne_t (tgt := 42) d_Model_sit_37 (by decide) hc11 ?_
          refine ev_iconst d_Model_sit_42 rfl ?_
          refine ev_istore (L' := [(4, (0, 0)), (0, (12, a0)), (1, (0, a1)), (2, (0, a2)), (3, (0, a3))]) d_Model_sit_43 (by decide) rfl ?_
          obtain ⟨t21, ht21, h⟩ := bx h
          refine ev_less (L' := [(0, (12, a0)), (1, (0, a1)), (2, (0, a2)), (3, (0, a3)), (4, (0, 0))]) [1, 2, 3, 4, 0] rfl ?_
          refine loop_ev (step := l_Model_sit_45 M1 a0 a1 a2 a3) (P := fun w : Int => Ev X m_Model_sit d 45 [(0, (12, a0)), (1, (0, a1)), (2, (0, a2)), (3, (0, a3)), (4, (0, w))] [] M1 (some (0, p.1)) p.2) (Q := fun u => (∀ q, u = .inl q → (some (0, p.1)) = some (0, q.1) ∧ p.2 = q.2) ∧ (∀ w, u = .inr w → Ev X m_Model_sit d 88 [(0, (12, a0)), (1, (0, a1)), (2, (0, a2)), (3, (0, a3))] [] M1 (some (0, p.1)) p.2)) (fun w x hs k1 k2 => cs_l_Model_sit_45 hd hn_a0 hs k1 (fun q e => (k2 _ e).1 q rfl) (fun t e => (k2 _ e).2 t rfl)) FU 0 t21 ht21 ?_
          refine ⟨fun qq e => ?_, fun tt e => ?_⟩
          · subst e; replace h := sx1 h; (obtain ⟨q22, rfl⟩ : ∃ y, y = qq := ⟨_, rfl⟩)
            cases h
            exact ⟨rfl, rfl⟩
          · subst e; replace h := sx2 h; (obtain ⟨u23, rfl⟩ : ∃ y, y = tt := ⟨_, rfl⟩)
            exact cj_Model_sit_88 hd hn_a0 h
        · replace h := itn hc11 h
          refine ev_icmp_ne_f d_Model_sit_37 (by decide) hc11 ?_
          refine ev_iconst d_Model_sit_40 rfl ?_
          cases h
          exact ev_retZ d_Model_sit_41 rfl (Or.inl rfl)
  · replace h := itn hc3 h
    refine ev_if_ne_f d_Model_sit_11 (by decide) hc3 ?_
    refine ev_iconst d_Model_sit_14 rfl ?_
    cases h
    exact ev_retZ d_Model_sit_15 rfl (Or.inl rfl)
def j_Model_seating_94_35 (M : Mm) (a0 : Int) (a1 : Int) (a2 : Int) (z4 : Int) (z5 : Int) (z6 : Int) (z7 : Int) (y0 : Int) (y1 : Int) : Option ((Int × Int × Int × Int) ⊕ (Int × Int × Int)) :=
  lt ((w32 (y1 + y0))) (fun x15 : Int =>
  lt ((w32 (z4 + 1))) (fun x16 : Int =>
  if (mg M (cI a0) 5) ≠ 0 then
  if (0 : Int) ≤ z7 ∧ z7 < (ml M (cI (mg M (cI a0) 5)) : Int) then
  if (mg M (cI (mg M (cI a0) 5)) (z7 : Int).toNat) ≠ 0 then
  lt (w32 (z6 + 1)) (fun x20 : Int =>
  some (.inl (x15, x16, z5, x20)))
  else
  lt ((w32 (z5 + 1))) (fun x21 : Int =>
  lt (w32 (z6 + 1)) (fun x22 : Int =>
  some (.inl (x15, x16, x21, x22))))
  else none
  else none))
theorem cj_Model_seating_94_35 {X : XX} {d : Nat} (hd : 1 ≤ d) {M : Mm} {a0 : Int} {a1 : Int} {a2 : Int} {z4 : Int} {z5 : Int} {z6 : Int} {z7 : Int} {y0 : Int} {y1 : Int} (hn_a0 : a0 ≠ 0) {x : (Int × Int × Int × Int) ⊕ (Int × Int × Int)} {r : Option AV} {M' : Mm} (h : j_Model_seating_94_35 M a0 a1 a2 z4 z5 z6 z7 y0 y1 = some x) (hk1 : ∀ s : Int × Int × Int × Int, x = .inl s → Ev X m_Model_seating d 35 [(0, (12, a0)), (1, (0, a1)), (2, (0, a2)), (3, (0, s.1)), (4, (0, s.2.1)), (5, (0, s.2.2.1)), (6, (0, s.2.2.2))] [] M r M') (hk2 : ∀ t : Int × Int × Int, x = .inr t → Ev X m_Model_seating d 124 [(2, (0, a2)), (3, (0, t.1)), (4, (0, t.2.1)), (5, (0, t.2.2))] [] M r M') : Ev X m_Model_seating d 94 [(0, (12, a0)), (1, (0, a1)), (2, (0, a2)), (4, (0, z4)), (5, (0, z5)), (6, (0, z6)), (7, (0, z7))] [(0, y0), (0, y1)] M r M' := by
  unfold j_Model_seating_94_35 at h
  refine ev_iadd d_Model_seating_94 ?_
  obtain ⟨x15, hx15, h⟩ := ltx h
  refine ev_istore_n' (y := x15) (L' := [(3, (0, x15)), (0, (12, a0)), (1, (0, a1)), (2, (0, a2)), (4, (0, z4)), (5, (0, z5)), (6, (0, z6)), (7, (0, z7))]) d_Model_seating_95 rfl (by decide) rfl hx15 ?_
  refine ev_iload 4 d_Model_seating_96 rfl ?_
  refine ev_iconst d_Model_seating_98 rfl ?_
  refine ev_iadd d_Model_seating_99 ?_
  obtain ⟨x16, hx16, h⟩ := ltx h
  refine ev_istore' (y := x16) (L' := [(4, (0, x16)), (3, (0, x15)), (0, (12, a0)), (1, (0, a1)), (2, (0, a2)), (5, (0, z5)), (6, (0, z6)), (7, (0, z7))]) d_Model_seating_100 (by decide) rfl hx16 ?_
  refine ev_aload_n 2 d_Model_seating_102 rfl (by decide) rfl ?_
  refine ev_get (t := 12) (k := 5) (by decide) (by decide) rfl i_Model (by decide) rfl rfl tw_905 d_Model_seating_103 hn_a0 ?_
  refine ev_iload 7 d_Model_seating_106 rfl ?_
  obtain ⟨hz17, h⟩ := gx h
  obtain ⟨hg18, h⟩ := gx h
  refine ev_zald d_Model_seating_108 hz17 hg18 ?_
  by_cases hc19 : (mg M (cI (mg M (cI a0) 5)) (z7 : Int).toNat) ≠ 0
  · replace h := itp hc19 h
    refine ev_if_ne_t (tgt := 118) d_Model_seating_109 (by decide) hc19 ?_
    obtain ⟨x20, hx20, h⟩ := ltx h
    refine ev_iinc' 6 (y := x20) (L' := [(6, (0, x20)), (4, (0, x16)), (3, (0, x15)), (0, (12, a0)), (1, (0, a1)), (2, (0, a2)), (5, (0, z5)), (7, (0, z7))]) d_Model_seating_118 rfl (by decide) rfl hx20 ?_
    refine ev_goto (tgt := 35) d_Model_seating_121 (by decide) ?_
    refine ev_less (L' := [(0, (12, a0)), (1, (0, a1)), (2, (0, a2)), (3, (0, x15)), (4, (0, x16)), (5, (0, z5)), (6, (0, x20))]) [3, 4, 5, 2, 1, 6, 0] rfl ?_
    cases h
    exact hk1 _ rfl
  · replace h := itn hc19 h
    refine ev_if_ne_f d_Model_seating_109 (by decide) hc19 ?_
    refine ev_iload 5 d_Model_seating_112 rfl ?_
    refine ev_iconst d_Model_seating_114 rfl ?_
    refine ev_iadd d_Model_seating_115 ?_
    obtain ⟨x21, hx21, h⟩ := ltx h
    refine ev_istore' (y := x21) (L' := [(5, (0, x21)), (4, (0, x16)), (3, (0, x15)), (0, (12, a0)), (1, (0, a1)), (2, (0, a2)), (6, (0, z6)), (7, (0, z7))]) d_Model_seating_116 (by decide) rfl hx21 ?_
    obtain ⟨x22, hx22, h⟩ := ltx h
    refine ev_iinc' 6 (y := x22) (L' := [(6, (0, x22)), (5, (0, x21)), (4, (0, x16)), (3, (0, x15)), (0, (12, a0)), (1, (0, a1)), (2, (0, a2)), (7, (0, z7))]) d_Model_seating_118 rfl (by decide) rfl hx22 ?_
    refine ev_goto (tgt := 35) d_Model_seating_121 (by decide) ?_
    refine ev_less (L' := [(0, (12, a0)), (1, (0, a1)), (2, (0, a2)), (3, (0, x15)), (4, (0, x16)), (5, (0, x21)), (6, (0, x22))]) [4, 5, 6, 3, 2, 1, 0] rfl ?_
    cases h
    exact hk1 _ rfl
def l_Model_seating_35 (M : Mm) (a0 : Int) (a1 : Int) (a2 : Int) (s : Int × Int × Int × Int) : Option ((Int × Int × Int × Int) ⊕ (Int × Int × Int)) :=
  if (mg M (cI a0) 12) ≠ 0 then
  if (0 : Int) ≤ a1 ∧ a1 < (ml M (cI (mg M (cI a0) 12)) : Int) then
  if (mg M (cI (mg M (cI a0) 12)) (a1 : Int).toNat) ≤ s.2.2.2 then
  some (.inr (s.1, s.2.1, s.2.2.1))
  else
  if (mg M (cI a0) 16) ≠ 0 then
  if (0 : Int) ≤ (w32 ((w32 (10 * a1)) + s.2.2.2)) ∧ (w32 ((w32 (10 * a1)) + s.2.2.2)) < (ml M (cI (mg M (cI a0) 16)) : Int) then
  lt ((w32 ((mg M (cI (mg M (cI a0) 16)) ((w32 ((w32 (10 * a1)) + s.2.2.2)) : Int).toNat) - 1))) (fun x11 : Int =>
  if 0 ≤ x11 then
  (f_Model_costOf M a0 a1 s.2.2.2 x11).bind (fun p13 =>
  if p13 ≠ (-1) then
  j_Model_seating_94_35 M a0 a1 a2 s.2.1 s.2.2.1 s.2.2.2 x11 p13 s.1
  else
  j_Model_seating_94_35 M a0 a1 a2 s.2.1 s.2.2.1 s.2.2.2 x11 0 s.1)
  else
  lt (w32 (s.2.2.2 + 1)) (fun x23 : Int =>
  some (.inl (s.1, s.2.1, s.2.2.1, x23))))
  else none
  else none
  else none
  else none
theorem cs_l_Model_seating_35 {X : XX} {d : Nat} (hd : 1 ≤ d) {M : Mm} {a0 : Int} {a1 : Int} {a2 : Int} (hn_a0 : a0 ≠ 0) {s : Int × Int × Int × Int} {x : (Int × Int × Int × Int) ⊕ (Int × Int × Int)} {r : Option AV} {M' : Mm} (h : l_Model_seating_35 M a0 a1 a2 s = some x) (hk1 : ∀ s : Int × Int × Int × Int, x = .inl s → Ev X m_Model_seating d 35 [(0, (12, a0)), (1, (0, a1)), (2, (0, a2)), (3, (0, s.1)), (4, (0, s.2.1)), (5, (0, s.2.2.1)), (6, (0, s.2.2.2))] [] M r M') (hk2 : ∀ t : Int × Int × Int, x = .inr t → Ev X m_Model_seating d 124 [(2, (0, a2)), (3, (0, t.1)), (4, (0, t.2.1)), (5, (0, t.2.2))] [] M r M') : Ev X m_Model_seating d 35 [(0, (12, a0)), (1, (0, a1)), (2, (0, a2)), (3, (0, s.1)), (4, (0, s.2.1)), (5, (0, s.2.2.1)), (6, (0, s.2.2.2))] [] M r M' := by
  unfold l_Model_seating_35 at h
  refine ev_iload 6 d_Model_seating_35 rfl ?_
  refine ev_aload_n 0 d_Model_seating_37 rfl (by decide) rfl ?_
  refine ev_get (t := 12) (k := 12) (by decide) (by decide) rfl i_Model (by decide) rfl rfl tw_912 d_Model_seating_38 hn_a0 ?_
  refine ev_iload_n 1 d_Model_seating_41 rfl rfl ?_
  obtain ⟨hz6, h⟩ := gx h
  obtain ⟨hg7, h⟩ := gx h
  refine ev_iald d_Model_seating_42 hz6 hg7 ?_
  by_cases hc8 : (mg M (cI (mg M (cI a0) 12)) (a1 : Int).toNat) ≤ s.2.2.2
  · replace h := itp hc8 h
    refine ev_icmp_ge_t (tgt := 124) d_Model_seating_43 (by decide) hc8 ?_
    refine ev_less (L' := [(2, (0, a2)), (3, (0, s.1)), (4, (0, s.2.1)), (5, (0, s.2.2.1))]) [2, 3, 4, 5] rfl ?_
    cases h
    exact hk2 _ rfl
  · replace h := itn hc8 h
    refine ev_icmp_ge_f d_Model_seating_43 (by decide) hc8 ?_
    refine ev_aload_n 0 d_Model_seating_46 rfl (by decide) rfl ?_
    refine ev_get (t := 12) (k := 16) (by decide) (by decide) rfl i_Model (by decide) rfl rfl tw_916 d_Model_seating_47 hn_a0 ?_
    refine ev_bipush d_Model_seating_50 rfl ?_
    refine ev_iload_n 1 d_Model_seating_52 rfl rfl ?_
    refine ev_imul d_Model_seating_53 ?_
    refine ev_iload 6 d_Model_seating_54 rfl ?_
    refine ev_iadd d_Model_seating_56 ?_
    obtain ⟨hz9, h⟩ := gx h
    obtain ⟨hg10, h⟩ := gx h
    refine ev_iald d_Model_seating_57 hz9 hg10 ?_
    refine ev_iconst d_Model_seating_58 rfl ?_
    refine ev_isub d_Model_seating_59 ?_
    obtain ⟨x11, hx11, h⟩ := ltx h
    refine ev_istore' (y := x11) (L' := [(7, (0, x11)), (0, (12, a0)), (1, (0, a1)), (2, (0, a2)), (3, (0, s.1)), (4, (0, s.2.1)), (5, (0, s.2.2.1)), (6, (0, s.2.2.2))]) d_Model_seating_60 (by decide) rfl hx11 ?_
    refine ev_iload 0 d_Model_seating_62 rfl ?_
    by_cases hc12 : 0 ≤ x11
    · replace h := itp hc12 h
      refine ev_if_ge_t (tgt := 70) d_Model_seating_64 (by decide) hc12 ?_
      refine ev_aload_n 1 d_Model_seating_70 rfl (by decide) rfl ?_
      refine ev_iload_n 2 d_Model_seating_71 rfl rfl ?_
      refine ev_iload 7 d_Model_seating_72 rfl ?_
      refine ev_iload 0 d_Model_seating_74 rfl ?_
      obtain ⟨p13, hp13, h⟩ := bx h
      have hRp13 := c_Model_costOf (X := X) (d := d - 1) (by omega) hn_a0 hp13
      refine ev_callV2 (st2 := [(0, p13)]) (as := [(0, a1), (0, s.2.2.2), (0, x11)]) (rest := []) rfl (by decide) (by decide) rfl hn_a0 rfl (Nat.le_of_ble_eq_true rfl) k_Model_costOf ⟨tw_1088, ts_81⟩ (by omega) tw_1086 d_Model_seating_76 hRp13 rfl ?_
      refine ev_istore (L' := [(8, (0, p13)), (7, (0, x11)), (0, (12, a0)), (1, (0, a1)), (2, (0, a2)), (3, (0, s.1)), (4, (0, s.2.1)), (5, (0, s.2.2.1)), (6, (0, s.2.2.2))]) d_Model_seating_79 (by decide) rfl ?_
      refine ev_iload_n 5 d_Model_seating_81 rfl rfl ?_
      refine ev_iload 0 d_Model_seating_82 rfl ?_
      refine ev_iconst d_Model_seating_84 rfl ?_
      by_cases hc14 : p13 ≠ (-1)
      · replace h := itp hc14 h
        refine ev_icmp_ne_t (tgt := 92) d_Model_seating_85 (by decide) hc14 ?_
        refine ev_iload 0 d_Model_seating_92 rfl ?_
        refine ev_less (L' := [(0, (12, a0)), (1, (0, a1)), (2, (0, a2)), (4, (0, s.2.1)), (5, (0, s.2.2.1)), (6, (0, s.2.2.2)), (7, (0, x11))]) [2, 3, 4, 6, 7, 8, 1] rfl ?_
        exact cj_Model_seating_94_35 hd hn_a0 h hk1 hk2
      · replace h := itn hc14 h
        refine ev_icmp_ne_f d_Model_seating_85 (by decide) hc14 ?_
        refine ev_iconst d_Model_seating_88 rfl ?_
        refine ev_goto (tgt := 94) d_Model_seating_89 (by decide) ?_
        refine ev_less (L' := [(0, (12, a0)), (1, (0, a1)), (2, (0, a2)), (4, (0, s.2.1)), (5, (0, s.2.2.1)), (6, (0, s.2.2.2)), (7, (0, x11))]) [2, 3, 4, 6, 7, 8, 1] rfl ?_
        exact cj_Model_seating_94_35 hd hn_a0 h hk1 hk2
    · replace h := itn hc12 h
      refine ev_if_ge_f d_Model_seating_64 (by decide) hc12 ?_
      refine ev_goto (tgt := 118) d_Model_seating_67 (by decide) ?_
      obtain ⟨x23, hx23, h⟩ := ltx h
      refine ev_iinc' 7 (y := x23) (L' := [(6, (0, x23)), (7, (0, x11)), (0, (12, a0)), (1, (0, a1)), (2, (0, a2)), (3, (0, s.1)), (4, (0, s.2.1)), (5, (0, s.2.2.1))]) d_Model_seating_118 rfl (by decide) rfl hx23 ?_
      refine ev_goto (tgt := 35) d_Model_seating_121 (by decide) ?_
      refine ev_less (L' := [(0, (12, a0)), (1, (0, a1)), (2, (0, a2)), (3, (0, s.1)), (4, (0, s.2.1)), (5, (0, s.2.2.1)), (6, (0, x23))]) [2, 3, 4, 5, 6, 7, 0] rfl ?_
      cases h
      exact hk1 _ rfl
def f_Model_seating (M : Mm) (a0 : Int) (a1 : Int) (a2 : Int) : Option (Int × Mm) :=
  lt (mp M (cI a0) 0 0) (fun M1 =>
  (f_Model_isPiece M1 a0 a1).bind (fun p2 =>
  if p2 = 0 then
  some ((-1), M1)
  else
  if a2 < 0 then
  some ((-1), M1)
  else
  if a2 ≤ 2 then
  (loopN (l_Model_seating_35 M1 a0 a1 a2) FU (0, 0, 0, 0)).bind (fun t24 =>
  if a2 ≠ 0 then
  if a2 ≠ 1 then
  some (t24.2.2, M1)
  else
  some (t24.2.1, M1)
  else
  some (t24.1, M1))
  else
  some ((-1), M1)))
theorem c_Model_seating {X : XX} {d : Nat} (hd : 1 ≤ d) {M : Mm} {a0 : Int} {a1 : Int} {a2 : Int} (hn_a0 : a0 ≠ 0) {p : Int × Mm} (h : f_Model_seating M a0 a1 a2 = some p) : Rn X d m_Model_seating [(12, a0), (0, a1), (0, a2)] M (some (0, p.1)) p.2 := by
  refine Rn_of (by decide) rfl (Nat.le_of_ble_eq_true rfl) ?_
  unfold f_Model_seating at h
  refine ev_less (L' := [(0, (12, a0)), (1, (0, a1)), (2, (0, a2))]) [0, 1, 2] rfl ?_
  refine ev_aload_n 0 d_Model_seating_0 rfl (by decide) rfl ?_
  refine ev_iconst d_Model_seating_1 rfl ?_
  obtain ⟨M1, hM1, h⟩ := ltx h
  refine ev_put' (t := 12) (k := 0) (by decide) (by decide) rfl i_Model t_Model_ok n_Model (by decide) rfl rfl rfl rfl tw_900 d_Model_seating_2 hn_a0 hM1 ?_
  refine ev_aload_n 0 d_Model_seating_5 rfl (by decide) rfl ?_
  refine ev_iload_n 1 d_Model_seating_6 rfl rfl ?_
  obtain ⟨p2, hp2, h⟩ := bx h
  have hRp2 := c_Model_isPiece (X := X) (d := d - 1) (by omega) hn_a0 hp2
  refine ev_callV2 (st2 := [(0, p2)]) (as := [(0, a1)]) (rest := []) rfl (by decide) (by decide) rfl hn_a0 rfl (Nat.le_of_ble_eq_true rfl) k_Model_isPiece ⟨tw_1076, ts_79⟩ (by omega) tw_1074 d_Model_seating_7 hRp2 rfl ?_
  by_cases hc3 : p2 = 0
  · replace h := itp hc3 h
    refine ev_if_eq_t (tgt := 22) d_Model_seating_10 (by decide) hc3 ?_
    refine ev_iconst d_Model_seating_22 rfl ?_
    cases h
    exact ev_ret d_Model_seating_23 rfl
  · replace h := itn hc3 h
    refine ev_if_eq_f d_Model_seating_10 (by decide) hc3 ?_
    refine ev_iload_n 2 d_Model_seating_13 rfl rfl ?_
    by_cases hc4 : a2 < 0
    · replace h := itp hc4 h
      refine ev_if_lt_t (tgt := 22) d_Model_seating_14 (by decide) hc4 ?_
      refine ev_iconst d_Model_seating_22 rfl ?_
      cases h
      exact ev_ret d_Model_seating_23 rfl
    · replace h := itn hc4 h
      refine ev_if_lt_f d_Model_seating_14 (by decide) hc4 ?_
      refine ev_iload_n 2 d_Model_seating_17 rfl rfl ?_
      refine ev_iconst d_Model_seating_18 rfl ?_
      by_cases hc5 : a2 ≤ 2
      · replace h := itp hc5 h
        refine ev_icmp_le_t (tgt := 24) d_Model_seating_19 (by decide) hc5 ?_
        refine ev_iconst d_Model_seating_24 rfl ?_
        refine ev_istore_n (L' := [(3, (0, 0)), (0, (12, a0)), (1, (0, a1)), (2, (0, a2))]) d_Model_seating_25 rfl (by decide) rfl ?_
        refine ev_iconst d_Model_seating_26 rfl ?_
        refine ev_istore (L' := [(4, (0, 0)), (3, (0, 0)), (0, (12, a0)), (1, (0, a1)), (2, (0, a2))]) d_Model_seating_27 (by decide) rfl ?_
        refine ev_iconst d_Model_seating_29 rfl ?_
        refine ev_istore (L' := [(5, (0, 0)), (4, (0, 0)), (3, (0, 0)), (0, (12, a0)), (1, (0, a1)), (2, (0, a2))]) d_Model_seating_30 (by decide) rfl ?_
        refine ev_iconst d_Model_seating_32 rfl ?_
        refine ev_istore (L' := [(6, (0, 0)), (5, (0, 0)), (4, (0, 0)), (3, (0, 0)), (0, (12, a0)), (1, (0, a1)), (2, (0, a2))]) d_Model_seating_33 (by decide) rfl ?_
        obtain ⟨t24, ht24, h⟩ := bx h
        refine ev_less (L' := [(0, (12, a0)), (1, (0, a1)), (2, (0, a2)), (3, (0, 0)), (4, (0, 0)), (5, (0, 0)), (6, (0, 0))]) [4, 5, 6, 3, 2, 1, 0] rfl ?_
        refine loop_ev (step := l_Model_seating_35 M1 a0 a1 a2) (P := fun w : Int × Int × Int × Int => Ev X m_Model_seating d 35 [(0, (12, a0)), (1, (0, a1)), (2, (0, a2)), (3, (0, w.1)), (4, (0, w.2.1)), (5, (0, w.2.2.1)), (6, (0, w.2.2.2))] [] M1 (some (0, p.1)) p.2) (Q := fun w => Ev X m_Model_seating d 124 [(2, (0, a2)), (3, (0, w.1)), (4, (0, w.2.1)), (5, (0, w.2.2))] [] M1 (some (0, p.1)) p.2) (fun w x hs k1 k2 => cs_l_Model_seating_35 hd hn_a0 hs k1 k2) FU (0, 0, 0, 0) t24 ht24 ?_
        refine ev_iload_n 0 d_Model_seating_124 rfl rfl ?_
        by_cases hc25 : a2 ≠ 0
        · replace h := itp hc25 h
          refine ev_if_ne_t (tgt := 132) d_Model_seating_125 (by decide) hc25 ?_
          refine ev_iload_n 0 d_Model_seating_132 rfl rfl ?_
          refine ev_iconst d_Model_seating_133 rfl ?_
          by_cases hc26 : a2 ≠ 1
          · replace h := itp hc26 h
            refine ev_icmp_ne_t (tgt := 142) d_Model_seating_134 (by decide) hc26 ?_
            refine ev_iload 3 d_Model_seating_142 rfl ?_
            cases h
            exact ev_ret d_Model_seating_144 rfl
          · replace h := itn hc26 h
            refine ev_icmp_ne_f d_Model_seating_134 (by decide) hc26 ?_
            refine ev_iload 2 d_Model_seating_137 rfl ?_
            refine ev_goto (tgt := 144) d_Model_seating_139 (by decide) ?_
            cases h
            exact ev_ret d_Model_seating_144 rfl
        · replace h := itn hc25 h
          refine ev_if_ne_f d_Model_seating_125 (by decide) hc25 ?_
          refine ev_iload_n 1 d_Model_seating_128 rfl rfl ?_
          refine ev_goto (tgt := 144) d_Model_seating_129 (by decide) ?_
          cases h
          exact ev_ret d_Model_seating_144 rfl
      · replace h := itn hc5 h
        refine ev_icmp_le_f d_Model_seating_19 (by decide) hc5 ?_
        refine ev_iconst d_Model_seating_22 rfl ?_
        cases h
        exact ev_ret d_Model_seating_23 rfl
end
