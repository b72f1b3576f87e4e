noncomputable section
def j_Model_may_217_37 (M : Mm) (a0 : Int) (a1 : Int) (a2 : Int) (z3 : Int) (z4 : Int) (y0 : Int) (y1 : Int) (y2 : Int) : Option ((Int × Int × Mm) ⊕ (Mm)) :=
  if y2 ≠ 0 then
  if (0 : Int) ≤ y1 ∧ y1 < (ml M (cI y2) : Int) then
  lt (mp M (cI y2) (y1 : Int).toNat y0) (fun M20 =>
  lt ((w32 (z3 + 1))) (fun x21 : Int =>
  lt (w32 (z4 + 1)) (fun x22 : Int =>
  some (.inl (x21, x22, M20)))))
  else none
  else none
theorem cj_Model_may_217_37 {X : XX} {d : Nat} (hd : 2 ≤ d) {M : Mm} {a0 : Int} {a1 : Int} {a2 : Int} {z3 : Int} {z4 : Int} {y0 : Int} {y1 : Int} {y2 : Int} (hn_a0 : a0 ≠ 0) {x : (Int × Int × Mm) ⊕ (Mm)} {r : Option AV} {M' : Mm} (h : j_Model_may_217_37 M a0 a1 a2 z3 z4 y0 y1 y2 = some x) (hk1 : ∀ s : Int × Int × Mm, x = .inl s → Ev X m_Model_may d 37 [(0, (12, a0)), (1, (0, a1)), (2, (0, a2)), (3, (0, s.1)), (4, (0, s.2.1))] [] s.2.2 r M') (hk2 : ∀ t : Mm, x = .inr t → Ev X m_Model_may d 228 [(0, (12, a0))] [] t r M') : Ev X m_Model_may d 217 [(0, (12, a0)), (1, (0, a1)), (2, (0, a2)), (3, (0, z3)), (4, (0, z4))] [(0, y0), (0, y1), (13, y2)] M r M' := by
  unfold j_Model_may_217_37 at h
  obtain ⟨hz18, h⟩ := gx h
  obtain ⟨hg19, h⟩ := gx h
  obtain ⟨M20, hM20, h⟩ := ltx h
  refine ev_iast' d_Model_may_217 hz18 hg19 hM20 ?_
  refine ev_iload_n 3 d_Model_may_218 rfl rfl ?_
  refine ev_iconst d_Model_may_219 rfl ?_
  refine ev_iadd d_Model_may_220 ?_
  obtain ⟨x21, hx21, h⟩ := ltx h
  refine ev_istore_n' (y := x21) (L' := [(3, (0, x21)), (0, (12, a0)), (1, (0, a1)), (2, (0, a2)), (4, (0, z4))]) d_Model_may_221 rfl (by decide) rfl hx21 ?_
  obtain ⟨x22, hx22, h⟩ := ltx h
  refine ev_iinc' 4 (y := x22) (L' := [(4, (0, x22)), (3, (0, x21)), (0, (12, a0)), (1, (0, a1)), (2, (0, a2))]) d_Model_may_222 rfl (by decide) rfl hx22 ?_
  refine ev_goto (tgt := 37) d_Model_may_225 (by decide) ?_
  refine ev_less (L' := [(0, (12, a0)), (1, (0, a1)), (2, (0, a2)), (3, (0, x21)), (4, (0, x22))]) [2, 3, 4, 1, 0] rfl ?_
  cases h
  exact hk1 _ rfl
def j_Model_may_85_37 (M : Mm) (a0 : Int) (a1 : Int) (a2 : Int) (z3 : Int) (z4 : Int) (y0 : Int) (y1 : Int) (y2 : Int) : Option ((Int × Int × Mm) ⊕ (Mm)) :=
  if (0 : Int) ≤ y1 ∧ y1 < (ml M (cI y2) : Int) then
  lt (mp M (cI y2) (y1 : Int).toNat y0) (fun M43 =>
  lt (w32 (z4 + 1)) (fun x44 : Int =>
  some (.inl (z3, x44, M43))))
  else none
theorem cj_Model_may_85_37 {X : XX} {d : Nat} (hd : 2 ≤ d) {M : Mm} {a0 : Int} {a1 : Int} {a2 : Int} {z3 : Int} {z4 : Int} {y0 : Int} {y1 : Int} {y2 : Int} (hn_a0 : a0 ≠ 0) (hn_y2 : y2 ≠ 0) {x : (Int × Int × Mm) ⊕ (Mm)} {r : Option AV} {M' : Mm} (h : j_Model_may_85_37 M a0 a1 a2 z3 z4 y0 y1 y2 = some x) (hk1 : ∀ s : Int × Int × Mm, x = .inl s → Ev X m_Model_may d 37 [(0, (12, a0)), (1, (0, a1)), (2, (0, a2)), (3, (0, s.1)), (4, (0, s.2.1))] [] s.2.2 r M') (hk2 : ∀ t : Mm, x = .inr t → Ev X m_Model_may d 228 [(0, (12, a0))] [] t r M') : Ev X m_Model_may d 85 [(0, (12, a0)), (1, (0, a1)), (2, (0, a2)), (3, (0, z3)), (4, (0, z4))] [(0, y0), (0, y1), (13, y2)] M r M' := by
  unfold j_Model_may_85_37 at h
  obtain ⟨hg42, h⟩ := gx h
  obtain ⟨M43, hM43, h⟩ := ltx h
  refine ev_iast' d_Model_may_85 hn_y2 hg42 hM43 ?_
  refine ev_goto (tgt := 222) d_Model_may_86 (by decide) ?_
  obtain ⟨x44, hx44, h⟩ := ltx h
  refine ev_iinc' 4 (y := x44) (L' := [(4, (0, x44)), (0, (12, a0)), (1, (0, a1)), (2, (0, a2)), (3, (0, z3))]) d_Model_may_222 rfl (by decide) rfl hx44 ?_
  refine ev_goto (tgt := 37) d_Model_may_225 (by decide) ?_
  refine ev_less (L' := [(0, (12, a0)), (1, (0, a1)), (2, (0, a2)), (3, (0, z3)), (4, (0, x44))]) [1, 2, 3, 4, 0] rfl ?_
  cases h
  exact hk1 _ rfl
def l_Model_may_37 (a0 : Int) (a1 : Int) (a2 : Int) (s : Int × Int × Mm) : Option ((Int × Int × Mm) ⊕ (Mm)) :=
  if (mg s.2.2 (cI a0) 38) ≤ s.2.1 then
  some (.inr s.2.2)
  else
  if (mg s.2.2 (cI a0) 39) ≠ 0 then
  if (0 : Int) ≤ s.2.1 ∧ s.2.1 < (ml s.2.2 (cI (mg s.2.2 (cI a0) 39)) : Int) then
  lt ((mg s.2.2 (cI (mg s.2.2 (cI a0) 39)) (s.2.1 : Int).toNat)) (fun x10 : Int =>
  if x10 ≠ 33 then
  if x10 ≤ 5 then
  if x10 ≠ 0 then
  if x10 ≠ 1 then
  if x10 ≠ 2 then
  if x10 ≠ 3 then
  if x10 ≠ 4 then
  j_Model_may_217_37 s.2.2 a0 a1 a2 s.1 s.2.1 a2 s.1 ((mg s.2.2 (cI a0) 46))
  else
  (f_Model_copiesAt s.2.2 a0 a1 a2 (mg s.2.2 (cI a0) 24)).bind (fun p23 =>
  j_Model_may_217_37 s.2.2 a0 a1 a2 s.1 s.2.1 p23 s.1 ((mg s.2.2 (cI a0) 46)))
  else
  if (mg s.2.2 (cI a0) 4) ≠ 0 then
  if (0 : Int) ≤ a1 ∧ a1 < (ml s.2.2 (cI (mg s.2.2 (cI a0) 4)) : Int) then
  j_Model_may_217_37 s.2.2 a0 a1 a2 s.1 s.2.1 ((mg s.2.2 (cI (mg s.2.2 (cI a0) 4)) (a1 : Int).toNat)) s.1 ((mg s.2.2 (cI a0) 46))
  else none
  else none
  else
  if (mg s.2.2 (cI a0) 3) ≠ 0 then
  if (0 : Int) ≤ a1 ∧ a1 < (ml s.2.2 (cI (mg s.2.2 (cI a0) 3)) : Int) then
  j_Model_may_217_37 s.2.2 a0 a1 a2 s.1 s.2.1 ((w32 (a2 - (mg s.2.2 (cI (mg s.2.2 (cI a0) 3)) (a1 : Int).toNat)))) s.1 ((mg s.2.2 (cI a0) 46))
  else none
  else none
  else
  if (mg s.2.2 (cI a0) 2) ≠ 0 then
  if (0 : Int) ≤ a1 ∧ a1 < (ml s.2.2 (cI (mg s.2.2 (cI a0) 2)) : Int) then
  j_Model_may_217_37 s.2.2 a0 a1 a2 s.1 s.2.1 ((mg s.2.2 (cI (mg s.2.2 (cI a0) 2)) (a1 : Int).toNat)) s.1 ((mg s.2.2 (cI a0) 46))
  else none
  else none
  else
  if (mg s.2.2 (cI a0) 40) ≠ 0 then
  if (0 : Int) ≤ s.2.1 ∧ s.2.1 < (ml s.2.2 (cI (mg s.2.2 (cI a0) 40)) : Int) then
  j_Model_may_217_37 s.2.2 a0 a1 a2 s.1 s.2.1 ((mg s.2.2 (cI (mg s.2.2 (cI a0) 40)) (s.2.1 : Int).toNat)) s.1 ((mg s.2.2 (cI a0) 46))
  else none
  else none
  else
  lt ((w32 (s.1 - 1))) (fun x32 : Int =>
  if (mg s.2.2 (cI a0) 46) ≠ 0 then
  if (0 : Int) ≤ (w32 (x32 - 1)) ∧ (w32 (x32 - 1)) < (ml s.2.2 (cI (mg s.2.2 (cI a0) 46)) : Int) then
  if (0 : Int) ≤ x32 ∧ x32 < (ml s.2.2 (cI (mg s.2.2 (cI a0) 46)) : Int) then
  (f_Model_done s.2.2 a0 x10 (mg s.2.2 (cI (mg s.2.2 (cI a0) 46)) ((w32 (x32 - 1)) : Int).toNat) (mg s.2.2 (cI (mg s.2.2 (cI a0) 46)) (x32 : Int).toNat)).bind (fun p36 =>
  lt (mp s.2.2 (cI (mg s.2.2 (cI a0) 46)) ((w32 (x32 - 1)) : Int).toNat p36) (fun M37 =>
  lt (w32 (s.2.1 + 1)) (fun x38 : Int =>
  some (.inl (x32, x38, M37)))))
  else none
  else none
  else none)
  else
  if (mg s.2.2 (cI a0) 46) ≠ 0 then
  if (0 : Int) ≤ (w32 (s.1 - 1)) ∧ (w32 (s.1 - 1)) < (ml s.2.2 (cI (mg s.2.2 (cI a0) 46)) : Int) then
  if (mg s.2.2 (cI (mg s.2.2 (cI a0) 46)) ((w32 (s.1 - 1)) : Int).toNat) ≠ 0 then
  j_Model_may_85_37 s.2.2 a0 a1 a2 s.1 s.2.1 0 ((w32 (s.1 - 1))) ((mg s.2.2 (cI a0) 46))
  else
  j_Model_may_85_37 s.2.2 a0 a1 a2 s.1 s.2.1 1 ((w32 (s.1 - 1))) ((mg s.2.2 (cI a0) 46))
  else none
  else none)
  else none
  else none
theorem cs_l_Model_may_37 {X : XX} {d : Nat} (hd : 2 ≤ d) {a0 : Int} {a1 : Int} {a2 : Int} (hn_a0 : a0 ≠ 0) {s : Int × Int × Mm} {x : (Int × Int × Mm) ⊕ (Mm)} {r : Option AV} {M' : Mm} (h : l_Model_may_37 a0 a1 a2 s = some x) (hk1 : ∀ s : Int × Int × Mm, x = .inl s → Ev X m_Model_may d 37 [(0, (12, a0)), (1, (0, a1)), (2, (0, a2)), (3, (0, s.1)), (4, (0, s.2.1))] [] s.2.2 r M') (hk2 : ∀ t : Mm, x = .inr t → Ev X m_Model_may d 228 [(0, (12, a0))] [] t r M') : Ev X m_Model_may d 37 [(0, (12, a0)), (1, (0, a1)), (2, (0, a2)), (3, (0, s.1)), (4, (0, s.2.1))] [] s.2.2 r M' := by
  unfold l_Model_may_37 at h
  refine ev_iload 4 d_Model_may_37 rfl ?_
  refine ev_aload_n 0 d_Model_may_39 rfl (by decide) rfl ?_
  refine ev_get (t := 12) (k := 38) (by decide) (by decide) rfl i_Model (by decide) rfl rfl tw_938 d_Model_may_40 hn_a0 ?_
  by_cases hc7 : (mg s.2.2 (cI a0) 38) ≤ s.2.1
  · replace h := itp hc7 h
    refine ev_icmp_ge_t (tgt := 228) d_Model_may_43 (by decide) hc7 ?_
    refine ev_less (L' := [(0, (12, a0))]) [0] rfl ?_
    cases h
    exact hk2 _ rfl
  · replace h := itn hc7 h
    refine ev_icmp_ge_f d_Model_may_43 (by decide) hc7 ?_
    refine ev_aload_n 0 d_Model_may_46 rfl (by decide) rfl ?_
    refine ev_get (t := 12) (k := 39) (by decide) (by decide) rfl i_Model (by decide) rfl rfl tw_939 d_Model_may_47 hn_a0 ?_
    refine ev_iload 4 d_Model_may_50 rfl ?_
    obtain ⟨hz8, h⟩ := gx h
    obtain ⟨hg9, h⟩ := gx h
    refine ev_iald d_Model_may_52 hz8 hg9 ?_
    obtain ⟨x10, hx10, h⟩ := ltx h
    refine ev_istore' (y := x10) (L' := [(5, (0, x10)), (0, (12, a0)), (1, (0, a1)), (2, (0, a2)), (3, (0, s.1)), (4, (0, s.2.1))]) d_Model_may_53 (by decide) rfl hx10 ?_
    refine ev_iload 0 d_Model_may_55 rfl ?_
    refine ev_bipush d_Model_may_57 rfl ?_
    by_cases hc11 : x10 ≠ 33
    · replace h := itp hc11 h
      refine ev_icmp_ne_t (tgt := 89) d_Model_may_59 (by decide) hc11 ?_
      refine ev_iload 0 d_Model_may_89 rfl ?_
      refine ev_iconst d_Model_may_91 rfl ?_
      by_cases hc12 : x10 ≤ 5
      · replace h := itp hc12 h
        refine ev_icmp_le_t (tgt := 130) d_Model_may_92 (by decide) hc12 ?_
        refine ev_aload_n 1 d_Model_may_130 rfl (by decide) rfl ?_
        refine ev_get (t := 12) (k := 46) (by decide) (by decide) rfl i_Model (by decide) rfl rfl tw_946 d_Model_may_131 hn_a0 ?_
        refine ev_iload_n 4 d_Model_may_134 rfl rfl ?_
        refine ev_iload 0 d_Model_may_135 rfl ?_
        by_cases hc13 : x10 ≠ 0
        · replace h := itp hc13 h
          refine ev_if_ne_t (tgt := 150) d_Model_may_137 (by decide) hc13 ?_
          refine ev_iload 0 d_Model_may_150 rfl ?_
          refine ev_iconst d_Model_may_152 rfl ?_
          by_cases hc14 : x10 ≠ 1
          · replace h := itp hc14 h
            refine ev_icmp_ne_t (tgt := 165) d_Model_may_153 (by decide) hc14 ?_
            refine ev_iload 0 d_Model_may_165 rfl ?_
            refine ev_iconst d_Model_may_167 rfl ?_
            by_cases hc15 : x10 ≠ 2
            · replace h := itp hc15 h
              refine ev_icmp_ne_t (tgt := 182) d_Model_may_168 (by decide) hc15 ?_
              refine ev_iload 0 d_Model_may_182 rfl ?_
              refine ev_iconst d_Model_may_184 rfl ?_
              by_cases hc16 : x10 ≠ 3
              · replace h := itp hc16 h
                refine ev_icmp_ne_t (tgt := 197) d_Model_may_185 (by decide) hc16 ?_
                refine ev_iload 0 d_Model_may_197 rfl ?_
                refine ev_iconst d_Model_may_199 rfl ?_
                by_cases hc17 : x10 ≠ 4
                · replace h := itp hc17 h
                  refine ev_icmp_ne_t (tgt := 216) d_Model_may_200 (by decide) hc17 ?_
                  refine ev_iload_n 3 d_Model_may_216 rfl rfl ?_
                  refine ev_less (L' := [(0, (12, a0)), (1, (0, a1)), (2, (0, a2)), (3, (0, s.1)), (4, (0, s.2.1))]) [1, 2, 3, 4, 5] rfl ?_
                  exact cj_Model_may_217_37 hd hn_a0 h hk1 hk2
                · replace h := itn hc17 h
                  refine ev_icmp_ne_f d_Model_may_200 (by decide) hc17 ?_
                  refine ev_aload_n 1 d_Model_may_203 rfl (by decide) rfl ?_
                  refine ev_iload_n 2 d_Model_may_204 rfl rfl ?_
                  refine ev_iload_n 3 d_Model_may_205 rfl rfl ?_
                  refine ev_aload_n 1 d_Model_may_206 rfl (by decide) rfl ?_
                  refine ev_get (t := 12) (k := 24) (by decide) (by decide) rfl i_Model (by decide) rfl rfl tw_924 d_Model_may_207 hn_a0 ?_
                  obtain ⟨p23, hp23, h⟩ := bx h
                  have hRp23 := c_Model_copiesAt (X := X) (d := d - 1) (by omega) hn_a0 hp23
                  refine ev_callV2 (st2 := [(0, p23), (0, s.1), (13, (mg s.2.2 (cI a0) 46))]) (as := [(0, a1), (0, a2), (0, (mg s.2.2 (cI a0) 24))]) (rest := [(0, s.1), (13, (mg s.2.2 (cI a0) 46))]) rfl (by decide) (by decide) rfl hn_a0 rfl (Nat.le_of_ble_eq_true rfl) k_Model_copiesAt ⟨tw_1197, ts_96⟩ (by omega) tw_1195 d_Model_may_210 hRp23 rfl ?_
                  refine ev_goto (tgt := 217) d_Model_may_213 (by decide) ?_
                  refine ev_less (L' := [(0, (12, a0)), (1, (0, a1)), (2, (0, a2)), (3, (0, s.1)), (4, (0, s.2.1))]) [1, 2, 3, 4, 5] rfl ?_
                  exact cj_Model_may_217_37 hd hn_a0 h hk1 hk2
              · replace h := itn hc16 h
                refine ev_icmp_ne_f d_Model_may_185 (by decide) hc16 ?_
                refine ev_aload_n 1 d_Model_may_188 rfl (by decide) rfl ?_
                refine ev_get (t := 12) (k := 4) (by decide) (by decide) rfl i_Model (by decide) rfl rfl tw_904 d_Model_may_189 hn_a0 ?_
                refine ev_iload_n 2 d_Model_may_192 rfl rfl ?_
                obtain ⟨hz24, h⟩ := gx h
                obtain ⟨hg25, h⟩ := gx h
                refine ev_iald d_Model_may_193 hz24 hg25 ?_
                refine ev_goto (tgt := 217) d_Model_may_194 (by decide) ?_
                refine ev_less (L' := [(0, (12, a0)), (1, (0, a1)), (2, (0, a2)), (3, (0, s.1)), (4, (0, s.2.1))]) [1, 2, 3, 4, 5] rfl ?_
                exact cj_Model_may_217_37 hd hn_a0 h hk1 hk2
            · replace h := itn hc15 h
              refine ev_icmp_ne_f d_Model_may_168 (by decide) hc15 ?_
              refine ev_iload_n 3 d_Model_may_171 rfl rfl ?_
              refine ev_aload_n 1 d_Model_may_172 rfl (by decide) rfl ?_
              refine ev_get (t := 12) (k := 3) (by decide) (by decide) rfl i_Model (by decide) rfl rfl tw_903 d_Model_may_173 hn_a0 ?_
              refine ev_iload_n 2 d_Model_may_176 rfl rfl ?_
              obtain ⟨hz26, h⟩ := gx h
              obtain ⟨hg27, h⟩ := gx h
              refine ev_iald d_Model_may_177 hz26 hg27 ?_
              refine ev_isub d_Model_may_178 ?_
              refine ev_goto (tgt := 217) d_Model_may_179 (by decide) ?_
              refine ev_less (L' := [(0, (12, a0)), (1, (0, a1)), (2, (0, a2)), (3, (0, s.1)), (4, (0, s.2.1))]) [1, 2, 3, 4, 5] rfl ?_
              exact cj_Model_may_217_37 hd hn_a0 h hk1 hk2
          · replace h := itn hc14 h
            refine ev_icmp_ne_f d_Model_may_153 (by decide) hc14 ?_
            refine ev_aload_n 1 d_Model_may_156 rfl (by decide) rfl ?_
            refine ev_get (t := 12) (k := 2) (by decide) (by decide) rfl i_Model (by decide) rfl rfl tw_902 d_Model_may_157 hn_a0 ?_
            refine ev_iload_n 2 d_Model_may_160 rfl rfl ?_
            obtain ⟨hz28, h⟩ := gx h
            obtain ⟨hg29, h⟩ := gx h
            refine ev_iald d_Model_may_161 hz28 hg29 ?_
            refine ev_goto (tgt := 217) d_Model_may_162 (by decide) ?_
            refine ev_less (L' := [(0, (12, a0)), (1, (0, a1)), (2, (0, a2)), (3, (0, s.1)), (4, (0, s.2.1))]) [1, 2, 3, 4, 5] rfl ?_
            exact cj_Model_may_217_37 hd hn_a0 h hk1 hk2
        · replace h := itn hc13 h
          refine ev_if_ne_f d_Model_may_137 (by decide) hc13 ?_
          refine ev_aload_n 1 d_Model_may_140 rfl (by decide) rfl ?_
          refine ev_get (t := 12) (k := 40) (by decide) (by decide) rfl i_Model (by decide) rfl rfl tw_940 d_Model_may_141 hn_a0 ?_
          refine ev_iload 5 d_Model_may_144 rfl ?_
          obtain ⟨hz30, h⟩ := gx h
          obtain ⟨hg31, h⟩ := gx h
          refine ev_iald d_Model_may_146 hz30 hg31 ?_
          refine ev_goto (tgt := 217) d_Model_may_147 (by decide) ?_
          refine ev_less (L' := [(0, (12, a0)), (1, (0, a1)), (2, (0, a2)), (3, (0, s.1)), (4, (0, s.2.1))]) [1, 2, 3, 4, 5] rfl ?_
          exact cj_Model_may_217_37 hd hn_a0 h hk1 hk2
      · replace h := itn hc12 h
        refine ev_icmp_le_f d_Model_may_92 (by decide) hc12 ?_
        refine ev_iload_n 4 d_Model_may_95 rfl rfl ?_
        refine ev_iconst d_Model_may_96 rfl ?_
        refine ev_isub d_Model_may_97 ?_
        obtain ⟨x32, hx32, h⟩ := ltx h
        refine ev_istore_n' (y := x32) (L' := [(3, (0, x32)), (5, (0, x10)), (0, (12, a0)), (1, (0, a1)), (2, (0, a2)), (4, (0, s.2.1))]) d_Model_may_98 rfl (by decide) rfl hx32 ?_
        refine ev_aload_n 2 d_Model_may_99 rfl (by decide) rfl ?_
        refine ev_get (t := 12) (k := 46) (by decide) (by decide) rfl i_Model (by decide) rfl rfl tw_946 d_Model_may_100 hn_a0 ?_
        refine ev_iload_n 0 d_Model_may_103 rfl rfl ?_
        refine ev_iconst d_Model_may_104 rfl ?_
        refine ev_isub d_Model_may_105 ?_
        refine ev_aload_n 2 d_Model_may_106 rfl (by decide) rfl ?_
        refine ev_iload 1 d_Model_may_107 rfl ?_
        refine ev_aload_n 2 d_Model_may_109 rfl (by decide) rfl ?_
        refine ev_get (t := 12) (k := 46) (by decide) (by decide) rfl i_Model (by decide) rfl rfl tw_946 d_Model_may_110 hn_a0 ?_
        refine ev_iload_n 0 d_Model_may_113 rfl rfl ?_
        refine ev_iconst d_Model_may_114 rfl ?_
        refine ev_isub d_Model_may_115 ?_
        obtain ⟨hz33, h⟩ := gx h
        obtain ⟨hg34, h⟩ := gx h
        refine ev_iald d_Model_may_116 hz33 hg34 ?_
        refine ev_aload_n 2 d_Model_may_117 rfl (by decide) rfl ?_
        refine ev_get (t := 12) (k := 46) (by decide) (by decide) rfl i_Model (by decide) rfl rfl tw_946 d_Model_may_118 hn_a0 ?_
        refine ev_iload_n 0 d_Model_may_121 rfl rfl ?_
        obtain ⟨hg35, h⟩ := gx h
        refine ev_iald d_Model_may_122 hz33 hg35 ?_
        obtain ⟨p36, hp36, h⟩ := bx h
        have hRp36 := c_Model_done (X := X) (d := d - 1) (by omega) hn_a0 hp36
        refine ev_callV2 (st2 := [(0, p36), (0, (w32 (x32 - 1))), (13, (mg s.2.2 (cI a0) 46))]) (as := [(0, x10), (0, (mg s.2.2 (cI (mg s.2.2 (cI a0) 46)) ((w32 (x32 - 1)) : Int).toNat)), (0, (mg s.2.2 (cI (mg s.2.2 (cI a0) 46)) (x32 : Int).toNat))]) (rest := [(0, (w32 (x32 - 1))), (13, (mg s.2.2 (cI a0) 46))]) rfl (by decide) (by decide) rfl hn_a0 rfl (Nat.le_of_ble_eq_true rfl) k_Model_done ⟨tw_1325, ts_120⟩ (by omega) tw_1323 d_Model_may_123 hRp36 rfl ?_
        obtain ⟨M37, hM37, h⟩ := ltx h
        refine ev_iast' d_Model_may_126 hz33 hg34 hM37 ?_
        refine ev_goto (tgt := 222) d_Model_may_127 (by decide) ?_
        obtain ⟨x38, hx38, h⟩ := ltx h
        refine ev_iinc' 5 (y := x38) (L' := [(4, (0, x38)), (3, (0, x32)), (5, (0, x10)), (0, (12, a0)), (1, (0, a1)), (2, (0, a2))]) d_Model_may_222 rfl (by decide) rfl hx38 ?_
        refine ev_goto (tgt := 37) d_Model_may_225 (by decide) ?_
        refine ev_less (L' := [(0, (12, a0)), (1, (0, a1)), (2, (0, a2)), (3, (0, x32)), (4, (0, x38))]) [3, 4, 5, 1, 0] rfl ?_
        cases h
        exact hk1 _ rfl
    · replace h := itn hc11 h
      refine ev_icmp_ne_f d_Model_may_59 (by decide) hc11 ?_
      refine ev_aload_n 1 d_Model_may_62 rfl (by decide) rfl ?_
      refine ev_get (t := 12) (k := 46) (by decide) (by decide) rfl i_Model (by decide) rfl rfl tw_946 d_Model_may_63 hn_a0 ?_
      refine ev_iload_n 4 d_Model_may_66 rfl rfl ?_
      refine ev_iconst d_Model_may_67 rfl ?_
      refine ev_isub d_Model_may_68 ?_
      refine ev_aload_n 1 d_Model_may_69 rfl (by decide) rfl ?_
      refine ev_get (t := 12) (k := 46) (by decide) (by decide) rfl i_Model (by decide) rfl rfl tw_946 d_Model_may_70 hn_a0 ?_
      refine ev_iload_n 4 d_Model_may_73 rfl rfl ?_
      refine ev_iconst d_Model_may_74 rfl ?_
      refine ev_isub d_Model_may_75 ?_
      obtain ⟨hz39, h⟩ := gx h
      obtain ⟨hg40, h⟩ := gx h
      refine ev_iald d_Model_may_76 hz39 hg40 ?_
      by_cases hc41 : (mg s.2.2 (cI (mg s.2.2 (cI a0) 46)) ((w32 (s.1 - 1)) : Int).toNat) ≠ 0
      · replace h := itp hc41 h
        refine ev_if_ne_t (tgt := 84) d_Model_may_77 (by decide) hc41 ?_
        refine ev_iconst d_Model_may_84 rfl ?_
        refine ev_less (L' := [(0, (12, a0)), (1, (0, a1)), (2, (0, a2)), (3, (0, s.1)), (4, (0, s.2.1))]) [1, 2, 3, 4, 5] rfl ?_
        exact cj_Model_may_85_37 hd hn_a0 hz39 h hk1 hk2
      · replace h := itn hc41 h
        refine ev_if_ne_f d_Model_may_77 (by decide) hc41 ?_
        refine ev_iconst d_Model_may_80 rfl ?_
        refine ev_goto (tgt := 85) d_Model_may_81 (by decide) ?_
        refine ev_less (L' := [(0, (12, a0)), (1, (0, a1)), (2, (0, a2)), (3, (0, s.1)), (4, (0, s.2.1))]) [1, 2, 3, 4, 5] rfl ?_
        exact cj_Model_may_85_37 hd hn_a0 hz39 h hk1 hk2
def f_Model_may (M : Mm) (a0 : Int) (a1 : Int) (a2 : Int) : Option (Int × Mm) :=
  lt (mp M (cI a0) 0 0) (fun M1 =>
  (f_Model_isPlayer M1 a0 a1).bind (fun p2 =>
  if p2 = 0 then
  some ((-1), M1)
  else
  (f_Model_isDay M1 a0 a2).bind (fun p4 =>
  if p4 ≠ 0 then
  if (mg M1 (cI a0) 38) ≠ 0 then
  (loopN (l_Model_may_37 a0 a1 a2) FU (0, 0, M1)).bind (fun t45 =>
  if (mg t45 (cI a0) 46) ≠ 0 then
  if (0 : Int) ≤ 0 ∧ 0 < (ml t45 (cI (mg t45 (cI a0) 46)) : Int) then
  some ((mg t45 (cI (mg t45 (cI a0) 46)) (0 : Int).toNat), t45)
  else none
  else none)
  else
  some (1, M1)
  else
  some ((-1), M1))))
theorem c_Model_may {X : XX} {d : Nat} (hd : 2 ≤ d) {M : Mm} {a0 : Int} {a1 : Int} {a2 : Int} (hn_a0 : a0 ≠ 0) {p : Int × Mm} (h : f_Model_may M a0 a1 a2 = some p) : Rn X d m_Model_may [(12, a0), (0, a1), (0, a2)] M (some (0, p.1)) p.2 := by
  refine Rn_of (by decide) rfl (Nat.le_of_ble_eq_true rfl) ?_
  unfold f_Model_may at h
  refine ev_less (L' := [(0, (12, a0)), (1, (0, a1)), (2, (0, a2))]) [0, 1, 2] rfl ?_
  refine ev_aload_n 0 d_Model_may_0 rfl (by decide) rfl ?_
  refine ev_iconst d_Model_may_1 rfl ?_
  obtain ⟨M1, hM1, h⟩ := ltx h
  refine ev_put' (t := 12) (k := 0) (by decide) (by decide) rfl i_Model t_Model_ok n_Model (by decide) rfl rfl rfl rfl tw_900 d_Model_may_2 hn_a0 hM1 ?_
  refine ev_aload_n 0 d_Model_may_5 rfl (by decide) rfl ?_
  refine ev_iload_n 1 d_Model_may_6 rfl rfl ?_
  obtain ⟨p2, hp2, h⟩ := bx h
  have hRp2 := c_Model_isPlayer (X := X) (d := d - 1) (by omega) hn_a0 hp2
  refine ev_callV2 (st2 := [(0, p2)]) (as := [(0, a1)]) (rest := []) rfl (by decide) (by decide) rfl hn_a0 rfl (Nat.le_of_ble_eq_true rfl) k_Model_isPlayer ⟨tw_1056, ts_77⟩ (by omega) tw_1054 d_Model_may_7 hRp2 rfl ?_
  by_cases hc3 : p2 = 0
  · replace h := itp hc3 h
    refine ev_if_eq_t (tgt := 21) d_Model_may_10 (by decide) hc3 ?_
    refine ev_iconst d_Model_may_21 rfl ?_
    cases h
    exact ev_ret d_Model_may_22 rfl
  · replace h := itn hc3 h
    refine ev_if_eq_f d_Model_may_10 (by decide) hc3 ?_
    refine ev_aload_n 0 d_Model_may_13 rfl (by decide) rfl ?_
    refine ev_iload_n 2 d_Model_may_14 rfl rfl ?_
    obtain ⟨p4, hp4, h⟩ := bx h
    have hRp4 := c_Model_isDay (X := X) (d := d - 1) (by omega) hn_a0 hp4
    refine ev_callV2 (st2 := [(0, p4)]) (as := [(0, a2)]) (rest := []) rfl (by decide) (by decide) rfl hn_a0 rfl (Nat.le_of_ble_eq_true rfl) k_Model_isDay ⟨tw_1177, ts_93⟩ (by omega) tw_1175 d_Model_may_15 hRp4 rfl ?_
    by_cases hc5 : p4 ≠ 0
    · replace h := itp hc5 h
      refine ev_if_ne_t (tgt := 23) d_Model_may_18 (by decide) hc5 ?_
      refine ev_aload_n 0 d_Model_may_23 rfl (by decide) rfl ?_
      refine ev_get (t := 12) (k := 38) (by decide) (by decide) rfl i_Model (by decide) rfl rfl tw_938 d_Model_may_24 hn_a0 ?_
      by_cases hc6 : (mg M1 (cI a0) 38) ≠ 0
      · replace h := itp hc6 h
        refine ev_if_ne_t (tgt := 32) d_Model_may_27 (by decide) hc6 ?_
        refine ev_iconst d_Model_may_32 rfl ?_
        refine ev_istore_n (L' := [(3, (0, 0)), (0, (12, a0)), (1, (0, a1)), (2, (0, a2))]) d_Model_may_33 rfl (by decide) rfl ?_
        refine ev_iconst d_Model_may_34 rfl ?_
        refine ev_istore (L' := [(4, (0, 0)), (3, (0, 0)), (0, (12, a0)), (1, (0, a1)), (2, (0, a2))]) d_Model_may_35 (by decide) rfl ?_
        obtain ⟨t45, ht45, h⟩ := bx h
        refine ev_less (L' := [(0, (12, a0)), (1, (0, a1)), (2, (0, a2)), (3, (0, 0)), (4, (0, 0))]) [2, 3, 4, 1, 0] rfl ?_
        refine loop_ev (step := l_Model_may_37 a0 a1 a2) (P := fun w : Int × Int × Mm => Ev X m_Model_may d 37 [(0, (12, a0)), (1, (0, a1)), (2, (0, a2)), (3, (0, w.1)), (4, (0, w.2.1))] [] w.2.2 (some (0, p.1)) p.2) (Q := fun w => Ev X m_Model_may d 228 [(0, (12, a0))] [] w (some (0, p.1)) p.2) (fun w x hs k1 k2 => cs_l_Model_may_37 hd hn_a0 hs k1 k2) FU (0, 0, M1) t45 ht45 ?_
        refine ev_aload_n 0 d_Model_may_228 rfl (by decide) rfl ?_
        refine ev_get (t := 12) (k := 46) (by decide) (by decide) rfl i_Model (by decide) rfl rfl tw_946 d_Model_may_229 hn_a0 ?_
        refine ev_iconst d_Model_may_232 rfl ?_
        obtain ⟨hz46, h⟩ := gx h
        obtain ⟨hg47, h⟩ := gx h
        refine ev_iald d_Model_may_233 hz46 hg47 ?_
        cases h
        exact ev_ret d_Model_may_234 rfl
      · replace h := itn hc6 h
        refine ev_if_ne_f d_Model_may_27 (by decide) hc6 ?_
        refine ev_iconst d_Model_may_30 rfl ?_
        cases h
        exact ev_ret d_Model_may_31 rfl
    · replace h := itn hc5 h
      refine ev_if_ne_f d_Model_may_18 (by decide) hc5 ?_
      refine ev_iconst d_Model_may_21 rfl ?_
      cases h
      exact ev_ret d_Model_may_22 rfl
end
