noncomputable section
def l_Model_readPart_149 (M : Mm) (a0 : Int) (a1 : Int) (z2 : Int) (s : Int) : Option ((Int) ⊕ ((Int × Mm) ⊕ (Unit))) :=
  if (mg M (cI a0) 14) ≠ 0 then
  if (0 : Int) ≤ (w32 ((w32 (10 * a1)) + z2)) ∧ (w32 ((w32 (10 * a1)) + z2)) < (ml M (cI (mg M (cI a0) 14)) : Int) then
  if (mg M (cI (mg M (cI a0) 14)) ((w32 ((w32 (10 * a1)) + z2)) : Int).toNat) ≤ s then
  some (.inr (.inr ()))
  else
  if (mg M (cI a0) 15) ≠ 0 then
  if (0 : Int) ≤ (w32 ((w32 ((w32 (40 * a1)) + (w32 (4 * z2)))) + s)) ∧ (w32 ((w32 ((w32 (40 * a1)) + (w32 (4 * z2)))) + s)) < (ml M (cI (mg M (cI a0) 15)) : Int) then
  if (mg M (cI (mg M (cI a0) 15)) ((w32 ((w32 ((w32 (40 * a1)) + (w32 (4 * z2)))) + s)) : Int).toNat) ≠ (mg M (cI a0) 33) then
  lt (w32 (s + 1)) (fun x25 : Int =>
  some (.inl x25))
  else
  (f_Model_fails M a0 3).bind (fun p26 =>
  some (.inr (.inl ((p26.1, p26.2)))))
  else none
  else none
  else none
  else none
theorem cs_l_Model_readPart_149 {X : XX} {d : Nat} (hd : 3 ≤ d) {M : Mm} {a0 : Int} {a1 : Int} {z2 : Int} (hn_a0 : a0 ≠ 0) {s : Int} {x : (Int) ⊕ ((Int × Mm) ⊕ (Unit))} {r : Option AV} {M' : Mm} (h : l_Model_readPart_149 M a0 a1 z2 s = some x) (hk1 : ∀ s : Int, x = .inl s → Ev X m_Model_readPart d 149 [(0, (12, a0)), (1, (0, a1)), (2, (0, z2)), (5, (0, s))] [] M r M') (hk2 : ∀ q : Int × Mm, x = .inr (.inl q) → r = some (0, q.1) ∧ M' = q.2) (hk3 : ∀ t : Unit, x = .inr (.inr t) → Ev X m_Model_readPart d 200 [(0, (12, a0)), (1, (0, a1)), (2, (0, z2))] [] M r M') : Ev X m_Model_readPart d 149 [(0, (12, a0)), (1, (0, a1)), (2, (0, z2)), (5, (0, s))] [] M r M' := by
  unfold l_Model_readPart_149 at h
  refine ev_iload 3 d_Model_readPart_149 rfl ?_
  refine ev_aload_n 0 d_Model_readPart_151 rfl (by decide) rfl ?_
  refine ev_get (t := 12) (k := 14) (by decide) (by decide) rfl i_Model (by decide) rfl rfl tw_914 d_Model_readPart_152 hn_a0 ?_
  refine ev_bipush d_Model_readPart_155 rfl ?_
  refine ev_iload_n 1 d_Model_readPart_157 rfl rfl ?_
  refine ev_imul d_Model_readPart_158 ?_
  refine ev_iload_n 2 d_Model_readPart_159 rfl rfl ?_
  refine ev_iadd d_Model_readPart_160 ?_
  obtain ⟨hz19, h⟩ := gx h
  obtain ⟨hg20, h⟩ := gx h
  refine ev_iald d_Model_readPart_161 hz19 hg20 ?_
  by_cases hc21 : (mg M (cI (mg M (cI a0) 14)) ((w32 ((w32 (10 * a1)) + z2)) : Int).toNat) ≤ s
  · replace h := itp hc21 h
    refine ev_icmp_ge_t (tgt := 200) d_Model_readPart_162 (by decide) hc21 ?_
    refine ev_less (L' := [(0, (12, a0)), (1, (0, a1)), (2, (0, z2))]) [0, 1, 2] rfl ?_
    cases h
    exact hk3 _ rfl
  · replace h := itn hc21 h
    refine ev_icmp_ge_f d_Model_readPart_162 (by decide) hc21 ?_
    refine ev_aload_n 0 d_Model_readPart_165 rfl (by decide) rfl ?_
    refine ev_get (t := 12) (k := 15) (by decide) (by decide) rfl i_Model (by decide) rfl rfl tw_915 d_Model_readPart_166 hn_a0 ?_
    refine ev_bipush d_Model_readPart_169 rfl ?_
    refine ev_iload_n 1 d_Model_readPart_171 rfl rfl ?_
    refine ev_imul d_Model_readPart_172 ?_
    refine ev_iconst d_Model_readPart_173 rfl ?_
    refine ev_iload_n 2 d_Model_readPart_174 rfl rfl ?_
    refine ev_imul d_Model_readPart_175 ?_
    refine ev_iadd d_Model_readPart_176 ?_
    refine ev_iload 3 d_Model_readPart_177 rfl ?_
    refine ev_iadd d_Model_readPart_179 ?_
    obtain ⟨hz22, h⟩ := gx h
    obtain ⟨hg23, h⟩ := gx h
    refine ev_iald d_Model_readPart_180 hz22 hg23 ?_
    refine ev_aload_n 0 d_Model_readPart_181 rfl (by decide) rfl ?_
    refine ev_get (t := 12) (k := 33) (by decide) (by decide) rfl i_Model (by decide) rfl rfl tw_933 d_Model_readPart_182 hn_a0 ?_
    by_cases hc24 : (mg M (cI (mg M (cI a0) 15)) ((w32 ((w32 ((w32 (40 * a1)) + (w32 (4 * z2)))) + s)) : Int).toNat) ≠ (mg M (cI a0) 33)
    · replace h := itp hc24 h
      refine ev_icmp_ne_t (tgt := 194) d_Model_readPart_185 (by decide) hc24 ?_
      obtain ⟨x25, hx25, h⟩ := ltx h
      refine ev_iinc' 3 (y := x25) (L' := [(5, (0, x25)), (0, (12, a0)), (1, (0, a1)), (2, (0, z2))]) d_Model_readPart_194 rfl (by decide) rfl hx25 ?_
      refine ev_goto (tgt := 149) d_Model_readPart_197 (by decide) ?_
      refine ev_less (L' := [(0, (12, a0)), (1, (0, a1)), (2, (0, z2)), (5, (0, x25))]) [1, 2, 3, 0] rfl ?_
      cases h
      exact hk1 _ rfl
    · replace h := itn hc24 h
      refine ev_icmp_ne_f d_Model_readPart_185 (by decide) hc24 ?_
      refine ev_aload_n 0 d_Model_readPart_188 rfl (by decide) rfl ?_
      refine ev_iconst d_Model_readPart_189 rfl ?_
      obtain ⟨p26, hp26, h⟩ := bx h
      have hRp26 := c_Model_fails (X := X) (d := d - 1) (by omega) hn_a0 hp26
      refine ev_callV2 (st2 := [(0, p26.1)]) (as := [(0, 3)]) (rest := []) rfl (by decide) (by decide) rfl hn_a0 rfl (Nat.le_of_ble_eq_true rfl) k_Model_fails ⟨tw_1269, ts_108⟩ (by omega) tw_1267 d_Model_readPart_190 hRp26 rfl ?_
      cases h
      obtain ⟨rfl, rfl⟩ := hk2 _ rfl
      exact ev_retZ d_Model_readPart_193 rfl (hRp26.2.1 _ rfl rfl)
def l_Model_readPart_103 (a0 : Int) (a1 : Int) (z2 : Int) (s : Int × Mm) : Option ((Int × Mm) ⊕ ((Int × Mm) ⊕ (Mm))) :=
  if s.1 = 0 then
  some (.inr (.inr s.2))
  else
  if (mg s.2 (cI a0) 14) ≠ 0 then
  if (0 : Int) ≤ (w32 ((w32 (10 * a1)) + z2)) ∧ (w32 ((w32 (10 * a1)) + z2)) < (ml s.2 (cI (mg s.2 (cI a0) 14)) : Int) then
  if (mg s.2 (cI (mg s.2 (cI a0) 14)) ((w32 ((w32 (10 * a1)) + z2)) : Int).toNat) ≠ 4 then
  (f_Model_next s.2 a0 0).bind (fun p16 =>
  (f_Model_takes p16 a0 0 9).bind (fun p17 =>
  if p17.1 ≠ 0 then
  (loopN (l_Model_readPart_149 p17.2 a0 a1 z2) FU 0).bind (fun t27 =>
  Sum.elim (fun q28 => some (.inr (.inl q28))) (fun u29 =>
  if (mg p17.2 (cI a0) 14) ≠ 0 then
  if (0 : Int) ≤ (w32 ((w32 (10 * a1)) + z2)) ∧ (w32 ((w32 (10 * a1)) + z2)) < (ml p17.2 (cI (mg p17.2 (cI a0) 14)) : Int) then
  if (mg p17.2 (cI a0) 15) ≠ 0 then
  if (0 : Int) ≤ (w32 ((w32 ((w32 (40 * a1)) + (w32 (4 * z2)))) + (mg p17.2 (cI (mg p17.2 (cI a0) 14)) ((w32 ((w32 (10 * a1)) + z2)) : Int).toNat))) ∧ (w32 ((w32 ((w32 (40 * a1)) + (w32 (4 * z2)))) + (mg p17.2 (cI (mg p17.2 (cI a0) 14)) ((w32 ((w32 (10 * a1)) + z2)) : Int).toNat))) < (ml p17.2 (cI (mg p17.2 (cI a0) 15)) : Int) then
  lt (mp p17.2 (cI (mg p17.2 (cI a0) 15)) ((w32 ((w32 ((w32 (40 * a1)) + (w32 (4 * z2)))) + (mg p17.2 (cI (mg p17.2 (cI a0) 14)) ((w32 ((w32 (10 * a1)) + z2)) : Int).toNat))) : Int).toNat (mg p17.2 (cI a0) 33)) (fun M34 =>
  if (mg M34 (cI a0) 14) ≠ 0 then
  if (0 : Int) ≤ (w32 ((w32 (10 * a1)) + z2)) ∧ (w32 ((w32 (10 * a1)) + z2)) < (ml M34 (cI (mg M34 (cI a0) 14)) : Int) then
  lt (mp M34 (cI (mg M34 (cI a0) 14)) ((w32 ((w32 (10 * a1)) + z2)) : Int).toNat (w32 ((mg M34 (cI (mg M34 (cI a0) 14)) ((w32 ((w32 (10 * a1)) + z2)) : Int).toNat) + 1))) (fun M37 =>
  (f_Model_next M37 a0 0).bind (fun p38 =>
  (f_Model_isWord p38 a0 111 114 0 0 0).bind (fun p39 =>
  some (.inl (p39, p38)))))
  else none
  else none)
  else none
  else none
  else none
  else none) t27)
  else
  some (.inr (.inl ((0, p17.2))))))
  else
  (f_Model_fails s.2 a0 4).bind (fun p40 =>
  some (.inr (.inl ((p40.1, p40.2)))))
  else none
  else none
theorem cs_l_Model_readPart_103 {X : XX} {d : Nat} (hd : 3 ≤ d) {a0 : Int} {a1 : Int} {z2 : Int} (hn_a0 : a0 ≠ 0) {s : Int × Mm} {x : (Int × Mm) ⊕ ((Int × Mm) ⊕ (Mm))} {r : Option AV} {M' : Mm} (h : l_Model_readPart_103 a0 a1 z2 s = some x) (hk1 : ∀ s : Int × Mm, x = .inl s → Ev X m_Model_readPart d 103 [(0, (12, a0)), (1, (0, a1)), (2, (0, z2)), (4, (0, s.1))] [] s.2 r M') (hk2 : ∀ q : Int × Mm, x = .inr (.inl q) → r = some (0, q.1) ∧ M' = q.2) (hk3 : ∀ t : Mm, x = .inr (.inr t) → Ev X m_Model_readPart d 274 [(0, (12, a0)), (1, (0, a1)), (2, (0, z2))] [] t r M') : Ev X m_Model_readPart d 103 [(0, (12, a0)), (1, (0, a1)), (2, (0, z2)), (4, (0, s.1))] [] s.2 r M' := by
  unfold l_Model_readPart_103 at h
  refine ev_iload 3 d_Model_readPart_103 rfl ?_
  by_cases hc12 : s.1 = 0
  · replace h := itp hc12 h
    refine ev_if_eq_t (tgt := 274) d_Model_readPart_105 (by decide) hc12 ?_
    refine ev_less (L' := [(0, (12, a0)), (1, (0, a1)), (2, (0, z2))]) [0, 1, 2] rfl ?_
    cases h
    exact hk3 _ rfl
  · replace h := itn hc12 h
    refine ev_if_eq_f d_Model_readPart_105 (by decide) hc12 ?_
    refine ev_aload_n 0 d_Model_readPart_108 rfl (by decide) rfl ?_
    refine ev_get (t := 12) (k := 14) (by decide) (by decide) rfl i_Model (by decide) rfl rfl tw_914 d_Model_readPart_109 hn_a0 ?_
    refine ev_bipush d_Model_readPart_112 rfl ?_
    refine ev_iload_n 1 d_Model_readPart_114 rfl rfl ?_
    refine ev_imul d_Model_readPart_115 ?_
    refine ev_iload_n 2 d_Model_readPart_116 rfl rfl ?_
    refine ev_iadd d_Model_readPart_117 ?_
    obtain ⟨hz13, h⟩ := gx h
    obtain ⟨hg14, h⟩ := gx h
    refine ev_iald d_Model_readPart_118 hz13 hg14 ?_
    refine ev_iconst d_Model_readPart_119 rfl ?_
    by_cases hc15 : (mg s.2 (cI (mg s.2 (cI a0) 14)) ((w32 ((w32 (10 * a1)) + z2)) : Int).toNat) ≠ 4
    · replace h := itp hc15 h
      refine ev_icmp_ne_t (tgt := 129) d_Model_readPart_120 (by decide) hc15 ?_
      refine ev_aload_n 0 d_Model_readPart_129 rfl (by decide) rfl ?_
      refine ev_iconst d_Model_readPart_130 rfl ?_
      obtain ⟨p16, hp16, h⟩ := bx h
      have hRp16 := c_Model_next (X := X) (d := d - 1) (by omega) hn_a0 hp16
      refine ev_callV2 (st2 := []) (as := [(0, 0)]) (rest := []) rfl (by decide) (by decide) rfl hn_a0 rfl (Nat.le_of_ble_eq_true rfl) k_Model_next ⟨tw_1233, ts_99⟩ (by omega) tw_1231 d_Model_readPart_131 hRp16 rfl ?_
      refine ev_aload_n 0 d_Model_readPart_134 rfl (by decide) rfl ?_
      refine ev_iconst d_Model_readPart_135 rfl ?_
      refine ev_bipush d_Model_readPart_136 rfl ?_
      obtain ⟨p17, hp17, h⟩ := bx h
      have hRp17 := c_Model_takes (X := X) (d := d - 1) (by omega) hn_a0 hp17
      refine ev_callV2 (st2 := [(0, p17.1)]) (as := [(0, 0), (0, 9)]) (rest := []) rfl (by decide) (by decide) rfl hn_a0 rfl (Nat.le_of_ble_eq_true rfl) k_Model_takes ⟨tw_1277, ts_110⟩ (by omega) tw_1275 d_Model_readPart_138 hRp17 rfl ?_
      by_cases hc18 : p17.1 ≠ 0
      · replace h := itp hc18 h
        refine ev_if_ne_t (tgt := 146) d_Model_readPart_141 (by decide) hc18 ?_
        refine ev_iconst d_Model_readPart_146 rfl ?_
        refine ev_istore (L' := [(5, (0, 0)), (0, (12, a0)), (1, (0, a1)), (2, (0, z2)), (4, (0, s.1))]) d_Model_readPart_147 (by decide) rfl ?_
        obtain ⟨t27, ht27, h⟩ := bx h
        refine ev_less (L' := [(0, (12, a0)), (1, (0, a1)), (2, (0, z2)), (5, (0, 0))]) [1, 2, 3, 0] rfl ?_
        refine loop_ev (step := l_Model_readPart_149 p17.2 a0 a1 z2) (P := fun w : Int => Ev X m_Model_readPart d 149 [(0, (12, a0)), (1, (0, a1)), (2, (0, z2)), (5, (0, w))] [] p17.2 r M') (Q := fun u => (∀ q, u = .inl q → r = some (0, q.1) ∧ M' = q.2) ∧ (∀ w, u = .inr w → Ev X m_Model_readPart d 200 [(0, (12, a0)), (1, (0, a1)), (2, (0, z2))] [] p17.2 r M')) (fun w x hs k1 k2 => cs_l_Model_readPart_149 hd hn_a0 hs k1 (fun q e => (k2 _ e).1 q rfl) (fun t e => (k2 _ e).2 t rfl)) FU 0 t27 ht27 ?_
        refine ⟨fun qq e => ?_, fun tt e => ?_⟩
        · subst e; replace h := sx1 h; (obtain ⟨q28, rfl⟩ : ∃ y, y = qq := ⟨_, rfl⟩)
          cases h
          exact hk2 _ rfl
        · subst e; replace h := sx2 h; (obtain ⟨u29, rfl⟩ : ∃ y, y = tt := ⟨_, rfl⟩)
          refine ev_aload_n 0 d_Model_readPart_200 rfl (by decide) rfl ?_
          refine ev_get (t := 12) (k := 15) (by decide) (by decide) rfl i_Model (by decide) rfl rfl tw_915 d_Model_readPart_201 hn_a0 ?_
          refine ev_bipush d_Model_readPart_204 rfl ?_
          refine ev_iload_n 1 d_Model_readPart_206 rfl rfl ?_
          refine ev_imul d_Model_readPart_207 ?_
          refine ev_iconst d_Model_readPart_208 rfl ?_
          refine ev_iload_n 2 d_Model_readPart_209 rfl rfl ?_
          refine ev_imul d_Model_readPart_210 ?_
          refine ev_iadd d_Model_readPart_211 ?_
          refine ev_aload_n 0 d_Model_readPart_212 rfl (by decide) rfl ?_
          refine ev_get (t := 12) (k := 14) (by decide) (by decide) rfl i_Model (by decide) rfl rfl tw_914 d_Model_readPart_213 hn_a0 ?_
          refine ev_bipush d_Model_readPart_216 rfl ?_
          refine ev_iload_n 1 d_Model_readPart_218 rfl rfl ?_
          refine ev_imul d_Model_readPart_219 ?_
          refine ev_iload_n 2 d_Model_readPart_220 rfl rfl ?_
          refine ev_iadd d_Model_readPart_221 ?_
          obtain ⟨hz30, h⟩ := gx h
          obtain ⟨hg31, h⟩ := gx h
          refine ev_iald d_Model_readPart_222 hz30 hg31 ?_
          refine ev_iadd d_Model_readPart_223 ?_
          refine ev_aload_n 0 d_Model_readPart_224 rfl (by decide) rfl ?_
          refine ev_get (t := 12) (k := 33) (by decide) (by decide) rfl i_Model (by decide) rfl rfl tw_933 d_Model_readPart_225 hn_a0 ?_
          obtain ⟨hz32, h⟩ := gx h
          obtain ⟨hg33, h⟩ := gx h
          obtain ⟨M34, hM34, h⟩ := ltx h
          refine ev_iast' d_Model_readPart_228 hz32 hg33 hM34 ?_
          refine ev_aload_n 0 d_Model_readPart_229 rfl (by decide) rfl ?_
          refine ev_get (t := 12) (k := 14) (by decide) (by decide) rfl i_Model (by decide) rfl rfl tw_914 d_Model_readPart_230 hn_a0 ?_
          refine ev_bipush d_Model_readPart_233 rfl ?_
          refine ev_iload_n 1 d_Model_readPart_235 rfl rfl ?_
          refine ev_imul d_Model_readPart_236 ?_
          refine ev_iload_n 2 d_Model_readPart_237 rfl rfl ?_
          refine ev_iadd d_Model_readPart_238 ?_
          refine ev_aload_n 0 d_Model_readPart_239 rfl (by decide) rfl ?_
          refine ev_get (t := 12) (k := 14) (by decide) (by decide) rfl i_Model (by decide) rfl rfl tw_914 d_Model_readPart_240 hn_a0 ?_
          refine ev_bipush d_Model_readPart_243 rfl ?_
          refine ev_iload_n 1 d_Model_readPart_245 rfl rfl ?_
          refine ev_imul d_Model_readPart_246 ?_
          refine ev_iload_n 2 d_Model_readPart_247 rfl rfl ?_
          refine ev_iadd d_Model_readPart_248 ?_
          obtain ⟨hz35, h⟩ := gx h
          obtain ⟨hg36, h⟩ := gx h
          refine ev_iald d_Model_readPart_249 hz35 hg36 ?_
          refine ev_iconst d_Model_readPart_250 rfl ?_
          refine ev_iadd d_Model_readPart_251 ?_
          obtain ⟨M37, hM37, h⟩ := ltx h
          refine ev_iast' d_Model_readPart_252 hz35 hg36 hM37 ?_
          refine ev_aload_n 0 d_Model_readPart_253 rfl (by decide) rfl ?_
          refine ev_iconst d_Model_readPart_254 rfl ?_
          obtain ⟨p38, hp38, h⟩ := bx h
          have hRp38 := c_Model_next (X := X) (d := d - 1) (by omega) hn_a0 hp38
          refine ev_callV2 (st2 := []) (as := [(0, 0)]) (rest := []) rfl (by decide) (by decide) rfl hn_a0 rfl (Nat.le_of_ble_eq_true rfl) k_Model_next ⟨tw_1233, ts_99⟩ (by omega) tw_1231 d_Model_readPart_255 hRp38 rfl ?_
          refine ev_aload_n 0 d_Model_readPart_258 rfl (by decide) rfl ?_
          refine ev_bipush d_Model_readPart_259 rfl ?_
          refine ev_bipush d_Model_readPart_261 rfl ?_
          refine ev_iconst d_Model_readPart_263 rfl ?_
          refine ev_iconst d_Model_readPart_264 rfl ?_
          refine ev_iconst d_Model_readPart_265 rfl ?_
          obtain ⟨p39, hp39, h⟩ := bx h
          have hRp39 := c_Model_isWord (X := X) (d := d - 1) (by omega) hn_a0 hp39
          refine ev_callV2 (st2 := [(0, p39)]) (as := [(0, 111), (0, 114), (0, 0), (0, 0), (0, 0)]) (rest := []) rfl (by decide) (by decide) rfl hn_a0 rfl (Nat.le_of_ble_eq_true rfl) k_Model_isWord ⟨tw_1261, ts_106⟩ (by omega) tw_1259 d_Model_readPart_266 hRp39 rfl ?_
          refine ev_istore (L' := [(4, (0, p39)), (0, (12, a0)), (1, (0, a1)), (2, (0, z2))]) d_Model_readPart_269 (by decide) rfl ?_
          refine ev_goto (tgt := 103) d_Model_readPart_271 (by decide) ?_
          refine ev_less (L' := [(0, (12, a0)), (1, (0, a1)), (2, (0, z2)), (4, (0, p39))]) [1, 2, 3, 0] rfl ?_
          cases h
          exact hk1 _ rfl
      · replace h := itn hc18 h
        refine ev_if_ne_f d_Model_readPart_141 (by decide) hc18 ?_
        refine ev_iconst d_Model_readPart_144 rfl ?_
        cases h
        obtain ⟨rfl, rfl⟩ := hk2 _ rfl
        exact ev_retZ d_Model_readPart_145 rfl (Or.inl rfl)
    · replace h := itn hc15 h
      refine ev_icmp_ne_f d_Model_readPart_120 (by decide) hc15 ?_
      refine ev_aload_n 0 d_Model_readPart_123 rfl (by decide) rfl ?_
      refine ev_iconst d_Model_readPart_124 rfl ?_
      obtain ⟨p40, hp40, h⟩ := bx h
      have hRp40 := c_Model_fails (X := X) (d := d - 1) (by omega) hn_a0 hp40
      refine ev_callV2 (st2 := [(0, p40.1)]) (as := [(0, 4)]) (rest := []) rfl (by decide) (by decide) rfl hn_a0 rfl (Nat.le_of_ble_eq_true rfl) k_Model_fails ⟨tw_1269, ts_108⟩ (by omega) tw_1267 d_Model_readPart_125 hRp40 rfl ?_
      cases h
      obtain ⟨rfl, rfl⟩ := hk2 _ rfl
      exact ev_retZ d_Model_readPart_128 rfl (hRp40.2.1 _ rfl rfl)
def j_Model_readPart_88 (M : Mm) (a0 : Int) (a1 : Int) (z2 : Int) : Option (Int × Mm) :=
  if (mg M (cI a0) 14) ≠ 0 then
  if (0 : Int) ≤ (w32 ((w32 (10 * a1)) + z2)) ∧ (w32 ((w32 (10 * a1)) + z2)) < (ml M (cI (mg M (cI a0) 14)) : Int) then
  lt (mp M (cI (mg M (cI a0) 14)) ((w32 ((w32 (10 * a1)) + z2)) : Int).toNat 0) (fun M11 =>
  (loopN (l_Model_readPart_103 a0 a1 z2) FU (1, M11)).bind (fun t41 =>
  Sum.elim (fun q42 => some q42) (fun u43 =>
  if (mg u43 (cI a0) 12) ≠ 0 then
  if (0 : Int) ≤ a1 ∧ a1 < (ml u43 (cI (mg u43 (cI a0) 12)) : Int) then
  lt (mp u43 (cI (mg u43 (cI a0) 12)) (a1 : Int).toNat (w32 (z2 + 1))) (fun M46 =>
  some (1, M46))
  else none
  else none) t41))
  else none
  else none
theorem cj_Model_readPart_88 {X : XX} {d : Nat} (hd : 3 ≤ d) {M : Mm} {a0 : Int} {a1 : Int} {z2 : Int} (hn_a0 : a0 ≠ 0) {p : Int × Mm} (h : j_Model_readPart_88 M a0 a1 z2 = some p) : Ev X m_Model_readPart d 88 [(0, (12, a0)), (1, (0, a1)), (2, (0, z2))] [] M (some (0, p.1)) p.2 := by
  unfold j_Model_readPart_88 at h
  refine ev_aload_n 0 d_Model_readPart_88 rfl (by decide) rfl ?_
  refine ev_get (t := 12) (k := 14) (by decide) (by decide) rfl i_Model (by decide) rfl rfl tw_914 d_Model_readPart_89 hn_a0 ?_
  refine ev_bipush d_Model_readPart_92 rfl ?_
  refine ev_iload_n 1 d_Model_readPart_94 rfl rfl ?_
  refine ev_imul d_Model_readPart_95 ?_
  refine ev_iload_n 2 d_Model_readPart_96 rfl rfl ?_
  refine ev_iadd d_Model_readPart_97 ?_
  refine ev_iconst d_Model_readPart_98 rfl ?_
  obtain ⟨hz9, h⟩ := gx h
  obtain ⟨hg10, h⟩ := gx h
  obtain ⟨M11, hM11, h⟩ := ltx h
  refine ev_iast' d_Model_readPart_99 hz9 hg10 hM11 ?_
  refine ev_iconst d_Model_readPart_100 rfl ?_
  refine ev_istore (L' := [(4, (0, 1)), (0, (12, a0)), (1, (0, a1)), (2, (0, z2))]) d_Model_readPart_101 (by decide) rfl ?_
  obtain ⟨t41, ht41, h⟩ := bx h
  refine ev_less (L' := [(0, (12, a0)), (1, (0, a1)), (2, (0, z2)), (4, (0, 1))]) [1, 2, 3, 0] rfl ?_
  refine loop_ev (step := l_Model_readPart_103 a0 a1 z2) (P := fun w : Int × Mm => Ev X m_Model_readPart d 103 [(0, (12, a0)), (1, (0, a1)), (2, (0, z2)), (4, (0, w.1))] [] w.2 (some (0, p.1)) p.2) (Q := fun u => (∀ q, u = .inl q → (some (0, p.1)) = some (0, q.1) ∧ p.2 = q.2) ∧ (∀ w, u = .inr w → Ev X m_Model_readPart d 274 [(0, (12, a0)), (1, (0, a1)), (2, (0, z2))] [] w (some (0, p.1)) p.2)) (fun w x hs k1 k2 => cs_l_Model_readPart_103 hd hn_a0 hs k1 (fun q e => (k2 _ e).1 q rfl) (fun t e => (k2 _ e).2 t rfl)) FU (1, M11) t41 ht41 ?_
  refine ⟨fun qq e => ?_, fun tt e => ?_⟩
  · subst e; replace h := sx1 h; (obtain ⟨q42, rfl⟩ : ∃ y, y = qq := ⟨_, rfl⟩)
    cases h
    exact ⟨rfl, rfl⟩
  · subst e; replace h := sx2 h; (obtain ⟨u43, rfl⟩ : ∃ y, y = tt := ⟨_, rfl⟩)
    refine ev_aload_n 0 d_Model_readPart_274 rfl (by decide) rfl ?_
    refine ev_get (t := 12) (k := 12) (by decide) (by decide) rfl i_Model (by decide) rfl rfl tw_912 d_Model_readPart_275 hn_a0 ?_
    refine ev_iload_n 1 d_Model_readPart_278 rfl rfl ?_
    refine ev_iload_n 2 d_Model_readPart_279 rfl rfl ?_
    refine ev_iconst d_Model_readPart_280 rfl ?_
    refine ev_iadd d_Model_readPart_281 ?_
    obtain ⟨hz44, h⟩ := gx h
    obtain ⟨hg45, h⟩ := gx h
    obtain ⟨M46, hM46, h⟩ := ltx h
    refine ev_iast' d_Model_readPart_282 hz44 hg45 hM46 ?_
    refine ev_iconst d_Model_readPart_283 rfl ?_
    cases h
    exact ev_retZ d_Model_readPart_284 rfl (Or.inr rfl)
def j_Model_readPart_68 (M : Mm) (a0 : Int) (a1 : Int) (z2 : Int) (z3 : Int) : Option (Int × Mm) :=
  if z3 = 0 then
  j_Model_readPart_88 M a0 a1 z2
  else
  if (mg M (cI a0) 13) ≠ 0 then
  if (0 : Int) ≤ a1 ∧ a1 < (ml M (cI (mg M (cI a0) 13)) : Int) then
  lt (mp M (cI (mg M (cI a0) 13)) (a1 : Int).toNat (bOr (mg M (cI (mg M (cI a0) 13)) (a1 : Int).toNat) (bShl 1 z2))) (fun M49 =>
  j_Model_readPart_88 M49 a0 a1 z2)
  else none
  else none
theorem cj_Model_readPart_68 {X : XX} {d : Nat} (hd : 3 ≤ d) {M : Mm} {a0 : Int} {a1 : Int} {z2 : Int} {z3 : Int} (hn_a0 : a0 ≠ 0) {p : Int × Mm} (h : j_Model_readPart_68 M a0 a1 z2 z3 = some p) : Ev X m_Model_readPart d 68 [(0, (12, a0)), (1, (0, a1)), (2, (0, z2)), (3, (0, z3))] [] M (some (0, p.1)) p.2 := by
  unfold j_Model_readPart_68 at h
  refine ev_iload_n 3 d_Model_readPart_68 rfl rfl ?_
  by_cases hc8 : z3 = 0
  · replace h := itp hc8 h
    refine ev_if_eq_t (tgt := 88) d_Model_readPart_69 (by decide) hc8 ?_
    refine ev_less (L' := [(0, (12, a0)), (1, (0, a1)), (2, (0, z2))]) [0, 1, 2] rfl ?_
    exact cj_Model_readPart_88 hd hn_a0 h
  · replace h := itn hc8 h
    refine ev_if_eq_f d_Model_readPart_69 (by decide) hc8 ?_
    refine ev_aload_n 0 d_Model_readPart_72 rfl (by decide) rfl ?_
    refine ev_get (t := 12) (k := 13) (by decide) (by decide) rfl i_Model (by decide) rfl rfl tw_913 d_Model_readPart_73 hn_a0 ?_
    refine ev_iload_n 1 d_Model_readPart_76 rfl rfl ?_
    refine ev_aload_n 0 d_Model_readPart_77 rfl (by decide) rfl ?_
    refine ev_get (t := 12) (k := 13) (by decide) (by decide) rfl i_Model (by decide) rfl rfl tw_913 d_Model_readPart_78 hn_a0 ?_
    refine ev_iload_n 1 d_Model_readPart_81 rfl rfl ?_
    obtain ⟨hz47, h⟩ := gx h
    obtain ⟨hg48, h⟩ := gx h
    refine ev_iald d_Model_readPart_82 hz47 hg48 ?_
    refine ev_iconst d_Model_readPart_83 rfl ?_
    refine ev_iload_n 2 d_Model_readPart_84 rfl rfl ?_
    refine ev_ishl d_Model_readPart_85 ?_
    refine ev_ior d_Model_readPart_86 ?_
    obtain ⟨M49, hM49, h⟩ := ltx h
    refine ev_iast' d_Model_readPart_87 hz47 hg48 hM49 ?_
    refine ev_less (L' := [(0, (12, a0)), (1, (0, a1)), (2, (0, z2))]) [0, 1, 2] rfl ?_
    exact cj_Model_readPart_88 hd hn_a0 h
def f_Model_readPart (M : Mm) (a0 : Int) (a1 : Int) : Option (Int × Mm) :=
  if (mg M (cI a0) 12) ≠ 0 then
  if (0 : Int) ≤ a1 ∧ a1 < (ml M (cI (mg M (cI a0) 12)) : Int) then
  if (mg M (cI (mg M (cI a0) 12)) (a1 : Int).toNat) ≠ 10 then
  lt ((mg M (cI (mg M (cI a0) 12)) (a1 : Int).toNat)) (fun x4 : Int =>
  (f_Model_next M a0 0).bind (fun p5 =>
  (f_Model_isWord p5 a0 109 117 115 116 0).bind (fun p6 =>
  if p6 ≠ 0 then
  j_Model_readPart_68 p5 a0 a1 x4 p6
  else
  (f_Model_isWord p5 a0 109 97 121 0 0).bind (fun p50 =>
  if p50 ≠ 0 then
  j_Model_readPart_68 p5 a0 a1 x4 p6
  else
  (f_Model_fails p5 a0 1).bind (fun p52 =>
  some (p52.1, p52.2))))))
  else
  (f_Model_fails M a0 4).bind (fun p53 =>
  some (p53.1, p53.2))
  else none
  else none
theorem c_Model_readPart {X : XX} {d : Nat} (hd : 3 ≤ d) {M : Mm} {a0 : Int} {a1 : Int} (hn_a0 : a0 ≠ 0) {p : Int × Mm} (h : f_Model_readPart M a0 a1 = some p) : Rn X d m_Model_readPart [(12, a0), (0, a1)] M (some (0, p.1)) p.2 := by
  refine Rn_of (by decide) rfl (Nat.le_of_ble_eq_true rfl) ?_
  unfold f_Model_readPart at h
  refine ev_less (L' := [(0, (12, a0)), (1, (0, a1))]) [0, 1] rfl ?_
  refine ev_aload_n 0 d_Model_readPart_0 rfl (by decide) rfl ?_
  refine ev_get (t := 12) (k := 12) (by decide) (by decide) rfl i_Model (by decide) rfl rfl tw_912 d_Model_readPart_1 hn_a0 ?_
  refine ev_iload_n 1 d_Model_readPart_4 rfl rfl ?_
  obtain ⟨hz1, h⟩ := gx h
  obtain ⟨hg2, h⟩ := gx h
  refine ev_iald d_Model_readPart_5 hz1 hg2 ?_
  refine ev_bipush d_Model_readPart_6 rfl ?_
  by_cases hc3 : (mg M (cI (mg M (cI a0) 12)) (a1 : Int).toNat) ≠ 10
  · replace h := itp hc3 h
    refine ev_icmp_ne_t (tgt := 17) d_Model_readPart_8 (by decide) hc3 ?_
    refine ev_aload_n 0 d_Model_readPart_17 rfl (by decide) rfl ?_
    refine ev_get (t := 12) (k := 12) (by decide) (by decide) rfl i_Model (by decide) rfl rfl tw_912 d_Model_readPart_18 hn_a0 ?_
    refine ev_iload_n 1 d_Model_readPart_21 rfl rfl ?_
    refine ev_iald d_Model_readPart_22 hz1 hg2 ?_
    obtain ⟨x4, hx4, h⟩ := ltx h
    refine ev_istore_n' (y := x4) (L' := [(2, (0, x4)), (0, (12, a0)), (1, (0, a1))]) d_Model_readPart_23 rfl (by decide) rfl hx4 ?_
    refine ev_aload_n 1 d_Model_readPart_24 rfl (by decide) rfl ?_
    refine ev_iconst d_Model_readPart_25 rfl ?_
    obtain ⟨p5, hp5, h⟩ := bx h
    have hRp5 := c_Model_next (X := X) (d := d - 1) (by omega) hn_a0 hp5
    refine ev_callV2 (st2 := []) (as := [(0, 0)]) (rest := []) rfl (by decide) (by decide) rfl hn_a0 rfl (Nat.le_of_ble_eq_true rfl) k_Model_next ⟨tw_1233, ts_99⟩ (by omega) tw_1231 d_Model_readPart_26 hRp5 rfl ?_
    refine ev_aload_n 1 d_Model_readPart_29 rfl (by decide) rfl ?_
    refine ev_bipush d_Model_readPart_30 rfl ?_
    refine ev_bipush d_Model_readPart_32 rfl ?_
    refine ev_bipush d_Model_readPart_34 rfl ?_
    refine ev_bipush d_Model_readPart_36 rfl ?_
    refine ev_iconst d_Model_readPart_38 rfl ?_
    obtain ⟨p6, hp6, h⟩ := bx h
    have hRp6 := c_Model_isWord (X := X) (d := d - 1) (by omega) hn_a0 hp6
    refine ev_callV2 (st2 := [(0, p6)]) (as := [(0, 109), (0, 117), (0, 115), (0, 116), (0, 0)]) (rest := []) rfl (by decide) (by decide) rfl hn_a0 rfl (Nat.le_of_ble_eq_true rfl) k_Model_isWord ⟨tw_1261, ts_106⟩ (by omega) tw_1259 d_Model_readPart_39 hRp6 rfl ?_
    refine ev_istore_n (L' := [(3, (0, p6)), (2, (0, x4)), (0, (12, a0)), (1, (0, a1))]) d_Model_readPart_42 rfl (by decide) rfl ?_
    refine ev_iload_n 0 d_Model_readPart_43 rfl rfl ?_
    by_cases hc7 : p6 ≠ 0
    · replace h := itp hc7 h
      refine ev_if_ne_t (tgt := 68) d_Model_readPart_44 (by decide) hc7 ?_
      refine ev_less (L' := [(0, (12, a0)), (1, (0, a1)), (2, (0, x4)), (3, (0, p6))]) [2, 3, 1, 0] rfl ?_
      exact cj_Model_readPart_68 hd hn_a0 h
    · replace h := itn hc7 h
      refine ev_if_ne_f d_Model_readPart_44 (by decide) hc7 ?_
      refine ev_aload_n 2 d_Model_readPart_47 rfl (by decide) rfl ?_
      refine ev_bipush d_Model_readPart_48 rfl ?_
      refine ev_bipush d_Model_readPart_50 rfl ?_
      refine ev_bipush d_Model_readPart_52 rfl ?_
      refine ev_iconst d_Model_readPart_54 rfl ?_
      refine ev_iconst d_Model_readPart_55 rfl ?_
      obtain ⟨p50, hp50, h⟩ := bx h
      have hRp50 := c_Model_isWord (X := X) (d := d - 1) (by omega) hn_a0 hp50
      refine ev_callV2 (st2 := [(0, p50)]) (as := [(0, 109), (0, 97), (0, 121), (0, 0), (0, 0)]) (rest := []) rfl (by decide) (by decide) rfl hn_a0 rfl (Nat.le_of_ble_eq_true rfl) k_Model_isWord ⟨tw_1261, ts_106⟩ (by omega) tw_1259 d_Model_readPart_56 hRp50 rfl ?_
      by_cases hc51 : p50 ≠ 0
      · replace h := itp hc51 h
        refine ev_if_ne_t (tgt := 68) d_Model_readPart_59 (by decide) hc51 ?_
        refine ev_less (L' := [(0, (12, a0)), (1, (0, a1)), (2, (0, x4)), (3, (0, p6))]) [2, 3, 1, 0] rfl ?_
        exact cj_Model_readPart_68 hd hn_a0 h
      · replace h := itn hc51 h
        refine ev_if_ne_f d_Model_readPart_59 (by decide) hc51 ?_
        refine ev_aload_n 2 d_Model_readPart_62 rfl (by decide) rfl ?_
        refine ev_iconst d_Model_readPart_63 rfl ?_
        obtain ⟨p52, hp52, h⟩ := bx h
        have hRp52 := c_Model_fails (X := X) (d := d - 1) (by omega) hn_a0 hp52
        refine ev_callV2 (st2 := [(0, p52.1)]) (as := [(0, 1)]) (rest := []) rfl (by decide) (by decide) rfl hn_a0 rfl (Nat.le_of_ble_eq_true rfl) k_Model_fails ⟨tw_1269, ts_108⟩ (by omega) tw_1267 d_Model_readPart_64 hRp52 rfl ?_
        cases h
        exact ev_retZ d_Model_readPart_67 rfl (hRp52.2.1 _ rfl rfl)
  · replace h := itn hc3 h
    refine ev_icmp_ne_f d_Model_readPart_8 (by decide) hc3 ?_
    refine ev_aload_n 0 d_Model_readPart_11 rfl (by decide) rfl ?_
    refine ev_iconst d_Model_readPart_12 rfl ?_
    obtain ⟨p53, hp53, h⟩ := bx h
    have hRp53 := c_Model_fails (X := X) (d := d - 1) (by omega) hn_a0 hp53
    refine ev_callV2 (st2 := [(0, p53.1)]) (as := [(0, 4)]) (rest := []) rfl (by decide) (by decide) rfl hn_a0 rfl (Nat.le_of_ble_eq_true rfl) k_Model_fails ⟨tw_1269, ts_108⟩ (by omega) tw_1267 d_Model_readPart_13 hRp53 rfl ?_
    cases h
    exact ev_retZ d_Model_readPart_16 rfl (hRp53.2.1 _ rfl rfl)
def l_Model_readPiece_41 (M : Mm) (a0 : Int) (z1 : Int) (s : Int) : Option ((Int) ⊕ ((Int × Mm) ⊕ (Unit))) :=
  if (mg M (cI a0) 37) ≤ s then
  some (.inr (.inr ()))
  else
  if (mg M (cI a0) 8) ≠ 0 then
  if (0 : Int) ≤ s ∧ s < (ml M (cI (mg M (cI a0) 8)) : Int) then
  if (mg M (cI (mg M (cI a0) 8)) (s : Int).toNat) ≠ (mg M (cI a0) 34) then
  lt (w32 (s + 1)) (fun x9 : Int =>
  some (.inl x9))
  else
  (f_Model_fails M a0 2).bind (fun p10 =>
  some (.inr (.inl ((p10.1, p10.2)))))
  else none
  else none
theorem cs_l_Model_readPiece_41 {X : XX} {d : Nat} (hd : 4 ≤ d) {M : Mm} {a0 : Int} {z1 : Int} (hn_a0 : a0 ≠ 0) {s : Int} {x : (Int) ⊕ ((Int × Mm) ⊕ (Unit))} {r : Option AV} {M' : Mm} (h : l_Model_readPiece_41 M a0 z1 s = some x) (hk1 : ∀ s : Int, x = .inl s → Ev X m_Model_readPiece d 41 [(0, (12, a0)), (1, (0, z1)), (2, (0, s))] [] M r M') (hk2 : ∀ q : Int × Mm, x = .inr (.inl q) → r = some (0, q.1) ∧ M' = q.2) (hk3 : ∀ t : Unit, x = .inr (.inr t) → Ev X m_Model_readPiece d 75 [(0, (12, a0)), (1, (0, z1))] [] M r M') : Ev X m_Model_readPiece d 41 [(0, (12, a0)), (1, (0, z1)), (2, (0, s))] [] M r M' := by
  unfold l_Model_readPiece_41 at h
  refine ev_iload_n 2 d_Model_readPiece_41 rfl rfl ?_
  refine ev_aload_n 0 d_Model_readPiece_42 rfl (by decide) rfl ?_
  refine ev_get (t := 12) (k := 37) (by decide) (by decide) rfl i_Model (by decide) rfl rfl tw_937 d_Model_readPiece_43 hn_a0 ?_
  by_cases hc5 : (mg M (cI a0) 37) ≤ s
  · replace h := itp hc5 h
    refine ev_icmp_ge_t (tgt := 75) d_Model_readPiece_46 (by decide) hc5 ?_
    refine ev_less (L' := [(0, (12, a0)), (1, (0, z1))]) [0, 1] rfl ?_
    cases h
    exact hk3 _ rfl
  · replace h := itn hc5 h
    refine ev_icmp_ge_f d_Model_readPiece_46 (by decide) hc5 ?_
    refine ev_aload_n 0 d_Model_readPiece_49 rfl (by decide) rfl ?_
    refine ev_get (t := 12) (k := 8) (by decide) (by decide) rfl i_Model (by decide) rfl rfl tw_908 d_Model_readPiece_50 hn_a0 ?_
    refine ev_iload_n 2 d_Model_readPiece_53 rfl rfl ?_
    obtain ⟨hz6, h⟩ := gx h
    obtain ⟨hg7, h⟩ := gx h
    refine ev_lald d_Model_readPiece_54 hz6 hg7 ?_
    refine ev_aload_n 0 d_Model_readPiece_55 rfl (by decide) rfl ?_
    refine ev_get (t := 12) (k := 34) (by decide) (by decide) rfl i_Model (by decide) rfl rfl tw_934 d_Model_readPiece_56 hn_a0 ?_
    refine ev_lcmp d_Model_readPiece_59 ?_
    by_cases hc8 : (mg M (cI (mg M (cI a0) 8)) (s : Int).toNat) ≠ (mg M (cI a0) 34)
    · replace h := itp hc8 h
      refine ev_if_ne_t (tgt := 69) d_Model_readPiece_60 (by decide) ((lC_ne _ _).mpr hc8) ?_
      obtain ⟨x9, hx9, h⟩ := ltx h
      refine ev_iinc' 2 (y := x9) (L' := [(2, (0, x9)), (0, (12, a0)), (1, (0, z1))]) d_Model_readPiece_69 rfl (by decide) rfl hx9 ?_
      refine ev_goto (tgt := 41) d_Model_readPiece_72 (by decide) ?_
      refine ev_less (L' := [(0, (12, a0)), (1, (0, z1)), (2, (0, x9))]) [1, 2, 0] rfl ?_
      cases h
      exact hk1 _ rfl
    · replace h := itn hc8 h
      refine ev_if_ne_f d_Model_readPiece_60 (by decide) (fun z => hc8 ((lC_ne _ _).mp z)) ?_
      refine ev_aload_n 0 d_Model_readPiece_63 rfl (by decide) rfl ?_
      refine ev_iconst d_Model_readPiece_64 rfl ?_
      obtain ⟨p10, hp10, h⟩ := bx h
      have hRp10 := c_Model_fails (X := X) (d := d - 1) (by omega) hn_a0 hp10
      refine ev_callV2 (st2 := [(0, p10.1)]) (as := [(0, 2)]) (rest := []) rfl (by decide) (by decide) rfl hn_a0 rfl (Nat.le_of_ble_eq_true rfl) k_Model_fails ⟨tw_1269, ts_108⟩ (by omega) tw_1267 d_Model_readPiece_65 hRp10 rfl ?_
      cases h
      obtain ⟨rfl, rfl⟩ := hk2 _ rfl
      exact ev_retZ d_Model_readPiece_68 rfl (hRp10.2.1 _ rfl rfl)
def l_Model_readPiece_205 (a0 : Int) (z1 : Int) (s : Mm) : Option ((Mm) ⊕ ((Int × Mm) ⊕ (Mm))) :=
  (f_Model_isSign s a0 44).bind (fun p45 =>
  if p45 = 0 then
  some (.inr (.inr s))
  else
  (f_Model_readPart s a0 z1).bind (fun p47 =>
  if p47.1 ≠ 0 then
  some (.inl p47.2)
  else
  some (.inr (.inl ((0, p47.2))))))
theorem cs_l_Model_readPiece_205 {X : XX} {d : Nat} (hd : 4 ≤ d) {a0 : Int} {z1 : Int} (hn_a0 : a0 ≠ 0) {s : Mm} {x : (Mm) ⊕ ((Int × Mm) ⊕ (Mm))} {r : Option AV} {M' : Mm} (h : l_Model_readPiece_205 a0 z1 s = some x) (hk1 : ∀ s : Mm, x = .inl s → Ev X m_Model_readPiece d 205 [(0, (12, a0)), (1, (0, z1))] [] s r M') (hk2 : ∀ q : Int × Mm, x = .inr (.inl q) → r = some (0, q.1) ∧ M' = q.2) (hk3 : ∀ t : Mm, x = .inr (.inr t) → Ev X m_Model_readPiece d 224 [(0, (12, a0)), (1, (0, z1))] [] t r M') : Ev X m_Model_readPiece d 205 [(0, (12, a0)), (1, (0, z1))] [] s r M' := by
  unfold l_Model_readPiece_205 at h
  refine ev_aload_n 0 d_Model_readPiece_205 rfl (by decide) rfl ?_
  refine ev_bipush d_Model_readPiece_206 rfl ?_
  obtain ⟨p45, hp45, h⟩ := bx h
  have hRp45 := c_Model_isSign (X := X) (d := d - 1) (by omega) hn_a0 hp45
  refine ev_callV2 (st2 := [(0, p45)]) (as := [(0, 44)]) (rest := []) rfl (by decide) (by decide) rfl hn_a0 rfl (Nat.le_of_ble_eq_true rfl) k_Model_isSign ⟨tw_1273, ts_109⟩ (by omega) tw_1271 d_Model_readPiece_208 hRp45 rfl ?_
  by_cases hc46 : p45 = 0
  · replace h := itp hc46 h
    refine ev_if_eq_t (tgt := 224) d_Model_readPiece_211 (by decide) hc46 ?_
    cases h
    exact hk3 _ rfl
  · replace h := itn hc46 h
    refine ev_if_eq_f d_Model_readPiece_211 (by decide) hc46 ?_
    refine ev_aload_n 0 d_Model_readPiece_214 rfl (by decide) rfl ?_
    refine ev_iload_n 1 d_Model_readPiece_215 rfl rfl ?_
    obtain ⟨p47, hp47, h⟩ := bx h
    have hRp47 := c_Model_readPart (X := X) (d := d - 1) (by omega) hn_a0 hp47
    refine ev_callV2 (st2 := [(0, p47.1)]) (as := [(0, z1)]) (rest := []) rfl (by decide) (by decide) rfl hn_a0 rfl (Nat.le_of_ble_eq_true rfl) k_Model_readPart ⟨tw_1281, ts_111⟩ (by omega) tw_1279 d_Model_readPiece_216 hRp47 rfl ?_
    by_cases hc48 : p47.1 ≠ 0
    · replace h := itp hc48 h
      refine ev_if_ne_t (tgt := 205) d_Model_readPiece_219 (by decide) hc48 ?_
      cases h
      exact hk1 _ rfl
    · replace h := itn hc48 h
      refine ev_if_ne_f d_Model_readPiece_219 (by decide) hc48 ?_
      refine ev_iconst d_Model_readPiece_222 rfl ?_
      cases h
      obtain ⟨rfl, rfl⟩ := hk2 _ rfl
      exact ev_retZ d_Model_readPiece_223 rfl (Or.inl rfl)
def l_Model_readPiece_241 (a0 : Int) (z1 : Int) (s : Int × Mm) : Option ((Int × Mm) ⊕ (Mm)) :=
  if 10 ≤ s.1 then
  some (.inr s.2)
  else
  if (mg s.2 (cI a0) 16) ≠ 0 then
  if (0 : Int) ≤ (w32 ((w32 (10 * z1)) + s.1)) ∧ (w32 ((w32 (10 * z1)) + s.1)) < (ml s.2 (cI (mg s.2 (cI a0) 16)) : Int) then
  lt (mp s.2 (cI (mg s.2 (cI a0) 16)) ((w32 ((w32 (10 * z1)) + s.1)) : Int).toNat 0) (fun M57 =>
  lt (w32 (s.1 + 1)) (fun x58 : Int =>
  some (.inl (x58, M57))))
  else none
  else none
theorem cs_l_Model_readPiece_241 {X : XX} {d : Nat} (hd : 4 ≤ d) {a0 : Int} {z1 : Int} (hn_a0 : a0 ≠ 0) {s : Int × Mm} {x : (Int × Mm) ⊕ (Mm)} {r : Option AV} {M' : Mm} (h : l_Model_readPiece_241 a0 z1 s = some x) (hk1 : ∀ s : Int × Mm, x = .inl s → Ev X m_Model_readPiece d 241 [(0, (12, a0)), (1, (0, z1)), (2, (0, s.1))] [] s.2 r M') (hk2 : ∀ t : Mm, x = .inr t → Ev X m_Model_readPiece d 265 [(0, (12, a0))] [] t r M') : Ev X m_Model_readPiece d 241 [(0, (12, a0)), (1, (0, z1)), (2, (0, s.1))] [] s.2 r M' := by
  unfold l_Model_readPiece_241 at h
  refine ev_iload_n 2 d_Model_readPiece_241 rfl rfl ?_
  refine ev_bipush d_Model_readPiece_242 rfl ?_
  by_cases hc54 : 10 ≤ s.1
  · replace h := itp hc54 h
    refine ev_icmp_ge_t (tgt := 265) d_Model_readPiece_244 (by decide) hc54 ?_
    refine ev_less (L' := [(0, (12, a0))]) [0] rfl ?_
    cases h
    exact hk2 _ rfl
  · replace h := itn hc54 h
    refine ev_icmp_ge_f d_Model_readPiece_244 (by decide) hc54 ?_
    refine ev_aload_n 0 d_Model_readPiece_247 rfl (by decide) rfl ?_
    refine ev_get (t := 12) (k := 16) (by decide) (by decide) rfl i_Model (by decide) rfl rfl tw_916 d_Model_readPiece_248 hn_a0 ?_
    refine ev_bipush d_Model_readPiece_251 rfl ?_
    refine ev_iload_n 1 d_Model_readPiece_253 rfl rfl ?_
    refine ev_imul d_Model_readPiece_254 ?_
    refine ev_iload_n 2 d_Model_readPiece_255 rfl rfl ?_
    refine ev_iadd d_Model_readPiece_256 ?_
    refine ev_iconst d_Model_readPiece_257 rfl ?_
    obtain ⟨hz55, h⟩ := gx h
    obtain ⟨hg56, h⟩ := gx h
    obtain ⟨M57, hM57, h⟩ := ltx h
    refine ev_iast' d_Model_readPiece_258 hz55 hg56 hM57 ?_
    obtain ⟨x58, hx58, h⟩ := ltx h
    refine ev_iinc' 2 (y := x58) (L' := [(2, (0, x58)), (0, (12, a0)), (1, (0, z1))]) d_Model_readPiece_259 rfl (by decide) rfl hx58 ?_
    refine ev_goto (tgt := 241) d_Model_readPiece_262 (by decide) ?_
    refine ev_less (L' := [(0, (12, a0)), (1, (0, z1)), (2, (0, x58))]) [1, 2, 0] rfl ?_
    cases h
    exact hk1 _ rfl
def f_Model_readPiece (M : Mm) (a0 : Int) : Option (Int × Mm) :=
  if (mg M (cI a0) 37) ≠ 10 then
  lt ((mg M (cI a0) 37)) (fun x2 : Int =>
  (f_Model_next M a0 0).bind (fun p3 =>
  if (mg p3 (cI a0) 32) = 3 then
  (loopN (l_Model_readPiece_41 p3 a0 x2) FU 0).bind (fun t11 =>
  Sum.elim (fun q12 => some q12) (fun u13 =>
  if (mg p3 (cI a0) 8) ≠ 0 then
  if (0 : Int) ≤ x2 ∧ x2 < (ml p3 (cI (mg p3 (cI a0) 8)) : Int) then
  lt (mp p3 (cI (mg p3 (cI a0) 8)) (x2 : Int).toNat (mg p3 (cI a0) 34)) (fun M16 =>
  (f_Model_next M16 a0 0).bind (fun p17 =>
  (f_Model_isSign p17 a0 58).bind (fun p18 =>
  if p18 ≠ 0 then
  (f_Model_next p17 a0 0).bind (fun p20 =>
  (f_Model_takes p20 a0 1 60).bind (fun p21 =>
  if p21.1 ≠ 0 then
  if (mg p21.2 (cI a0) 9) ≠ 0 then
  if (0 : Int) ≤ x2 ∧ x2 < (ml p21.2 (cI (mg p21.2 (cI a0) 9)) : Int) then
  lt (mp p21.2 (cI (mg p21.2 (cI a0) 9)) (x2 : Int).toNat (mg p21.2 (cI a0) 33)) (fun M25 =>
  (f_Model_next M25 a0 0).bind (fun p26 =>
  (f_Model_takes p26 a0 0 9).bind (fun p27 =>
  if p27.1 ≠ 0 then
  if (mg p27.2 (cI a0) 10) ≠ 0 then
  if (0 : Int) ≤ x2 ∧ x2 < (ml p27.2 (cI (mg p27.2 (cI a0) 10)) : Int) then
  lt (mp p27.2 (cI (mg p27.2 (cI a0) 10)) (x2 : Int).toNat (mg p27.2 (cI a0) 33)) (fun M31 =>
  (f_Model_next M31 a0 0).bind (fun p32 =>
  (f_Model_takes p32 a0 0 11).bind (fun p33 =>
  if p33.1 ≠ 0 then
  if (mg p33.2 (cI a0) 11) ≠ 0 then
  if (0 : Int) ≤ x2 ∧ x2 < (ml p33.2 (cI (mg p33.2 (cI a0) 11)) : Int) then
  lt (mp p33.2 (cI (mg p33.2 (cI a0) 11)) (x2 : Int).toNat (mg p33.2 (cI a0) 33)) (fun M37 =>
  if (mg M37 (cI a0) 12) ≠ 0 then
  if (0 : Int) ≤ x2 ∧ x2 < (ml M37 (cI (mg M37 (cI a0) 12)) : Int) then
  lt (mp M37 (cI (mg M37 (cI a0) 12)) (x2 : Int).toNat 0) (fun M40 =>
  if (mg M40 (cI a0) 13) ≠ 0 then
  if (0 : Int) ≤ x2 ∧ x2 < (ml M40 (cI (mg M40 (cI a0) 13)) : Int) then
  lt (mp M40 (cI (mg M40 (cI a0) 13)) (x2 : Int).toNat 0) (fun M43 =>
  (f_Model_next M43 a0 0).bind (fun p44 =>
  (loopN (l_Model_readPiece_205 a0 x2) FU p44).bind (fun t49 =>
  Sum.elim (fun q50 => some q50) (fun u51 =>
  (f_Model_isSign u51 a0 59).bind (fun p52 =>
  if p52 ≠ 0 then
  (loopN (l_Model_readPiece_241 a0 x2) FU (0, u51)).bind (fun t59 =>
  lt (mp t59 (cI a0) 37 (w32 ((mg t59 (cI a0) 37) + 1))) (fun M60 =>
  (f_Model_next M60 a0 0).bind (fun p61 =>
  some (1, p61))))
  else
  (f_Model_fails u51 a0 1).bind (fun p62 =>
  some (p62.1, p62.2)))) t49)))
  else none
  else none)
  else none
  else none)
  else none
  else none
  else
  some (0, p33.2))))
  else none
  else none
  else
  some (0, p27.2))))
  else none
  else none
  else
  some (0, p21.2)))
  else
  (f_Model_fails p17 a0 1).bind (fun p63 =>
  some (p63.1, p63.2)))))
  else none
  else none) t11)
  else
  (f_Model_fails p3 a0 1).bind (fun p64 =>
  some (p64.1, p64.2))))
  else
  (f_Model_fails M a0 4).bind (fun p65 =>
  some (p65.1, p65.2))
theorem c_Model_readPiece {X : XX} {d : Nat} (hd : 4 ≤ d) {M : Mm} {a0 : Int} (hn_a0 : a0 ≠ 0) {p : Int × Mm} (h : f_Model_readPiece M a0 = some p) : Rn X d m_Model_readPiece [(12, a0)] M (some (0, p.1)) p.2 := by
  refine Rn_of (by decide) rfl (Nat.le_of_ble_eq_true rfl) ?_
  unfold f_Model_readPiece at h
  refine ev_less (L' := [(0, (12, a0))]) [0] rfl ?_
  refine ev_aload_n 0 d_Model_readPiece_0 rfl (by decide) rfl ?_
  refine ev_get (t := 12) (k := 37) (by decide) (by decide) rfl i_Model (by decide) rfl rfl tw_937 d_Model_readPiece_1 hn_a0 ?_
  refine ev_bipush d_Model_readPiece_4 rfl ?_
  by_cases hc1 : (mg M (cI a0) 37) ≠ 10
  · replace h := itp hc1 h
    refine ev_icmp_ne_t (tgt := 15) d_Model_readPiece_6 (by decide) hc1 ?_
    refine ev_aload_n 0 d_Model_readPiece_15 rfl (by decide) rfl ?_
    refine ev_get (t := 12) (k := 37) (by decide) (by decide) rfl i_Model (by decide) rfl rfl tw_937 d_Model_readPiece_16 hn_a0 ?_
    obtain ⟨x2, hx2, h⟩ := ltx h
    refine ev_istore_n' (y := x2) (L' := [(1, (0, x2)), (0, (12, a0))]) d_Model_readPiece_19 rfl (by decide) rfl hx2 ?_
    refine ev_aload_n 1 d_Model_readPiece_20 rfl (by decide) rfl ?_
    refine ev_iconst d_Model_readPiece_21 rfl ?_
    obtain ⟨p3, hp3, h⟩ := bx h
    have hRp3 := c_Model_next (X := X) (d := d - 1) (by omega) hn_a0 hp3
    refine ev_callV2 (st2 := []) (as := [(0, 0)]) (rest := []) rfl (by decide) (by decide) rfl hn_a0 rfl (Nat.le_of_ble_eq_true rfl) k_Model_next ⟨tw_1233, ts_99⟩ (by omega) tw_1231 d_Model_readPiece_22 hRp3 rfl ?_
    refine ev_aload_n 1 d_Model_readPiece_25 rfl (by decide) rfl ?_
    refine ev_get (t := 12) (k := 32) (by decide) (by decide) rfl i_Model (by decide) rfl rfl tw_932 d_Model_readPiece_26 hn_a0 ?_
    refine ev_iconst d_Model_readPiece_29 rfl ?_
    by_cases hc4 : (mg p3 (cI a0) 32) = 3
    · replace h := itp hc4 h
      refine ev_icmp_eq_t (tgt := 39) d_Model_readPiece_30 (by decide) hc4 ?_
      refine ev_iconst d_Model_readPiece_39 rfl ?_
      refine ev_istore_n (L' := [(2, (0, 0)), (1, (0, x2)), (0, (12, a0))]) d_Model_readPiece_40 rfl (by decide) rfl ?_
      obtain ⟨t11, ht11, h⟩ := bx h
      refine ev_less (L' := [(0, (12, a0)), (1, (0, x2)), (2, (0, 0))]) [2, 1, 0] rfl ?_
      refine loop_ev (step := l_Model_readPiece_41 p3 a0 x2) (P := fun w : Int => Ev X m_Model_readPiece d 41 [(0, (12, a0)), (1, (0, x2)), (2, (0, w))] [] p3 (some (0, p.1)) p.2) (Q := fun u => (∀ q, u = .inl q → (some (0, p.1)) = some (0, q.1) ∧ p.2 = q.2) ∧ (∀ w, u = .inr w → Ev X m_Model_readPiece d 75 [(0, (12, a0)), (1, (0, x2))] [] p3 (some (0, p.1)) p.2)) (fun w x hs k1 k2 => cs_l_Model_readPiece_41 hd hn_a0 hs k1 (fun q e => (k2 _ e).1 q rfl) (fun t e => (k2 _ e).2 t rfl)) FU 0 t11 ht11 ?_
      refine ⟨fun qq e => ?_, fun tt e => ?_⟩
      · subst e; replace h := sx1 h; (obtain ⟨q12, rfl⟩ : ∃ y, y = qq := ⟨_, rfl⟩)
        cases h
        exact ⟨rfl, rfl⟩
      · subst e; replace h := sx2 h; (obtain ⟨u13, rfl⟩ : ∃ y, y = tt := ⟨_, rfl⟩)
        refine ev_aload_n 0 d_Model_readPiece_75 rfl (by decide) rfl ?_
        refine ev_get (t := 12) (k := 8) (by decide) (by decide) rfl i_Model (by decide) rfl rfl tw_908 d_Model_readPiece_76 hn_a0 ?_
        refine ev_iload_n 1 d_Model_readPiece_79 rfl rfl ?_
        refine ev_aload_n 0 d_Model_readPiece_80 rfl (by decide) rfl ?_
        refine ev_get (t := 12) (k := 34) (by decide) (by decide) rfl i_Model (by decide) rfl rfl tw_934 d_Model_readPiece_81 hn_a0 ?_
        obtain ⟨hz14, h⟩ := gx h
        obtain ⟨hg15, h⟩ := gx h
        obtain ⟨M16, hM16, h⟩ := ltx h
        refine ev_last' d_Model_readPiece_84 hz14 hg15 hM16 ?_
        refine ev_aload_n 0 d_Model_readPiece_85 rfl (by decide) rfl ?_
        refine ev_iconst d_Model_readPiece_86 rfl ?_
        obtain ⟨p17, hp17, h⟩ := bx h
        have hRp17 := c_Model_next (X := X) (d := d - 1) (by omega) hn_a0 hp17
        refine ev_callV2 (st2 := []) (as := [(0, 0)]) (rest := []) rfl (by decide) (by decide) rfl hn_a0 rfl (Nat.le_of_ble_eq_true rfl) k_Model_next ⟨tw_1233, ts_99⟩ (by omega) tw_1231 d_Model_readPiece_87 hRp17 rfl ?_
        refine ev_aload_n 0 d_Model_readPiece_90 rfl (by decide) rfl ?_
        refine ev_bipush d_Model_readPiece_91 rfl ?_
        obtain ⟨p18, hp18, h⟩ := bx h
        have hRp18 := c_Model_isSign (X := X) (d := d - 1) (by omega) hn_a0 hp18
        refine ev_callV2 (st2 := [(0, p18)]) (as := [(0, 58)]) (rest := []) rfl (by decide) (by decide) rfl hn_a0 rfl (Nat.le_of_ble_eq_true rfl) k_Model_isSign ⟨tw_1273, ts_109⟩ (by omega) tw_1271 d_Model_readPiece_93 hRp18 rfl ?_
        by_cases hc19 : p18 ≠ 0
        · replace h := itp hc19 h
          refine ev_if_ne_t (tgt := 105) d_Model_readPiece_96 (by decide) hc19 ?_
          refine ev_aload_n 0 d_Model_readPiece_105 rfl (by decide) rfl ?_
          refine ev_iconst d_Model_readPiece_106 rfl ?_
          obtain ⟨p20, hp20, h⟩ := bx h
          have hRp20 := c_Model_next (X := X) (d := d - 1) (by omega) hn_a0 hp20
          refine ev_callV2 (st2 := []) (as := [(0, 0)]) (rest := []) rfl (by decide) (by decide) rfl hn_a0 rfl (Nat.le_of_ble_eq_true rfl) k_Model_next ⟨tw_1233, ts_99⟩ (by omega) tw_1231 d_Model_readPiece_107 hRp20 rfl ?_
          refine ev_aload_n 0 d_Model_readPiece_110 rfl (by decide) rfl ?_
          refine ev_iconst d_Model_readPiece_111 rfl ?_
          refine ev_bipush d_Model_readPiece_112 rfl ?_
          obtain ⟨p21, hp21, h⟩ := bx h
          have hRp21 := c_Model_takes (X := X) (d := d - 1) (by omega) hn_a0 hp21
          refine ev_callV2 (st2 := [(0, p21.1)]) (as := [(0, 1), (0, 60)]) (rest := []) rfl (by decide) (by decide) rfl hn_a0 rfl (Nat.le_of_ble_eq_true rfl) k_Model_takes ⟨tw_1277, ts_110⟩ (by omega) tw_1275 d_Model_readPiece_114 hRp21 rfl ?_
          by_cases hc22 : p21.1 ≠ 0
          · replace h := itp hc22 h
            refine ev_if_ne_t (tgt := 122) d_Model_readPiece_117 (by decide) hc22 ?_
            refine ev_aload_n 0 d_Model_readPiece_122 rfl (by decide) rfl ?_
            refine ev_get (t := 12) (k := 9) (by decide) (by decide) rfl i_Model (by decide) rfl rfl tw_909 d_Model_readPiece_123 hn_a0 ?_
            refine ev_iload_n 1 d_Model_readPiece_126 rfl rfl ?_
            refine ev_aload_n 0 d_Model_readPiece_127 rfl (by decide) rfl ?_
            refine ev_get (t := 12) (k := 33) (by decide) (by decide) rfl i_Model (by decide) rfl rfl tw_933 d_Model_readPiece_128 hn_a0 ?_
            obtain ⟨hz23, h⟩ := gx h
            obtain ⟨hg24, h⟩ := gx h
            obtain ⟨M25, hM25, h⟩ := ltx h
            refine ev_iast' d_Model_readPiece_131 hz23 hg24 hM25 ?_
            refine ev_aload_n 0 d_Model_readPiece_132 rfl (by decide) rfl ?_
            refine ev_iconst d_Model_readPiece_133 rfl ?_
            obtain ⟨p26, hp26, h⟩ := bx h
            have hRp26 := c_Model_next (X := X) (d := d - 1) (by omega) hn_a0 hp26
            refine ev_callV2 (st2 := []) (as := [(0, 0)]) (rest := []) rfl (by decide) (by decide) rfl hn_a0 rfl (Nat.le_of_ble_eq_true rfl) k_Model_next ⟨tw_1233, ts_99⟩ (by omega) tw_1231 d_Model_readPiece_134 hRp26 rfl ?_
            refine ev_aload_n 0 d_Model_readPiece_137 rfl (by decide) rfl ?_
            refine ev_iconst d_Model_readPiece_138 rfl ?_
            refine ev_bipush d_Model_readPiece_139 rfl ?_
            obtain ⟨p27, hp27, h⟩ := bx h
            have hRp27 := c_Model_takes (X := X) (d := d - 1) (by omega) hn_a0 hp27
            refine ev_callV2 (st2 := [(0, p27.1)]) (as := [(0, 0), (0, 9)]) (rest := []) rfl (by decide) (by decide) rfl hn_a0 rfl (Nat.le_of_ble_eq_true rfl) k_Model_takes ⟨tw_1277, ts_110⟩ (by omega) tw_1275 d_Model_readPiece_141 hRp27 rfl ?_
            by_cases hc28 : p27.1 ≠ 0
            · replace h := itp hc28 h
              refine ev_if_ne_t (tgt := 149) d_Model_readPiece_144 (by decide) hc28 ?_
              refine ev_aload_n 0 d_Model_readPiece_149 rfl (by decide) rfl ?_
              refine ev_get (t := 12) (k := 10) (by decide) (by decide) rfl i_Model (by decide) rfl rfl tw_910 d_Model_readPiece_150 hn_a0 ?_
              refine ev_iload_n 1 d_Model_readPiece_153 rfl rfl ?_
              refine ev_aload_n 0 d_Model_readPiece_154 rfl (by decide) rfl ?_
              refine ev_get (t := 12) (k := 33) (by decide) (by decide) rfl i_Model (by decide) rfl rfl tw_933 d_Model_readPiece_155 hn_a0 ?_
              obtain ⟨hz29, h⟩ := gx h
              obtain ⟨hg30, h⟩ := gx h
              obtain ⟨M31, hM31, h⟩ := ltx h
              refine ev_iast' d_Model_readPiece_158 hz29 hg30 hM31 ?_
              refine ev_aload_n 0 d_Model_readPiece_159 rfl (by decide) rfl ?_
              refine ev_iconst d_Model_readPiece_160 rfl ?_
              obtain ⟨p32, hp32, h⟩ := bx h
              have hRp32 := c_Model_next (X := X) (d := d - 1) (by omega) hn_a0 hp32
              refine ev_callV2 (st2 := []) (as := [(0, 0)]) (rest := []) rfl (by decide) (by decide) rfl hn_a0 rfl (Nat.le_of_ble_eq_true rfl) k_Model_next ⟨tw_1233, ts_99⟩ (by omega) tw_1231 d_Model_readPiece_161 hRp32 rfl ?_
              refine ev_aload_n 0 d_Model_readPiece_164 rfl (by decide) rfl ?_
              refine ev_iconst d_Model_readPiece_165 rfl ?_
              refine ev_bipush d_Model_readPiece_166 rfl ?_
              obtain ⟨p33, hp33, h⟩ := bx h
              have hRp33 := c_Model_takes (X := X) (d := d - 1) (by omega) hn_a0 hp33
              refine ev_callV2 (st2 := [(0, p33.1)]) (as := [(0, 0), (0, 11)]) (rest := []) rfl (by decide) (by decide) rfl hn_a0 rfl (Nat.le_of_ble_eq_true rfl) k_Model_takes ⟨tw_1277, ts_110⟩ (by omega) tw_1275 d_Model_readPiece_168 hRp33 rfl ?_
              by_cases hc34 : p33.1 ≠ 0
              · replace h := itp hc34 h
                refine ev_if_ne_t (tgt := 176) d_Model_readPiece_171 (by decide) hc34 ?_
                refine ev_aload_n 0 d_Model_readPiece_176 rfl (by decide) rfl ?_
                refine ev_get (t := 12) (k := 11) (by decide) (by decide) rfl i_Model (by decide) rfl rfl tw_911 d_Model_readPiece_177 hn_a0 ?_
                refine ev_iload_n 1 d_Model_readPiece_180 rfl rfl ?_
                refine ev_aload_n 0 d_Model_readPiece_181 rfl (by decide) rfl ?_
                refine ev_get (t := 12) (k := 33) (by decide) (by decide) rfl i_Model (by decide) rfl rfl tw_933 d_Model_readPiece_182 hn_a0 ?_
                obtain ⟨hz35, h⟩ := gx h
                obtain ⟨hg36, h⟩ := gx h
                obtain ⟨M37, hM37, h⟩ := ltx h
                refine ev_iast' d_Model_readPiece_185 hz35 hg36 hM37 ?_
                refine ev_aload_n 0 d_Model_readPiece_186 rfl (by decide) rfl ?_
                refine ev_get (t := 12) (k := 12) (by decide) (by decide) rfl i_Model (by decide) rfl rfl tw_912 d_Model_readPiece_187 hn_a0 ?_
                refine ev_iload_n 1 d_Model_readPiece_190 rfl rfl ?_
                refine ev_iconst d_Model_readPiece_191 rfl ?_
                obtain ⟨hz38, h⟩ := gx h
                obtain ⟨hg39, h⟩ := gx h
                obtain ⟨M40, hM40, h⟩ := ltx h
                refine ev_iast' d_Model_readPiece_192 hz38 hg39 hM40 ?_
                refine ev_aload_n 0 d_Model_readPiece_193 rfl (by decide) rfl ?_
                refine ev_get (t := 12) (k := 13) (by decide) (by decide) rfl i_Model (by decide) rfl rfl tw_913 d_Model_readPiece_194 hn_a0 ?_
                refine ev_iload_n 1 d_Model_readPiece_197 rfl rfl ?_
                refine ev_iconst d_Model_readPiece_198 rfl ?_
                obtain ⟨hz41, h⟩ := gx h
                obtain ⟨hg42, h⟩ := gx h
                obtain ⟨M43, hM43, h⟩ := ltx h
                refine ev_iast' d_Model_readPiece_199 hz41 hg42 hM43 ?_
                refine ev_aload_n 0 d_Model_readPiece_200 rfl (by decide) rfl ?_
                refine ev_iconst d_Model_readPiece_201 rfl ?_
                obtain ⟨p44, hp44, h⟩ := bx h
                have hRp44 := c_Model_next (X := X) (d := d - 1) (by omega) hn_a0 hp44
                refine ev_callV2 (st2 := []) (as := [(0, 0)]) (rest := []) rfl (by decide) (by decide) rfl hn_a0 rfl (Nat.le_of_ble_eq_true rfl) k_Model_next ⟨tw_1233, ts_99⟩ (by omega) tw_1231 d_Model_readPiece_202 hRp44 rfl ?_
                obtain ⟨t49, ht49, h⟩ := bx h
                refine loop_ev (step := l_Model_readPiece_205 a0 x2) (P := fun w : Mm => Ev X m_Model_readPiece d 205 [(0, (12, a0)), (1, (0, x2))] [] w (some (0, p.1)) p.2) (Q := fun u => (∀ q, u = .inl q → (some (0, p.1)) = some (0, q.1) ∧ p.2 = q.2) ∧ (∀ w, u = .inr w → Ev X m_Model_readPiece d 224 [(0, (12, a0)), (1, (0, x2))] [] w (some (0, p.1)) p.2)) (fun w x hs k1 k2 => cs_l_Model_readPiece_205 hd hn_a0 hs k1 (fun q e => (k2 _ e).1 q rfl) (fun t e => (k2 _ e).2 t rfl)) FU p44 t49 ht49 ?_
                refine ⟨fun qq e => ?_, fun tt e => ?_⟩
                · subst e; replace h := sx1 h; (obtain ⟨q50, rfl⟩ : ∃ y, y = qq := ⟨_, rfl⟩)
                  cases h
                  exact ⟨rfl, rfl⟩
                · subst e; replace h := sx2 h; (obtain ⟨u51, rfl⟩ : ∃ y, y = tt := ⟨_, rfl⟩)
                  refine ev_aload_n 0 d_Model_readPiece_224 rfl (by decide) rfl ?_
                  refine ev_bipush d_Model_readPiece_225 rfl ?_
                  obtain ⟨p52, hp52, h⟩ := bx h
                  have hRp52 := c_Model_isSign (X := X) (d := d - 1) (by omega) hn_a0 hp52
                  refine ev_callV2 (st2 := [(0, p52)]) (as := [(0, 59)]) (rest := []) rfl (by decide) (by decide) rfl hn_a0 rfl (Nat.le_of_ble_eq_true rfl) k_Model_isSign ⟨tw_1273, ts_109⟩ (by omega) tw_1271 d_Model_readPiece_227 hRp52 rfl ?_
                  by_cases hc53 : p52 ≠ 0
                  · replace h := itp hc53 h
                    refine ev_if_ne_t (tgt := 239) d_Model_readPiece_230 (by decide) hc53 ?_
                    refine ev_iconst d_Model_readPiece_239 rfl ?_
                    refine ev_istore_n (L' := [(2, (0, 0)), (0, (12, a0)), (1, (0, x2))]) d_Model_readPiece_240 rfl (by decide) rfl ?_
                    obtain ⟨t59, ht59, h⟩ := bx h
                    refine ev_less (L' := [(0, (12, a0)), (1, (0, x2)), (2, (0, 0))]) [1, 2, 0] rfl ?_
                    refine loop_ev (step := l_Model_readPiece_241 a0 x2) (P := fun w : Int × Mm => Ev X m_Model_readPiece d 241 [(0, (12, a0)), (1, (0, x2)), (2, (0, w.1))] [] w.2 (some (0, p.1)) p.2) (Q := fun w => Ev X m_Model_readPiece d 265 [(0, (12, a0))] [] w (some (0, p.1)) p.2) (fun w x hs k1 k2 => cs_l_Model_readPiece_241 hd hn_a0 hs k1 k2) FU (0, u51) t59 ht59 ?_
                    refine ev_aload_n 0 d_Model_readPiece_265 rfl (by decide) rfl ?_
                    refine ev_aload_n 0 d_Model_readPiece_266 rfl (by decide) rfl ?_
                    refine ev_get (t := 12) (k := 37) (by decide) (by decide) rfl i_Model (by decide) rfl rfl tw_937 d_Model_readPiece_267 hn_a0 ?_
                    refine ev_iconst d_Model_readPiece_270 rfl ?_
                    refine ev_iadd d_Model_readPiece_271 ?_
                    obtain ⟨M60, hM60, h⟩ := ltx h
                    refine ev_put' (t := 12) (k := 37) (by decide) (by decide) rfl i_Model t_Model_ok n_Model (by decide) rfl rfl rfl rfl tw_937 d_Model_readPiece_272 hn_a0 hM60 ?_
                    refine ev_aload_n 0 d_Model_readPiece_275 rfl (by decide) rfl ?_
                    refine ev_iconst d_Model_readPiece_276 rfl ?_
                    obtain ⟨p61, hp61, h⟩ := bx h
                    have hRp61 := c_Model_next (X := X) (d := d - 1) (by omega) hn_a0 hp61
                    refine ev_callV2 (st2 := []) (as := [(0, 0)]) (rest := []) rfl (by decide) (by decide) rfl hn_a0 rfl (Nat.le_of_ble_eq_true rfl) k_Model_next ⟨tw_1233, ts_99⟩ (by omega) tw_1231 d_Model_readPiece_277 hRp61 rfl ?_
                    refine ev_iconst d_Model_readPiece_280 rfl ?_
                    cases h
                    exact ev_retZ d_Model_readPiece_281 rfl (Or.inr rfl)
                  · replace h := itn hc53 h
                    refine ev_if_ne_f d_Model_readPiece_230 (by decide) hc53 ?_
                    refine ev_aload_n 0 d_Model_readPiece_233 rfl (by decide) rfl ?_
                    refine ev_iconst d_Model_readPiece_234 rfl ?_
                    obtain ⟨p62, hp62, h⟩ := bx h
                    have hRp62 := c_Model_fails (X := X) (d := d - 1) (by omega) hn_a0 hp62
                    refine ev_callV2 (st2 := [(0, p62.1)]) (as := [(0, 1)]) (rest := []) rfl (by decide) (by decide) rfl hn_a0 rfl (Nat.le_of_ble_eq_true rfl) k_Model_fails ⟨tw_1269, ts_108⟩ (by omega) tw_1267 d_Model_readPiece_235 hRp62 rfl ?_
                    cases h
                    exact ev_retZ d_Model_readPiece_238 rfl (hRp62.2.1 _ rfl rfl)
              · replace h := itn hc34 h
                refine ev_if_ne_f d_Model_readPiece_171 (by decide) hc34 ?_
                refine ev_iconst d_Model_readPiece_174 rfl ?_
                cases h
                exact ev_retZ d_Model_readPiece_175 rfl (Or.inl rfl)
            · replace h := itn hc28 h
              refine ev_if_ne_f d_Model_readPiece_144 (by decide) hc28 ?_
              refine ev_iconst d_Model_readPiece_147 rfl ?_
              cases h
              exact ev_retZ d_Model_readPiece_148 rfl (Or.inl rfl)
          · replace h := itn hc22 h
            refine ev_if_ne_f d_Model_readPiece_117 (by decide) hc22 ?_
            refine ev_iconst d_Model_readPiece_120 rfl ?_
            cases h
            exact ev_retZ d_Model_readPiece_121 rfl (Or.inl rfl)
        · replace h := itn hc19 h
          refine ev_if_ne_f d_Model_readPiece_96 (by decide) hc19 ?_
          refine ev_aload_n 0 d_Model_readPiece_99 rfl (by decide) rfl ?_
          refine ev_iconst d_Model_readPiece_100 rfl ?_
          obtain ⟨p63, hp63, h⟩ := bx h
          have hRp63 := c_Model_fails (X := X) (d := d - 1) (by omega) hn_a0 hp63
          refine ev_callV2 (st2 := [(0, p63.1)]) (as := [(0, 1)]) (rest := []) rfl (by decide) (by decide) rfl hn_a0 rfl (Nat.le_of_ble_eq_true rfl) k_Model_fails ⟨tw_1269, ts_108⟩ (by omega) tw_1267 d_Model_readPiece_101 hRp63 rfl ?_
          cases h
          exact ev_retZ d_Model_readPiece_104 rfl (hRp63.2.1 _ rfl rfl)
    · replace h := itn hc4 h
      refine ev_icmp_eq_f d_Model_readPiece_30 (by decide) hc4 ?_
      refine ev_aload_n 1 d_Model_readPiece_33 rfl (by decide) rfl ?_
      refine ev_iconst d_Model_readPiece_34 rfl ?_
      obtain ⟨p64, hp64, h⟩ := bx h
      have hRp64 := c_Model_fails (X := X) (d := d - 1) (by omega) hn_a0 hp64
      refine ev_callV2 (st2 := [(0, p64.1)]) (as := [(0, 1)]) (rest := []) rfl (by decide) (by decide) rfl hn_a0 rfl (Nat.le_of_ble_eq_true rfl) k_Model_fails ⟨tw_1269, ts_108⟩ (by omega) tw_1267 d_Model_readPiece_35 hRp64 rfl ?_
      cases h
      exact ev_retZ d_Model_readPiece_38 rfl (hRp64.2.1 _ rfl rfl)
  · replace h := itn hc1 h
    refine ev_icmp_ne_f d_Model_readPiece_6 (by decide) hc1 ?_
    refine ev_aload_n 0 d_Model_readPiece_9 rfl (by decide) rfl ?_
    refine ev_iconst d_Model_readPiece_10 rfl ?_
    obtain ⟨p65, hp65, h⟩ := bx h
    have hRp65 := c_Model_fails (X := X) (d := d - 1) (by omega) hn_a0 hp65
    refine ev_callV2 (st2 := [(0, p65.1)]) (as := [(0, 4)]) (rest := []) rfl (by decide) (by decide) rfl hn_a0 rfl (Nat.le_of_ble_eq_true rfl) k_Model_fails ⟨tw_1269, ts_108⟩ (by omega) tw_1267 d_Model_readPiece_11 hRp65 rfl ?_
    cases h
    exact ev_retZ d_Model_readPiece_14 rfl (hRp65.2.1 _ rfl rfl)
def l_Model_readText_18 (a0 : Int) (s : Mm) : Option ((Mm) ⊕ ((Int × Mm) ⊕ (Mm))) :=
  (f_Model_isWord s a0 112 105 101 99 101).bind (fun p4 =>
  if p4 = 0 then
  some (.inr (.inr s))
  else
  (f_Model_readPiece s a0).bind (fun p6 =>
  if p6.1 ≠ 0 then
  some (.inl p6.2)
  else
  some (.inr (.inl ((0, p6.2))))))
theorem cs_l_Model_readText_18 {X : XX} {d : Nat} (hd : 5 ≤ d) {a0 : Int} (hn_a0 : a0 ≠ 0) {s : Mm} {x : (Mm) ⊕ ((Int × Mm) ⊕ (Mm))} {r : Option AV} {M' : Mm} (h : l_Model_readText_18 a0 s = some x) (hk1 : ∀ s : Mm, x = .inl s → Ev X m_Model_readText d 18 [(0, (12, a0))] [] s r M') (hk2 : ∀ q : Int × Mm, x = .inr (.inl q) → r = some (0, q.1) ∧ M' = q.2) (hk3 : ∀ t : Mm, x = .inr (.inr t) → Ev X m_Model_readText d 44 [(0, (12, a0))] [] t r M') : Ev X m_Model_readText d 18 [(0, (12, a0))] [] s r M' := by
  unfold l_Model_readText_18 at h
  refine ev_aload_n 0 d_Model_readText_18 rfl (by decide) rfl ?_
  refine ev_bipush d_Model_readText_19 rfl ?_
  refine ev_bipush d_Model_readText_21 rfl ?_
  refine ev_bipush d_Model_readText_23 rfl ?_
  refine ev_bipush d_Model_readText_25 rfl ?_
  refine ev_bipush d_Model_readText_27 rfl ?_
  obtain ⟨p4, hp4, h⟩ := bx h
  have hRp4 := c_Model_isWord (X := X) (d := d - 1) (by omega) hn_a0 hp4
  refine ev_callV2 (st2 := [(0, p4)]) (as := [(0, 112), (0, 105), (0, 101), (0, 99), (0, 101)]) (rest := []) rfl (by decide) (by decide) rfl hn_a0 rfl (Nat.le_of_ble_eq_true rfl) k_Model_isWord ⟨tw_1261, ts_106⟩ (by omega) tw_1259 d_Model_readText_29 hRp4 rfl ?_
  by_cases hc5 : p4 = 0
  · replace h := itp hc5 h
    refine ev_if_eq_t (tgt := 44) d_Model_readText_32 (by decide) hc5 ?_
    cases h
    exact hk3 _ rfl
  · replace h := itn hc5 h
    refine ev_if_eq_f d_Model_readText_32 (by decide) hc5 ?_
    refine ev_aload_n 0 d_Model_readText_35 rfl (by decide) rfl ?_
    obtain ⟨p6, hp6, h⟩ := bx h
    have hRp6 := c_Model_readPiece (X := X) (d := d - 1) (by omega) hn_a0 hp6
    refine ev_callV2 (st2 := [(0, p6.1)]) (as := []) (rest := []) rfl (by decide) (by decide) rfl hn_a0 rfl (Nat.le_of_ble_eq_true rfl) k_Model_readPiece ⟨tw_1265, ts_107⟩ (by omega) tw_1263 d_Model_readText_36 hRp6 rfl ?_
    by_cases hc7 : p6.1 ≠ 0
    · replace h := itp hc7 h
      refine ev_if_ne_t (tgt := 18) d_Model_readText_39 (by decide) hc7 ?_
      cases h
      exact hk1 _ rfl
    · replace h := itn hc7 h
      refine ev_if_ne_f d_Model_readText_39 (by decide) hc7 ?_
      refine ev_iconst d_Model_readText_42 rfl ?_
      cases h
      obtain ⟨rfl, rfl⟩ := hk2 _ rfl
      exact ev_retZ d_Model_readText_43 rfl (Or.inl rfl)
def f_Model_readText (M : Mm) (a0 : Int) : Option (Int × Mm) :=
  lt (mp M (cI a0) 30 0) (fun M1 =>
  lt (mp M1 (cI a0) 37 (mg M1 (cI a0) 7)) (fun M2 =>
  (f_Model_next M2 a0 0).bind (fun p3 =>
  (loopN (l_Model_readText_18 a0) FU p3).bind (fun t8 =>
  Sum.elim (fun q9 => some q9) (fun u10 =>
  if (mg u10 (cI a0) 32) = 0 then
  some (1, u10)
  else
  (f_Model_fails u10 a0 1).bind (fun p12 =>
  if p12.1 = 0 then
  some (0, p12.2)
  else
  some (1, p12.2))) t8))))
theorem c_Model_readText {X : XX} {d : Nat} (hd : 5 ≤ d) {M : Mm} {a0 : Int} (hn_a0 : a0 ≠ 0) {p : Int × Mm} (h : f_Model_readText M a0 = some p) : Rn X d m_Model_readText [(12, a0)] M (some (0, p.1)) p.2 := by
  refine Rn_of (by decide) rfl (Nat.le_of_ble_eq_true rfl) ?_
  unfold f_Model_readText at h
  refine ev_less (L' := [(0, (12, a0))]) [0] rfl ?_
  refine ev_aload_n 0 d_Model_readText_0 rfl (by decide) rfl ?_
  refine ev_iconst d_Model_readText_1 rfl ?_
  obtain ⟨M1, hM1, h⟩ := ltx h
  refine ev_put' (t := 12) (k := 30) (by decide) (by decide) rfl i_Model t_Model_ok n_Model (by decide) rfl rfl rfl rfl tw_930 d_Model_readText_2 hn_a0 hM1 ?_
  refine ev_aload_n 0 d_Model_readText_5 rfl (by decide) rfl ?_
  refine ev_aload_n 0 d_Model_readText_6 rfl (by decide) rfl ?_
  refine ev_get (t := 12) (k := 7) (by decide) (by decide) rfl i_Model (by decide) rfl rfl tw_907 d_Model_readText_7 hn_a0 ?_
  obtain ⟨M2, hM2, h⟩ := ltx h
  refine ev_put' (t := 12) (k := 37) (by decide) (by decide) rfl i_Model t_Model_ok n_Model (by decide) rfl rfl rfl rfl tw_937 d_Model_readText_10 hn_a0 hM2 ?_
  refine ev_aload_n 0 d_Model_readText_13 rfl (by decide) rfl ?_
  refine ev_iconst d_Model_readText_14 rfl ?_
  obtain ⟨p3, hp3, h⟩ := bx h
  have hRp3 := c_Model_next (X := X) (d := d - 1) (by omega) hn_a0 hp3
  refine ev_callV2 (st2 := []) (as := [(0, 0)]) (rest := []) rfl (by decide) (by decide) rfl hn_a0 rfl (Nat.le_of_ble_eq_true rfl) k_Model_next ⟨tw_1233, ts_99⟩ (by omega) tw_1231 d_Model_readText_15 hRp3 rfl ?_
  obtain ⟨t8, ht8, h⟩ := bx h
  refine loop_ev (step := l_Model_readText_18 a0) (P := fun w : Mm => Ev X m_Model_readText d 18 [(0, (12, a0))] [] w (some (0, p.1)) p.2) (Q := fun u => (∀ q, u = .inl q → (some (0, p.1)) = some (0, q.1) ∧ p.2 = q.2) ∧ (∀ w, u = .inr w → Ev X m_Model_readText d 44 [(0, (12, a0))] [] w (some (0, p.1)) p.2)) (fun w x hs k1 k2 => cs_l_Model_readText_18 hd hn_a0 hs k1 (fun q e => (k2 _ e).1 q rfl) (fun t e => (k2 _ e).2 t rfl)) FU p3 t8 ht8 ?_
  refine ⟨fun qq e => ?_, fun tt e => ?_⟩
  · subst e; replace h := sx1 h; (obtain ⟨q9, rfl⟩ : ∃ y, y = qq := ⟨_, rfl⟩)
    cases h
    exact ⟨rfl, rfl⟩
  · subst e; replace h := sx2 h; (obtain ⟨u10, rfl⟩ : ∃ y, y = tt := ⟨_, rfl⟩)
    refine ev_aload_n 0 d_Model_readText_44 rfl (by decide) rfl ?_
    refine ev_get (t := 12) (k := 32) (by decide) (by decide) rfl i_Model (by decide) rfl rfl tw_932 d_Model_readText_45 hn_a0 ?_
    by_cases hc11 : (mg u10 (cI a0) 32) = 0
    · replace h := itp hc11 h
      refine ev_if_eq_t (tgt := 59) d_Model_readText_48 (by decide) hc11 ?_
      refine ev_iconst d_Model_readText_59 rfl ?_
      refine ev_goto (tgt := 64) d_Model_readText_60 (by decide) ?_
      cases h
      exact ev_retZ d_Model_readText_64 rfl (Or.inr rfl)
    · replace h := itn hc11 h
      refine ev_if_eq_f d_Model_readText_48 (by decide) hc11 ?_
      refine ev_aload_n 0 d_Model_readText_51 rfl (by decide) rfl ?_
      refine ev_iconst d_Model_readText_52 rfl ?_
      obtain ⟨p12, hp12, h⟩ := bx h
      have hRp12 := c_Model_fails (X := X) (d := d - 1) (by omega) hn_a0 hp12
      refine ev_callV2 (st2 := [(0, p12.1)]) (as := [(0, 1)]) (rest := []) rfl (by decide) (by decide) rfl hn_a0 rfl (Nat.le_of_ble_eq_true rfl) k_Model_fails ⟨tw_1269, ts_108⟩ (by omega) tw_1267 d_Model_readText_53 hRp12 rfl ?_
      by_cases hc13 : p12.1 = 0
      · replace h := itp hc13 h
        refine ev_if_eq_t (tgt := 63) d_Model_readText_56 (by decide) hc13 ?_
        refine ev_iconst d_Model_readText_63 rfl ?_
        cases h
        exact ev_retZ d_Model_readText_64 rfl (Or.inl rfl)
      · replace h := itn hc13 h
        refine ev_if_eq_f d_Model_readText_56 (by decide) hc13 ?_
        refine ev_iconst d_Model_readText_59 rfl ?_
        refine ev_goto (tgt := 64) d_Model_readText_60 (by decide) ?_
        cases h
        exact ev_retZ d_Model_readText_64 rfl (Or.inr rfl)
def f_Model_load (M : Mm) (a0 : Int) : Option (Int × Mm) :=
  lt (mp M (cI a0) 0 0) (fun M1 =>
  (f_Model_readText M1 a0).bind (fun p2 =>
  lt (mp p2.2 (cI a0) 29 0) (fun M3 =>
  if p2.1 ≠ 0 then
  lt (mp M3 (cI a0) 35 0) (fun M5 =>
  lt (mp M5 (cI a0) 36 (-1)) (fun M6 =>
  lt (mp M6 (cI a0) 7 (mg M6 (cI a0) 37)) (fun M7 =>
  some ((mg M7 (cI a0) 7), M7))))
  else
  some ((-1), M3))))
theorem c_Model_load {X : XX} {d : Nat} (hd : 6 ≤ d) {M : Mm} {a0 : Int} (hn_a0 : a0 ≠ 0) {p : Int × Mm} (h : f_Model_load M a0 = some p) : Rn X d m_Model_load [(12, a0)] M (some (0, p.1)) p.2 := by
  refine Rn_of (by decide) rfl (Nat.le_of_ble_eq_true rfl) ?_
  unfold f_Model_load at h
  refine ev_less (L' := [(0, (12, a0))]) [0] rfl ?_
  refine ev_aload_n 0 d_Model_load_0 rfl (by decide) rfl ?_
  refine ev_iconst d_Model_load_1 rfl ?_
  obtain ⟨M1, hM1, h⟩ := ltx h
  refine ev_put' (t := 12) (k := 0) (by decide) (by decide) rfl i_Model t_Model_ok n_Model (by decide) rfl rfl rfl rfl tw_900 d_Model_load_2 hn_a0 hM1 ?_
  refine ev_aload_n 0 d_Model_load_5 rfl (by decide) rfl ?_
  obtain ⟨p2, hp2, h⟩ := bx h
  have hRp2 := c_Model_readText (X := X) (d := d - 1) (by omega) hn_a0 hp2
  refine ev_callV2 (st2 := [(0, p2.1)]) (as := []) (rest := []) rfl (by decide) (by decide) rfl hn_a0 rfl (Nat.le_of_ble_eq_true rfl) k_Model_readText ⟨tw_1229, ts_98⟩ (by omega) tw_1227 d_Model_load_6 hRp2 rfl ?_
  refine ev_istore_n (L' := [(1, (0, p2.1)), (0, (12, a0))]) d_Model_load_9 rfl (by decide) rfl ?_
  refine ev_aload_n 1 d_Model_load_10 rfl (by decide) rfl ?_
  refine ev_iconst d_Model_load_11 rfl ?_
  obtain ⟨M3, hM3, h⟩ := ltx h
  refine ev_put' (t := 12) (k := 29) (by decide) (by decide) rfl i_Model t_Model_ok n_Model (by decide) rfl rfl rfl rfl tw_929 d_Model_load_12 hn_a0 hM3 ?_
  refine ev_iload_n 0 d_Model_load_15 rfl rfl ?_
  by_cases hc4 : p2.1 ≠ 0
  · replace h := itp hc4 h
    refine ev_if_ne_t (tgt := 21) d_Model_load_16 (by decide) hc4 ?_
    refine ev_aload_n 1 d_Model_load_21 rfl (by decide) rfl ?_
    refine ev_iconst d_Model_load_22 rfl ?_
    obtain ⟨M5, hM5, h⟩ := ltx h
    refine ev_put' (t := 12) (k := 35) (by decide) (by decide) rfl i_Model t_Model_ok n_Model (by decide) rfl rfl rfl rfl tw_935 d_Model_load_23 hn_a0 hM5 ?_
    refine ev_aload_n 1 d_Model_load_26 rfl (by decide) rfl ?_
    refine ev_iconst d_Model_load_27 rfl ?_
    obtain ⟨M6, hM6, h⟩ := ltx h
    refine ev_put' (t := 12) (k := 36) (by decide) (by decide) rfl i_Model t_Model_ok n_Model (by decide) rfl rfl rfl rfl tw_936 d_Model_load_28 hn_a0 hM6 ?_
    refine ev_aload_n 1 d_Model_load_31 rfl (by decide) rfl ?_
    refine ev_aload_n 1 d_Model_load_32 rfl (by decide) rfl ?_
    refine ev_get (t := 12) (k := 37) (by decide) (by decide) rfl i_Model (by decide) rfl rfl tw_937 d_Model_load_33 hn_a0 ?_
    obtain ⟨M7, hM7, h⟩ := ltx h
    refine ev_put' (t := 12) (k := 7) (by decide) (by decide) rfl i_Model t_Model_ok n_Model (by decide) rfl rfl rfl rfl tw_907 d_Model_load_36 hn_a0 hM7 ?_
    refine ev_aload_n 1 d_Model_load_39 rfl (by decide) rfl ?_
    refine ev_get (t := 12) (k := 7) (by decide) (by decide) rfl i_Model (by decide) rfl rfl tw_907 d_Model_load_40 hn_a0 ?_
    cases h
    exact ev_ret d_Model_load_43 rfl
  · replace h := itn hc4 h
    refine ev_if_ne_f d_Model_load_16 (by decide) hc4 ?_
    refine ev_iconst d_Model_load_19 rfl ?_
    cases h
    exact ev_ret d_Model_load_20 rfl
def f_Model_does (M : Mm) (a0 : Int) (a1 : Int) (a2 : Int) : Option (Mm) :=
  if (mg M (cI a0) 42) ≠ 0 then
  if (0 : Int) ≤ (mg M (cI a0) 41) ∧ (mg M (cI a0) 41) < (ml M (cI (mg M (cI a0) 42)) : Int) then
  lt (mp M (cI (mg M (cI a0) 42)) ((mg M (cI a0) 41) : Int).toNat a1) (fun M3 =>
  if (mg M3 (cI a0) 43) ≠ 0 then
  if (0 : Int) ≤ (mg M3 (cI a0) 41) ∧ (mg M3 (cI a0) 41) < (ml M3 (cI (mg M3 (cI a0) 43)) : Int) then
  lt (mp M3 (cI (mg M3 (cI a0) 43)) ((mg M3 (cI a0) 41) : Int).toNat a2) (fun M6 =>
  lt (mp M6 (cI a0) 41 (w32 ((mg M6 (cI a0) 41) + 1))) (fun M7 =>
  some M7))
  else none
  else none)
  else none
  else none
theorem c_Model_does {X : XX} {d : Nat} (hd : 0 ≤ d) {M : Mm} {a0 : Int} {a1 : Int} {a2 : Int} (hn_a0 : a0 ≠ 0) {p : Mm} (h : f_Model_does M a0 a1 a2 = some p) : Rn X d m_Model_does [(12, a0), (0, a1), (0, a2)] M none p := by
  refine Rn_of (by decide) rfl (Nat.le_of_ble_eq_true rfl) ?_
  unfold f_Model_does at h
  refine ev_less (L' := [(0, (12, a0)), (1, (0, a1)), (2, (0, a2))]) [0, 1, 2] rfl ?_
  refine ev_aload_n 0 d_Model_does_0 rfl (by decide) rfl ?_
  refine ev_get (t := 12) (k := 42) (by decide) (by decide) rfl i_Model (by decide) rfl rfl tw_942 d_Model_does_1 hn_a0 ?_
  refine ev_aload_n 0 d_Model_does_4 rfl (by decide) rfl ?_
  refine ev_get (t := 12) (k := 41) (by decide) (by decide) rfl i_Model (by decide) rfl rfl tw_941 d_Model_does_5 hn_a0 ?_
  refine ev_iload_n 1 d_Model_does_8 rfl rfl ?_
  obtain ⟨hz1, h⟩ := gx h
  obtain ⟨hg2, h⟩ := gx h
  obtain ⟨M3, hM3, h⟩ := ltx h
  refine ev_iast' d_Model_does_9 hz1 hg2 hM3 ?_
  refine ev_aload_n 0 d_Model_does_10 rfl (by decide) rfl ?_
  refine ev_get (t := 12) (k := 43) (by decide) (by decide) rfl i_Model (by decide) rfl rfl tw_943 d_Model_does_11 hn_a0 ?_
  refine ev_aload_n 0 d_Model_does_14 rfl (by decide) rfl ?_
  refine ev_get (t := 12) (k := 41) (by decide) (by decide) rfl i_Model (by decide) rfl rfl tw_941 d_Model_does_15 hn_a0 ?_
  refine ev_iload_n 2 d_Model_does_18 rfl rfl ?_
  obtain ⟨hz4, h⟩ := gx h
  obtain ⟨hg5, h⟩ := gx h
  obtain ⟨M6, hM6, h⟩ := ltx h
  refine ev_iast' d_Model_does_19 hz4 hg5 hM6 ?_
  refine ev_aload_n 0 d_Model_does_20 rfl (by decide) rfl ?_
  refine ev_aload_n 0 d_Model_does_21 rfl (by decide) rfl ?_
  refine ev_get (t := 12) (k := 41) (by decide) (by decide) rfl i_Model (by decide) rfl rfl tw_941 d_Model_does_22 hn_a0 ?_
  refine ev_iconst d_Model_does_25 rfl ?_
  refine ev_iadd d_Model_does_26 ?_
  obtain ⟨M7, hM7, h⟩ := ltx h
  refine ev_put' (t := 12) (k := 41) (by decide) (by decide) rfl i_Model t_Model_ok n_Model (by decide) rfl rfl rfl rfl tw_941 d_Model_does_27 hn_a0 hM7 ?_
  cases h
  exact ev_retV d_Model_does_30 rfl
def f_Model_rank (M : Mm) (a0 : Int) (a1 : Int) : Option (Int) :=
  if a1 ≠ 124 then
  if a1 ≠ 38 then
  if a1 = 60 then
  some 3
  else
  if a1 = 61 then
  some 3
  else
  if a1 ≠ 62 then
  if a1 = 43 then
  some 4
  else
  if a1 ≠ 45 then
  some 0
  else
  some 4
  else
  some 3
  else
  some 2
  else
  some 1
theorem c_Model_rank {X : XX} {d : Nat} (hd : 0 ≤ d) {M : Mm} {a0 : Int} {a1 : Int} (hn_a0 : a0 ≠ 0) {p : Int} (h : f_Model_rank M a0 a1 = some p) : Rn X d m_Model_rank [(12, a0), (0, a1)] M (some (0, p)) M := by
  refine Rn_of (by decide) rfl (Nat.le_of_ble_eq_true rfl) ?_
  unfold f_Model_rank at h
  refine ev_less (L' := [(0, (12, a0)), (1, (0, a1))]) [0, 1] rfl ?_
  refine ev_iload_n 1 d_Model_rank_0 rfl rfl ?_
  refine ev_bipush d_Model_rank_1 rfl ?_
  by_cases hc1 : a1 ≠ 124
  · replace h := itp hc1 h
    refine ev_icmp_ne_t (tgt := 8) d_Model_rank_3 (by decide) hc1 ?_
    refine ev_iload_n 1 d_Model_rank_8 rfl rfl ?_
    refine ev_bipush d_Model_rank_9 rfl ?_
    by_cases hc2 : a1 ≠ 38
    · replace h := itp hc2 h
      refine ev_icmp_ne_t (tgt := 16) d_Model_rank_11 (by decide) hc2 ?_
      refine ev_iload_n 1 d_Model_rank_16 rfl rfl ?_
      refine ev_bipush d_Model_rank_17 rfl ?_
      by_cases hc3 : a1 = 60
      · replace h := itp hc3 h
        refine ev_icmp_eq_t (tgt := 34) d_Model_rank_19 (by decide) hc3 ?_
        refine ev_iconst d_Model_rank_34 rfl ?_
        cases h
        exact ev_ret d_Model_rank_35 rfl
      · replace h := itn hc3 h
        refine ev_icmp_eq_f d_Model_rank_19 (by decide) hc3 ?_
        refine ev_iload_n 1 d_Model_rank_22 rfl rfl ?_
        refine ev_bipush d_Model_rank_23 rfl ?_
        by_cases hc4 : a1 = 61
        · replace h := itp hc4 h
          refine ev_icmp_eq_t (tgt := 34) d_Model_rank_25 (by decide) hc4 ?_
          refine ev_iconst d_Model_rank_34 rfl ?_
          cases h
          exact ev_ret d_Model_rank_35 rfl
        · replace h := itn hc4 h
          refine ev_icmp_eq_f d_Model_rank_25 (by decide) hc4 ?_
          refine ev_iload_n 1 d_Model_rank_28 rfl rfl ?_
          refine ev_bipush d_Model_rank_29 rfl ?_
          by_cases hc5 : a1 ≠ 62
          · replace h := itp hc5 h
            refine ev_icmp_ne_t (tgt := 36) d_Model_rank_31 (by decide) hc5 ?_
            refine ev_iload_n 1 d_Model_rank_36 rfl rfl ?_
            refine ev_bipush d_Model_rank_37 rfl ?_
            by_cases hc6 : a1 = 43
            · replace h := itp hc6 h
              refine ev_icmp_eq_t (tgt := 48) d_Model_rank_39 (by decide) hc6 ?_
              refine ev_iconst d_Model_rank_48 rfl ?_
              refine ev_goto (tgt := 53) d_Model_rank_49 (by decide) ?_
              cases h
              exact ev_ret d_Model_rank_53 rfl
            · replace h := itn hc6 h
              refine ev_icmp_eq_f d_Model_rank_39 (by decide) hc6 ?_
              refine ev_iload_n 1 d_Model_rank_42 rfl rfl ?_
              refine ev_bipush d_Model_rank_43 rfl ?_
              by_cases hc7 : a1 ≠ 45
              · replace h := itp hc7 h
                refine ev_icmp_ne_t (tgt := 52) d_Model_rank_45 (by decide) hc7 ?_
                refine ev_iconst d_Model_rank_52 rfl ?_
                cases h
                exact ev_ret d_Model_rank_53 rfl
              · replace h := itn hc7 h
                refine ev_icmp_ne_f d_Model_rank_45 (by decide) hc7 ?_
                refine ev_iconst d_Model_rank_48 rfl ?_
                refine ev_goto (tgt := 53) d_Model_rank_49 (by decide) ?_
                cases h
                exact ev_ret d_Model_rank_53 rfl
          · replace h := itn hc5 h
            refine ev_icmp_ne_f d_Model_rank_31 (by decide) hc5 ?_
            refine ev_iconst d_Model_rank_34 rfl ?_
            cases h
            exact ev_ret d_Model_rank_35 rfl
    · replace h := itn hc2 h
      refine ev_icmp_ne_f d_Model_rank_11 (by decide) hc2 ?_
      refine ev_iconst d_Model_rank_14 rfl ?_
      cases h
      exact ev_ret d_Model_rank_15 rfl
  · replace h := itn hc1 h
    refine ev_icmp_ne_f d_Model_rank_3 (by decide) hc1 ?_
    refine ev_iconst d_Model_rank_6 rfl ?_
    cases h
    exact ev_ret d_Model_rank_7 rfl
def j_Model_settles_66_0 (M : Mm) (a0 : Int) (a1 : Int) : Option ((Mm) ⊕ (Mm)) :=
  lt (mp M (cI a0) 44 (w32 ((mg M (cI a0) 44) - 1))) (fun M8 =>
  if (mg M8 (cI a0) 45) ≠ 0 then
  if (0 : Int) ≤ (mg M8 (cI a0) 44) ∧ (mg M8 (cI a0) 44) < (ml M8 (cI (mg M8 (cI a0) 45)) : Int) then
  (f_Model_does M8 a0 (mg M8 (cI (mg M8 (cI a0) 45)) ((mg M8 (cI a0) 44) : Int).toNat) 0).bind (fun p11 =>
  some (.inl p11))
  else none
  else none)
theorem cj_Model_settles_66_0 {X : XX} {d : Nat} (hd : 1 ≤ d) {M : Mm} {a0 : Int} {a1 : Int} (hn_a0 : a0 ≠ 0) {x : (Mm) ⊕ (Mm)} {r : Option AV} {M' : Mm} (h : j_Model_settles_66_0 M a0 a1 = some x) (hk1 : ∀ s : Mm, x = .inl s → Ev X m_Model_settles d 0 [(0, (12, a0)), (1, (0, a1))] [] s r M') (hk2 : ∀ t : Mm, x = .inr t → Ev X m_Model_settles d 93 [] [] t r M') : Ev X m_Model_settles d 66 [(0, (12, a0)), (1, (0, a1))] [] M r M' := by
  unfold j_Model_settles_66_0 at h
  refine ev_aload_n 0 d_Model_settles_66 rfl (by decide) rfl ?_
  refine ev_aload_n 0 d_Model_settles_67 rfl (by decide) rfl ?_
  refine ev_get (t := 12) (k := 44) (by decide) (by decide) rfl i_Model (by decide) rfl rfl tw_944 d_Model_settles_68 hn_a0 ?_
  refine ev_iconst d_Model_settles_71 rfl ?_
  refine ev_isub d_Model_settles_72 ?_
  obtain ⟨M8, hM8, h⟩ := ltx h
  refine ev_put' (t := 12) (k := 44) (by decide) (by decide) rfl i_Model t_Model_ok n_Model (by decide) rfl rfl rfl rfl tw_944 d_Model_settles_73 hn_a0 hM8 ?_
  refine ev_aload_n 0 d_Model_settles_76 rfl (by decide) rfl ?_
  refine ev_aload_n 0 d_Model_settles_77 rfl (by decide) rfl ?_
  refine ev_get (t := 12) (k := 45) (by decide) (by decide) rfl i_Model (by decide) rfl rfl tw_945 d_Model_settles_78 hn_a0 ?_
  refine ev_aload_n 0 d_Model_settles_81 rfl (by decide) rfl ?_
  refine ev_get (t := 12) (k := 44) (by decide) (by decide) rfl i_Model (by decide) rfl rfl tw_944 d_Model_settles_82 hn_a0 ?_
  obtain ⟨hz9, h⟩ := gx h
  obtain ⟨hg10, h⟩ := gx h
  refine ev_iald d_Model_settles_85 hz9 hg10 ?_
  refine ev_iconst d_Model_settles_86 rfl ?_
  obtain ⟨p11, hp11, h⟩ := bx h
  have hRp11 := c_Model_does (X := X) (d := d - 1) (by omega) hn_a0 hp11
  refine ev_callV2 (st2 := []) (as := [(0, (mg M8 (cI (mg M8 (cI a0) 45)) ((mg M8 (cI a0) 44) : Int).toNat)), (0, 0)]) (rest := []) rfl (by decide) (by decide) rfl hn_a0 rfl (Nat.le_of_ble_eq_true rfl) k_Model_does ⟨tw_1309, ts_117⟩ (by omega) tw_1307 d_Model_settles_87 hRp11 rfl ?_
  refine ev_goto (tgt := 0) d_Model_settles_90 (by decide) ?_
  cases h
  exact hk1 _ rfl
def l_Model_settles_0 (a0 : Int) (a1 : Int) (s : Mm) : Option ((Mm) ⊕ (Mm)) :=
  if (mg s (cI a0) 44) ≤ 0 then
  some (.inr s)
  else
  if (mg s (cI a0) 45) ≠ 0 then
  if (0 : Int) ≤ (w32 ((mg s (cI a0) 44) - 1)) ∧ (w32 ((mg s (cI a0) 44) - 1)) < (ml s (cI (mg s (cI a0) 45)) : Int) then
  if (mg s (cI (mg s (cI a0) 45)) ((w32 ((mg s (cI a0) 44) - 1)) : Int).toNat) = 40 then
  some (.inr s)
  else
  if (mg s (cI (mg s (cI a0) 45)) ((w32 ((mg s (cI a0) 44) - 1)) : Int).toNat) ≠ 33 then
  (f_Model_rank s a0 (mg s (cI (mg s (cI a0) 45)) ((w32 ((mg s (cI a0) 44) - 1)) : Int).toNat)).bind (fun p6 =>
  if p6 < a1 then
  some (.inr s)
  else
  j_Model_settles_66_0 s a0 a1)
  else
  if 2 < a1 then
  some (.inr s)
  else
  j_Model_settles_66_0 s a0 a1
  else none
  else none
theorem cs_l_Model_settles_0 {X : XX} {d : Nat} (hd : 1 ≤ d) {a0 : Int} {a1 : Int} (hn_a0 : a0 ≠ 0) {s : Mm} {x : (Mm) ⊕ (Mm)} {r : Option AV} {M' : Mm} (h : l_Model_settles_0 a0 a1 s = some x) (hk1 : ∀ s : Mm, x = .inl s → Ev X m_Model_settles d 0 [(0, (12, a0)), (1, (0, a1))] [] s r M') (hk2 : ∀ t : Mm, x = .inr t → Ev X m_Model_settles d 93 [] [] t r M') : Ev X m_Model_settles d 0 [(0, (12, a0)), (1, (0, a1))] [] s r M' := by
  unfold l_Model_settles_0 at h
  refine ev_aload_n 0 d_Model_settles_0 rfl (by decide) rfl ?_
  refine ev_get (t := 12) (k := 44) (by decide) (by decide) rfl i_Model (by decide) rfl rfl tw_944 d_Model_settles_1 hn_a0 ?_
  by_cases hc1 : (mg s (cI a0) 44) ≤ 0
  · replace h := itp hc1 h
    refine ev_if_le_t (tgt := 93) d_Model_settles_4 (by decide) hc1 ?_
    refine ev_less (L' := []) [] rfl ?_
    cases h
    exact hk2 _ rfl
  · replace h := itn hc1 h
    refine ev_if_le_f d_Model_settles_4 (by decide) hc1 ?_
    refine ev_aload_n 0 d_Model_settles_7 rfl (by decide) rfl ?_
    refine ev_get (t := 12) (k := 45) (by decide) (by decide) rfl i_Model (by decide) rfl rfl tw_945 d_Model_settles_8 hn_a0 ?_
    refine ev_aload_n 0 d_Model_settles_11 rfl (by decide) rfl ?_
    refine ev_get (t := 12) (k := 44) (by decide) (by decide) rfl i_Model (by decide) rfl rfl tw_944 d_Model_settles_12 hn_a0 ?_
    refine ev_iconst d_Model_settles_15 rfl ?_
    refine ev_isub d_Model_settles_16 ?_
    obtain ⟨hz2, h⟩ := gx h
    obtain ⟨hg3, h⟩ := gx h
    refine ev_iald d_Model_settles_17 hz2 hg3 ?_
    refine ev_bipush d_Model_settles_18 rfl ?_
    by_cases hc4 : (mg s (cI (mg s (cI a0) 45)) ((w32 ((mg s (cI a0) 44) - 1)) : Int).toNat) = 40
    · replace h := itp hc4 h
      refine ev_icmp_eq_t (tgt := 93) d_Model_settles_20 (by decide) hc4 ?_
      refine ev_less (L' := []) [] rfl ?_
      cases h
      exact hk2 _ rfl
    · replace h := itn hc4 h
      refine ev_icmp_eq_f d_Model_settles_20 (by decide) hc4 ?_
      refine ev_aload_n 0 d_Model_settles_23 rfl (by decide) rfl ?_
      refine ev_get (t := 12) (k := 45) (by decide) (by decide) rfl i_Model (by decide) rfl rfl tw_945 d_Model_settles_24 hn_a0 ?_
      refine ev_aload_n 0 d_Model_settles_27 rfl (by decide) rfl ?_
      refine ev_get (t := 12) (k := 44) (by decide) (by decide) rfl i_Model (by decide) rfl rfl tw_944 d_Model_settles_28 hn_a0 ?_
      refine ev_iconst d_Model_settles_31 rfl ?_
      refine ev_isub d_Model_settles_32 ?_
      refine ev_iald d_Model_settles_33 hz2 hg3 ?_
      refine ev_bipush d_Model_settles_34 rfl ?_
      by_cases hc5 : (mg s (cI (mg s (cI a0) 45)) ((w32 ((mg s (cI a0) 44) - 1)) : Int).toNat) ≠ 33
      · replace h := itp hc5 h
        refine ev_icmp_ne_t (tgt := 47) d_Model_settles_36 (by decide) hc5 ?_
        refine ev_aload_n 0 d_Model_settles_47 rfl (by decide) rfl ?_
        refine ev_aload_n 0 d_Model_settles_48 rfl (by decide) rfl ?_
        refine ev_get (t := 12) (k := 45) (by decide) (by decide) rfl i_Model (by decide) rfl rfl tw_945 d_Model_settles_49 hn_a0 ?_
        refine ev_aload_n 0 d_Model_settles_52 rfl (by decide) rfl ?_
        refine ev_get (t := 12) (k := 44) (by decide) (by decide) rfl i_Model (by decide) rfl rfl tw_944 d_Model_settles_53 hn_a0 ?_
        refine ev_iconst d_Model_settles_56 rfl ?_
        refine ev_isub d_Model_settles_57 ?_
        refine ev_iald d_Model_settles_58 hz2 hg3 ?_
        obtain ⟨p6, hp6, h⟩ := bx h
        have hRp6 := c_Model_rank (X := X) (d := d - 1) (by omega) hn_a0 hp6
        refine ev_callV2 (st2 := [(0, p6)]) (as := [(0, (mg s (cI (mg s (cI a0) 45)) ((w32 ((mg s (cI a0) 44) - 1)) : Int).toNat))]) (rest := []) rfl (by decide) (by decide) rfl hn_a0 rfl (Nat.le_of_ble_eq_true rfl) k_Model_rank ⟨tw_1317, ts_119⟩ (by omega) tw_1315 d_Model_settles_59 hRp6 rfl ?_
        refine ev_iload_n 1 d_Model_settles_62 rfl rfl ?_
        by_cases hc7 : p6 < a1
        · replace h := itp hc7 h
          refine ev_icmp_lt_t (tgt := 93) d_Model_settles_63 (by decide) hc7 ?_
          refine ev_less (L' := []) [] rfl ?_
          cases h
          exact hk2 _ rfl
        · replace h := itn hc7 h
          refine ev_icmp_lt_f d_Model_settles_63 (by decide) hc7 ?_
          exact cj_Model_settles_66_0 hd hn_a0 h hk1 hk2
      · replace h := itn hc5 h
        refine ev_icmp_ne_f d_Model_settles_36 (by decide) hc5 ?_
        refine ev_iload_n 1 d_Model_settles_39 rfl rfl ?_
        refine ev_iconst d_Model_settles_40 rfl ?_
        by_cases hc12 : 2 < a1
        · replace h := itp hc12 h
          refine ev_icmp_gt_t (tgt := 93) d_Model_settles_41 (by decide) hc12 ?_
          refine ev_less (L' := []) [] rfl ?_
          cases h
          exact hk2 _ rfl
        · replace h := itn hc12 h
          refine ev_icmp_gt_f d_Model_settles_41 (by decide) hc12 ?_
          refine ev_goto (tgt := 66) d_Model_settles_44 (by decide) ?_
          exact cj_Model_settles_66_0 hd hn_a0 h hk1 hk2
def f_Model_settles (M : Mm) (a0 : Int) (a1 : Int) : Option (Mm) :=
  (loopN (l_Model_settles_0 a0 a1) FU M).bind (fun t13 =>
  some t13)
theorem c_Model_settles {X : XX} {d : Nat} (hd : 1 ≤ d) {M : Mm} {a0 : Int} {a1 : Int} (hn_a0 : a0 ≠ 0) {p : Mm} (h : f_Model_settles M a0 a1 = some p) : Rn X d m_Model_settles [(12, a0), (0, a1)] M none p := by
  refine Rn_of (by decide) rfl (Nat.le_of_ble_eq_true rfl) ?_
  unfold f_Model_settles at h
  refine ev_less (L' := [(0, (12, a0)), (1, (0, a1))]) [0, 1] rfl ?_
  obtain ⟨t13, ht13, h⟩ := bx h
  refine loop_ev (step := l_Model_settles_0 a0 a1) (P := fun w : Mm => Ev X m_Model_settles d 0 [(0, (12, a0)), (1, (0, a1))] [] w none p) (Q := fun w => Ev X m_Model_settles d 93 [] [] w none p) (fun w x hs k1 k2 => cs_l_Model_settles_0 hd hn_a0 hs k1 k2) FU M t13 ht13 ?_
  cases h
  exact ev_retV d_Model_settles_93 rfl
end
