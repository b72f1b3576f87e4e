noncomputable section
def l_Players_seatedButAway_4 (M : Mm) (a0 : Int) (a1 : Int) (s : Int × Int) : Option ((Int × Int) ⊕ (Int)) :=
  if (mg M (cI a1) 7) ≤ s.2 then
  some (.inr s.1)
  else
  if (mg M (cI a1) 2) ≠ 0 then
  if (0 : Int) ≤ s.2 ∧ s.2 < (ml M (cI (mg M (cI a1) 2)) : Int) then
  lt ((mg M (cI (mg M (cI a1) 2)) (s.2 : Int).toNat)) (fun x4 : Int =>
  (f_Players_has M a0 x4).bind (fun p5 =>
  if p5 = 0 then
  lt (w32 (s.2 + 1)) (fun x7 : Int =>
  some (.inl (s.1, x7)))
  else
  (f_Players_isPresent M a0 x4).bind (fun p8 =>
  if p8 ≠ 0 then
  lt (w32 (s.2 + 1)) (fun x10 : Int =>
  some (.inl (s.1, x10)))
  else
  lt (w32 (s.1 + 1)) (fun x11 : Int =>
  lt (w32 (s.2 + 1)) (fun x12 : Int =>
  some (.inl (x11, x12)))))))
  else none
  else none
theorem cs_l_Players_seatedButAway_4 {X : XX} {d : Nat} (hd : 1 ≤ d) {M : Mm} {a0 : Int} {a1 : Int} (hn_a0 : a0 ≠ 0) (hn_a1 : a1 ≠ 0) {s : Int × Int} {x : (Int × Int) ⊕ (Int)} {r : Option AV} {M' : Mm} (h : l_Players_seatedButAway_4 M a0 a1 s = some x) (hk1 : ∀ s : Int × Int, x = .inl s → Ev X m_Players_seatedButAway d 4 [(0, (7, a0)), (1, (5, a1)), (2, (0, s.1)), (3, (0, s.2))] [] M r M') (hk2 : ∀ t : Int, x = .inr t → Ev X m_Players_seatedButAway d 47 [(2, (0, t))] [] M r M') : Ev X m_Players_seatedButAway d 4 [(0, (7, a0)), (1, (5, a1)), (2, (0, s.1)), (3, (0, s.2))] [] M r M' := by
  unfold l_Players_seatedButAway_4 at h
  refine ev_iload_n 3 d_Players_seatedButAway_4 rfl rfl ?_
  refine ev_aload_n 1 d_Players_seatedButAway_5 rfl (by decide) rfl ?_
  refine ev_getN (host := "TownBand") (t := 5) (k := 7) (by decide) (by decide) rfl i_Piece (by decide) rfl rfl tw_96 d_Players_seatedButAway_6 hn_a1 ?_
  by_cases hc1 : (mg M (cI a1) 7) ≤ s.2
  · replace h := itp hc1 h
    refine ev_icmp_ge_t (tgt := 47) d_Players_seatedButAway_9 (by decide) hc1 ?_
    refine ev_less (L' := [(2, (0, s.1))]) [2] rfl ?_
    cases h
    exact hk2 _ rfl
  · replace h := itn hc1 h
    refine ev_icmp_ge_f d_Players_seatedButAway_9 (by decide) hc1 ?_
    refine ev_aload_n 1 d_Players_seatedButAway_12 rfl (by decide) rfl ?_
    refine ev_getN (host := "TownBand") (t := 5) (k := 2) (by decide) (by decide) rfl i_Piece (by decide) rfl rfl tw_80 d_Players_seatedButAway_13 hn_a1 ?_
    refine ev_iload_n 3 d_Players_seatedButAway_16 rfl rfl ?_
    obtain ⟨hz2, h⟩ := gx h
    obtain ⟨hg3, h⟩ := gx h
    refine ev_iald d_Players_seatedButAway_17 hz2 hg3 ?_
    obtain ⟨x4, hx4, h⟩ := ltx h
    refine ev_istore' (y := x4) (L' := [(4, (0, x4)), (0, (7, a0)), (1, (5, a1)), (2, (0, s.1)), (3, (0, s.2))]) d_Players_seatedButAway_18 (by decide) rfl hx4 ?_
    refine ev_aload_n 1 d_Players_seatedButAway_20 rfl (by decide) rfl ?_
    refine ev_iload 0 d_Players_seatedButAway_21 rfl ?_
    obtain ⟨p5, hp5, h⟩ := bx h
    have hRp5 := c_Players_has (X := X) (d := d - 1) (by omega) hn_a0 hp5
    refine ev_callV2 (st2 := [(0, p5)]) (as := [(0, x4)]) (rest := []) rfl (by decide) (by decide) rfl hn_a0 rfl (Nat.le_of_ble_eq_true rfl) k_Players_has ⟨tw_358, ts_1⟩ (by omega) tw_742 d_Players_seatedButAway_23 hRp5 rfl ?_
    by_cases hc6 : p5 = 0
    · replace h := itp hc6 h
      refine ev_if_eq_t (tgt := 41) d_Players_seatedButAway_26 (by decide) hc6 ?_
      obtain ⟨x7, hx7, h⟩ := ltx h
      refine ev_iinc' 4 (y := x7) (L' := [(3, (0, x7)), (4, (0, x4)), (0, (7, a0)), (1, (5, a1)), (2, (0, s.1))]) d_Players_seatedButAway_41 rfl (by decide) rfl hx7 ?_
      refine ev_goto (tgt := 4) d_Players_seatedButAway_44 (by decide) ?_
      refine ev_less (L' := [(0, (7, a0)), (1, (5, a1)), (2, (0, s.1)), (3, (0, x7))]) [2, 3, 4, 0] rfl ?_
      cases h
      exact hk1 _ rfl
    · replace h := itn hc6 h
      refine ev_if_eq_f d_Players_seatedButAway_26 (by decide) hc6 ?_
      refine ev_aload_n 1 d_Players_seatedButAway_29 rfl (by decide) rfl ?_
      refine ev_iload 0 d_Players_seatedButAway_30 rfl ?_
      obtain ⟨p8, hp8, h⟩ := bx h
      have hRp8 := c_Players_isPresent (X := X) (d := d - 1) (by omega) hn_a0 hp8
      refine ev_callV2 (st2 := [(0, p8)]) (as := [(0, x4)]) (rest := []) rfl (by decide) (by decide) rfl hn_a0 rfl (Nat.le_of_ble_eq_true rfl) k_Players_isPresent ⟨tw_630, ts_39⟩ (by omega) tw_628 d_Players_seatedButAway_32 hRp8 rfl ?_
      by_cases hc9 : p8 ≠ 0
      · replace h := itp hc9 h
        refine ev_if_ne_t (tgt := 41) d_Players_seatedButAway_35 (by decide) hc9 ?_
        obtain ⟨x10, hx10, h⟩ := ltx h
        refine ev_iinc' 4 (y := x10) (L' := [(3, (0, x10)), (4, (0, x4)), (0, (7, a0)), (1, (5, a1)), (2, (0, s.1))]) d_Players_seatedButAway_41 rfl (by decide) rfl hx10 ?_
        refine ev_goto (tgt := 4) d_Players_seatedButAway_44 (by decide) ?_
        refine ev_less (L' := [(0, (7, a0)), (1, (5, a1)), (2, (0, s.1)), (3, (0, x10))]) [2, 3, 4, 0] rfl ?_
        cases h
        exact hk1 _ rfl
      · replace h := itn hc9 h
        refine ev_if_ne_f d_Players_seatedButAway_35 (by decide) hc9 ?_
        obtain ⟨x11, hx11, h⟩ := ltx h
        refine ev_iinc' 3 (y := x11) (L' := [(2, (0, x11)), (4, (0, x4)), (0, (7, a0)), (1, (5, a1)), (3, (0, s.2))]) d_Players_seatedButAway_38 rfl (by decide) rfl hx11 ?_
        obtain ⟨x12, hx12, h⟩ := ltx h
        refine ev_iinc' 4 (y := x12) (L' := [(3, (0, x12)), (2, (0, x11)), (4, (0, x4)), (0, (7, a0)), (1, (5, a1))]) d_Players_seatedButAway_41 rfl (by decide) rfl hx12 ?_
        refine ev_goto (tgt := 4) d_Players_seatedButAway_44 (by decide) ?_
        refine ev_less (L' := [(0, (7, a0)), (1, (5, a1)), (2, (0, x11)), (3, (0, x12))]) [3, 4, 1, 0] rfl ?_
        cases h
        exact hk1 _ rfl
def f_Players_seatedButAway (M : Mm) (a0 : Int) (a1 : Int) : Option (Int) :=
  (loopN (l_Players_seatedButAway_4 M a0 a1) FU (0, 0)).bind (fun t13 =>
  some t13)
theorem c_Players_seatedButAway {X : XX} {d : Nat} (hd : 1 ≤ d) {M : Mm} {a0 : Int} {a1 : Int} (hn_a0 : a0 ≠ 0) (hn_a1 : a1 ≠ 0) {p : Int} (h : f_Players_seatedButAway M a0 a1 = some p) : Rn X d m_Players_seatedButAway [(7, a0), (5, a1)] M (some (0, p)) M := by
  refine Rn_of (by decide) rfl (Nat.le_of_ble_eq_true rfl) ?_
  unfold f_Players_seatedButAway at h
  refine ev_less (L' := [(0, (7, a0)), (1, (5, a1))]) [0, 1] rfl ?_
  refine ev_iconst d_Players_seatedButAway_0 rfl ?_
  refine ev_istore_n (L' := [(2, (0, 0)), (0, (7, a0)), (1, (5, a1))]) d_Players_seatedButAway_1 rfl (by decide) rfl ?_
  refine ev_iconst d_Players_seatedButAway_2 rfl ?_
  refine ev_istore_n (L' := [(3, (0, 0)), (2, (0, 0)), (0, (7, a0)), (1, (5, a1))]) d_Players_seatedButAway_3 rfl (by decide) rfl ?_
  obtain ⟨t13, ht13, h⟩ := bx h
  refine ev_less (L' := [(0, (7, a0)), (1, (5, a1)), (2, (0, 0)), (3, (0, 0))]) [2, 3, 1, 0] rfl ?_
  refine loop_ev (step := l_Players_seatedButAway_4 M a0 a1) (P := fun w : Int × Int => Ev X m_Players_seatedButAway d 4 [(0, (7, a0)), (1, (5, a1)), (2, (0, w.1)), (3, (0, w.2))] [] M (some (0, p)) M) (Q := fun w => Ev X m_Players_seatedButAway d 47 [(2, (0, w))] [] M (some (0, p)) M) (fun w x hs k1 k2 => cs_l_Players_seatedButAway_4 hd hn_a0 hn_a1 hs k1 k2) FU (0, 0) t13 ht13 ?_
  refine ev_iload_n 0 d_Players_seatedButAway_47 rfl rfl ?_
  cases h
  exact ev_ret d_Players_seatedButAway_48 rfl
def f_Rule_init (M : Mm) (a0 : Int) : Option (Mm) :=
  lt (mw M (5 : Int).toNat) (fun M1 =>
  lt (mp M1 (cI a0) 0 ((mN M : Int) + 1)) (fun M2 =>
  lt (mw M2 (32 : Int).toNat) (fun M3 =>
  lt (mp M3 (cI a0) 1 ((mN M2 : Int) + 1)) (fun M4 =>
  lt (mw M4 (800 : Int).toNat) (fun M5 =>
  lt (mp M5 (cI a0) 2 ((mN M4 : Int) + 1)) (fun M6 =>
  lt (mw M6 (800 : Int).toNat) (fun M7 =>
  lt (mp M7 (cI a0) 3 ((mN M6 : Int) + 1)) (fun M8 =>
  some M8))))))))
theorem c_Rule_init {X : XX} {d : Nat} (hd : 1 ≤ d) {M : Mm} {a0 : Int} (hn_a0 : a0 ≠ 0) {p : Mm} (h : f_Rule_init M a0 = some p) : Rn X d m_Rule_init [(8, a0)] M none p := by
  refine Rn_of (by decide) rfl (Nat.le_of_ble_eq_true rfl) ?_
  unfold f_Rule_init at h
  refine ev_less (L' := [(0, (8, a0))]) [0] rfl ?_
  refine ev_aload_n 0 d_Rule_init_0 rfl (by decide) rfl ?_
  refine ev_objInit (t := 8) (by decide) (by decide) hn_a0 (Nat.le_of_ble_eq_true rfl) (by omega) tw_179 tw_25 tw_26 d_Rule_init_1 ?_
  refine ev_aload_n 0 d_Rule_init_4 rfl (by decide) rfl ?_
  refine ev_iconst d_Rule_init_5 rfl ?_
  obtain ⟨M1, hM1, h⟩ := ltx h
  refine ev_newI' tw_61 d_Rule_init_6 ⟨by decide, by decide⟩ hM1 ?_
  obtain ⟨M2, hM2, h⟩ := ltx h
  refine ev_putF' (t := 8) (k := 0) (by decide) (by decide) rfl i_Rule t_Rule_ok n_Rule (by decide) rfl rfl rfl rfl rfl rfl tw_180 d_Rule_init_8 hn_a0 hM2 ?_
  refine ev_aload_n 0 d_Rule_init_11 rfl (by decide) rfl ?_
  refine ev_bipush d_Rule_init_12 rfl ?_
  obtain ⟨M3, hM3, h⟩ := ltx h
  refine ev_newI' tw_61 d_Rule_init_14 ⟨by decide, by decide⟩ hM3 ?_
  obtain ⟨M4, hM4, h⟩ := ltx h
  refine ev_putF' (t := 8) (k := 1) (by decide) (by decide) rfl i_Rule t_Rule_ok n_Rule (by decide) rfl rfl rfl rfl rfl rfl tw_181 d_Rule_init_16 hn_a0 hM4 ?_
  refine ev_aload_n 0 d_Rule_init_19 rfl (by decide) rfl ?_
  refine ev_sipush d_Rule_init_20 rfl ?_
  obtain ⟨M5, hM5, h⟩ := ltx h
  refine ev_newI' tw_61 d_Rule_init_23 ⟨by decide, by decide⟩ hM5 ?_
  obtain ⟨M6, hM6, h⟩ := ltx h
  refine ev_put' (t := 8) (k := 2) (by decide) (by decide) rfl i_Rule t_Rule_ok n_Rule (by decide) rfl rfl rfl rfl tw_182 d_Rule_init_25 hn_a0 hM6 ?_
  refine ev_aload_n 0 d_Rule_init_28 rfl (by decide) rfl ?_
  refine ev_sipush d_Rule_init_29 rfl ?_
  obtain ⟨M7, hM7, h⟩ := ltx h
  refine ev_newI' tw_61 d_Rule_init_32 ⟨by decide, by decide⟩ hM7 ?_
  obtain ⟨M8, hM8, h⟩ := ltx h
  refine ev_put' (t := 8) (k := 3) (by decide) (by decide) rfl i_Rule t_Rule_ok n_Rule (by decide) rfl rfl rfl rfl tw_183 d_Rule_init_34 hn_a0 hM8 ?_
  cases h
  exact ev_retV d_Rule_init_37 rfl
def f_Rule_beginDraft (M : Mm) (a0 : Int) : Option (Mm) :=
  lt (mp M (cI a0) 5 0) (fun M1 =>
  some M1)
theorem c_Rule_beginDraft {X : XX} {d : Nat} (hd : 0 ≤ d) {M : Mm} {a0 : Int} (hn_a0 : a0 ≠ 0) {p : Mm} (h : f_Rule_beginDraft M a0 = some p) : Rn X d m_Rule_beginDraft [(8, a0)] M none p := by
  refine Rn_of (by decide) rfl (Nat.le_of_ble_eq_true rfl) ?_
  unfold f_Rule_beginDraft at h
  refine ev_less (L' := [(0, (8, a0))]) [0] rfl ?_
  refine ev_aload_n 0 d_Rule_beginDraft_0 rfl (by decide) rfl ?_
  refine ev_iconst d_Rule_beginDraft_1 rfl ?_
  obtain ⟨M1, hM1, h⟩ := ltx h
  refine ev_put' (t := 8) (k := 5) (by decide) (by decide) rfl i_Rule t_Rule_ok n_Rule (by decide) rfl rfl rfl rfl tw_185 d_Rule_beginDraft_2 hn_a0 hM1 ?_
  cases h
  exact ev_retV d_Rule_beginDraft_5 rfl
def f_Rule_adoptDraft (M : Mm) (a0 : Int) : Option (Mm) :=
  lt ((mg M (cI a0) 2)) (fun x1 : Int =>
  lt (mp M (cI a0) 2 (mg M (cI a0) 3)) (fun M2 =>
  lt (mp M2 (cI a0) 3 x1) (fun M3 =>
  lt (mp M3 (cI a0) 4 (mg M3 (cI a0) 5)) (fun M4 =>
  some M4))))
theorem c_Rule_adoptDraft {X : XX} {d : Nat} (hd : 0 ≤ d) {M : Mm} {a0 : Int} (hn_a0 : a0 ≠ 0) {p : Mm} (h : f_Rule_adoptDraft M a0 = some p) : Rn X d m_Rule_adoptDraft [(8, a0)] M none p := by
  refine Rn_of (by decide) rfl (Nat.le_of_ble_eq_true rfl) ?_
  unfold f_Rule_adoptDraft at h
  refine ev_less (L' := [(0, (8, a0))]) [0] rfl ?_
  refine ev_aload_n 0 d_Rule_adoptDraft_0 rfl (by decide) rfl ?_
  refine ev_get (t := 8) (k := 2) (by decide) (by decide) rfl i_Rule (by decide) rfl rfl tw_182 d_Rule_adoptDraft_1 hn_a0 ?_
  obtain ⟨x1, hx1, h⟩ := ltx h
  refine ev_astore_n' (y := x1) (L' := [(1, (13, x1)), (0, (8, a0))]) d_Rule_adoptDraft_4 rfl (by decide) (by decide) rfl hx1 ?_
  refine ev_aload_n 1 d_Rule_adoptDraft_5 rfl (by decide) rfl ?_
  refine ev_aload_n 1 d_Rule_adoptDraft_6 rfl (by decide) rfl ?_
  refine ev_get (t := 8) (k := 3) (by decide) (by decide) rfl i_Rule (by decide) rfl rfl tw_183 d_Rule_adoptDraft_7 hn_a0 ?_
  obtain ⟨M2, hM2, h⟩ := ltx h
  refine ev_put' (t := 8) (k := 2) (by decide) (by decide) rfl i_Rule t_Rule_ok n_Rule (by decide) rfl rfl rfl rfl tw_182 d_Rule_adoptDraft_10 hn_a0 hM2 ?_
  refine ev_aload_n 1 d_Rule_adoptDraft_13 rfl (by decide) rfl ?_
  refine ev_aload_n 0 d_Rule_adoptDraft_14 rfl (by decide) rfl ?_
  obtain ⟨M3, hM3, h⟩ := ltx h
  refine ev_put' (t := 8) (k := 3) (by decide) (by decide) rfl i_Rule t_Rule_ok n_Rule (by decide) rfl rfl rfl rfl tw_183 d_Rule_adoptDraft_15 hn_a0 hM3 ?_
  refine ev_aload_n 1 d_Rule_adoptDraft_18 rfl (by decide) rfl ?_
  refine ev_aload_n 1 d_Rule_adoptDraft_19 rfl (by decide) rfl ?_
  refine ev_get (t := 8) (k := 5) (by decide) (by decide) rfl i_Rule (by decide) rfl rfl tw_185 d_Rule_adoptDraft_20 hn_a0 ?_
  obtain ⟨M4, hM4, h⟩ := ltx h
  refine ev_put' (t := 8) (k := 4) (by decide) (by decide) rfl i_Rule t_Rule_ok n_Rule (by decide) rfl rfl rfl rfl tw_184 d_Rule_adoptDraft_23 hn_a0 hM4 ?_
  cases h
  exact ev_retV d_Rule_adoptDraft_26 rfl
def f_Rule_write (M : Mm) (a0 : Int) (a1 : Int) : Option (Mm) :=
  if 800 ≤ (mg M (cI a0) 5) then
  some M
  else
  if (mg M (cI a0) 3) ≠ 0 then
  if (0 : Int) ≤ (mg M (cI a0) 5) ∧ (mg M (cI a0) 5) < (ml M (cI (mg M (cI a0) 3)) : Int) then
  lt (mp M (cI (mg M (cI a0) 3)) ((mg M (cI a0) 5) : Int).toNat a1) (fun M4 =>
  lt (mp M4 (cI a0) 5 (w32 ((mg M4 (cI a0) 5) + 1))) (fun M5 =>
  some M5))
  else none
  else none
theorem c_Rule_write {X : XX} {d : Nat} (hd : 0 ≤ d) {M : Mm} {a0 : Int} {a1 : Int} (hn_a0 : a0 ≠ 0) {p : Mm} (h : f_Rule_write M a0 a1 = some p) : Rn X d m_Rule_write [(8, a0), (0, a1)] M none p := by
  refine Rn_of (by decide) rfl (Nat.le_of_ble_eq_true rfl) ?_
  unfold f_Rule_write at h
  refine ev_less (L' := [(0, (8, a0)), (1, (0, a1))]) [0, 1] rfl ?_
  refine ev_aload_n 0 d_Rule_write_0 rfl (by decide) rfl ?_
  refine ev_get (t := 8) (k := 5) (by decide) (by decide) rfl i_Rule (by decide) rfl rfl tw_185 d_Rule_write_1 hn_a0 ?_
  refine ev_sipush d_Rule_write_4 rfl ?_
  by_cases hc1 : 800 ≤ (mg M (cI a0) 5)
  · replace h := itp hc1 h
    refine ev_icmp_ge_t (tgt := 30) d_Rule_write_7 (by decide) hc1 ?_
    cases h
    exact ev_retV d_Rule_write_30 rfl
  · replace h := itn hc1 h
    refine ev_icmp_ge_f d_Rule_write_7 (by decide) hc1 ?_
    refine ev_aload_n 0 d_Rule_write_10 rfl (by decide) rfl ?_
    refine ev_get (t := 8) (k := 3) (by decide) (by decide) rfl i_Rule (by decide) rfl rfl tw_183 d_Rule_write_11 hn_a0 ?_
    refine ev_aload_n 0 d_Rule_write_14 rfl (by decide) rfl ?_
    refine ev_get (t := 8) (k := 5) (by decide) (by decide) rfl i_Rule (by decide) rfl rfl tw_185 d_Rule_write_15 hn_a0 ?_
    refine ev_iload_n 1 d_Rule_write_18 rfl rfl ?_
    obtain ⟨hz2, h⟩ := gx h
    obtain ⟨hg3, h⟩ := gx h
    obtain ⟨M4, hM4, h⟩ := ltx h
    refine ev_iast' d_Rule_write_19 hz2 hg3 hM4 ?_
    refine ev_aload_n 0 d_Rule_write_20 rfl (by decide) rfl ?_
    refine ev_dup d_Rule_write_21 (Nat.ne_of_beq_eq_false rfl) ?_
    refine ev_get (t := 8) (k := 5) (by decide) (by decide) rfl i_Rule (by decide) rfl rfl tw_185 d_Rule_write_22 hn_a0 ?_
    refine ev_iconst d_Rule_write_25 rfl ?_
    refine ev_iadd d_Rule_write_26 ?_
    obtain ⟨M5, hM5, h⟩ := ltx h
    refine ev_put' (t := 8) (k := 5) (by decide) (by decide) rfl i_Rule t_Rule_ok n_Rule (by decide) rfl rfl rfl rfl tw_185 d_Rule_write_27 hn_a0 hM5 ?_
    cases h
    exact ev_retV d_Rule_write_30 rfl
def j_Rule_readValue_114 (M : Mm) (a1 : Int) : Option (Mm) :=
  (f_Tape_advance M a1).bind (fun p13 =>
  some p13)
theorem cj_Rule_readValue_114 {X : XX} {d : Nat} (hd : 6 ≤ d) {M : Mm} {a1 : Int} (hn_a1 : a1 ≠ 0) {p : Mm} (h : j_Rule_readValue_114 M a1 = some p) : Ev X m_Rule_readValue d 114 [(1, (10, a1))] [] M none p := by
  unfold j_Rule_readValue_114 at h
  refine ev_aload_n 0 d_Rule_readValue_114 rfl (by decide) rfl ?_
  obtain ⟨p13, hp13, h⟩ := bx h
  have hRp13 := c_Tape_advance (X := X) (d := d - 1) (by omega) hn_a1 hp13
  refine ev_callVN2 (host := "TownBand") (st2 := []) (as := []) (rest := []) rfl (by decide) (by decide) rfl hn_a1 rfl (Nat.le_of_ble_eq_true rfl) k_Tape_advance ⟨tw_413, ts_9⟩ (by omega) tw_576 d_Rule_readValue_115 hRp13 rfl ?_
  cases h
  exact ev_retV d_Rule_readValue_118 rfl
def f_Rule_readValue (M : Mm) (a0 : Int) (a1 : Int) : Option (Mm) :=
  if (mg M (cI a1) 4) ≠ (-2) then
  (f_Tape_reads M a1 4).bind (fun p2 =>
  if p2 = 0 then
  (f_Tape_reads M a1 5).bind (fun p4 =>
  if p4 = 0 then
  (f_Tape_reads M a1 6).bind (fun p6 =>
  if p6 = 0 then
  (f_Tape_reads M a1 7).bind (fun p8 =>
  if p8 = 0 then
  (f_Tape_reads M a1 8).bind (fun p10 =>
  if p10 = 0 then
  (f_Tape_fail M a1 1).bind (fun p12 =>
  j_Rule_readValue_114 p12 a1)
  else
  (f_Rule_write M a0 (-5)).bind (fun p14 =>
  j_Rule_readValue_114 p14 a1))
  else
  (f_Rule_write M a0 (-4)).bind (fun p15 =>
  j_Rule_readValue_114 p15 a1))
  else
  (f_Rule_write M a0 (-3)).bind (fun p16 =>
  j_Rule_readValue_114 p16 a1))
  else
  (f_Rule_write M a0 (-2)).bind (fun p17 =>
  j_Rule_readValue_114 p17 a1))
  else
  (f_Rule_write M a0 (-1)).bind (fun p18 =>
  j_Rule_readValue_114 p18 a1))
  else
  (f_Rule_write M a0 (mg M (cI a1) 6)).bind (fun p19 =>
  j_Rule_readValue_114 p19 a1)
theorem c_Rule_readValue {X : XX} {d : Nat} (hd : 6 ≤ d) {M : Mm} {a0 : Int} {a1 : Int} (hn_a0 : a0 ≠ 0) (hn_a1 : a1 ≠ 0) {p : Mm} (h : f_Rule_readValue M a0 a1 = some p) : Rn X d m_Rule_readValue [(8, a0), (10, a1)] M none p := by
  refine Rn_of (by decide) rfl (Nat.le_of_ble_eq_true rfl) ?_
  unfold f_Rule_readValue at h
  refine ev_less (L' := [(0, (8, a0)), (1, (10, a1))]) [0, 1] rfl ?_
  refine ev_aload_n 1 d_Rule_readValue_0 rfl (by decide) rfl ?_
  refine ev_getN (host := "TownBand") (t := 10) (k := 4) (by decide) (by decide) rfl i_Tape (by decide) rfl rfl tw_141 d_Rule_readValue_1 hn_a1 ?_
  refine ev_bipush d_Rule_readValue_4 rfl ?_
  by_cases hc1 : (mg M (cI a1) 4) ≠ (-2)
  · replace h := itp hc1 h
    refine ev_icmp_ne_t (tgt := 20) d_Rule_readValue_6 (by decide) hc1 ?_
    refine ev_aload_n 1 d_Rule_readValue_20 rfl (by decide) rfl ?_
    refine ev_text (i := 4) rfl d_Rule_readValue_21 ?_
    obtain ⟨p2, hp2, h⟩ := bx h
    have hRp2 := c_Tape_reads (X := X) (d := d - 1) (by omega) hn_a1 hp2
    refine ev_callVN2 (host := "TownBand") (st2 := [(0, p2)]) (as := [(20, 4)]) (rest := []) rfl (by decide) (by decide) rfl hn_a1 rfl (Nat.le_of_ble_eq_true rfl) k_Tape_reads ⟨tw_418, ts_10⟩ (by omega) tw_570 d_Rule_readValue_23 hRp2 rfl ?_
    by_cases hc3 : p2 = 0
    · replace h := itp hc3 h
      refine ev_if_eq_t (tgt := 37) d_Rule_readValue_26 (by decide) hc3 ?_
      refine ev_aload_n 1 d_Rule_readValue_37 rfl (by decide) rfl ?_
      refine ev_text (i := 5) rfl d_Rule_readValue_38 ?_
      obtain ⟨p4, hp4, h⟩ := bx h
      have hRp4 := c_Tape_reads (X := X) (d := d - 1) (by omega) hn_a1 hp4
      refine ev_callVN2 (host := "TownBand") (st2 := [(0, p4)]) (as := [(20, 5)]) (rest := []) rfl (by decide) (by decide) rfl hn_a1 rfl (Nat.le_of_ble_eq_true rfl) k_Tape_reads ⟨tw_418, ts_10⟩ (by omega) tw_570 d_Rule_readValue_40 hRp4 rfl ?_
      by_cases hc5 : p4 = 0
      · replace h := itp hc5 h
        refine ev_if_eq_t (tgt := 55) d_Rule_readValue_43 (by decide) hc5 ?_
        refine ev_aload_n 1 d_Rule_readValue_55 rfl (by decide) rfl ?_
        refine ev_text (i := 6) rfl d_Rule_readValue_56 ?_
        obtain ⟨p6, hp6, h⟩ := bx h
        have hRp6 := c_Tape_reads (X := X) (d := d - 1) (by omega) hn_a1 hp6
        refine ev_callVN2 (host := "TownBand") (st2 := [(0, p6)]) (as := [(20, 6)]) (rest := []) rfl (by decide) (by decide) rfl hn_a1 rfl (Nat.le_of_ble_eq_true rfl) k_Tape_reads ⟨tw_418, ts_10⟩ (by omega) tw_570 d_Rule_readValue_58 hRp6 rfl ?_
        by_cases hc7 : p6 = 0
        · replace h := itp hc7 h
          refine ev_if_eq_t (tgt := 73) d_Rule_readValue_61 (by decide) hc7 ?_
          refine ev_aload_n 1 d_Rule_readValue_73 rfl (by decide) rfl ?_
          refine ev_text (i := 7) rfl d_Rule_readValue_74 ?_
          obtain ⟨p8, hp8, h⟩ := bx h
          have hRp8 := c_Tape_reads (X := X) (d := d - 1) (by omega) hn_a1 hp8
          refine ev_callVN2 (host := "TownBand") (st2 := [(0, p8)]) (as := [(20, 7)]) (rest := []) rfl (by decide) (by decide) rfl hn_a1 rfl (Nat.le_of_ble_eq_true rfl) k_Tape_reads ⟨tw_418, ts_10⟩ (by omega) tw_570 d_Rule_readValue_76 hRp8 rfl ?_
          by_cases hc9 : p8 = 0
          · replace h := itp hc9 h
            refine ev_if_eq_t (tgt := 91) d_Rule_readValue_79 (by decide) hc9 ?_
            refine ev_aload_n 1 d_Rule_readValue_91 rfl (by decide) rfl ?_
            refine ev_text (i := 8) rfl d_Rule_readValue_92 ?_
            obtain ⟨p10, hp10, h⟩ := bx h
            have hRp10 := c_Tape_reads (X := X) (d := d - 1) (by omega) hn_a1 hp10
            refine ev_callVN2 (host := "TownBand") (st2 := [(0, p10)]) (as := [(20, 8)]) (rest := []) rfl (by decide) (by decide) rfl hn_a1 rfl (Nat.le_of_ble_eq_true rfl) k_Tape_reads ⟨tw_418, ts_10⟩ (by omega) tw_570 d_Rule_readValue_94 hRp10 rfl ?_
            by_cases hc11 : p10 = 0
            · replace h := itp hc11 h
              refine ev_if_eq_t (tgt := 109) d_Rule_readValue_97 (by decide) hc11 ?_
              refine ev_aload_n 1 d_Rule_readValue_109 rfl (by decide) rfl ?_
              refine ev_iconst d_Rule_readValue_110 rfl ?_
              obtain ⟨p12, hp12, h⟩ := bx h
              have hRp12 := c_Tape_fail (X := X) (d := d - 1) (by omega) hn_a1 hp12
              refine ev_callVN2 (host := "TownBand") (st2 := []) (as := [(0, 1)]) (rest := []) rfl (by decide) (by decide) rfl hn_a1 rfl (Nat.le_of_ble_eq_true rfl) k_Tape_fail ⟨tw_474, ts_12⟩ (by omega) tw_575 d_Rule_readValue_111 hRp12 rfl ?_
              refine ev_less (L' := [(1, (10, a1))]) [1] rfl ?_
              exact cj_Rule_readValue_114 hd hn_a1 h
            · replace h := itn hc11 h
              refine ev_if_eq_f d_Rule_readValue_97 (by decide) hc11 ?_
              refine ev_aload_n 0 d_Rule_readValue_100 rfl (by decide) rfl ?_
              refine ev_bipush d_Rule_readValue_101 rfl ?_
              obtain ⟨p14, hp14, h⟩ := bx h
              have hRp14 := c_Rule_write (X := X) (d := d - 1) (by omega) hn_a0 hp14
              refine ev_callV2 (st2 := []) (as := [(0, (-5))]) (rest := []) rfl (by decide) (by decide) rfl hn_a0 rfl (Nat.le_of_ble_eq_true rfl) k_Rule_write ⟨tw_567, ts_29⟩ (by omega) tw_565 d_Rule_readValue_103 hRp14 rfl ?_
              refine ev_goto (tgt := 114) d_Rule_readValue_106 (by decide) ?_
              refine ev_less (L' := [(1, (10, a1))]) [1] rfl ?_
              exact cj_Rule_readValue_114 hd hn_a1 h
          · replace h := itn hc9 h
            refine ev_if_eq_f d_Rule_readValue_79 (by decide) hc9 ?_
            refine ev_aload_n 0 d_Rule_readValue_82 rfl (by decide) rfl ?_
            refine ev_bipush d_Rule_readValue_83 rfl ?_
            obtain ⟨p15, hp15, h⟩ := bx h
            have hRp15 := c_Rule_write (X := X) (d := d - 1) (by omega) hn_a0 hp15
            refine ev_callV2 (st2 := []) (as := [(0, (-4))]) (rest := []) rfl (by decide) (by decide) rfl hn_a0 rfl (Nat.le_of_ble_eq_true rfl) k_Rule_write ⟨tw_567, ts_29⟩ (by omega) tw_565 d_Rule_readValue_85 hRp15 rfl ?_
            refine ev_goto (tgt := 114) d_Rule_readValue_88 (by decide) ?_
            refine ev_less (L' := [(1, (10, a1))]) [1] rfl ?_
            exact cj_Rule_readValue_114 hd hn_a1 h
        · replace h := itn hc7 h
          refine ev_if_eq_f d_Rule_readValue_61 (by decide) hc7 ?_
          refine ev_aload_n 0 d_Rule_readValue_64 rfl (by decide) rfl ?_
          refine ev_bipush d_Rule_readValue_65 rfl ?_
          obtain ⟨p16, hp16, h⟩ := bx h
          have hRp16 := c_Rule_write (X := X) (d := d - 1) (by omega) hn_a0 hp16
          refine ev_callV2 (st2 := []) (as := [(0, (-3))]) (rest := []) rfl (by decide) (by decide) rfl hn_a0 rfl (Nat.le_of_ble_eq_true rfl) k_Rule_write ⟨tw_567, ts_29⟩ (by omega) tw_565 d_Rule_readValue_67 hRp16 rfl ?_
          refine ev_goto (tgt := 114) d_Rule_readValue_70 (by decide) ?_
          refine ev_less (L' := [(1, (10, a1))]) [1] rfl ?_
          exact cj_Rule_readValue_114 hd hn_a1 h
      · replace h := itn hc5 h
        refine ev_if_eq_f d_Rule_readValue_43 (by decide) hc5 ?_
        refine ev_aload_n 0 d_Rule_readValue_46 rfl (by decide) rfl ?_
        refine ev_bipush d_Rule_readValue_47 rfl ?_
        obtain ⟨p17, hp17, h⟩ := bx h
        have hRp17 := c_Rule_write (X := X) (d := d - 1) (by omega) hn_a0 hp17
        refine ev_callV2 (st2 := []) (as := [(0, (-2))]) (rest := []) rfl (by decide) (by decide) rfl hn_a0 rfl (Nat.le_of_ble_eq_true rfl) k_Rule_write ⟨tw_567, ts_29⟩ (by omega) tw_565 d_Rule_readValue_49 hRp17 rfl ?_
        refine ev_goto (tgt := 114) d_Rule_readValue_52 (by decide) ?_
        refine ev_less (L' := [(1, (10, a1))]) [1] rfl ?_
        exact cj_Rule_readValue_114 hd hn_a1 h
    · replace h := itn hc3 h
      refine ev_if_eq_f d_Rule_readValue_26 (by decide) hc3 ?_
      refine ev_aload_n 0 d_Rule_readValue_29 rfl (by decide) rfl ?_
      refine ev_iconst d_Rule_readValue_30 rfl ?_
      obtain ⟨p18, hp18, h⟩ := bx h
      have hRp18 := c_Rule_write (X := X) (d := d - 1) (by omega) hn_a0 hp18
      refine ev_callV2 (st2 := []) (as := [(0, (-1))]) (rest := []) rfl (by decide) (by decide) rfl hn_a0 rfl (Nat.le_of_ble_eq_true rfl) k_Rule_write ⟨tw_567, ts_29⟩ (by omega) tw_565 d_Rule_readValue_31 hRp18 rfl ?_
      refine ev_goto (tgt := 114) d_Rule_readValue_34 (by decide) ?_
      refine ev_less (L' := [(1, (10, a1))]) [1] rfl ?_
      exact cj_Rule_readValue_114 hd hn_a1 h
  · replace h := itn hc1 h
    refine ev_icmp_ne_f d_Rule_readValue_6 (by decide) hc1 ?_
    refine ev_aload_n 0 d_Rule_readValue_9 rfl (by decide) rfl ?_
    refine ev_aload_n 1 d_Rule_readValue_10 rfl (by decide) rfl ?_
    refine ev_getN (host := "TownBand") (t := 10) (k := 6) (by decide) (by decide) rfl i_Tape (by decide) rfl rfl tw_146 d_Rule_readValue_11 hn_a1 ?_
    obtain ⟨p19, hp19, h⟩ := bx h
    have hRp19 := c_Rule_write (X := X) (d := d - 1) (by omega) hn_a0 hp19
    refine ev_callV2 (st2 := []) (as := [(0, (mg M (cI a1) 6))]) (rest := []) rfl (by decide) (by decide) rfl hn_a0 rfl (Nat.le_of_ble_eq_true rfl) k_Rule_write ⟨tw_567, ts_29⟩ (by omega) tw_565 d_Rule_readValue_14 hRp19 rfl ?_
    refine ev_goto (tgt := 114) d_Rule_readValue_17 (by decide) ?_
    refine ev_less (L' := [(1, (10, a1))]) [1] rfl ?_
    exact cj_Rule_readValue_114 hd hn_a1 h
def j_Rule_readSum_32_7 (M : Mm) (a0 : Int) (a1 : Int) (z2 : Int) : Option ((Int × Mm) ⊕ (Mm)) :=
  lt ((mg M (cI a1) 4)) (fun x4 : Int =>
  (f_Tape_advance M a1).bind (fun p5 =>
  (f_Rule_readValue p5 a0 a1).bind (fun p6 =>
  (f_Rule_write p6 a0 (w32 (-x4))).bind (fun p7 =>
  lt (w32 (z2 + 1)) (fun x8 : Int =>
  some (.inl (x8, p7)))))))
theorem cj_Rule_readSum_32_7 {X : XX} {d : Nat} (hd : 7 ≤ d) {M : Mm} {a0 : Int} {a1 : Int} {z2 : Int} (hn_a0 : a0 ≠ 0) (hn_a1 : a1 ≠ 0) {x : (Int × Mm) ⊕ (Mm)} {r : Option AV} {M' : Mm} (h : j_Rule_readSum_32_7 M a0 a1 z2 = some x) (hk1 : ∀ s : Int × Mm, x = .inl s → Ev X m_Rule_readSum d 7 [(0, (8, a0)), (1, (10, a1)), (2, (0, s.1))] [] s.2 r M') (hk2 : ∀ t : Mm, x = .inr t → Ev X m_Rule_readSum d 58 [] [] t r M') : Ev X m_Rule_readSum d 32 [(0, (8, a0)), (1, (10, a1)), (2, (0, z2))] [] M r M' := by
  unfold j_Rule_readSum_32_7 at h
  refine ev_aload_n 1 d_Rule_readSum_32 rfl (by decide) rfl ?_
  refine ev_getN (host := "TownBand") (t := 10) (k := 4) (by decide) (by decide) rfl i_Tape (by decide) rfl rfl tw_141 d_Rule_readSum_33 hn_a1 ?_
  obtain ⟨x4, hx4, h⟩ := ltx h
  refine ev_istore_n' (y := x4) (L' := [(3, (0, x4)), (0, (8, a0)), (1, (10, a1)), (2, (0, z2))]) d_Rule_readSum_36 rfl (by decide) rfl hx4 ?_
  refine ev_aload_n 2 d_Rule_readSum_37 rfl (by decide) rfl ?_
  obtain ⟨p5, hp5, h⟩ := bx h
  have hRp5 := c_Tape_advance (X := X) (d := d - 1) (by omega) hn_a1 hp5
  refine ev_callVN2 (host := "TownBand") (st2 := []) (as := []) (rest := []) rfl (by decide) (by decide) rfl hn_a1 rfl (Nat.le_of_ble_eq_true rfl) k_Tape_advance ⟨tw_413, ts_9⟩ (by omega) tw_576 d_Rule_readSum_38 hRp5 rfl ?_
  refine ev_aload_n 1 d_Rule_readSum_41 rfl (by decide) rfl ?_
  refine ev_aload_n 2 d_Rule_readSum_42 rfl (by decide) rfl ?_
  obtain ⟨p6, hp6, h⟩ := bx h
  have hRp6 := c_Rule_readValue (X := X) (d := d - 1) (by omega) hn_a0 hn_a1 hp6
  refine ev_callV2 (st2 := []) (as := [(10, a1)]) (rest := []) rfl (by decide) (by decide) rfl hn_a0 rfl (Nat.le_of_ble_eq_true rfl) k_Rule_readValue ⟨tw_563, ts_28⟩ (by omega) tw_561 d_Rule_readSum_43 hRp6 rfl ?_
  refine ev_aload_n 1 d_Rule_readSum_46 rfl (by decide) rfl ?_
  refine ev_iload_n 0 d_Rule_readSum_47 rfl rfl ?_
  refine ev_ineg d_Rule_readSum_48 ?_
  obtain ⟨p7, hp7, h⟩ := bx h
  have hRp7 := c_Rule_write (X := X) (d := d - 1) (by omega) hn_a0 hp7
  refine ev_callV2 (st2 := []) (as := [(0, (w32 (-x4)))]) (rest := []) rfl (by decide) (by decide) rfl hn_a0 rfl (Nat.le_of_ble_eq_true rfl) k_Rule_write ⟨tw_567, ts_29⟩ (by omega) tw_565 d_Rule_readSum_49 hRp7 rfl ?_
  obtain ⟨x8, hx8, h⟩ := ltx h
  refine ev_iinc' 3 (y := x8) (L' := [(2, (0, x8)), (3, (0, x4)), (0, (8, a0)), (1, (10, a1))]) d_Rule_readSum_52 rfl (by decide) rfl hx8 ?_
  refine ev_goto (tgt := 7) d_Rule_readSum_55 (by decide) ?_
  refine ev_less (L' := [(0, (8, a0)), (1, (10, a1)), (2, (0, x8))]) [2, 3, 0] rfl ?_
  cases h
  exact hk1 _ rfl
def l_Rule_readSum_7 (a0 : Int) (a1 : Int) (s : Int × Mm) : Option ((Int × Mm) ⊕ (Mm)) :=
  if 800 ≤ s.1 then
  some (.inr s.2)
  else
  if (mg s.2 (cI a1) 4) = 43 then
  j_Rule_readSum_32_7 s.2 a0 a1 s.1
  else
  if (mg s.2 (cI a1) 4) ≠ 45 then
  some (.inr s.2)
  else
  j_Rule_readSum_32_7 s.2 a0 a1 s.1
theorem cs_l_Rule_readSum_7 {X : XX} {d : Nat} (hd : 7 ≤ d) {a0 : Int} {a1 : Int} (hn_a0 : a0 ≠ 0) (hn_a1 : a1 ≠ 0) {s : Int × Mm} {x : (Int × Mm) ⊕ (Mm)} {r : Option AV} {M' : Mm} (h : l_Rule_readSum_7 a0 a1 s = some x) (hk1 : ∀ s : Int × Mm, x = .inl s → Ev X m_Rule_readSum d 7 [(0, (8, a0)), (1, (10, a1)), (2, (0, s.1))] [] s.2 r M') (hk2 : ∀ t : Mm, x = .inr t → Ev X m_Rule_readSum d 58 [] [] t r M') : Ev X m_Rule_readSum d 7 [(0, (8, a0)), (1, (10, a1)), (2, (0, s.1))] [] s.2 r M' := by
  unfold l_Rule_readSum_7 at h
  refine ev_iload_n 2 d_Rule_readSum_7 rfl rfl ?_
  refine ev_sipush d_Rule_readSum_8 rfl ?_
  by_cases hc2 : 800 ≤ s.1
  · replace h := itp hc2 h
    refine ev_icmp_ge_t (tgt := 58) d_Rule_readSum_11 (by decide) hc2 ?_
    refine ev_less (L' := []) [] rfl ?_
    cases h
    exact hk2 _ rfl
  · replace h := itn hc2 h
    refine ev_icmp_ge_f d_Rule_readSum_11 (by decide) hc2 ?_
    refine ev_aload_n 1 d_Rule_readSum_14 rfl (by decide) rfl ?_
    refine ev_getN (host := "TownBand") (t := 10) (k := 4) (by decide) (by decide) rfl i_Tape (by decide) rfl rfl tw_141 d_Rule_readSum_15 hn_a1 ?_
    refine ev_bipush d_Rule_readSum_18 rfl ?_
    by_cases hc3 : (mg s.2 (cI a1) 4) = 43
    · replace h := itp hc3 h
      refine ev_icmp_eq_t (tgt := 32) d_Rule_readSum_20 (by decide) hc3 ?_
      exact cj_Rule_readSum_32_7 hd hn_a0 hn_a1 h hk1 hk2
    · replace h := itn hc3 h
      refine ev_icmp_eq_f d_Rule_readSum_20 (by decide) hc3 ?_
      refine ev_aload_n 1 d_Rule_readSum_23 rfl (by decide) rfl ?_
      refine ev_getN (host := "TownBand") (t := 10) (k := 4) (by decide) (by decide) rfl i_Tape (by decide) rfl rfl tw_141 d_Rule_readSum_24 hn_a1 ?_
      refine ev_bipush d_Rule_readSum_27 rfl ?_
      by_cases hc9 : (mg s.2 (cI a1) 4) ≠ 45
      · replace h := itp hc9 h
        refine ev_icmp_ne_t (tgt := 58) d_Rule_readSum_29 (by decide) hc9 ?_
        refine ev_less (L' := []) [] rfl ?_
        cases h
        exact hk2 _ rfl
      · replace h := itn hc9 h
        refine ev_icmp_ne_f d_Rule_readSum_29 (by decide) hc9 ?_
        exact cj_Rule_readSum_32_7 hd hn_a0 hn_a1 h hk1 hk2
def f_Rule_readSum (M : Mm) (a0 : Int) (a1 : Int) : Option (Mm) :=
  (f_Rule_readValue M a0 a1).bind (fun p1 =>
  (loopN (l_Rule_readSum_7 a0 a1) FU (0, p1)).bind (fun t10 =>
  some t10))
theorem c_Rule_readSum {X : XX} {d : Nat} (hd : 7 ≤ d) {M : Mm} {a0 : Int} {a1 : Int} (hn_a0 : a0 ≠ 0) (hn_a1 : a1 ≠ 0) {p : Mm} (h : f_Rule_readSum M a0 a1 = some p) : Rn X d m_Rule_readSum [(8, a0), (10, a1)] M none p := by
  refine Rn_of (by decide) rfl (Nat.le_of_ble_eq_true rfl) ?_
  unfold f_Rule_readSum at h
  refine ev_less (L' := [(0, (8, a0)), (1, (10, a1))]) [0, 1] rfl ?_
  refine ev_aload_n 0 d_Rule_readSum_0 rfl (by decide) rfl ?_
  refine ev_aload_n 1 d_Rule_readSum_1 rfl (by decide) rfl ?_
  obtain ⟨p1, hp1, h⟩ := bx h
  have hRp1 := c_Rule_readValue (X := X) (d := d - 1) (by omega) hn_a0 hn_a1 hp1
  refine ev_callV2 (st2 := []) (as := [(10, a1)]) (rest := []) rfl (by decide) (by decide) rfl hn_a0 rfl (Nat.le_of_ble_eq_true rfl) k_Rule_readValue ⟨tw_563, ts_28⟩ (by omega) tw_561 d_Rule_readSum_2 hRp1 rfl ?_
  refine ev_iconst d_Rule_readSum_5 rfl ?_
  refine ev_istore_n (L' := [(2, (0, 0)), (0, (8, a0)), (1, (10, a1))]) d_Rule_readSum_6 rfl (by decide) rfl ?_
  obtain ⟨t10, ht10, h⟩ := bx h
  refine ev_less (L' := [(0, (8, a0)), (1, (10, a1)), (2, (0, 0))]) [1, 2, 0] rfl ?_
  refine loop_ev (step := l_Rule_readSum_7 a0 a1) (P := fun w : Int × Mm => Ev X m_Rule_readSum d 7 [(0, (8, a0)), (1, (10, a1)), (2, (0, w.1))] [] w.2 none p) (Q := fun w => Ev X m_Rule_readSum d 58 [] [] w none p) (fun w x hs k1 k2 => cs_l_Rule_readSum_7 hd hn_a0 hn_a1 hs k1 k2) FU (0, p1) t10 ht10 ?_
  cases h
  exact ev_retV d_Rule_readSum_58 rfl
def j_Rule_readComparison_33 (M : Mm) (a0 : Int) (a1 : Int) (z2 : Int) : Option (Mm) :=
  (f_Tape_advance M a1).bind (fun p4 =>
  (f_Rule_readSum p4 a0 a1).bind (fun p5 =>
  (f_Rule_write p5 a0 (w32 (-z2))).bind (fun p6 =>
  some p6)))
theorem cj_Rule_readComparison_33 {X : XX} {d : Nat} (hd : 8 ≤ d) {M : Mm} {a0 : Int} {a1 : Int} {z2 : Int} (hn_a0 : a0 ≠ 0) (hn_a1 : a1 ≠ 0) {p : Mm} (h : j_Rule_readComparison_33 M a0 a1 z2 = some p) : Ev X m_Rule_readComparison d 33 [(0, (8, a0)), (1, (10, a1)), (2, (0, z2))] [] M none p := by
  unfold j_Rule_readComparison_33 at h
  refine ev_aload_n 1 d_Rule_readComparison_33 rfl (by decide) rfl ?_
  obtain ⟨p4, hp4, h⟩ := bx h
  have hRp4 := c_Tape_advance (X := X) (d := d - 1) (by omega) hn_a1 hp4
  refine ev_callVN2 (host := "TownBand") (st2 := []) (as := []) (rest := []) rfl (by decide) (by decide) rfl hn_a1 rfl (Nat.le_of_ble_eq_true rfl) k_Tape_advance ⟨tw_413, ts_9⟩ (by omega) tw_576 d_Rule_readComparison_34 hRp4 rfl ?_
  refine ev_aload_n 0 d_Rule_readComparison_37 rfl (by decide) rfl ?_
  refine ev_aload_n 1 d_Rule_readComparison_38 rfl (by decide) rfl ?_
  obtain ⟨p5, hp5, h⟩ := bx h
  have hRp5 := c_Rule_readSum (X := X) (d := d - 1) (by omega) hn_a0 hn_a1 hp5
  refine ev_callV2 (st2 := []) (as := [(10, a1)]) (rest := []) rfl (by decide) (by decide) rfl hn_a0 rfl (Nat.le_of_ble_eq_true rfl) k_Rule_readSum ⟨tw_559, ts_27⟩ (by omega) tw_557 d_Rule_readComparison_39 hRp5 rfl ?_
  refine ev_aload_n 0 d_Rule_readComparison_42 rfl (by decide) rfl ?_
  refine ev_iload_n 2 d_Rule_readComparison_43 rfl rfl ?_
  refine ev_ineg d_Rule_readComparison_44 ?_
  obtain ⟨p6, hp6, h⟩ := bx h
  have hRp6 := c_Rule_write (X := X) (d := d - 1) (by omega) hn_a0 hp6
  refine ev_callV2 (st2 := []) (as := [(0, (w32 (-z2)))]) (rest := []) rfl (by decide) (by decide) rfl hn_a0 rfl (Nat.le_of_ble_eq_true rfl) k_Rule_write ⟨tw_567, ts_29⟩ (by omega) tw_565 d_Rule_readComparison_45 hRp6 rfl ?_
  cases h
  exact ev_retV d_Rule_readComparison_48 rfl
def f_Rule_readComparison (M : Mm) (a0 : Int) (a1 : Int) : Option (Mm) :=
  (f_Rule_readSum M a0 a1).bind (fun p1 =>
  lt ((mg p1 (cI a1) 4)) (fun x2 : Int =>
  if x2 = 60 then
  j_Rule_readComparison_33 p1 a0 a1 x2
  else
  if x2 = 61 then
  j_Rule_readComparison_33 p1 a0 a1 x2
  else
  if x2 = 62 then
  j_Rule_readComparison_33 p1 a0 a1 x2
  else
  (f_Tape_fail p1 a1 1).bind (fun p9 =>
  j_Rule_readComparison_33 p9 a0 a1 x2)))
theorem c_Rule_readComparison {X : XX} {d : Nat} (hd : 8 ≤ d) {M : Mm} {a0 : Int} {a1 : Int} (hn_a0 : a0 ≠ 0) (hn_a1 : a1 ≠ 0) {p : Mm} (h : f_Rule_readComparison M a0 a1 = some p) : Rn X d m_Rule_readComparison [(8, a0), (10, a1)] M none p := by
  refine Rn_of (by decide) rfl (Nat.le_of_ble_eq_true rfl) ?_
  unfold f_Rule_readComparison at h
  refine ev_less (L' := [(0, (8, a0)), (1, (10, a1))]) [0, 1] rfl ?_
  refine ev_aload_n 0 d_Rule_readComparison_0 rfl (by decide) rfl ?_
  refine ev_aload_n 1 d_Rule_readComparison_1 rfl (by decide) rfl ?_
  obtain ⟨p1, hp1, h⟩ := bx h
  have hRp1 := c_Rule_readSum (X := X) (d := d - 1) (by omega) hn_a0 hn_a1 hp1
  refine ev_callV2 (st2 := []) (as := [(10, a1)]) (rest := []) rfl (by decide) (by decide) rfl hn_a0 rfl (Nat.le_of_ble_eq_true rfl) k_Rule_readSum ⟨tw_559, ts_27⟩ (by omega) tw_557 d_Rule_readComparison_2 hRp1 rfl ?_
  refine ev_aload_n 1 d_Rule_readComparison_5 rfl (by decide) rfl ?_
  refine ev_getN (host := "TownBand") (t := 10) (k := 4) (by decide) (by decide) rfl i_Tape (by decide) rfl rfl tw_141 d_Rule_readComparison_6 hn_a1 ?_
  obtain ⟨x2, hx2, h⟩ := ltx h
  refine ev_istore_n' (y := x2) (L' := [(2, (0, x2)), (0, (8, a0)), (1, (10, a1))]) d_Rule_readComparison_9 rfl (by decide) rfl hx2 ?_
  refine ev_iload_n 0 d_Rule_readComparison_10 rfl rfl ?_
  refine ev_bipush d_Rule_readComparison_11 rfl ?_
  by_cases hc3 : x2 = 60
  · replace h := itp hc3 h
    refine ev_icmp_eq_t (tgt := 33) d_Rule_readComparison_13 (by decide) hc3 ?_
    refine ev_less (L' := [(0, (8, a0)), (1, (10, a1)), (2, (0, x2))]) [1, 2, 0] rfl ?_
    exact cj_Rule_readComparison_33 hd hn_a0 hn_a1 h
  · replace h := itn hc3 h
    refine ev_icmp_eq_f d_Rule_readComparison_13 (by decide) hc3 ?_
    refine ev_iload_n 0 d_Rule_readComparison_16 rfl rfl ?_
    refine ev_bipush d_Rule_readComparison_17 rfl ?_
    by_cases hc7 : x2 = 61
    · replace h := itp hc7 h
      refine ev_icmp_eq_t (tgt := 33) d_Rule_readComparison_19 (by decide) hc7 ?_
      refine ev_less (L' := [(0, (8, a0)), (1, (10, a1)), (2, (0, x2))]) [1, 2, 0] rfl ?_
      exact cj_Rule_readComparison_33 hd hn_a0 hn_a1 h
    · replace h := itn hc7 h
      refine ev_icmp_eq_f d_Rule_readComparison_19 (by decide) hc7 ?_
      refine ev_iload_n 0 d_Rule_readComparison_22 rfl rfl ?_
      refine ev_bipush d_Rule_readComparison_23 rfl ?_
      by_cases hc8 : x2 = 62
      · replace h := itp hc8 h
        refine ev_icmp_eq_t (tgt := 33) d_Rule_readComparison_25 (by decide) hc8 ?_
        refine ev_less (L' := [(0, (8, a0)), (1, (10, a1)), (2, (0, x2))]) [1, 2, 0] rfl ?_
        exact cj_Rule_readComparison_33 hd hn_a0 hn_a1 h
      · replace h := itn hc8 h
        refine ev_icmp_eq_f d_Rule_readComparison_25 (by decide) hc8 ?_
        refine ev_aload_n 2 d_Rule_readComparison_28 rfl (by decide) rfl ?_
        refine ev_iconst d_Rule_readComparison_29 rfl ?_
        obtain ⟨p9, hp9, h⟩ := bx h
        have hRp9 := c_Tape_fail (X := X) (d := d - 1) (by omega) hn_a1 hp9
        refine ev_callVN2 (host := "TownBand") (st2 := []) (as := [(0, 1)]) (rest := []) rfl (by decide) (by decide) rfl hn_a1 rfl (Nat.le_of_ble_eq_true rfl) k_Tape_fail ⟨tw_474, ts_12⟩ (by omega) tw_575 d_Rule_readComparison_30 hRp9 rfl ?_
        refine ev_less (L' := [(0, (8, a0)), (1, (10, a1)), (2, (0, x2))]) [1, 2, 0] rfl ?_
        exact cj_Rule_readComparison_33 hd hn_a0 hn_a1 h
def l_Rule_readBoth_8 (rc : Mm → Int → Int → Int → Option (Mm)) (a0 : Int) (a1 : Int) (a2 : Int) (s : Int × Mm) : Option ((Int × Mm) ⊕ (Mm)) :=
  if 800 ≤ s.1 then
  some (.inr s.2)
  else
  if (mg s.2 (cI a1) 4) ≠ 38 then
  some (.inr s.2)
  else
  (f_Tape_advance s.2 a1).bind (fun p4 =>
  (rc p4 a0 a1 a2).bind (fun p5 =>
  (f_Rule_write p5 a0 (-38)).bind (fun p6 =>
  lt (w32 (s.1 + 1)) (fun x7 : Int =>
  some (.inl (x7, p6))))))
theorem cs_l_Rule_readBoth_8 {X : XX} {d : Nat} {e : Nat} {rc : Mm → Int → Int → Int → Option (Mm)} (hd : e + 1 ≤ d) (hrc : ∀ (M : Mm) (b0 b1 b2 : Int) (q : Mm), b0 ≠ 0 → b1 ≠ 0 → rc M b0 b1 b2 = some q → Rn X e m_Rule_readOne [(8, b0), (10, b1), (0, b2)] M none q) {a0 : Int} {a1 : Int} {a2 : Int} (hn_a0 : a0 ≠ 0) (hn_a1 : a1 ≠ 0) {s : Int × Mm} {x : (Int × Mm) ⊕ (Mm)} {r : Option AV} {M' : Mm} (h : l_Rule_readBoth_8 rc a0 a1 a2 s = some x) (hk1 : ∀ s : Int × Mm, x = .inl s → Ev X m_Rule_readBoth d 8 [(0, (8, a0)), (1, (10, a1)), (2, (0, a2)), (3, (0, s.1))] [] s.2 r M') (hk2 : ∀ t : Mm, x = .inr t → Ev X m_Rule_readBoth d 46 [] [] t r M') : Ev X m_Rule_readBoth d 8 [(0, (8, a0)), (1, (10, a1)), (2, (0, a2)), (3, (0, s.1))] [] s.2 r M' := by
  unfold l_Rule_readBoth_8 at h
  refine ev_iload_n 3 d_Rule_readBoth_8 rfl rfl ?_
  refine ev_sipush d_Rule_readBoth_9 rfl ?_
  by_cases hc2 : 800 ≤ s.1
  · replace h := itp hc2 h
    refine ev_icmp_ge_t (tgt := 46) d_Rule_readBoth_12 (by decide) hc2 ?_
    refine ev_less (L' := []) [] rfl ?_
    cases h
    exact hk2 _ rfl
  · replace h := itn hc2 h
    refine ev_icmp_ge_f d_Rule_readBoth_12 (by decide) hc2 ?_
    refine ev_aload_n 1 d_Rule_readBoth_15 rfl (by decide) rfl ?_
    refine ev_getN (host := "TownBand") (t := 10) (k := 4) (by decide) (by decide) rfl i_Tape (by decide) rfl rfl tw_141 d_Rule_readBoth_16 hn_a1 ?_
    refine ev_bipush d_Rule_readBoth_19 rfl ?_
    by_cases hc3 : (mg s.2 (cI a1) 4) ≠ 38
    · replace h := itp hc3 h
      refine ev_icmp_ne_t (tgt := 46) d_Rule_readBoth_21 (by decide) hc3 ?_
      refine ev_less (L' := []) [] rfl ?_
      cases h
      exact hk2 _ rfl
    · replace h := itn hc3 h
      refine ev_icmp_ne_f d_Rule_readBoth_21 (by decide) hc3 ?_
      refine ev_aload_n 1 d_Rule_readBoth_24 rfl (by decide) rfl ?_
      obtain ⟨p4, hp4, h⟩ := bx h
      have hRp4 := c_Tape_advance (X := X) (d := d - 1) (by omega) hn_a1 hp4
      refine ev_callVN2 (host := "TownBand") (st2 := []) (as := []) (rest := []) rfl (by decide) (by decide) rfl hn_a1 rfl (Nat.le_of_ble_eq_true rfl) k_Tape_advance ⟨tw_413, ts_9⟩ (by omega) tw_576 d_Rule_readBoth_25 hRp4 rfl ?_
      refine ev_aload_n 0 d_Rule_readBoth_28 rfl (by decide) rfl ?_
      refine ev_aload_n 1 d_Rule_readBoth_29 rfl (by decide) rfl ?_
      refine ev_iload_n 2 d_Rule_readBoth_30 rfl rfl ?_
      obtain ⟨p5, hp5, h⟩ := bx h
      have hRp5 := hrc _ _ _ _ _ hn_a0 hn_a1 hp5
      refine ev_callV2 (st2 := []) (as := [(10, a1), (0, a2)]) (rest := []) rfl (by decide) (by decide) rfl hn_a0 rfl (Nat.le_of_ble_eq_true rfl) k_Rule_readOne ⟨tw_551, ts_25⟩ (by omega) tw_549 d_Rule_readBoth_31 hRp5 rfl ?_
      refine ev_aload_n 0 d_Rule_readBoth_34 rfl (by decide) rfl ?_
      refine ev_bipush d_Rule_readBoth_35 rfl ?_
      obtain ⟨p6, hp6, h⟩ := bx h
      have hRp6 := c_Rule_write (X := X) (d := d - 1) (by omega) hn_a0 hp6
      refine ev_callV2 (st2 := []) (as := [(0, (-38))]) (rest := []) rfl (by decide) (by decide) rfl hn_a0 rfl (Nat.le_of_ble_eq_true rfl) k_Rule_write ⟨tw_567, ts_29⟩ (by omega) tw_565 d_Rule_readBoth_37 hRp6 rfl ?_
      obtain ⟨x7, hx7, h⟩ := ltx h
      refine ev_iinc' 3 (y := x7) (L' := [(3, (0, x7)), (0, (8, a0)), (1, (10, a1)), (2, (0, a2))]) d_Rule_readBoth_40 rfl (by decide) rfl hx7 ?_
      refine ev_goto (tgt := 8) d_Rule_readBoth_43 (by decide) ?_
      refine ev_less (L' := [(0, (8, a0)), (1, (10, a1)), (2, (0, a2)), (3, (0, x7))]) [1, 2, 3, 0] rfl ?_
      cases h
      exact hk1 _ rfl
def f_Rule_readBoth (rc : Mm → Int → Int → Int → Option (Mm)) (M : Mm) (a0 : Int) (a1 : Int) (a2 : Int) : Option (Mm) :=
  (rc M a0 a1 a2).bind (fun p1 =>
  (loopN (l_Rule_readBoth_8 rc a0 a1 a2) FU (0, p1)).bind (fun t8 =>
  some t8))
theorem c_Rule_readBoth {X : XX} {d : Nat} {e : Nat} {rc : Mm → Int → Int → Int → Option (Mm)} (hd : e + 1 ≤ d) (hrc : ∀ (M : Mm) (b0 b1 b2 : Int) (q : Mm), b0 ≠ 0 → b1 ≠ 0 → rc M b0 b1 b2 = some q → Rn X e m_Rule_readOne [(8, b0), (10, b1), (0, b2)] M none q) {M : Mm} {a0 : Int} {a1 : Int} {a2 : Int} (hn_a0 : a0 ≠ 0) (hn_a1 : a1 ≠ 0) {p : Mm} (h : f_Rule_readBoth rc M a0 a1 a2 = some p) : Rn X d m_Rule_readBoth [(8, a0), (10, a1), (0, a2)] M none p := by
  refine Rn_of (by decide) rfl (Nat.le_of_ble_eq_true rfl) ?_
  unfold f_Rule_readBoth at h
  refine ev_less (L' := [(0, (8, a0)), (1, (10, a1)), (2, (0, a2))]) [0, 1, 2] rfl ?_
  refine ev_aload_n 0 d_Rule_readBoth_0 rfl (by decide) rfl ?_
  refine ev_aload_n 1 d_Rule_readBoth_1 rfl (by decide) rfl ?_
  refine ev_iload_n 2 d_Rule_readBoth_2 rfl rfl ?_
  obtain ⟨p1, hp1, h⟩ := bx h
  have hRp1 := hrc _ _ _ _ _ hn_a0 hn_a1 hp1
  refine ev_callV2 (st2 := []) (as := [(10, a1), (0, a2)]) (rest := []) rfl (by decide) (by decide) rfl hn_a0 rfl (Nat.le_of_ble_eq_true rfl) k_Rule_readOne ⟨tw_551, ts_25⟩ (by omega) tw_549 d_Rule_readBoth_3 hRp1 rfl ?_
  refine ev_iconst d_Rule_readBoth_6 rfl ?_
  refine ev_istore_n (L' := [(3, (0, 0)), (0, (8, a0)), (1, (10, a1)), (2, (0, a2))]) d_Rule_readBoth_7 rfl (by decide) rfl ?_
  obtain ⟨t8, ht8, h⟩ := bx h
  refine ev_less (L' := [(0, (8, a0)), (1, (10, a1)), (2, (0, a2)), (3, (0, 0))]) [1, 2, 3, 0] rfl ?_
  refine loop_ev (step := l_Rule_readBoth_8 rc a0 a1 a2) (P := fun w : Int × Mm => Ev X m_Rule_readBoth d 8 [(0, (8, a0)), (1, (10, a1)), (2, (0, a2)), (3, (0, w.1))] [] w.2 none p) (Q := fun w => Ev X m_Rule_readBoth d 46 [] [] w none p) (fun w x hs k1 k2 => cs_l_Rule_readBoth_8 hd hrc hn_a0 hn_a1 hs k1 k2) FU (0, p1) t8 ht8 ?_
  cases h
  exact ev_retV d_Rule_readBoth_46 rfl
def l_Rule_readEither_8 (rc : Mm → Int → Int → Int → Option (Mm)) (a0 : Int) (a1 : Int) (a2 : Int) (s : Int × Mm) : Option ((Int × Mm) ⊕ (Mm)) :=
  if 800 ≤ s.1 then
  some (.inr s.2)
  else
  if (mg s.2 (cI a1) 4) ≠ 124 then
  some (.inr s.2)
  else
  (f_Tape_advance s.2 a1).bind (fun p4 =>
  (f_Rule_readBoth rc p4 a0 a1 a2).bind (fun p5 =>
  (f_Rule_write p5 a0 (-124)).bind (fun p6 =>
  lt (w32 (s.1 + 1)) (fun x7 : Int =>
  some (.inl (x7, p6))))))
theorem cs_l_Rule_readEither_8 {X : XX} {d : Nat} {e : Nat} {rc : Mm → Int → Int → Int → Option (Mm)} (hd : e + 2 ≤ d) (hrc : ∀ (M : Mm) (b0 b1 b2 : Int) (q : Mm), b0 ≠ 0 → b1 ≠ 0 → rc M b0 b1 b2 = some q → Rn X e m_Rule_readOne [(8, b0), (10, b1), (0, b2)] M none q) {a0 : Int} {a1 : Int} {a2 : Int} (hn_a0 : a0 ≠ 0) (hn_a1 : a1 ≠ 0) {s : Int × Mm} {x : (Int × Mm) ⊕ (Mm)} {r : Option AV} {M' : Mm} (h : l_Rule_readEither_8 rc a0 a1 a2 s = some x) (hk1 : ∀ s : Int × Mm, x = .inl s → Ev X m_Rule_readEither d 8 [(0, (8, a0)), (1, (10, a1)), (2, (0, a2)), (3, (0, s.1))] [] s.2 r M') (hk2 : ∀ t : Mm, x = .inr t → Ev X m_Rule_readEither d 46 [] [] t r M') : Ev X m_Rule_readEither d 8 [(0, (8, a0)), (1, (10, a1)), (2, (0, a2)), (3, (0, s.1))] [] s.2 r M' := by
  unfold l_Rule_readEither_8 at h
  refine ev_iload_n 3 d_Rule_readEither_8 rfl rfl ?_
  refine ev_sipush d_Rule_readEither_9 rfl ?_
  by_cases hc2 : 800 ≤ s.1
  · replace h := itp hc2 h
    refine ev_icmp_ge_t (tgt := 46) d_Rule_readEither_12 (by decide) hc2 ?_
    refine ev_less (L' := []) [] rfl ?_
    cases h
    exact hk2 _ rfl
  · replace h := itn hc2 h
    refine ev_icmp_ge_f d_Rule_readEither_12 (by decide) hc2 ?_
    refine ev_aload_n 1 d_Rule_readEither_15 rfl (by decide) rfl ?_
    refine ev_getN (host := "TownBand") (t := 10) (k := 4) (by decide) (by decide) rfl i_Tape (by decide) rfl rfl tw_141 d_Rule_readEither_16 hn_a1 ?_
    refine ev_bipush d_Rule_readEither_19 rfl ?_
    by_cases hc3 : (mg s.2 (cI a1) 4) ≠ 124
    · replace h := itp hc3 h
      refine ev_icmp_ne_t (tgt := 46) d_Rule_readEither_21 (by decide) hc3 ?_
      refine ev_less (L' := []) [] rfl ?_
      cases h
      exact hk2 _ rfl
    · replace h := itn hc3 h
      refine ev_icmp_ne_f d_Rule_readEither_21 (by decide) hc3 ?_
      refine ev_aload_n 1 d_Rule_readEither_24 rfl (by decide) rfl ?_
      obtain ⟨p4, hp4, h⟩ := bx h
      have hRp4 := c_Tape_advance (X := X) (d := d - 1) (by omega) hn_a1 hp4
      refine ev_callVN2 (host := "TownBand") (st2 := []) (as := []) (rest := []) rfl (by decide) (by decide) rfl hn_a1 rfl (Nat.le_of_ble_eq_true rfl) k_Tape_advance ⟨tw_413, ts_9⟩ (by omega) tw_576 d_Rule_readEither_25 hRp4 rfl ?_
      refine ev_aload_n 0 d_Rule_readEither_28 rfl (by decide) rfl ?_
      refine ev_aload_n 1 d_Rule_readEither_29 rfl (by decide) rfl ?_
      refine ev_iload_n 2 d_Rule_readEither_30 rfl rfl ?_
      obtain ⟨p5, hp5, h⟩ := bx h
      have hRp5 := c_Rule_readBoth (X := X) (d := d - 1) (e := e) (by omega) hrc hn_a0 hn_a1 hp5
      refine ev_callV2 (st2 := []) (as := [(10, a1), (0, a2)]) (rest := []) rfl (by decide) (by decide) rfl hn_a0 rfl (Nat.le_of_ble_eq_true rfl) k_Rule_readBoth ⟨tw_547, ts_24⟩ (by omega) tw_545 d_Rule_readEither_31 hRp5 rfl ?_
      refine ev_aload_n 0 d_Rule_readEither_34 rfl (by decide) rfl ?_
      refine ev_bipush d_Rule_readEither_35 rfl ?_
      obtain ⟨p6, hp6, h⟩ := bx h
      have hRp6 := c_Rule_write (X := X) (d := d - 1) (by omega) hn_a0 hp6
      refine ev_callV2 (st2 := []) (as := [(0, (-124))]) (rest := []) rfl (by decide) (by decide) rfl hn_a0 rfl (Nat.le_of_ble_eq_true rfl) k_Rule_write ⟨tw_567, ts_29⟩ (by omega) tw_565 d_Rule_readEither_37 hRp6 rfl ?_
      obtain ⟨x7, hx7, h⟩ := ltx h
      refine ev_iinc' 3 (y := x7) (L' := [(3, (0, x7)), (0, (8, a0)), (1, (10, a1)), (2, (0, a2))]) d_Rule_readEither_40 rfl (by decide) rfl hx7 ?_
      refine ev_goto (tgt := 8) d_Rule_readEither_43 (by decide) ?_
      refine ev_less (L' := [(0, (8, a0)), (1, (10, a1)), (2, (0, a2)), (3, (0, x7))]) [1, 2, 3, 0] rfl ?_
      cases h
      exact hk1 _ rfl
def f_Rule_readEither (rc : Mm → Int → Int → Int → Option (Mm)) (M : Mm) (a0 : Int) (a1 : Int) (a2 : Int) : Option (Mm) :=
  (f_Rule_readBoth rc M a0 a1 a2).bind (fun p1 =>
  (loopN (l_Rule_readEither_8 rc a0 a1 a2) FU (0, p1)).bind (fun t8 =>
  some t8))
theorem c_Rule_readEither {X : XX} {d : Nat} {e : Nat} {rc : Mm → Int → Int → Int → Option (Mm)} (hd : e + 2 ≤ d) (hrc : ∀ (M : Mm) (b0 b1 b2 : Int) (q : Mm), b0 ≠ 0 → b1 ≠ 0 → rc M b0 b1 b2 = some q → Rn X e m_Rule_readOne [(8, b0), (10, b1), (0, b2)] M none q) {M : Mm} {a0 : Int} {a1 : Int} {a2 : Int} (hn_a0 : a0 ≠ 0) (hn_a1 : a1 ≠ 0) {p : Mm} (h : f_Rule_readEither rc M a0 a1 a2 = some p) : Rn X d m_Rule_readEither [(8, a0), (10, a1), (0, a2)] M none p := by
  refine Rn_of (by decide) rfl (Nat.le_of_ble_eq_true rfl) ?_
  unfold f_Rule_readEither at h
  refine ev_less (L' := [(0, (8, a0)), (1, (10, a1)), (2, (0, a2))]) [0, 1, 2] rfl ?_
  refine ev_aload_n 0 d_Rule_readEither_0 rfl (by decide) rfl ?_
  refine ev_aload_n 1 d_Rule_readEither_1 rfl (by decide) rfl ?_
  refine ev_iload_n 2 d_Rule_readEither_2 rfl rfl ?_
  obtain ⟨p1, hp1, h⟩ := bx h
  have hRp1 := c_Rule_readBoth (X := X) (d := d - 1) (e := e) (by omega) hrc hn_a0 hn_a1 hp1
  refine ev_callV2 (st2 := []) (as := [(10, a1), (0, a2)]) (rest := []) rfl (by decide) (by decide) rfl hn_a0 rfl (Nat.le_of_ble_eq_true rfl) k_Rule_readBoth ⟨tw_547, ts_24⟩ (by omega) tw_545 d_Rule_readEither_3 hRp1 rfl ?_
  refine ev_iconst d_Rule_readEither_6 rfl ?_
  refine ev_istore_n (L' := [(3, (0, 0)), (0, (8, a0)), (1, (10, a1)), (2, (0, a2))]) d_Rule_readEither_7 rfl (by decide) rfl ?_
  obtain ⟨t8, ht8, h⟩ := bx h
  refine ev_less (L' := [(0, (8, a0)), (1, (10, a1)), (2, (0, a2)), (3, (0, 0))]) [1, 2, 3, 0] rfl ?_
  refine loop_ev (step := l_Rule_readEither_8 rc a0 a1 a2) (P := fun w : Int × Mm => Ev X m_Rule_readEither d 8 [(0, (8, a0)), (1, (10, a1)), (2, (0, a2)), (3, (0, w.1))] [] w.2 none p) (Q := fun w => Ev X m_Rule_readEither d 46 [] [] w none p) (fun w x hs k1 k2 => cs_l_Rule_readEither_8 hd hrc hn_a0 hn_a1 hs k1 k2) FU (0, p1) t8 ht8 ?_
  cases h
  exact ev_retV d_Rule_readEither_46 rfl
def j_Rule_readOne_23 (rc : Mm → Int → Int → Int → Option (Mm)) (M : Mm) (a0 : Int) (a1 : Int) (a2 : Int) (z3 : Int) : Option (Mm) :=
  if a2 < 8 then
  (f_Tape_advance M a1).bind (fun p4 =>
  if z3 ≠ 33 then
  (f_Rule_readEither rc p4 a0 a1 (w32 (a2 + 1))).bind (fun p6 =>
  (f_Tape_take p6 a1 41).bind (fun p7 =>
  some p7))
  else
  (rc p4 a0 a1 (w32 (a2 + 1))).bind (fun p8 =>
  (f_Rule_write p8 a0 (-33)).bind (fun p9 =>
  some p9)))
  else
  (f_Tape_fail M a1 4).bind (fun p10 =>
  some p10)
theorem cj_Rule_readOne_23 {X : XX} {d : Nat} {e : Nat} {rc : Mm → Int → Int → Int → Option (Mm)} (hd : e + 9 ≤ d) (hrc : ∀ (M : Mm) (b0 b1 b2 : Int) (q : Mm), b0 ≠ 0 → b1 ≠ 0 → rc M b0 b1 b2 = some q → Rn X e m_Rule_readOne [(8, b0), (10, b1), (0, b2)] M none q) {M : Mm} {a0 : Int} {a1 : Int} {a2 : Int} {z3 : Int} (hn_a0 : a0 ≠ 0) (hn_a1 : a1 ≠ 0) {p : Mm} (h : j_Rule_readOne_23 rc M a0 a1 a2 z3 = some p) : Ev X m_Rule_readOne d 23 [(0, (8, a0)), (1, (10, a1)), (2, (0, a2)), (3, (0, z3))] [] M none p := by
  unfold j_Rule_readOne_23 at h
  refine ev_iload_n 2 d_Rule_readOne_23 rfl rfl ?_
  refine ev_bipush d_Rule_readOne_24 rfl ?_
  by_cases hc3 : a2 < 8
  · replace h := itp hc3 h
    refine ev_icmp_lt_t (tgt := 35) d_Rule_readOne_26 (by decide) hc3 ?_
    refine ev_aload_n 1 d_Rule_readOne_35 rfl (by decide) rfl ?_
    obtain ⟨p4, hp4, h⟩ := bx h
    have hRp4 := c_Tape_advance (X := X) (d := d - 1) (by omega) hn_a1 hp4
    refine ev_callVN2 (host := "TownBand") (st2 := []) (as := []) (rest := []) rfl (by decide) (by decide) rfl hn_a1 rfl (Nat.le_of_ble_eq_true rfl) k_Tape_advance ⟨tw_413, ts_9⟩ (by omega) tw_576 d_Rule_readOne_36 hRp4 rfl ?_
    refine ev_iload_n 3 d_Rule_readOne_39 rfl rfl ?_
    refine ev_bipush d_Rule_readOne_40 rfl ?_
    by_cases hc5 : z3 ≠ 33
    · replace h := itp hc5 h
      refine ev_icmp_ne_t (tgt := 62) d_Rule_readOne_42 (by decide) hc5 ?_
      refine ev_aload_n 0 d_Rule_readOne_62 rfl (by decide) rfl ?_
      refine ev_aload_n 1 d_Rule_readOne_63 rfl (by decide) rfl ?_
      refine ev_iload_n 2 d_Rule_readOne_64 rfl rfl ?_
      refine ev_iconst d_Rule_readOne_65 rfl ?_
      refine ev_iadd d_Rule_readOne_66 ?_
      obtain ⟨p6, hp6, h⟩ := bx h
      have hRp6 := c_Rule_readEither (X := X) (d := d - 1) (e := e) (by omega) hrc hn_a0 hn_a1 hp6
      refine ev_callV2 (st2 := []) (as := [(10, a1), (0, (w32 (a2 + 1)))]) (rest := []) rfl (by decide) (by decide) rfl hn_a0 rfl (Nat.le_of_ble_eq_true rfl) k_Rule_readEither ⟨tw_543, ts_23⟩ (by omega) tw_577 d_Rule_readOne_67 hRp6 rfl ?_
      refine ev_aload_n 1 d_Rule_readOne_70 rfl (by decide) rfl ?_
      refine ev_bipush d_Rule_readOne_71 rfl ?_
      obtain ⟨p7, hp7, h⟩ := bx h
      have hRp7 := c_Tape_take (X := X) (d := d - 1) (by omega) hn_a1 hp7
      refine ev_callVN2 (host := "TownBand") (st2 := []) (as := [(0, 41)]) (rest := []) rfl (by decide) (by decide) rfl hn_a1 rfl (Nat.le_of_ble_eq_true rfl) k_Tape_take ⟨tw_498, ts_16⟩ (by omega) tw_578 d_Rule_readOne_73 hRp7 rfl ?_
      cases h
      exact ev_retV d_Rule_readOne_76 rfl
    · replace h := itn hc5 h
      refine ev_icmp_ne_f d_Rule_readOne_42 (by decide) hc5 ?_
      refine ev_aload_n 0 d_Rule_readOne_45 rfl (by decide) rfl ?_
      refine ev_aload_n 1 d_Rule_readOne_46 rfl (by decide) rfl ?_
      refine ev_iload_n 2 d_Rule_readOne_47 rfl rfl ?_
      refine ev_iconst d_Rule_readOne_48 rfl ?_
      refine ev_iadd d_Rule_readOne_49 ?_
      obtain ⟨p8, hp8, h⟩ := bx h
      have hRp8 := hrc _ _ _ _ _ hn_a0 hn_a1 hp8
      refine ev_callV2 (st2 := []) (as := [(10, a1), (0, (w32 (a2 + 1)))]) (rest := []) rfl (by decide) (by decide) rfl hn_a0 rfl (Nat.le_of_ble_eq_true rfl) k_Rule_readOne ⟨tw_551, ts_25⟩ (by omega) tw_549 d_Rule_readOne_50 hRp8 rfl ?_
      refine ev_aload_n 0 d_Rule_readOne_53 rfl (by decide) rfl ?_
      refine ev_bipush d_Rule_readOne_54 rfl ?_
      obtain ⟨p9, hp9, h⟩ := bx h
      have hRp9 := c_Rule_write (X := X) (d := d - 1) (by omega) hn_a0 hp9
      refine ev_callV2 (st2 := []) (as := [(0, (-33))]) (rest := []) rfl (by decide) (by decide) rfl hn_a0 rfl (Nat.le_of_ble_eq_true rfl) k_Rule_write ⟨tw_567, ts_29⟩ (by omega) tw_565 d_Rule_readOne_56 hRp9 rfl ?_
      refine ev_goto (tgt := 76) d_Rule_readOne_59 (by decide) ?_
      cases h
      exact ev_retV d_Rule_readOne_76 rfl
  · replace h := itn hc3 h
    refine ev_icmp_lt_f d_Rule_readOne_26 (by decide) hc3 ?_
    refine ev_aload_n 1 d_Rule_readOne_29 rfl (by decide) rfl ?_
    refine ev_iconst d_Rule_readOne_30 rfl ?_
    obtain ⟨p10, hp10, h⟩ := bx h
    have hRp10 := c_Tape_fail (X := X) (d := d - 1) (by omega) hn_a1 hp10
    refine ev_callVN2 (host := "TownBand") (st2 := []) (as := [(0, 4)]) (rest := []) rfl (by decide) (by decide) rfl hn_a1 rfl (Nat.le_of_ble_eq_true rfl) k_Tape_fail ⟨tw_474, ts_12⟩ (by omega) tw_575 d_Rule_readOne_31 hRp10 rfl ?_
    cases h
    exact ev_retV d_Rule_readOne_34 rfl
def g_Rule_readOne (rc : Mm → Int → Int → Int → Option (Mm)) (M : Mm) (a0 : Int) (a1 : Int) (a2 : Int) : Option (Mm) :=
  lt ((mg M (cI a1) 4)) (fun x1 : Int =>
  if x1 = 33 then
  j_Rule_readOne_23 rc M a0 a1 a2 x1
  else
  if x1 = 40 then
  j_Rule_readOne_23 rc M a0 a1 a2 x1
  else
  (f_Rule_readComparison M a0 a1).bind (fun p12 =>
  some p12))
theorem cg_Rule_readOne {X : XX} {d : Nat} {e : Nat} {rc : Mm → Int → Int → Int → Option (Mm)} (hd : e + 9 ≤ d) (hrc : ∀ (M : Mm) (b0 b1 b2 : Int) (q : Mm), b0 ≠ 0 → b1 ≠ 0 → rc M b0 b1 b2 = some q → Rn X e m_Rule_readOne [(8, b0), (10, b1), (0, b2)] M none q) {M : Mm} {a0 : Int} {a1 : Int} {a2 : Int} (hn_a0 : a0 ≠ 0) (hn_a1 : a1 ≠ 0) {p : Mm} (h : g_Rule_readOne rc M a0 a1 a2 = some p) : Rn X d m_Rule_readOne [(8, a0), (10, a1), (0, a2)] M none p := by
  refine Rn_of (by decide) rfl (Nat.le_of_ble_eq_true rfl) ?_
  unfold g_Rule_readOne at h
  refine ev_less (L' := [(0, (8, a0)), (1, (10, a1)), (2, (0, a2))]) [0, 1, 2] rfl ?_
  refine ev_aload_n 1 d_Rule_readOne_0 rfl (by decide) rfl ?_
  refine ev_getN (host := "TownBand") (t := 10) (k := 4) (by decide) (by decide) rfl i_Tape (by decide) rfl rfl tw_141 d_Rule_readOne_1 hn_a1 ?_
  obtain ⟨x1, hx1, h⟩ := ltx h
  refine ev_istore_n' (y := x1) (L' := [(3, (0, x1)), (0, (8, a0)), (1, (10, a1)), (2, (0, a2))]) d_Rule_readOne_4 rfl (by decide) rfl hx1 ?_
  refine ev_iload_n 0 d_Rule_readOne_5 rfl rfl ?_
  refine ev_bipush d_Rule_readOne_6 rfl ?_
  by_cases hc2 : x1 = 33
  · replace h := itp hc2 h
    refine ev_icmp_eq_t (tgt := 23) d_Rule_readOne_8 (by decide) hc2 ?_
    refine ev_less (L' := [(0, (8, a0)), (1, (10, a1)), (2, (0, a2)), (3, (0, x1))]) [1, 2, 3, 0] rfl ?_
    exact cj_Rule_readOne_23 hd hrc hn_a0 hn_a1 h
  · replace h := itn hc2 h
    refine ev_icmp_eq_f d_Rule_readOne_8 (by decide) hc2 ?_
    refine ev_iload_n 0 d_Rule_readOne_11 rfl rfl ?_
    refine ev_bipush d_Rule_readOne_12 rfl ?_
    by_cases hc11 : x1 = 40
    · replace h := itp hc11 h
      refine ev_icmp_eq_t (tgt := 23) d_Rule_readOne_14 (by decide) hc11 ?_
      refine ev_less (L' := [(0, (8, a0)), (1, (10, a1)), (2, (0, a2)), (3, (0, x1))]) [1, 2, 3, 0] rfl ?_
      exact cj_Rule_readOne_23 hd hrc hn_a0 hn_a1 h
    · replace h := itn hc11 h
      refine ev_icmp_eq_f d_Rule_readOne_14 (by decide) hc11 ?_
      refine ev_aload_n 1 d_Rule_readOne_17 rfl (by decide) rfl ?_
      refine ev_aload_n 2 d_Rule_readOne_18 rfl (by decide) rfl ?_
      obtain ⟨p12, hp12, h⟩ := bx h
      have hRp12 := c_Rule_readComparison (X := X) (d := d - 1) (by omega) hn_a0 hn_a1 hp12
      refine ev_callV2 (st2 := []) (as := [(10, a1)]) (rest := []) rfl (by decide) (by decide) rfl hn_a0 rfl (Nat.le_of_ble_eq_true rfl) k_Rule_readComparison ⟨tw_555, ts_26⟩ (by omega) tw_553 d_Rule_readOne_19 hRp12 rfl ?_
      cases h
      exact ev_retV d_Rule_readOne_22 rfl
def f_Rule_readOne : Nat → Mm → Int → Int → Int → Option (Mm)
  | 0 => fun _ _ _ _ => none
  | n + 1 => g_Rule_readOne (f_Rule_readOne n)
theorem c_Rule_readOne {X : XX} : ∀ (n : Nat) {d : Nat} (hd : 9 * n ≤ d) {M : Mm} {a0 : Int} {a1 : Int} {a2 : Int} (hn_a0 : a0 ≠ 0) (hn_a1 : a1 ≠ 0) {p : Mm} (h : f_Rule_readOne n M a0 a1 a2 = some p), Rn X d m_Rule_readOne [(8, a0), (10, a1), (0, a2)] M none p
  | 0, d, hd, M, a0, a1, a2, _, _, p, h => by cases h
  | n + 1, d, hd, M, a0, a1, a2, hn_a0, hn_a1, p, h => cg_Rule_readOne (e := d - 9) (by omega) (fun M b0 b1 b2 q n0 n1 hq => c_Rule_readOne n (by omega) n0 n1 hq) hn_a0 hn_a1 h
def f_Rule_setPlayer (M : Mm) (a0 : Int) (a1 : Int) (a2 : Int) (a3 : Int) : Option (Mm) :=
  if (mg M (cI a0) 0) ≠ 0 then
  if (0 : Int) ≤ 0 ∧ 0 < (ml M (cI (mg M (cI a0) 0)) : Int) then
  lt (mp M (cI (mg M (cI a0) 0)) (0 : Int).toNat a1) (fun M3 =>
  if (mg M3 (cI a0) 0) ≠ 0 then
  if (0 : Int) ≤ 2 ∧ 2 < (ml M3 (cI (mg M3 (cI a0) 0)) : Int) then
  lt (mp M3 (cI (mg M3 (cI a0) 0)) (2 : Int).toNat a2) (fun M6 =>
  if (mg M6 (cI a0) 0) ≠ 0 then
  if (0 : Int) ≤ 3 ∧ 3 < (ml M6 (cI (mg M6 (cI a0) 0)) : Int) then
  lt (mp M6 (cI (mg M6 (cI a0) 0)) (3 : Int).toNat a3) (fun M9 =>
  some M9)
  else none
  else none)
  else none
  else none)
  else none
  else none
theorem c_Rule_setPlayer {X : XX} {d : Nat} (hd : 0 ≤ d) {M : Mm} {a0 : Int} {a1 : Int} {a2 : Int} {a3 : Int} (hn_a0 : a0 ≠ 0) {p : Mm} (h : f_Rule_setPlayer M a0 a1 a2 a3 = some p) : Rn X d m_Rule_setPlayer [(8, a0), (0, a1), (0, a2), (0, a3)] M none p := by
  refine Rn_of (by decide) rfl (Nat.le_of_ble_eq_true rfl) ?_
  unfold f_Rule_setPlayer at h
  refine ev_less (L' := [(0, (8, a0)), (1, (0, a1)), (2, (0, a2)), (3, (0, a3))]) [0, 1, 2, 3] rfl ?_
  refine ev_aload_n 0 d_Rule_setPlayer_0 rfl (by decide) rfl ?_
  refine ev_get (t := 8) (k := 0) (by decide) (by decide) rfl i_Rule (by decide) rfl rfl tw_180 d_Rule_setPlayer_1 hn_a0 ?_
  refine ev_iconst d_Rule_setPlayer_4 rfl ?_
  refine ev_iload_n 1 d_Rule_setPlayer_5 rfl rfl ?_
  obtain ⟨hz1, h⟩ := gx h
  obtain ⟨hg2, h⟩ := gx h
  obtain ⟨M3, hM3, h⟩ := ltx h
  refine ev_iast' d_Rule_setPlayer_6 hz1 hg2 hM3 ?_
  refine ev_aload_n 0 d_Rule_setPlayer_7 rfl (by decide) rfl ?_
  refine ev_get (t := 8) (k := 0) (by decide) (by decide) rfl i_Rule (by decide) rfl rfl tw_180 d_Rule_setPlayer_8 hn_a0 ?_
  refine ev_iconst d_Rule_setPlayer_11 rfl ?_
  refine ev_iload_n 2 d_Rule_setPlayer_12 rfl rfl ?_
  obtain ⟨hz4, h⟩ := gx h
  obtain ⟨hg5, h⟩ := gx h
  obtain ⟨M6, hM6, h⟩ := ltx h
  refine ev_iast' d_Rule_setPlayer_13 hz4 hg5 hM6 ?_
  refine ev_aload_n 0 d_Rule_setPlayer_14 rfl (by decide) rfl ?_
  refine ev_get (t := 8) (k := 0) (by decide) (by decide) rfl i_Rule (by decide) rfl rfl tw_180 d_Rule_setPlayer_15 hn_a0 ?_
  refine ev_iconst d_Rule_setPlayer_18 rfl ?_
  refine ev_iload_n 3 d_Rule_setPlayer_19 rfl rfl ?_
  obtain ⟨hz7, h⟩ := gx h
  obtain ⟨hg8, h⟩ := gx h
  obtain ⟨M9, hM9, h⟩ := ltx h
  refine ev_iast' d_Rule_setPlayer_20 hz7 hg8 hM9 ?_
  cases h
  exact ev_retV d_Rule_setPlayer_21 rfl
def f_Rule_setDay (M : Mm) (a0 : Int) (a1 : Int) (a2 : Int) : Option (Mm) :=
  if (mg M (cI a0) 0) ≠ 0 then
  if (0 : Int) ≤ 4 ∧ 4 < (ml M (cI (mg M (cI a0) 0)) : Int) then
  lt (mp M (cI (mg M (cI a0) 0)) (4 : Int).toNat a1) (fun M3 =>
  if (mg M3 (cI a0) 0) ≠ 0 then
  if (0 : Int) ≤ 1 ∧ 1 < (ml M3 (cI (mg M3 (cI a0) 0)) : Int) then
  lt (mp M3 (cI (mg M3 (cI a0) 0)) (1 : Int).toNat a2) (fun M6 =>
  some M6)
  else none
  else none)
  else none
  else none
theorem c_Rule_setDay {X : XX} {d : Nat} (hd : 0 ≤ d) {M : Mm} {a0 : Int} {a1 : Int} {a2 : Int} (hn_a0 : a0 ≠ 0) {p : Mm} (h : f_Rule_setDay M a0 a1 a2 = some p) : Rn X d m_Rule_setDay [(8, a0), (0, a1), (0, a2)] M none p := by
  refine Rn_of (by decide) rfl (Nat.le_of_ble_eq_true rfl) ?_
  unfold f_Rule_setDay at h
  refine ev_less (L' := [(0, (8, a0)), (1, (0, a1)), (2, (0, a2))]) [0, 1, 2] rfl ?_
  refine ev_aload_n 0 d_Rule_setDay_0 rfl (by decide) rfl ?_
  refine ev_get (t := 8) (k := 0) (by decide) (by decide) rfl i_Rule (by decide) rfl rfl tw_180 d_Rule_setDay_1 hn_a0 ?_
  refine ev_iconst d_Rule_setDay_4 rfl ?_
  refine ev_iload_n 1 d_Rule_setDay_5 rfl rfl ?_
  obtain ⟨hz1, h⟩ := gx h
  obtain ⟨hg2, h⟩ := gx h
  obtain ⟨M3, hM3, h⟩ := ltx h
  refine ev_iast' d_Rule_setDay_6 hz1 hg2 hM3 ?_
  refine ev_aload_n 0 d_Rule_setDay_7 rfl (by decide) rfl ?_
  refine ev_get (t := 8) (k := 0) (by decide) (by decide) rfl i_Rule (by decide) rfl rfl tw_180 d_Rule_setDay_8 hn_a0 ?_
  refine ev_iconst d_Rule_setDay_11 rfl ?_
  refine ev_iload_n 2 d_Rule_setDay_12 rfl rfl ?_
  obtain ⟨hz4, h⟩ := gx h
  obtain ⟨hg5, h⟩ := gx h
  obtain ⟨M6, hM6, h⟩ := ltx h
  refine ev_iast' d_Rule_setDay_13 hz4 hg5 hM6 ?_
  cases h
  exact ev_retV d_Rule_setDay_14 rfl
def f_Rule_push (M : Mm) (a0 : Int) (a1 : Int) : Option (Mm) :=
  if 32 ≤ (mg M (cI a0) 6) then
  some M
  else
  if (mg M (cI a0) 1) ≠ 0 then
  if (0 : Int) ≤ (mg M (cI a0) 6) ∧ (mg M (cI a0) 6) < (ml M (cI (mg M (cI a0) 1)) : Int) then
  lt (mp M (cI (mg M (cI a0) 1)) ((mg M (cI a0) 6) : Int).toNat a1) (fun M4 =>
  lt (mp M4 (cI a0) 6 (w32 ((mg M4 (cI a0) 6) + 1))) (fun M5 =>
  some M5))
  else none
  else none
theorem c_Rule_push {X : XX} {d : Nat} (hd : 0 ≤ d) {M : Mm} {a0 : Int} {a1 : Int} (hn_a0 : a0 ≠ 0) {p : Mm} (h : f_Rule_push M a0 a1 = some p) : Rn X d m_Rule_push [(8, a0), (0, a1)] M none p := by
  refine Rn_of (by decide) rfl (Nat.le_of_ble_eq_true rfl) ?_
  unfold f_Rule_push at h
  refine ev_less (L' := [(0, (8, a0)), (1, (0, a1))]) [0, 1] rfl ?_
  refine ev_aload_n 0 d_Rule_push_0 rfl (by decide) rfl ?_
  refine ev_get (t := 8) (k := 6) (by decide) (by decide) rfl i_Rule (by decide) rfl rfl tw_186 d_Rule_push_1 hn_a0 ?_
  refine ev_bipush d_Rule_push_4 rfl ?_
  by_cases hc1 : 32 ≤ (mg M (cI a0) 6)
  · replace h := itp hc1 h
    refine ev_icmp_ge_t (tgt := 29) d_Rule_push_6 (by decide) hc1 ?_
    cases h
    exact ev_retV d_Rule_push_29 rfl
  · replace h := itn hc1 h
    refine ev_icmp_ge_f d_Rule_push_6 (by decide) hc1 ?_
    refine ev_aload_n 0 d_Rule_push_9 rfl (by decide) rfl ?_
    refine ev_get (t := 8) (k := 1) (by decide) (by decide) rfl i_Rule (by decide) rfl rfl tw_181 d_Rule_push_10 hn_a0 ?_
    refine ev_aload_n 0 d_Rule_push_13 rfl (by decide) rfl ?_
    refine ev_get (t := 8) (k := 6) (by decide) (by decide) rfl i_Rule (by decide) rfl rfl tw_186 d_Rule_push_14 hn_a0 ?_
    refine ev_iload_n 1 d_Rule_push_17 rfl rfl ?_
    obtain ⟨hz2, h⟩ := gx h
    obtain ⟨hg3, h⟩ := gx h
    obtain ⟨M4, hM4, h⟩ := ltx h
    refine ev_iast' d_Rule_push_18 hz2 hg3 hM4 ?_
    refine ev_aload_n 0 d_Rule_push_19 rfl (by decide) rfl ?_
    refine ev_dup d_Rule_push_20 (Nat.ne_of_beq_eq_false rfl) ?_
    refine ev_get (t := 8) (k := 6) (by decide) (by decide) rfl i_Rule (by decide) rfl rfl tw_186 d_Rule_push_21 hn_a0 ?_
    refine ev_iconst d_Rule_push_24 rfl ?_
    refine ev_iadd d_Rule_push_25 ?_
    obtain ⟨M5, hM5, h⟩ := ltx h
    refine ev_put' (t := 8) (k := 6) (by decide) (by decide) rfl i_Rule t_Rule_ok n_Rule (by decide) rfl rfl rfl rfl tw_186 d_Rule_push_26 hn_a0 hM5 ?_
    cases h
    exact ev_retV d_Rule_push_29 rfl
def f_Rule_pop (M : Mm) (a0 : Int) : Option (Int × Mm) :=
  if 0 < (mg M (cI a0) 6) then
  lt (mp M (cI a0) 6 (w32 ((mg M (cI a0) 6) - 1))) (fun M2 =>
  if (mg M2 (cI a0) 1) ≠ 0 then
  if (0 : Int) ≤ (mg M2 (cI a0) 6) ∧ (mg M2 (cI a0) 6) < (ml M2 (cI (mg M2 (cI a0) 1)) : Int) then
  some ((mg M2 (cI (mg M2 (cI a0) 1)) ((mg M2 (cI a0) 6) : Int).toNat), M2)
  else none
  else none)
  else
  some (0, M)
theorem c_Rule_pop {X : XX} {d : Nat} (hd : 0 ≤ d) {M : Mm} {a0 : Int} (hn_a0 : a0 ≠ 0) {p : Int × Mm} (h : f_Rule_pop M a0 = some p) : Rn X d m_Rule_pop [(8, a0)] M (some (0, p.1)) p.2 := by
  refine Rn_of (by decide) rfl (Nat.le_of_ble_eq_true rfl) ?_
  unfold f_Rule_pop at h
  refine ev_less (L' := [(0, (8, a0))]) [0] rfl ?_
  refine ev_aload_n 0 d_Rule_pop_0 rfl (by decide) rfl ?_
  refine ev_get (t := 8) (k := 6) (by decide) (by decide) rfl i_Rule (by decide) rfl rfl tw_186 d_Rule_pop_1 hn_a0 ?_
  by_cases hc1 : 0 < (mg M (cI a0) 6)
  · replace h := itp hc1 h
    refine ev_if_gt_t (tgt := 9) d_Rule_pop_4 (by decide) hc1 ?_
    refine ev_aload_n 0 d_Rule_pop_9 rfl (by decide) rfl ?_
    refine ev_dup d_Rule_pop_10 (Nat.ne_of_beq_eq_false rfl) ?_
    refine ev_get (t := 8) (k := 6) (by decide) (by decide) rfl i_Rule (by decide) rfl rfl tw_186 d_Rule_pop_11 hn_a0 ?_
    refine ev_iconst d_Rule_pop_14 rfl ?_
    refine ev_isub d_Rule_pop_15 ?_
    obtain ⟨M2, hM2, h⟩ := ltx h
    refine ev_put' (t := 8) (k := 6) (by decide) (by decide) rfl i_Rule t_Rule_ok n_Rule (by decide) rfl rfl rfl rfl tw_186 d_Rule_pop_16 hn_a0 hM2 ?_
    refine ev_aload_n 0 d_Rule_pop_19 rfl (by decide) rfl ?_
    refine ev_get (t := 8) (k := 1) (by decide) (by decide) rfl i_Rule (by decide) rfl rfl tw_181 d_Rule_pop_20 hn_a0 ?_
    refine ev_aload_n 0 d_Rule_pop_23 rfl (by decide) rfl ?_
    refine ev_get (t := 8) (k := 6) (by decide) (by decide) rfl i_Rule (by decide) rfl rfl tw_186 d_Rule_pop_24 hn_a0 ?_
    obtain ⟨hz3, h⟩ := gx h
    obtain ⟨hg4, h⟩ := gx h
    refine ev_iald d_Rule_pop_27 hz3 hg4 ?_
    cases h
    exact ev_ret d_Rule_pop_28 rfl
  · replace h := itn hc1 h
    refine ev_if_gt_f d_Rule_pop_4 (by decide) hc1 ?_
    refine ev_iconst d_Rule_pop_7 rfl ?_
    cases h
    exact ev_ret d_Rule_pop_8 rfl
def f_Rule_join (M : Mm) (a0 : Int) (a1 : Int) (a2 : Int) : Option (Int) :=
  if a0 = 38 then
  some (bAnd a1 a2)
  else
  if a0 = 43 then
  some (w32 (a1 + a2))
  else
  if a0 = 45 then
  some (w32 (a1 - a2))
  else
  if a0 = 60 then
  if a2 ≤ a1 then
  some 0
  else
  some 1
  else
  if a0 = 61 then
  if a1 ≠ a2 then
  some 0
  else
  some 1
  else
  if a0 = 62 then
  if a1 ≤ a2 then
  some 0
  else
  some 1
  else
  some (bOr a1 a2)
theorem c_Rule_join {X : XX} {d : Nat} (hd : 0 ≤ d) {M : Mm} {a0 : Int} {a1 : Int} {a2 : Int} {p : Int} (h : f_Rule_join M a0 a1 a2 = some p) : Rn X d m_Rule_join [(0, a0), (0, a1), (0, a2)] M (some (0, p)) M := by
  refine Rn_of (by decide) rfl (Nat.le_of_ble_eq_true rfl) ?_
  unfold f_Rule_join at h
  refine ev_less (L' := [(0, (0, a0)), (1, (0, a1)), (2, (0, a2))]) [0, 1, 2] rfl ?_
  refine ev_iload_n 0 d_Rule_join_0 rfl rfl ?_
  by_cases hc1 : a0 = 38
  · replace h := itp hc1 h
    refine ev_look (off := 100) (tgt := 101) d_Rule_join_1 (by decide) (by rw [hc1] <;> rfl) (by decide) ?_
    refine ev_iload_n 1 d_Rule_join_101 rfl rfl ?_
    refine ev_iload_n 2 d_Rule_join_102 rfl rfl ?_
    refine ev_iand d_Rule_join_103 ?_
    cases h
    exact ev_ret d_Rule_join_104 rfl
  · replace h := itn hc1 h
    by_cases hc2 : a0 = 43
    · replace h := itp hc2 h
      refine ev_look (off := 59) (tgt := 60) d_Rule_join_1 (by decide) (by rw [hc2] <;> rfl) (by decide) ?_
      refine ev_iload_n 1 d_Rule_join_60 rfl rfl ?_
      refine ev_iload_n 2 d_Rule_join_61 rfl rfl ?_
      refine ev_iadd d_Rule_join_62 ?_
      cases h
      exact ev_ret d_Rule_join_63 rfl
    · replace h := itn hc2 h
      by_cases hc3 : a0 = 45
      · replace h := itp hc3 h
        refine ev_look (off := 63) (tgt := 64) d_Rule_join_1 (by decide) (by rw [hc3] <;> rfl) (by decide) ?_
        refine ev_iload_n 1 d_Rule_join_64 rfl rfl ?_
        refine ev_iload_n 2 d_Rule_join_65 rfl rfl ?_
        refine ev_isub d_Rule_join_66 ?_
        cases h
        exact ev_ret d_Rule_join_67 rfl
      · replace h := itn hc3 h
        by_cases hc4 : a0 = 60
        · replace h := itp hc4 h
          refine ev_look (off := 67) (tgt := 68) d_Rule_join_1 (by decide) (by rw [hc4] <;> rfl) (by decide) ?_
          refine ev_iload_n 1 d_Rule_join_68 rfl rfl ?_
          refine ev_iload_n 2 d_Rule_join_69 rfl rfl ?_
          by_cases hc5 : a2 ≤ a1
          · replace h := itp hc5 h
            refine ev_icmp_ge_t (tgt := 77) d_Rule_join_70 (by decide) hc5 ?_
            refine ev_iconst d_Rule_join_77 rfl ?_
            cases h
            exact ev_ret d_Rule_join_78 rfl
          · replace h := itn hc5 h
            refine ev_icmp_ge_f d_Rule_join_70 (by decide) hc5 ?_
            refine ev_iconst d_Rule_join_73 rfl ?_
            refine ev_goto (tgt := 78) d_Rule_join_74 (by decide) ?_
            cases h
            exact ev_ret d_Rule_join_78 rfl
        · replace h := itn hc4 h
          by_cases hc6 : a0 = 61
          · replace h := itp hc6 h
            refine ev_look (off := 78) (tgt := 79) d_Rule_join_1 (by decide) (by rw [hc6] <;> rfl) (by decide) ?_
            refine ev_iload_n 1 d_Rule_join_79 rfl rfl ?_
            refine ev_iload_n 2 d_Rule_join_80 rfl rfl ?_
            by_cases hc7 : a1 ≠ a2
            · replace h := itp hc7 h
              refine ev_icmp_ne_t (tgt := 88) d_Rule_join_81 (by decide) hc7 ?_
              refine ev_iconst d_Rule_join_88 rfl ?_
              cases h
              exact ev_ret d_Rule_join_89 rfl
            · replace h := itn hc7 h
              refine ev_icmp_ne_f d_Rule_join_81 (by decide) hc7 ?_
              refine ev_iconst d_Rule_join_84 rfl ?_
              refine ev_goto (tgt := 89) d_Rule_join_85 (by decide) ?_
              cases h
              exact ev_ret d_Rule_join_89 rfl
          · replace h := itn hc6 h
            by_cases hc8 : a0 = 62
            · replace h := itp hc8 h
              refine ev_look (off := 89) (tgt := 90) d_Rule_join_1 (by decide) (by rw [hc8] <;> rfl) (by decide) ?_
              refine ev_iload_n 1 d_Rule_join_90 rfl rfl ?_
              refine ev_iload_n 2 d_Rule_join_91 rfl rfl ?_
              by_cases hc9 : a1 ≤ a2
              · replace h := itp hc9 h
                refine ev_icmp_le_t (tgt := 99) d_Rule_join_92 (by decide) hc9 ?_
                refine ev_iconst d_Rule_join_99 rfl ?_
                cases h
                exact ev_ret d_Rule_join_100 rfl
              · replace h := itn hc9 h
                refine ev_icmp_le_f d_Rule_join_92 (by decide) hc9 ?_
                refine ev_iconst d_Rule_join_95 rfl ?_
                refine ev_goto (tgt := 100) d_Rule_join_96 (by decide) ?_
                cases h
                exact ev_ret d_Rule_join_100 rfl
            · replace h := itn hc8 h
              refine ev_look (off := 104) (tgt := 105) d_Rule_join_1 (by decide) (by simp [Op.lookupswitch.offset, hc1, hc2, hc3, hc4, hc6, hc8, Ne.symm hc1, Ne.symm hc2, Ne.symm hc3, Ne.symm hc4, Ne.symm hc6, Ne.symm hc8]) (by decide) ?_
              refine ev_iload_n 1 d_Rule_join_105 rfl rfl ?_
              refine ev_iload_n 2 d_Rule_join_106 rfl rfl ?_
              refine ev_ior d_Rule_join_107 ?_
              cases h
              exact ev_ret d_Rule_join_108 rfl
def j_Rule_work_52 (M : Mm) (y0 : Int) (y1 : Int) : Option (Mm) :=
  (f_Rule_push M y1 y0).bind (fun p10 =>
  some p10)
theorem cj_Rule_work_52 {X : XX} {d : Nat} (hd : 1 ≤ d) {M : Mm} {y0 : Int} {y1 : Int} (hn_y1 : y1 ≠ 0) {p : Mm} (h : j_Rule_work_52 M y0 y1 = some p) : Ev X m_Rule_work d 52 [] [(0, y0), (8, y1)] M none p := by
  unfold j_Rule_work_52 at h
  obtain ⟨p10, hp10, h⟩ := bx h
  have hRp10 := c_Rule_push (X := X) (d := d - 1) (by omega) hn_y1 hp10
  refine ev_callV2 (st2 := []) (as := [(0, y0)]) (rest := []) rfl (by decide) (by decide) rfl hn_y1 rfl (Nat.le_of_ble_eq_true rfl) k_Rule_push ⟨tw_875, ts_74⟩ (by omega) tw_873 d_Rule_work_52 hRp10 rfl ?_
  refine ev_goto (tgt := 79) d_Rule_work_55 (by decide) ?_
  cases h
  exact ev_retV d_Rule_work_79 rfl
def f_Rule_work (M : Mm) (a0 : Int) (a1 : Int) : Option (Mm) :=
  if a1 < 0 then
  if a1 < (-5) then
  if a1 ≠ (-33) then
  (f_Rule_pop M a0).bind (fun p4 =>
  (f_Rule_pop p4.2 a0).bind (fun p5 =>
  (f_Rule_join p5.2 (w32 (-a1)) p5.1 p4.1).bind (fun p6 =>
  (f_Rule_push p5.2 a0 p6).bind (fun p7 =>
  some p7))))
  else
  (f_Rule_pop M a0).bind (fun p8 =>
  if p8.1 ≠ 0 then
  j_Rule_work_52 p8.2 0 a0
  else
  j_Rule_work_52 p8.2 1 a0)
  else
  if (mg M (cI a0) 0) ≠ 0 then
  if (0 : Int) ≤ (w32 ((-1) - a1)) ∧ (w32 ((-1) - a1)) < (ml M (cI (mg M (cI a0) 0)) : Int) then
  (f_Rule_push M a0 (mg M (cI (mg M (cI a0) 0)) ((w32 ((-1) - a1)) : Int).toNat)).bind (fun p13 =>
  some p13)
  else none
  else none
  else
  (f_Rule_push M a0 a1).bind (fun p14 =>
  some p14)
theorem c_Rule_work {X : XX} {d : Nat} (hd : 1 ≤ d) {M : Mm} {a0 : Int} {a1 : Int} (hn_a0 : a0 ≠ 0) {p : Mm} (h : f_Rule_work M a0 a1 = some p) : Rn X d m_Rule_work [(8, a0), (0, a1)] M none p := by
  refine Rn_of (by decide) rfl (Nat.le_of_ble_eq_true rfl) ?_
  unfold f_Rule_work at h
  refine ev_less (L' := [(0, (8, a0)), (1, (0, a1))]) [0, 1] rfl ?_
  refine ev_iload_n 1 d_Rule_work_0 rfl rfl ?_
  by_cases hc1 : a1 < 0
  · replace h := itp hc1 h
    refine ev_if_lt_t (tgt := 12) d_Rule_work_1 (by decide) hc1 ?_
    refine ev_iload_n 1 d_Rule_work_12 rfl rfl ?_
    refine ev_bipush d_Rule_work_13 rfl ?_
    by_cases hc2 : a1 < (-5)
    · replace h := itp hc2 h
      refine ev_icmp_lt_t (tgt := 33) d_Rule_work_15 (by decide) hc2 ?_
      refine ev_iload_n 1 d_Rule_work_33 rfl rfl ?_
      refine ev_bipush d_Rule_work_34 rfl ?_
      by_cases hc3 : a1 ≠ (-33)
      · replace h := itp hc3 h
        refine ev_icmp_ne_t (tgt := 58) d_Rule_work_36 (by decide) hc3 ?_
        refine ev_aload_n 0 d_Rule_work_58 rfl (by decide) rfl ?_
        obtain ⟨p4, hp4, h⟩ := bx h
        have hRp4 := c_Rule_pop (X := X) (d := d - 1) (by omega) hn_a0 hp4
        refine ev_callV2 (st2 := [(0, p4.1)]) (as := []) (rest := []) rfl (by decide) (by decide) rfl hn_a0 rfl (Nat.le_of_ble_eq_true rfl) k_Rule_pop ⟨tw_879, ts_75⟩ (by omega) tw_877 d_Rule_work_59 hRp4 rfl ?_
        refine ev_istore_n (L' := [(2, (0, p4.1)), (0, (8, a0)), (1, (0, a1))]) d_Rule_work_62 rfl (by decide) rfl ?_
        refine ev_aload_n 1 d_Rule_work_63 rfl (by decide) rfl ?_
        obtain ⟨p5, hp5, h⟩ := bx h
        have hRp5 := c_Rule_pop (X := X) (d := d - 1) (by omega) hn_a0 hp5
        refine ev_callV2 (st2 := [(0, p5.1)]) (as := []) (rest := []) rfl (by decide) (by decide) rfl hn_a0 rfl (Nat.le_of_ble_eq_true rfl) k_Rule_pop ⟨tw_879, ts_75⟩ (by omega) tw_877 d_Rule_work_64 hRp5 rfl ?_
        refine ev_istore_n (L' := [(3, (0, p5.1)), (2, (0, p4.1)), (0, (8, a0)), (1, (0, a1))]) d_Rule_work_67 rfl (by decide) rfl ?_
        refine ev_aload_n 2 d_Rule_work_68 rfl (by decide) rfl ?_
        refine ev_iload_n 3 d_Rule_work_69 rfl rfl ?_
        refine ev_ineg d_Rule_work_70 ?_
        refine ev_iload_n 0 d_Rule_work_71 rfl rfl ?_
        refine ev_iload_n 1 d_Rule_work_72 rfl rfl ?_
        obtain ⟨p6, hp6, h⟩ := bx h
        have hRp6 := c_Rule_join (X := X) (d := d - 1) (by omega)  hp6
        refine ev_callS2 (st2 := [(0, p6), (8, a0)]) (as := [(0, (w32 (-a1))), (0, p5.1), (0, p4.1)]) (rest := [(8, a0)]) rfl rfl (Nat.le_of_ble_eq_true rfl) k_Rule_join tw_882 (by omega) tw_881 d_Rule_work_73 hRp6 rfl ?_
        obtain ⟨p7, hp7, h⟩ := bx h
        have hRp7 := c_Rule_push (X := X) (d := d - 1) (by omega) hn_a0 hp7
        refine ev_callV2 (st2 := []) (as := [(0, p6)]) (rest := []) rfl (by decide) (by decide) rfl hn_a0 rfl (Nat.le_of_ble_eq_true rfl) k_Rule_push ⟨tw_875, ts_74⟩ (by omega) tw_873 d_Rule_work_76 hRp7 rfl ?_
        cases h
        exact ev_retV d_Rule_work_79 rfl
      · replace h := itn hc3 h
        refine ev_icmp_ne_f d_Rule_work_36 (by decide) hc3 ?_
        refine ev_aload_n 0 d_Rule_work_39 rfl (by decide) rfl ?_
        refine ev_aload_n 0 d_Rule_work_40 rfl (by decide) rfl ?_
        obtain ⟨p8, hp8, h⟩ := bx h
        have hRp8 := c_Rule_pop (X := X) (d := d - 1) (by omega) hn_a0 hp8
        refine ev_callV2 (st2 := [(0, p8.1), (8, a0)]) (as := []) (rest := [(8, a0)]) rfl (by decide) (by decide) rfl hn_a0 rfl (Nat.le_of_ble_eq_true rfl) k_Rule_pop ⟨tw_879, ts_75⟩ (by omega) tw_877 d_Rule_work_41 hRp8 rfl ?_
        by_cases hc9 : p8.1 ≠ 0
        · replace h := itp hc9 h
          refine ev_if_ne_t (tgt := 51) d_Rule_work_44 (by decide) hc9 ?_
          refine ev_iconst d_Rule_work_51 rfl ?_
          refine ev_less (L' := []) [] rfl ?_
          exact cj_Rule_work_52 hd hn_a0 h
        · replace h := itn hc9 h
          refine ev_if_ne_f d_Rule_work_44 (by decide) hc9 ?_
          refine ev_iconst d_Rule_work_47 rfl ?_
          refine ev_goto (tgt := 52) d_Rule_work_48 (by decide) ?_
          refine ev_less (L' := []) [] rfl ?_
          exact cj_Rule_work_52 hd hn_a0 h
    · replace h := itn hc2 h
      refine ev_icmp_lt_f d_Rule_work_15 (by decide) hc2 ?_
      refine ev_aload_n 0 d_Rule_work_18 rfl (by decide) rfl ?_
      refine ev_aload_n 0 d_Rule_work_19 rfl (by decide) rfl ?_
      refine ev_get (t := 8) (k := 0) (by decide) (by decide) rfl i_Rule (by decide) rfl rfl tw_180 d_Rule_work_20 hn_a0 ?_
      refine ev_iconst d_Rule_work_23 rfl ?_
      refine ev_iload_n 1 d_Rule_work_24 rfl rfl ?_
      refine ev_isub d_Rule_work_25 ?_
      obtain ⟨hz11, h⟩ := gx h
      obtain ⟨hg12, h⟩ := gx h
      refine ev_iald d_Rule_work_26 hz11 hg12 ?_
      obtain ⟨p13, hp13, h⟩ := bx h
      have hRp13 := c_Rule_push (X := X) (d := d - 1) (by omega) hn_a0 hp13
      refine ev_callV2 (st2 := []) (as := [(0, (mg M (cI (mg M (cI a0) 0)) ((w32 ((-1) - a1)) : Int).toNat))]) (rest := []) rfl (by decide) (by decide) rfl hn_a0 rfl (Nat.le_of_ble_eq_true rfl) k_Rule_push ⟨tw_875, ts_74⟩ (by omega) tw_873 d_Rule_work_27 hRp13 rfl ?_
      refine ev_goto (tgt := 79) d_Rule_work_30 (by decide) ?_
      cases h
      exact ev_retV d_Rule_work_79 rfl
  · replace h := itn hc1 h
    refine ev_if_lt_f d_Rule_work_1 (by decide) hc1 ?_
    refine ev_aload_n 0 d_Rule_work_4 rfl (by decide) rfl ?_
    refine ev_iload_n 1 d_Rule_work_5 rfl rfl ?_
    obtain ⟨p14, hp14, h⟩ := bx h
    have hRp14 := c_Rule_push (X := X) (d := d - 1) (by omega) hn_a0 hp14
    refine ev_callV2 (st2 := []) (as := [(0, a1)]) (rest := []) rfl (by decide) (by decide) rfl hn_a0 rfl (Nat.le_of_ble_eq_true rfl) k_Rule_push ⟨tw_875, ts_74⟩ (by omega) tw_873 d_Rule_work_6 hRp14 rfl ?_
    refine ev_goto (tgt := 79) d_Rule_work_9 (by decide) ?_
    cases h
    exact ev_retV d_Rule_work_79 rfl
def l_Rule_allows_16 (a0 : Int) (s : Int × Mm) : Option ((Int × Mm) ⊕ (Mm)) :=
  if (mg s.2 (cI a0) 4) ≤ s.1 then
  some (.inr s.2)
  else
  if (mg s.2 (cI a0) 2) ≠ 0 then
  if (0 : Int) ≤ s.1 ∧ s.1 < (ml s.2 (cI (mg s.2 (cI a0) 2)) : Int) then
  (f_Rule_work s.2 a0 (mg s.2 (cI (mg s.2 (cI a0) 2)) (s.1 : Int).toNat)).bind (fun p6 =>
  lt (w32 (s.1 + 1)) (fun x7 : Int =>
  some (.inl (x7, p6))))
  else none
  else none
theorem cs_l_Rule_allows_16 {X : XX} {d : Nat} (hd : 2 ≤ d) {a0 : Int} (hn_a0 : a0 ≠ 0) {s : Int × Mm} {x : (Int × Mm) ⊕ (Mm)} {r : Option AV} {M' : Mm} (h : l_Rule_allows_16 a0 s = some x) (hk1 : ∀ s : Int × Mm, x = .inl s → Ev X m_Rule_allows d 16 [(0, (8, a0)), (1, (0, s.1))] [] s.2 r M') (hk2 : ∀ t : Mm, x = .inr t → Ev X m_Rule_allows d 40 [(0, (8, a0))] [] t r M') : Ev X m_Rule_allows d 16 [(0, (8, a0)), (1, (0, s.1))] [] s.2 r M' := by
  unfold l_Rule_allows_16 at h
  refine ev_iload_n 1 d_Rule_allows_16 rfl rfl ?_
  refine ev_aload_n 0 d_Rule_allows_17 rfl (by decide) rfl ?_
  refine ev_get (t := 8) (k := 4) (by decide) (by decide) rfl i_Rule (by decide) rfl rfl tw_184 d_Rule_allows_18 hn_a0 ?_
  by_cases hc3 : (mg s.2 (cI a0) 4) ≤ s.1
  · replace h := itp hc3 h
    refine ev_icmp_ge_t (tgt := 40) d_Rule_allows_21 (by decide) hc3 ?_
    refine ev_less (L' := [(0, (8, a0))]) [0] rfl ?_
    cases h
    exact hk2 _ rfl
  · replace h := itn hc3 h
    refine ev_icmp_ge_f d_Rule_allows_21 (by decide) hc3 ?_
    refine ev_aload_n 0 d_Rule_allows_24 rfl (by decide) rfl ?_
    refine ev_aload_n 0 d_Rule_allows_25 rfl (by decide) rfl ?_
    refine ev_get (t := 8) (k := 2) (by decide) (by decide) rfl i_Rule (by decide) rfl rfl tw_182 d_Rule_allows_26 hn_a0 ?_
    refine ev_iload_n 1 d_Rule_allows_29 rfl rfl ?_
    obtain ⟨hz4, h⟩ := gx h
    obtain ⟨hg5, h⟩ := gx h
    refine ev_iald d_Rule_allows_30 hz4 hg5 ?_
    obtain ⟨p6, hp6, h⟩ := bx h
    have hRp6 := c_Rule_work (X := X) (d := d - 1) (by omega) hn_a0 hp6
    refine ev_callV2 (st2 := []) (as := [(0, (mg s.2 (cI (mg s.2 (cI a0) 2)) (s.1 : Int).toNat))]) (rest := []) rfl (by decide) (by decide) rfl hn_a0 rfl (Nat.le_of_ble_eq_true rfl) k_Rule_work ⟨tw_871, ts_73⟩ (by omega) tw_869 d_Rule_allows_31 hRp6 rfl ?_
    obtain ⟨x7, hx7, h⟩ := ltx h
    refine ev_iinc' 1 (y := x7) (L' := [(1, (0, x7)), (0, (8, a0))]) d_Rule_allows_34 rfl (by decide) rfl hx7 ?_
    refine ev_goto (tgt := 16) d_Rule_allows_37 (by decide) ?_
    refine ev_less (L' := [(0, (8, a0)), (1, (0, x7))]) [1, 0] rfl ?_
    cases h
    exact hk1 _ rfl
def f_Rule_allows (M : Mm) (a0 : Int) : Option (Int × Mm) :=
  if (mg M (cI a0) 4) ≠ 0 then
  lt (mp M (cI a0) 6 0) (fun M2 =>
  (loopN (l_Rule_allows_16 a0) FU (0, M2)).bind (fun t8 =>
  (f_Rule_pop t8 a0).bind (fun p9 =>
  if p9.1 = 0 then
  some (0, p9.2)
  else
  some (1, p9.2))))
  else
  some (1, M)
theorem c_Rule_allows {X : XX} {d : Nat} (hd : 2 ≤ d) {M : Mm} {a0 : Int} (hn_a0 : a0 ≠ 0) {p : Int × Mm} (h : f_Rule_allows M a0 = some p) : Rn X d m_Rule_allows [(8, a0)] M (some (0, p.1)) p.2 := by
  refine Rn_of (by decide) rfl (Nat.le_of_ble_eq_true rfl) ?_
  unfold f_Rule_allows at h
  refine ev_less (L' := [(0, (8, a0))]) [0] rfl ?_
  refine ev_aload_n 0 d_Rule_allows_0 rfl (by decide) rfl ?_
  refine ev_get (t := 8) (k := 4) (by decide) (by decide) rfl i_Rule (by decide) rfl rfl tw_184 d_Rule_allows_1 hn_a0 ?_
  by_cases hc1 : (mg M (cI a0) 4) ≠ 0
  · replace h := itp hc1 h
    refine ev_if_ne_t (tgt := 9) d_Rule_allows_4 (by decide) hc1 ?_
    refine ev_aload_n 0 d_Rule_allows_9 rfl (by decide) rfl ?_
    refine ev_iconst d_Rule_allows_10 rfl ?_
    obtain ⟨M2, hM2, h⟩ := ltx h
    refine ev_put' (t := 8) (k := 6) (by decide) (by decide) rfl i_Rule t_Rule_ok n_Rule (by decide) rfl rfl rfl rfl tw_186 d_Rule_allows_11 hn_a0 hM2 ?_
    refine ev_iconst d_Rule_allows_14 rfl ?_
    refine ev_istore_n (L' := [(1, (0, 0)), (0, (8, a0))]) d_Rule_allows_15 rfl (by decide) rfl ?_
    obtain ⟨t8, ht8, h⟩ := bx h
    refine ev_less (L' := [(0, (8, a0)), (1, (0, 0))]) [1, 0] rfl ?_
    refine loop_ev (step := l_Rule_allows_16 a0) (P := fun w : Int × Mm => Ev X m_Rule_allows d 16 [(0, (8, a0)), (1, (0, w.1))] [] w.2 (some (0, p.1)) p.2) (Q := fun w => Ev X m_Rule_allows d 40 [(0, (8, a0))] [] w (some (0, p.1)) p.2) (fun w x hs k1 k2 => cs_l_Rule_allows_16 hd hn_a0 hs k1 k2) FU (0, M2) t8 ht8 ?_
    refine ev_aload_n 0 d_Rule_allows_40 rfl (by decide) rfl ?_
    obtain ⟨p9, hp9, h⟩ := bx h
    have hRp9 := c_Rule_pop (X := X) (d := d - 1) (by omega) hn_a0 hp9
    refine ev_callV2 (st2 := [(0, p9.1)]) (as := []) (rest := []) rfl (by decide) (by decide) rfl hn_a0 rfl (Nat.le_of_ble_eq_true rfl) k_Rule_pop ⟨tw_879, ts_75⟩ (by omega) tw_877 d_Rule_allows_41 hRp9 rfl ?_
    by_cases hc10 : p9.1 = 0
    · replace h := itp hc10 h
      refine ev_if_eq_t (tgt := 51) d_Rule_allows_44 (by decide) hc10 ?_
      refine ev_iconst d_Rule_allows_51 rfl ?_
      cases h
      exact ev_retZ d_Rule_allows_52 rfl (Or.inl rfl)
    · replace h := itn hc10 h
      refine ev_if_eq_f d_Rule_allows_44 (by decide) hc10 ?_
      refine ev_iconst d_Rule_allows_47 rfl ?_
      refine ev_goto (tgt := 52) d_Rule_allows_48 (by decide) ?_
      cases h
      exact ev_retZ d_Rule_allows_52 rfl (Or.inr rfl)
  · replace h := itn hc1 h
    refine ev_if_ne_f d_Rule_allows_4 (by decide) hc1 ?_
    refine ev_iconst d_Rule_allows_7 rfl ?_
    cases h
    exact ev_retZ d_Rule_allows_8 rfl (Or.inr rfl)
def f_Seater_init (M : Mm) (a0 : Int) : Option (Mm) :=
  lt (mw M (240 : Int).toNat) (fun M1 =>
  lt (mp M1 (cI a0) 0 ((mN M : Int) + 1)) (fun M2 =>
  lt (mw M2 (11 : Int).toNat) (fun M3 =>
  lt (mp M3 (cI a0) 1 ((mN M2 : Int) + 1)) (fun M4 =>
  lt (mw M4 (25 : Int).toNat) (fun M5 =>
  lt (mp M5 (cI a0) 2 ((mN M4 : Int) + 1)) (fun M6 =>
  lt (mw M6 (25 : Int).toNat) (fun M7 =>
  lt (mp M7 (cI a0) 3 ((mN M6 : Int) + 1)) (fun M8 =>
  lt (mw M8 (25 : Int).toNat) (fun M9 =>
  lt (mp M9 (cI a0) 4 ((mN M8 : Int) + 1)) (fun M10 =>
  lt (mw M10 (25 : Int).toNat) (fun M11 =>
  lt (mp M11 (cI a0) 5 ((mN M10 : Int) + 1)) (fun M12 =>
  some M12))))))))))))
theorem c_Seater_init {X : XX} {d : Nat} (hd : 1 ≤ d) {M : Mm} {a0 : Int} (hn_a0 : a0 ≠ 0) {p : Mm} (h : f_Seater_init M a0 = some p) : Rn X d m_Seater_init [(9, a0)] M none p := by
  refine Rn_of (by decide) rfl (Nat.le_of_ble_eq_true rfl) ?_
  unfold f_Seater_init at h
  refine ev_less (L' := [(0, (9, a0))]) [0] rfl ?_
  refine ev_aload_n 0 d_Seater_init_0 rfl (by decide) rfl ?_
  refine ev_objInit (t := 9) (by decide) (by decide) hn_a0 (Nat.le_of_ble_eq_true rfl) (by omega) tw_252 tw_25 tw_26 d_Seater_init_1 ?_
  refine ev_aload_n 0 d_Seater_init_4 rfl (by decide) rfl ?_
  refine ev_sipush d_Seater_init_5 rfl ?_
  obtain ⟨M1, hM1, h⟩ := ltx h
  refine ev_newJ' tw_275 d_Seater_init_8 ⟨by decide, by decide⟩ hM1 ?_
  obtain ⟨M2, hM2, h⟩ := ltx h
  refine ev_putF' (t := 9) (k := 0) (by decide) (by decide) rfl i_Seater t_Seater_ok n_Seater (by decide) rfl rfl rfl rfl rfl rfl tw_253 d_Seater_init_10 hn_a0 hM2 ?_
  refine ev_aload_n 0 d_Seater_init_13 rfl (by decide) rfl ?_
  refine ev_bipush d_Seater_init_14 rfl ?_
  obtain ⟨M3, hM3, h⟩ := ltx h
  refine ev_newJ' tw_275 d_Seater_init_16 ⟨by decide, by decide⟩ hM3 ?_
  obtain ⟨M4, hM4, h⟩ := ltx h
  refine ev_putF' (t := 9) (k := 1) (by decide) (by decide) rfl i_Seater t_Seater_ok n_Seater (by decide) rfl rfl rfl rfl rfl rfl tw_254 d_Seater_init_18 hn_a0 hM4 ?_
  refine ev_aload_n 0 d_Seater_init_21 rfl (by decide) rfl ?_
  refine ev_bipush d_Seater_init_22 rfl ?_
  obtain ⟨M5, hM5, h⟩ := ltx h
  refine ev_newJ' tw_275 d_Seater_init_24 ⟨by decide, by decide⟩ hM5 ?_
  obtain ⟨M6, hM6, h⟩ := ltx h
  refine ev_putF' (t := 9) (k := 2) (by decide) (by decide) rfl i_Seater t_Seater_ok n_Seater (by decide) rfl rfl rfl rfl rfl rfl tw_255 d_Seater_init_26 hn_a0 hM6 ?_
  refine ev_aload_n 0 d_Seater_init_29 rfl (by decide) rfl ?_
  refine ev_bipush d_Seater_init_30 rfl ?_
  obtain ⟨M7, hM7, h⟩ := ltx h
  refine ev_newJ' tw_275 d_Seater_init_32 ⟨by decide, by decide⟩ hM7 ?_
  obtain ⟨M8, hM8, h⟩ := ltx h
  refine ev_putF' (t := 9) (k := 3) (by decide) (by decide) rfl i_Seater t_Seater_ok n_Seater (by decide) rfl rfl rfl rfl rfl rfl tw_256 d_Seater_init_34 hn_a0 hM8 ?_
  refine ev_aload_n 0 d_Seater_init_37 rfl (by decide) rfl ?_
  refine ev_bipush d_Seater_init_38 rfl ?_
  obtain ⟨M9, hM9, h⟩ := ltx h
  refine ev_newI' tw_61 d_Seater_init_40 ⟨by decide, by decide⟩ hM9 ?_
  obtain ⟨M10, hM10, h⟩ := ltx h
  refine ev_putF' (t := 9) (k := 4) (by decide) (by decide) rfl i_Seater t_Seater_ok n_Seater (by decide) rfl rfl rfl rfl rfl rfl tw_257 d_Seater_init_42 hn_a0 hM10 ?_
  refine ev_aload_n 0 d_Seater_init_45 rfl (by decide) rfl ?_
  refine ev_bipush d_Seater_init_46 rfl ?_
  obtain ⟨M11, hM11, h⟩ := ltx h
  refine ev_newI' tw_61 d_Seater_init_48 ⟨by decide, by decide⟩ hM11 ?_
  obtain ⟨M12, hM12, h⟩ := ltx h
  refine ev_putF' (t := 9) (k := 5) (by decide) (by decide) rfl i_Seater t_Seater_ok n_Seater (by decide) rfl rfl rfl rfl rfl rfl tw_258 d_Seater_init_50 hn_a0 hM12 ?_
  cases h
  exact ev_retV d_Seater_init_53 rfl
end
