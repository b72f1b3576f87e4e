noncomputable section
def j_Library_readPart_90_66 (M : Mm) (a0 : Int) (a1 : Int) (z3 : Int) : Option ((Int × Mm) ⊕ (Mm)) :=
  (f_Tape_advance M a0).bind (fun p12 =>
  (f_Library_readInstrument p12 a0 a1 (w32 ((mg p12 (cI a1) 7) - 1))).bind (fun p13 =>
  lt (w32 (z3 + 1)) (fun x14 : Int =>
  some (.inl (x14, p13)))))
theorem cj_Library_readPart_90_66 {X : XX} {d : Nat} (hd : 6 ≤ d) {M : Mm} {a0 : Int} {a1 : Int} {z3 : Int} (hn_a0 : a0 ≠ 0) (hn_a1 : a1 ≠ 0) {x : (Int × Mm) ⊕ (Mm)} {r : Option AV} {M' : Mm} (h : j_Library_readPart_90_66 M a0 a1 z3 = some x) (hk1 : ∀ s : Int × Mm, x = .inl s → Ev X m_Library_readPart d 66 [(0, (10, a0)), (1, (5, a1)), (3, (0, s.1))] [] s.2 r M') (hk2 : ∀ t : Mm, x = .inr t → Ev X m_Library_readPart d 111 [] [] t r M') : Ev X m_Library_readPart d 90 [(0, (10, a0)), (1, (5, a1)), (3, (0, z3))] [] M r M' := by
  unfold j_Library_readPart_90_66 at h
  refine ev_aload_n 0 d_Library_readPart_90 rfl (by decide) rfl ?_
  obtain ⟨p12, hp12, h⟩ := bx h
  have hRp12 := c_Tape_advance (X := X) (d := d - 1) (by omega) hn_a0 hp12
  refine ev_callVN2 (host := "TownBand") (st2 := []) (as := []) (rest := []) rfl (by decide) (by decide) rfl hn_a0 rfl (Nat.le_of_ble_eq_true rfl) k_Tape_advance ⟨tw_413, ts_9⟩ (by omega) tw_481 d_Library_readPart_91 hRp12 rfl ?_
  refine ev_aload_n 0 d_Library_readPart_94 rfl (by decide) rfl ?_
  refine ev_aload_n 1 d_Library_readPart_95 rfl (by decide) rfl ?_
  refine ev_aload_n 1 d_Library_readPart_96 rfl (by decide) rfl ?_
  refine ev_getN (host := "TownBand") (t := 5) (k := 7) (by decide) (by decide) rfl i_Piece (by decide) rfl rfl tw_95 d_Library_readPart_97 hn_a1 ?_
  refine ev_iconst d_Library_readPart_100 rfl ?_
  refine ev_isub d_Library_readPart_101 ?_
  obtain ⟨p13, hp13, h⟩ := bx h
  have hRp13 := c_Library_readInstrument (X := X) (d := d - 1) (by omega) hn_a0 hn_a1 hp13
  refine ev_callS2 (st2 := []) (as := [(10, a0), (5, a1), (0, (w32 ((mg p12 (cI a1) 7) - 1)))]) (rest := []) rfl rfl (Nat.le_of_ble_eq_true rfl) k_Library_readInstrument tw_513 (by omega) tw_512 d_Library_readPart_102 hRp13 rfl ?_
  obtain ⟨x14, hx14, h⟩ := ltx h
  refine ev_iinc' 2 (y := x14) (L' := [(3, (0, x14)), (0, (10, a0)), (1, (5, a1))]) d_Library_readPart_105 rfl (by decide) rfl hx14 ?_
  refine ev_goto (tgt := 66) d_Library_readPart_108 (by decide) ?_
  refine ev_less (L' := [(0, (10, a0)), (1, (5, a1)), (3, (0, x14))]) [1, 2, 0] rfl ?_
  cases h
  exact hk1 _ rfl
def l_Library_readPart_66 (a0 : Int) (a1 : Int) (s : Int × Mm) : Option ((Int × Mm) ⊕ (Mm)) :=
  if 4 < s.1 then
  some (.inr s.2)
  else
  (f_Tape_reads s.2 a0 3).bind (fun p9 =>
  if p9 = 0 then
  some (.inr s.2)
  else
  if s.1 ≠ 4 then
  j_Library_readPart_90_66 s.2 a0 a1 s.1
  else
  (f_Tape_fail s.2 a0 4).bind (fun p15 =>
  j_Library_readPart_90_66 p15 a0 a1 s.1))
theorem cs_l_Library_readPart_66 {X : XX} {d : Nat} (hd : 6 ≤ d) {a0 : Int} {a1 : Int} (hn_a0 : a0 ≠ 0) (hn_a1 : a1 ≠ 0) {s : Int × Mm} {x : (Int × Mm) ⊕ (Mm)} {r : Option AV} {M' : Mm} (h : l_Library_readPart_66 a0 a1 s = some x) (hk1 : ∀ s : Int × Mm, x = .inl s → Ev X m_Library_readPart d 66 [(0, (10, a0)), (1, (5, a1)), (3, (0, s.1))] [] s.2 r M') (hk2 : ∀ t : Mm, x = .inr t → Ev X m_Library_readPart d 111 [] [] t r M') : Ev X m_Library_readPart d 66 [(0, (10, a0)), (1, (5, a1)), (3, (0, s.1))] [] s.2 r M' := by
  unfold l_Library_readPart_66 at h
  refine ev_iload_n 2 d_Library_readPart_66 rfl rfl ?_
  refine ev_iconst d_Library_readPart_67 rfl ?_
  by_cases hc8 : 4 < s.1
  · replace h := itp hc8 h
    refine ev_icmp_gt_t (tgt := 111) d_Library_readPart_68 (by decide) hc8 ?_
    refine ev_less (L' := []) [] rfl ?_
    cases h
    exact hk2 _ rfl
  · replace h := itn hc8 h
    refine ev_icmp_gt_f d_Library_readPart_68 (by decide) hc8 ?_
    refine ev_aload_n 0 d_Library_readPart_71 rfl (by decide) rfl ?_
    refine ev_text (i := 3) rfl d_Library_readPart_72 ?_
    obtain ⟨p9, hp9, h⟩ := bx h
    have hRp9 := c_Tape_reads (X := X) (d := d - 1) (by omega) hn_a0 hp9
    refine ev_callVN2 (host := "TownBand") (st2 := [(0, p9)]) (as := [(20, 3)]) (rest := []) rfl (by decide) (by decide) rfl hn_a0 rfl (Nat.le_of_ble_eq_true rfl) k_Tape_reads ⟨tw_418, ts_10⟩ (by omega) tw_416 d_Library_readPart_74 hRp9 rfl ?_
    by_cases hc10 : p9 = 0
    · replace h := itp hc10 h
      refine ev_if_eq_t (tgt := 111) d_Library_readPart_77 (by decide) hc10 ?_
      refine ev_less (L' := []) [] rfl ?_
      cases h
      exact hk2 _ rfl
    · replace h := itn hc10 h
      refine ev_if_eq_f d_Library_readPart_77 (by decide) hc10 ?_
      refine ev_iload_n 2 d_Library_readPart_80 rfl rfl ?_
      refine ev_iconst d_Library_readPart_81 rfl ?_
      by_cases hc11 : s.1 ≠ 4
      · replace h := itp hc11 h
        refine ev_icmp_ne_t (tgt := 90) d_Library_readPart_82 (by decide) hc11 ?_
        exact cj_Library_readPart_90_66 hd hn_a0 hn_a1 h hk1 hk2
      · replace h := itn hc11 h
        refine ev_icmp_ne_f d_Library_readPart_82 (by decide) hc11 ?_
        refine ev_aload_n 0 d_Library_readPart_85 rfl (by decide) rfl ?_
        refine ev_iconst d_Library_readPart_86 rfl ?_
        obtain ⟨p15, hp15, h⟩ := bx h
        have hRp15 := c_Tape_fail (X := X) (d := d - 1) (by omega) hn_a0 hp15
        refine ev_callVN2 (host := "TownBand") (st2 := []) (as := [(0, 4)]) (rest := []) rfl (by decide) (by decide) rfl hn_a0 rfl (Nat.le_of_ble_eq_true rfl) k_Tape_fail ⟨tw_474, ts_12⟩ (by omega) tw_472 d_Library_readPart_87 hRp15 rfl ?_
        exact cj_Library_readPart_90_66 hd hn_a0 hn_a1 h hk1 hk2
def j_Library_readPart_44 (M : Mm) (a0 : Int) (a1 : Int) (z2 : Int) : Option (Mm) :=
  (f_Tape_advance M a0).bind (fun p5 =>
  (f_Piece_addPart p5 a1 z2).bind (fun p6 =>
  (f_Library_readInstrument p6 a0 a1 (w32 ((mg p6 (cI a1) 7) - 1))).bind (fun p7 =>
  (loopN (l_Library_readPart_66 a0 a1) FU (1, p7)).bind (fun t16 =>
  some t16))))
theorem cj_Library_readPart_44 {X : XX} {d : Nat} (hd : 6 ≤ d) {M : Mm} {a0 : Int} {a1 : Int} {z2 : Int} (hn_a0 : a0 ≠ 0) (hn_a1 : a1 ≠ 0) {p : Mm} (h : j_Library_readPart_44 M a0 a1 z2 = some p) : Ev X m_Library_readPart d 44 [(0, (10, a0)), (1, (5, a1)), (2, (0, z2))] [] M none p := by
  unfold j_Library_readPart_44 at h
  refine ev_aload_n 0 d_Library_readPart_44 rfl (by decide) rfl ?_
  obtain ⟨p5, hp5, h⟩ := bx h
  have hRp5 := c_Tape_advance (X := X) (d := d - 1) (by omega) hn_a0 hp5
  refine ev_callVN2 (host := "TownBand") (st2 := []) (as := []) (rest := []) rfl (by decide) (by decide) rfl hn_a0 rfl (Nat.le_of_ble_eq_true rfl) k_Tape_advance ⟨tw_413, ts_9⟩ (by omega) tw_481 d_Library_readPart_45 hRp5 rfl ?_
  refine ev_aload_n 1 d_Library_readPart_48 rfl (by decide) rfl ?_
  refine ev_iload_n 2 d_Library_readPart_49 rfl rfl ?_
  obtain ⟨p6, hp6, h⟩ := bx h
  have hRp6 := c_Piece_addPart (X := X) (d := d - 1) (by omega) hn_a1 hp6
  refine ev_callVN2 (host := "TownBand") (st2 := []) (as := [(0, z2)]) (rest := []) rfl (by decide) (by decide) rfl hn_a1 rfl (Nat.le_of_ble_eq_true rfl) k_Piece_addPart ⟨tw_510, ts_17⟩ (by omega) tw_508 d_Library_readPart_50 hRp6 rfl ?_
  refine ev_aload_n 0 d_Library_readPart_53 rfl (by decide) rfl ?_
  refine ev_aload_n 1 d_Library_readPart_54 rfl (by decide) rfl ?_
  refine ev_aload_n 1 d_Library_readPart_55 rfl (by decide) rfl ?_
  refine ev_getN (host := "TownBand") (t := 5) (k := 7) (by decide) (by decide) rfl i_Piece (by decide) rfl rfl tw_95 d_Library_readPart_56 hn_a1 ?_
  refine ev_iconst d_Library_readPart_59 rfl ?_
  refine ev_isub d_Library_readPart_60 ?_
  obtain ⟨p7, hp7, h⟩ := bx h
  have hRp7 := c_Library_readInstrument (X := X) (d := d - 1) (by omega) hn_a0 hn_a1 hp7
  refine ev_callS2 (st2 := []) (as := [(10, a0), (5, a1), (0, (w32 ((mg p6 (cI a1) 7) - 1)))]) (rest := []) rfl rfl (Nat.le_of_ble_eq_true rfl) k_Library_readInstrument tw_513 (by omega) tw_512 d_Library_readPart_61 hRp7 rfl ?_
  refine ev_iconst d_Library_readPart_64 rfl ?_
  refine ev_istore_n (L' := [(3, (0, 1)), (0, (10, a0)), (1, (5, a1)), (2, (0, z2))]) d_Library_readPart_65 rfl (by decide) rfl ?_
  obtain ⟨t16, ht16, h⟩ := bx h
  refine ev_less (L' := [(0, (10, a0)), (1, (5, a1)), (3, (0, 1))]) [1, 2, 0] rfl ?_
  refine loop_ev (step := l_Library_readPart_66 a0 a1) (P := fun w : Int × Mm => Ev X m_Library_readPart d 66 [(0, (10, a0)), (1, (5, a1)), (3, (0, w.1))] [] w.2 none p) (Q := fun w => Ev X m_Library_readPart d 111 [] [] w none p) (fun w x hs k1 k2 => cs_l_Library_readPart_66 hd hn_a0 hn_a1 hs k1 k2) FU (1, p7) t16 ht16 ?_
  cases h
  exact ev_retV d_Library_readPart_111 rfl
def f_Library_readPart (M : Mm) (a0 : Int) (a1 : Int) : Option (Mm) :=
  if (mg M (cI a1) 7) < 10 then
  (f_Tape_advance M a0).bind (fun p2 =>
  (f_Tape_reads p2 a0 1).bind (fun p3 =>
  if p3 ≠ 0 then
  j_Library_readPart_44 p2 a0 a1 p3
  else
  (f_Tape_reads p2 a0 2).bind (fun p17 =>
  if p17 ≠ 0 then
  j_Library_readPart_44 p2 a0 a1 p3
  else
  (f_Tape_fail p2 a0 1).bind (fun p19 =>
  j_Library_readPart_44 p19 a0 a1 p3))))
  else
  (f_Tape_fail M a0 4).bind (fun p20 =>
  some p20)
theorem c_Library_readPart {X : XX} {d : Nat} (hd : 6 ≤ d) {M : Mm} {a0 : Int} {a1 : Int} (hn_a0 : a0 ≠ 0) (hn_a1 : a1 ≠ 0) {p : Mm} (h : f_Library_readPart M a0 a1 = some p) : Rn X d m_Library_readPart [(10, a0), (5, a1)] M none p := by
  refine Rn_of (by decide) rfl (Nat.le_of_ble_eq_true rfl) ?_
  unfold f_Library_readPart at h
  refine ev_less (L' := [(0, (10, a0)), (1, (5, a1))]) [0, 1] rfl ?_
  refine ev_aload_n 1 d_Library_readPart_0 rfl (by decide) rfl ?_
  refine ev_getN (host := "TownBand") (t := 5) (k := 7) (by decide) (by decide) rfl i_Piece (by decide) rfl rfl tw_95 d_Library_readPart_1 hn_a1 ?_
  refine ev_bipush d_Library_readPart_4 rfl ?_
  by_cases hc1 : (mg M (cI a1) 7) < 10
  · replace h := itp hc1 h
    refine ev_icmp_lt_t (tgt := 15) d_Library_readPart_6 (by decide) hc1 ?_
    refine ev_aload_n 0 d_Library_readPart_15 rfl (by decide) rfl ?_
    obtain ⟨p2, hp2, h⟩ := bx h
    have hRp2 := c_Tape_advance (X := X) (d := d - 1) (by omega) hn_a0 hp2
    refine ev_callVN2 (host := "TownBand") (st2 := []) (as := []) (rest := []) rfl (by decide) (by decide) rfl hn_a0 rfl (Nat.le_of_ble_eq_true rfl) k_Tape_advance ⟨tw_413, ts_9⟩ (by omega) tw_481 d_Library_readPart_16 hRp2 rfl ?_
    refine ev_aload_n 0 d_Library_readPart_19 rfl (by decide) rfl ?_
    refine ev_text (i := 1) rfl d_Library_readPart_20 ?_
    obtain ⟨p3, hp3, h⟩ := bx h
    have hRp3 := c_Tape_reads (X := X) (d := d - 1) (by omega) hn_a0 hp3
    refine ev_callVN2 (host := "TownBand") (st2 := [(0, p3)]) (as := [(20, 1)]) (rest := []) rfl (by decide) (by decide) rfl hn_a0 rfl (Nat.le_of_ble_eq_true rfl) k_Tape_reads ⟨tw_418, ts_10⟩ (by omega) tw_416 d_Library_readPart_22 hRp3 rfl ?_
    refine ev_istore_n (L' := [(2, (0, p3)), (0, (10, a0)), (1, (5, a1))]) d_Library_readPart_25 rfl (by decide) rfl ?_
    refine ev_iload_n 0 d_Library_readPart_26 rfl rfl ?_
    by_cases hc4 : p3 ≠ 0
    · replace h := itp hc4 h
      refine ev_if_ne_t (tgt := 44) d_Library_readPart_27 (by decide) hc4 ?_
      refine ev_less (L' := [(0, (10, a0)), (1, (5, a1)), (2, (0, p3))]) [1, 2, 0] rfl ?_
      exact cj_Library_readPart_44 hd hn_a0 hn_a1 h
    · replace h := itn hc4 h
      refine ev_if_ne_f d_Library_readPart_27 (by decide) hc4 ?_
      refine ev_aload_n 1 d_Library_readPart_30 rfl (by decide) rfl ?_
      refine ev_text (i := 2) rfl d_Library_readPart_31 ?_
      obtain ⟨p17, hp17, h⟩ := bx h
      have hRp17 := c_Tape_reads (X := X) (d := d - 1) (by omega) hn_a0 hp17
      refine ev_callVN2 (host := "TownBand") (st2 := [(0, p17)]) (as := [(20, 2)]) (rest := []) rfl (by decide) (by decide) rfl hn_a0 rfl (Nat.le_of_ble_eq_true rfl) k_Tape_reads ⟨tw_418, ts_10⟩ (by omega) tw_416 d_Library_readPart_33 hRp17 rfl ?_
      by_cases hc18 : p17 ≠ 0
      · replace h := itp hc18 h
        refine ev_if_ne_t (tgt := 44) d_Library_readPart_36 (by decide) hc18 ?_
        refine ev_less (L' := [(0, (10, a0)), (1, (5, a1)), (2, (0, p3))]) [1, 2, 0] rfl ?_
        exact cj_Library_readPart_44 hd hn_a0 hn_a1 h
      · replace h := itn hc18 h
        refine ev_if_ne_f d_Library_readPart_36 (by decide) hc18 ?_
        refine ev_aload_n 1 d_Library_readPart_39 rfl (by decide) rfl ?_
        refine ev_iconst d_Library_readPart_40 rfl ?_
        obtain ⟨p19, hp19, h⟩ := bx h
        have hRp19 := c_Tape_fail (X := X) (d := d - 1) (by omega) hn_a0 hp19
        refine ev_callVN2 (host := "TownBand") (st2 := []) (as := [(0, 1)]) (rest := []) rfl (by decide) (by decide) rfl hn_a0 rfl (Nat.le_of_ble_eq_true rfl) k_Tape_fail ⟨tw_474, ts_12⟩ (by omega) tw_472 d_Library_readPart_41 hRp19 rfl ?_
        refine ev_less (L' := [(0, (10, a0)), (1, (5, a1)), (2, (0, p3))]) [1, 2, 0] rfl ?_
        exact cj_Library_readPart_44 hd hn_a0 hn_a1 h
  · replace h := itn hc1 h
    refine ev_icmp_lt_f d_Library_readPart_6 (by decide) hc1 ?_
    refine ev_aload_n 0 d_Library_readPart_9 rfl (by decide) rfl ?_
    refine ev_iconst d_Library_readPart_10 rfl ?_
    obtain ⟨p20, hp20, h⟩ := bx h
    have hRp20 := c_Tape_fail (X := X) (d := d - 1) (by omega) hn_a0 hp20
    refine ev_callVN2 (host := "TownBand") (st2 := []) (as := [(0, 4)]) (rest := []) rfl (by decide) (by decide) rfl hn_a0 rfl (Nat.le_of_ble_eq_true rfl) k_Tape_fail ⟨tw_474, ts_12⟩ (by omega) tw_472 d_Library_readPart_11 hRp20 rfl ?_
    cases h
    exact ev_retV d_Library_readPart_14 rfl
def l_Library_readPiece_93 (a0 : Int) (a1 : Int) (z2 : Int) (s : Int × Mm) : Option ((Int × Mm) ⊕ (Mm)) :=
  if 800 ≤ s.1 then
  some (.inr s.2)
  else
  if (mg s.2 (cI a1) 4) ≠ 44 then
  some (.inr s.2)
  else
  (f_Library_readPart s.2 a1 z2).bind (fun p19 =>
  lt (w32 (s.1 + 1)) (fun x20 : Int =>
  some (.inl (x20, p19))))
theorem cs_l_Library_readPiece_93 {X : XX} {d : Nat} (hd : 8 ≤ d) {a0 : Int} {a1 : Int} {z2 : Int} (hn_a0 : a0 ≠ 0) (hn_a1 : a1 ≠ 0) (hn_z2 : z2 ≠ 0) {s : Int × Mm} {x : (Int × Mm) ⊕ (Mm)} {r : Option AV} {M' : Mm} (h : l_Library_readPiece_93 a0 a1 z2 s = some x) (hk1 : ∀ s : Int × Mm, x = .inl s → Ev X m_Library_readPiece d 93 [(0, (3, a0)), (1, (10, a1)), (2, (5, z2)), (3, (0, s.1))] [] s.2 r M') (hk2 : ∀ t : Mm, x = .inr t → Ev X m_Library_readPiece d 120 [(0, (3, a0)), (1, (10, a1))] [] t r M') : Ev X m_Library_readPiece d 93 [(0, (3, a0)), (1, (10, a1)), (2, (5, z2)), (3, (0, s.1))] [] s.2 r M' := by
  unfold l_Library_readPiece_93 at h
  refine ev_iload_n 3 d_Library_readPiece_93 rfl rfl ?_
  refine ev_sipush d_Library_readPiece_94 rfl ?_
  by_cases hc17 : 800 ≤ s.1
  · replace h := itp hc17 h
    refine ev_icmp_ge_t (tgt := 120) d_Library_readPiece_97 (by decide) hc17 ?_
    refine ev_less (L' := [(0, (3, a0)), (1, (10, a1))]) [0, 1] rfl ?_
    cases h
    exact hk2 _ rfl
  · replace h := itn hc17 h
    refine ev_icmp_ge_f d_Library_readPiece_97 (by decide) hc17 ?_
    refine ev_aload_n 1 d_Library_readPiece_100 rfl (by decide) rfl ?_
    refine ev_getN (host := "TownBand") (t := 10) (k := 4) (by decide) (by decide) rfl i_Tape (by decide) rfl rfl tw_142 d_Library_readPiece_101 hn_a1 ?_
    refine ev_bipush d_Library_readPiece_104 rfl ?_
    by_cases hc18 : (mg s.2 (cI a1) 4) ≠ 44
    · replace h := itp hc18 h
      refine ev_icmp_ne_t (tgt := 120) d_Library_readPiece_106 (by decide) hc18 ?_
      refine ev_less (L' := [(0, (3, a0)), (1, (10, a1))]) [0, 1] rfl ?_
      cases h
      exact hk2 _ rfl
    · replace h := itn hc18 h
      refine ev_icmp_ne_f d_Library_readPiece_106 (by decide) hc18 ?_
      refine ev_aload_n 1 d_Library_readPiece_109 rfl (by decide) rfl ?_
      refine ev_aload_n 2 d_Library_readPiece_110 rfl (by decide) rfl ?_
      obtain ⟨p19, hp19, h⟩ := bx h
      have hRp19 := c_Library_readPart (X := X) (d := d - 1) (by omega) hn_a1 hn_z2 hp19
      refine ev_callS2 (st2 := []) (as := [(10, a1), (5, z2)]) (rest := []) rfl rfl (Nat.le_of_ble_eq_true rfl) k_Library_readPart tw_506 (by omega) tw_505 d_Library_readPiece_111 hRp19 rfl ?_
      obtain ⟨x20, hx20, h⟩ := ltx h
      refine ev_iinc' 3 (y := x20) (L' := [(3, (0, x20)), (0, (3, a0)), (1, (10, a1)), (2, (5, z2))]) d_Library_readPiece_114 rfl (by decide) rfl hx20 ?_
      refine ev_goto (tgt := 93) d_Library_readPiece_117 (by decide) ?_
      refine ev_less (L' := [(0, (3, a0)), (1, (10, a1)), (2, (5, z2)), (3, (0, x20))]) [1, 2, 3, 0] rfl ?_
      cases h
      exact hk1 _ rfl
def j_Library_readPiece_120 (M : Mm) (a0 : Int) (a1 : Int) : Option (Mm) :=
  (f_Tape_take M a1 59).bind (fun p22 =>
  lt (mp p22 (cI a0) 2 (w32 ((mg p22 (cI a0) 2) + 1))) (fun M23 =>
  some M23))
theorem cj_Library_readPiece_120 {X : XX} {d : Nat} (hd : 8 ≤ d) {M : Mm} {a0 : Int} {a1 : Int} (hn_a0 : a0 ≠ 0) (hn_a1 : a1 ≠ 0) {p : Mm} (h : j_Library_readPiece_120 M a0 a1 = some p) : Ev X m_Library_readPiece d 120 [(0, (3, a0)), (1, (10, a1))] [] M none p := by
  unfold j_Library_readPiece_120 at h
  refine ev_aload_n 1 d_Library_readPiece_120 rfl (by decide) rfl ?_
  refine ev_bipush d_Library_readPiece_121 rfl ?_
  obtain ⟨p22, hp22, h⟩ := bx h
  have hRp22 := c_Tape_take (X := X) (d := d - 1) (by omega) hn_a1 hp22
  refine ev_callVN2 (host := "TownBand") (st2 := []) (as := [(0, 59)]) (rest := []) rfl (by decide) (by decide) rfl hn_a1 rfl (Nat.le_of_ble_eq_true rfl) k_Tape_take ⟨tw_498, ts_16⟩ (by omega) tw_496 d_Library_readPiece_123 hRp22 rfl ?_
  refine ev_aload_n 0 d_Library_readPiece_126 rfl (by decide) rfl ?_
  refine ev_dup d_Library_readPiece_127 (Nat.ne_of_beq_eq_false rfl) ?_
  refine ev_get (t := 3) (k := 2) (by decide) (by decide) rfl i_Library (by decide) rfl rfl tw_121 d_Library_readPiece_128 hn_a0 ?_
  refine ev_iconst d_Library_readPiece_131 rfl ?_
  refine ev_iadd d_Library_readPiece_132 ?_
  obtain ⟨M23, hM23, h⟩ := ltx h
  refine ev_put' (t := 3) (k := 2) (by decide) (by decide) rfl i_Library t_Library_ok n_Library (by decide) rfl rfl rfl rfl tw_121 d_Library_readPiece_133 hn_a0 hM23 ?_
  cases h
  exact ev_retV d_Library_readPiece_136 rfl
def f_Library_readPiece (M : Mm) (a0 : Int) (a1 : Int) : Option (Mm) :=
  if (w32 ((mg M (cI a0) 1) + (mg M (cI a0) 2))) < 10 then
  if (mg M (cI a0) 0) ≠ 0 then
  if (0 : Int) ≤ (w32 ((mg M (cI a0) 1) + (mg M (cI a0) 2))) ∧ (w32 ((mg M (cI a0) 1) + (mg M (cI a0) 2))) < (ml M (cI (mg M (cI a0) 0)) : Int) then
  lt ((mg M (cI (mg M (cI a0) 0)) ((w32 ((mg M (cI a0) 1) + (mg M (cI a0) 2))) : Int).toNat)) (fun x4 : Int =>
  if x4 ≠ 0 then
  (f_Piece_clear M x4).bind (fun p6 =>
  (f_Tape_advance p6 a1).bind (fun p7 =>
  (f_Library_readName p7 a0 a1).bind (fun p8 =>
  lt (mp p8.2 (cI x4) 3 p8.1) (fun M9 =>
  (f_Tape_take M9 a1 58).bind (fun p10 =>
  (f_Library_readNumber p10 a1 1 60).bind (fun p11 =>
  lt (mp p11.2 (cI x4) 4 p11.1) (fun M12 =>
  (f_Library_readNumber M12 a1 0 9).bind (fun p13 =>
  lt (mp p13.2 (cI x4) 5 p13.1) (fun M14 =>
  (f_Library_readNumber M14 a1 0 11).bind (fun p15 =>
  lt (mp p15.2 (cI x4) 6 p15.1) (fun M16 =>
  (loopN (l_Library_readPiece_93 a0 a1 x4) FU (0, M16)).bind (fun t21 =>
  j_Library_readPiece_120 t21 a0 a1))))))))))))
  else none)
  else none
  else none
  else
  (f_Tape_fail M a1 4).bind (fun p24 =>
  some p24)
theorem c_Library_readPiece {X : XX} {d : Nat} (hd : 8 ≤ d) {M : Mm} {a0 : Int} {a1 : Int} (hn_a0 : a0 ≠ 0) (hn_a1 : a1 ≠ 0) {p : Mm} (h : f_Library_readPiece M a0 a1 = some p) : Rn X d m_Library_readPiece [(3, a0), (10, a1)] M none p := by
  refine Rn_of (by decide) rfl (Nat.le_of_ble_eq_true rfl) ?_
  unfold f_Library_readPiece at h
  refine ev_less (L' := [(0, (3, a0)), (1, (10, a1))]) [0, 1] rfl ?_
  refine ev_aload_n 0 d_Library_readPiece_0 rfl (by decide) rfl ?_
  refine ev_get (t := 3) (k := 1) (by decide) (by decide) rfl i_Library (by decide) rfl rfl tw_119 d_Library_readPiece_1 hn_a0 ?_
  refine ev_aload_n 0 d_Library_readPiece_4 rfl (by decide) rfl ?_
  refine ev_get (t := 3) (k := 2) (by decide) (by decide) rfl i_Library (by decide) rfl rfl tw_121 d_Library_readPiece_5 hn_a0 ?_
  refine ev_iadd d_Library_readPiece_8 ?_
  refine ev_bipush d_Library_readPiece_9 rfl ?_
  by_cases hc1 : (w32 ((mg M (cI a0) 1) + (mg M (cI a0) 2))) < 10
  · replace h := itp hc1 h
    refine ev_icmp_lt_t (tgt := 20) d_Library_readPiece_11 (by decide) hc1 ?_
    refine ev_aload_n 0 d_Library_readPiece_20 rfl (by decide) rfl ?_
    refine ev_get (t := 3) (k := 0) (by decide) (by decide) rfl i_Library (by decide) rfl rfl tw_118 d_Library_readPiece_21 hn_a0 ?_
    refine ev_aload_n 0 d_Library_readPiece_24 rfl (by decide) rfl ?_
    refine ev_get (t := 3) (k := 1) (by decide) (by decide) rfl i_Library (by decide) rfl rfl tw_119 d_Library_readPiece_25 hn_a0 ?_
    refine ev_aload_n 0 d_Library_readPiece_28 rfl (by decide) rfl ?_
    refine ev_get (t := 3) (k := 2) (by decide) (by decide) rfl i_Library (by decide) rfl rfl tw_121 d_Library_readPiece_29 hn_a0 ?_
    refine ev_iadd d_Library_readPiece_32 ?_
    obtain ⟨hz2, h⟩ := gx h
    obtain ⟨hg3, h⟩ := gx h
    refine ev_aald d_Library_readPiece_33 hz2 hg3 ?_
    obtain ⟨x4, hx4, h⟩ := ltx h
    refine ev_astore_n' (y := x4) (L' := [(2, (5, x4)), (0, (3, a0)), (1, (10, a1))]) d_Library_readPiece_34 rfl (by decide) (by decide) rfl hx4 ?_
    refine ev_aload_n 0 d_Library_readPiece_35 rfl (by decide) rfl ?_
    obtain ⟨hz5, h⟩ := gx h
    obtain ⟨p6, hp6, h⟩ := bx h
    have hRp6 := c_Piece_clear (X := X) (d := d - 1) (by omega) hz5 hp6
    refine ev_callVN2 (host := "TownBand") (st2 := []) (as := []) (rest := []) rfl (by decide) (by decide) rfl hz5 rfl (Nat.le_of_ble_eq_true rfl) k_Piece_clear ⟨tw_478, ts_13⟩ (by omega) tw_476 d_Library_readPiece_36 hRp6 rfl ?_
    refine ev_aload_n 2 d_Library_readPiece_39 rfl (by decide) rfl ?_
    obtain ⟨p7, hp7, h⟩ := bx h
    have hRp7 := c_Tape_advance (X := X) (d := d - 1) (by omega) hn_a1 hp7
    refine ev_callVN2 (host := "TownBand") (st2 := []) (as := []) (rest := []) rfl (by decide) (by decide) rfl hn_a1 rfl (Nat.le_of_ble_eq_true rfl) k_Tape_advance ⟨tw_413, ts_9⟩ (by omega) tw_481 d_Library_readPiece_40 hRp7 rfl ?_
    refine ev_aload_n 0 d_Library_readPiece_43 rfl (by decide) rfl ?_
    refine ev_aload_n 1 d_Library_readPiece_44 rfl (by decide) rfl ?_
    refine ev_aload_n 2 d_Library_readPiece_45 rfl (by decide) rfl ?_
    obtain ⟨p8, hp8, h⟩ := bx h
    have hRp8 := c_Library_readName (X := X) (d := d - 1) (by omega) hn_a0 hn_a1 hp8
    refine ev_callV2 (st2 := [(0, p8.1), (5, x4)]) (as := [(10, a1)]) (rest := [(5, x4)]) rfl (by decide) (by decide) rfl hn_a0 rfl (Nat.le_of_ble_eq_true rfl) k_Library_readName ⟨tw_484, ts_14⟩ (by omega) tw_482 d_Library_readPiece_46 hRp8 rfl ?_
    obtain ⟨M9, hM9, h⟩ := ltx h
    refine ev_putN' (host := "TownBand") (t := 5) (k := 3) (by decide) (by decide) rfl i_Piece t_Piece_ok n_Piece (by decide) rfl rfl rfl rfl tw_82 d_Library_readPiece_49 hz5 hM9 ?_
    refine ev_aload_n 2 d_Library_readPiece_52 rfl (by decide) rfl ?_
    refine ev_bipush d_Library_readPiece_53 rfl ?_
    obtain ⟨p10, hp10, h⟩ := bx h
    have hRp10 := c_Tape_take (X := X) (d := d - 1) (by omega) hn_a1 hp10
    refine ev_callVN2 (host := "TownBand") (st2 := []) (as := [(0, 58)]) (rest := []) rfl (by decide) (by decide) rfl hn_a1 rfl (Nat.le_of_ble_eq_true rfl) k_Tape_take ⟨tw_498, ts_16⟩ (by omega) tw_496 d_Library_readPiece_55 hRp10 rfl ?_
    refine ev_aload_n 0 d_Library_readPiece_58 rfl (by decide) rfl ?_
    refine ev_aload_n 2 d_Library_readPiece_59 rfl (by decide) rfl ?_
    refine ev_iconst d_Library_readPiece_60 rfl ?_
    refine ev_bipush d_Library_readPiece_61 rfl ?_
    obtain ⟨p11, hp11, h⟩ := bx h
    have hRp11 := c_Library_readNumber (X := X) (d := d - 1) (by omega) hn_a1 hp11
    refine ev_callS2 (st2 := [(0, p11.1), (5, x4)]) (as := [(10, a1), (0, 1), (0, 60)]) (rest := [(5, x4)]) rfl rfl (Nat.le_of_ble_eq_true rfl) k_Library_readNumber tw_502 (by omega) tw_501 d_Library_readPiece_63 hRp11 rfl ?_
    obtain ⟨M12, hM12, h⟩ := ltx h
    refine ev_putN' (host := "TownBand") (t := 5) (k := 4) (by decide) (by decide) rfl i_Piece t_Piece_ok n_Piece (by decide) rfl rfl rfl rfl tw_84 d_Library_readPiece_66 hz5 hM12 ?_
    refine ev_aload_n 0 d_Library_readPiece_69 rfl (by decide) rfl ?_
    refine ev_aload_n 2 d_Library_readPiece_70 rfl (by decide) rfl ?_
    refine ev_iconst d_Library_readPiece_71 rfl ?_
    refine ev_bipush d_Library_readPiece_72 rfl ?_
    obtain ⟨p13, hp13, h⟩ := bx h
    have hRp13 := c_Library_readNumber (X := X) (d := d - 1) (by omega) hn_a1 hp13
    refine ev_callS2 (st2 := [(0, p13.1), (5, x4)]) (as := [(10, a1), (0, 0), (0, 9)]) (rest := [(5, x4)]) rfl rfl (Nat.le_of_ble_eq_true rfl) k_Library_readNumber tw_502 (by omega) tw_501 d_Library_readPiece_74 hRp13 rfl ?_
    obtain ⟨M14, hM14, h⟩ := ltx h
    refine ev_putN' (host := "TownBand") (t := 5) (k := 5) (by decide) (by decide) rfl i_Piece t_Piece_ok n_Piece (by decide) rfl rfl rfl rfl tw_87 d_Library_readPiece_77 hz5 hM14 ?_
    refine ev_aload_n 0 d_Library_readPiece_80 rfl (by decide) rfl ?_
    refine ev_aload_n 2 d_Library_readPiece_81 rfl (by decide) rfl ?_
    refine ev_iconst d_Library_readPiece_82 rfl ?_
    refine ev_bipush d_Library_readPiece_83 rfl ?_
    obtain ⟨p15, hp15, h⟩ := bx h
    have hRp15 := c_Library_readNumber (X := X) (d := d - 1) (by omega) hn_a1 hp15
    refine ev_callS2 (st2 := [(0, p15.1), (5, x4)]) (as := [(10, a1), (0, 0), (0, 11)]) (rest := [(5, x4)]) rfl rfl (Nat.le_of_ble_eq_true rfl) k_Library_readNumber tw_502 (by omega) tw_501 d_Library_readPiece_85 hRp15 rfl ?_
    obtain ⟨M16, hM16, h⟩ := ltx h
    refine ev_putN' (host := "TownBand") (t := 5) (k := 6) (by decide) (by decide) rfl i_Piece t_Piece_ok n_Piece (by decide) rfl rfl rfl rfl tw_90 d_Library_readPiece_88 hz5 hM16 ?_
    refine ev_iconst d_Library_readPiece_91 rfl ?_
    refine ev_istore_n (L' := [(3, (0, 0)), (2, (5, x4)), (0, (3, a0)), (1, (10, a1))]) d_Library_readPiece_92 rfl (by decide) rfl ?_
    obtain ⟨t21, ht21, h⟩ := bx h
    refine ev_less (L' := [(0, (3, a0)), (1, (10, a1)), (2, (5, x4)), (3, (0, 0))]) [2, 3, 1, 0] rfl ?_
    refine loop_ev (step := l_Library_readPiece_93 a0 a1 x4) (P := fun w : Int × Mm => Ev X m_Library_readPiece d 93 [(0, (3, a0)), (1, (10, a1)), (2, (5, x4)), (3, (0, w.1))] [] w.2 none p) (Q := fun w => Ev X m_Library_readPiece d 120 [(0, (3, a0)), (1, (10, a1))] [] w none p) (fun w x hs k1 k2 => cs_l_Library_readPiece_93 hd hn_a0 hn_a1 hz5 hs k1 k2) FU (0, M16) t21 ht21 ?_
    exact cj_Library_readPiece_120 hd hn_a0 hn_a1 h
  · replace h := itn hc1 h
    refine ev_icmp_lt_f d_Library_readPiece_11 (by decide) hc1 ?_
    refine ev_aload_n 1 d_Library_readPiece_14 rfl (by decide) rfl ?_
    refine ev_iconst d_Library_readPiece_15 rfl ?_
    obtain ⟨p24, hp24, h⟩ := bx h
    have hRp24 := c_Tape_fail (X := X) (d := d - 1) (by omega) hn_a1 hp24
    refine ev_callVN2 (host := "TownBand") (st2 := []) (as := [(0, 4)]) (rest := []) rfl (by decide) (by decide) rfl hn_a1 rfl (Nat.le_of_ble_eq_true rfl) k_Tape_fail ⟨tw_474, ts_12⟩ (by omega) tw_472 d_Library_readPiece_16 hRp24 rfl ?_
    cases h
    exact ev_retV d_Library_readPiece_19 rfl
def j_Tape_finish_13 (M : Mm) (a0 : Int) : Option (Int × Mm) :=
  lt (mp M (cI a0) 1 0) (fun M2 =>
  if (mg M2 (cI a0) 8) ≠ 0 then
  some (0, M2)
  else
  some (1, M2))
theorem cj_Tape_finish_13 {X : XX} {d : Nat} (hd : 1 ≤ d) {M : Mm} {a0 : Int} (hn_a0 : a0 ≠ 0) {p : Int × Mm} (h : j_Tape_finish_13 M a0 = some p) : Ev X m_Tape_finish d 13 [(0, (10, a0))] [] M (some (0, p.1)) p.2 := by
  unfold j_Tape_finish_13 at h
  refine ev_aload_n 0 d_Tape_finish_13 rfl (by decide) rfl ?_
  refine ev_iconst d_Tape_finish_14 rfl ?_
  obtain ⟨M2, hM2, h⟩ := ltx h
  refine ev_put' (t := 10) (k := 1) (by decide) (by decide) rfl i_Tape t_Tape_ok n_Tape (by decide) rfl rfl rfl rfl tw_136 d_Tape_finish_15 hn_a0 hM2 ?_
  refine ev_aload_n 0 d_Tape_finish_18 rfl (by decide) rfl ?_
  refine ev_get (t := 10) (k := 8) (by decide) (by decide) rfl i_Tape (by decide) rfl rfl tw_149 d_Tape_finish_19 hn_a0 ?_
  by_cases hc3 : (mg M2 (cI a0) 8) ≠ 0
  · replace h := itp hc3 h
    refine ev_if_ne_t (tgt := 29) d_Tape_finish_22 (by decide) hc3 ?_
    refine ev_iconst d_Tape_finish_29 rfl ?_
    cases h
    exact ev_retZ d_Tape_finish_30 rfl (Or.inl rfl)
  · replace h := itn hc3 h
    refine ev_if_ne_f d_Tape_finish_22 (by decide) hc3 ?_
    refine ev_iconst d_Tape_finish_25 rfl ?_
    refine ev_goto (tgt := 30) d_Tape_finish_26 (by decide) ?_
    cases h
    exact ev_retZ d_Tape_finish_30 rfl (Or.inr rfl)
def f_Tape_finish (M : Mm) (a0 : Int) : Option (Int × Mm) :=
  if (mg M (cI a0) 4) = (-1) then
  j_Tape_finish_13 M a0
  else
  (f_Tape_fail M a0 1).bind (fun p4 =>
  j_Tape_finish_13 p4 a0)
theorem c_Tape_finish {X : XX} {d : Nat} (hd : 1 ≤ d) {M : Mm} {a0 : Int} (hn_a0 : a0 ≠ 0) {p : Int × Mm} (h : f_Tape_finish M a0 = some p) : Rn X d m_Tape_finish [(10, a0)] M (some (0, p.1)) p.2 := by
  refine Rn_of (by decide) rfl (Nat.le_of_ble_eq_true rfl) ?_
  unfold f_Tape_finish at h
  refine ev_less (L' := [(0, (10, a0))]) [0] rfl ?_
  refine ev_aload_n 0 d_Tape_finish_0 rfl (by decide) rfl ?_
  refine ev_get (t := 10) (k := 4) (by decide) (by decide) rfl i_Tape (by decide) rfl rfl tw_140 d_Tape_finish_1 hn_a0 ?_
  refine ev_iconst d_Tape_finish_4 rfl ?_
  by_cases hc1 : (mg M (cI a0) 4) = (-1)
  · replace h := itp hc1 h
    refine ev_icmp_eq_t (tgt := 13) d_Tape_finish_5 (by decide) hc1 ?_
    exact cj_Tape_finish_13 hd hn_a0 h
  · replace h := itn hc1 h
    refine ev_icmp_eq_f d_Tape_finish_5 (by decide) hc1 ?_
    refine ev_aload_n 0 d_Tape_finish_8 rfl (by decide) rfl ?_
    refine ev_iconst d_Tape_finish_9 rfl ?_
    obtain ⟨p4, hp4, h⟩ := bx h
    have hRp4 := c_Tape_fail (X := X) (d := d - 1) (by omega) hn_a0 hp4
    refine ev_callV2 (st2 := []) (as := [(0, 1)]) (rest := []) rfl (by decide) (by decide) rfl hn_a0 rfl (Nat.le_of_ble_eq_true rfl) k_Tape_fail ⟨tw_474, ts_12⟩ (by omega) tw_500 d_Tape_finish_10 hRp4 rfl ?_
    exact cj_Tape_finish_13 hd hn_a0 h
def l_Library_readText_12 (a0 : Int) (a1 : Int) (s : Int × Mm) : Option ((Int × Mm) ⊕ (Mm)) :=
  if 800 ≤ s.1 then
  some (.inr s.2)
  else
  (f_Tape_reads s.2 a1 0).bind (fun p4 =>
  if p4 = 0 then
  some (.inr s.2)
  else
  (f_Library_readPiece s.2 a0 a1).bind (fun p6 =>
  lt (w32 (s.1 + 1)) (fun x7 : Int =>
  some (.inl (x7, p6)))))
theorem cs_l_Library_readText_12 {X : XX} {d : Nat} (hd : 9 ≤ d) {a0 : Int} {a1 : Int} (hn_a0 : a0 ≠ 0) (hn_a1 : a1 ≠ 0) {s : Int × Mm} {x : (Int × Mm) ⊕ (Mm)} {r : Option AV} {M' : Mm} (h : l_Library_readText_12 a0 a1 s = some x) (hk1 : ∀ s : Int × Mm, x = .inl s → Ev X m_Library_readText d 12 [(0, (3, a0)), (1, (10, a1)), (2, (0, s.1))] [] s.2 r M') (hk2 : ∀ t : Mm, x = .inr t → Ev X m_Library_readText d 39 [(0, (3, a0)), (1, (10, a1))] [] t r M') : Ev X m_Library_readText d 12 [(0, (3, a0)), (1, (10, a1)), (2, (0, s.1))] [] s.2 r M' := by
  unfold l_Library_readText_12 at h
  refine ev_iload_n 2 d_Library_readText_12 rfl rfl ?_
  refine ev_sipush d_Library_readText_13 rfl ?_
  by_cases hc3 : 800 ≤ s.1
  · replace h := itp hc3 h
    refine ev_icmp_ge_t (tgt := 39) d_Library_readText_16 (by decide) hc3 ?_
    refine ev_less (L' := [(0, (3, a0)), (1, (10, a1))]) [0, 1] rfl ?_
    cases h
    exact hk2 _ rfl
  · replace h := itn hc3 h
    refine ev_icmp_ge_f d_Library_readText_16 (by decide) hc3 ?_
    refine ev_aload_n 1 d_Library_readText_19 rfl (by decide) rfl ?_
    refine ev_text (i := 0) rfl d_Library_readText_20 ?_
    obtain ⟨p4, hp4, h⟩ := bx h
    have hRp4 := c_Tape_reads (X := X) (d := d - 1) (by omega) hn_a1 hp4
    refine ev_callVN2 (host := "TownBand") (st2 := [(0, p4)]) (as := [(20, 0)]) (rest := []) rfl (by decide) (by decide) rfl hn_a1 rfl (Nat.le_of_ble_eq_true rfl) k_Tape_reads ⟨tw_418, ts_10⟩ (by omega) tw_416 d_Library_readText_22 hRp4 rfl ?_
    by_cases hc5 : p4 = 0
    · replace h := itp hc5 h
      refine ev_if_eq_t (tgt := 39) d_Library_readText_25 (by decide) hc5 ?_
      refine ev_less (L' := [(0, (3, a0)), (1, (10, a1))]) [0, 1] rfl ?_
      cases h
      exact hk2 _ rfl
    · replace h := itn hc5 h
      refine ev_if_eq_f d_Library_readText_25 (by decide) hc5 ?_
      refine ev_aload_n 0 d_Library_readText_28 rfl (by decide) rfl ?_
      refine ev_aload_n 1 d_Library_readText_29 rfl (by decide) rfl ?_
      obtain ⟨p6, hp6, h⟩ := bx h
      have hRp6 := c_Library_readPiece (X := X) (d := d - 1) (by omega) hn_a0 hn_a1 hp6
      refine ev_callV2 (st2 := []) (as := [(10, a1)]) (rest := []) rfl (by decide) (by decide) rfl hn_a0 rfl (Nat.le_of_ble_eq_true rfl) k_Library_readPiece ⟨tw_470, ts_11⟩ (by omega) tw_468 d_Library_readText_30 hRp6 rfl ?_
      obtain ⟨x7, hx7, h⟩ := ltx h
      refine ev_iinc' 2 (y := x7) (L' := [(2, (0, x7)), (0, (3, a0)), (1, (10, a1))]) d_Library_readText_33 rfl (by decide) rfl hx7 ?_
      refine ev_goto (tgt := 12) d_Library_readText_36 (by decide) ?_
      refine ev_less (L' := [(0, (3, a0)), (1, (10, a1)), (2, (0, x7))]) [1, 2, 0] rfl ?_
      cases h
      exact hk1 _ rfl
def j_Library_readText_39 (M : Mm) (a0 : Int) (a1 : Int) : Option (Int × Mm) :=
  (f_Tape_finish M a1).bind (fun p9 =>
  if p9.1 ≠ 0 then
  lt (mp p9.2 (cI a0) 1 (w32 ((mg p9.2 (cI a0) 1) + (mg p9.2 (cI a0) 2)))) (fun M11 =>
  some (1, M11))
  else
  some (0, p9.2))
theorem cj_Library_readText_39 {X : XX} {d : Nat} (hd : 9 ≤ d) {M : Mm} {a0 : Int} {a1 : Int} (hn_a0 : a0 ≠ 0) (hn_a1 : a1 ≠ 0) {p : Int × Mm} (h : j_Library_readText_39 M a0 a1 = some p) : Ev X m_Library_readText d 39 [(0, (3, a0)), (1, (10, a1))] [] M (some (0, p.1)) p.2 := by
  unfold j_Library_readText_39 at h
  refine ev_aload_n 1 d_Library_readText_39 rfl (by decide) rfl ?_
  obtain ⟨p9, hp9, h⟩ := bx h
  have hRp9 := c_Tape_finish (X := X) (d := d - 1) (by omega) hn_a1 hp9
  refine ev_callVN2 (host := "TownBand") (st2 := [(0, p9.1)]) (as := []) (rest := []) rfl (by decide) (by decide) rfl hn_a1 rfl (Nat.le_of_ble_eq_true rfl) k_Tape_finish ⟨tw_529, ts_21⟩ (by omega) tw_527 d_Library_readText_40 hRp9 rfl ?_
  by_cases hc10 : p9.1 ≠ 0
  · replace h := itp hc10 h
    refine ev_if_ne_t (tgt := 48) d_Library_readText_43 (by decide) hc10 ?_
    refine ev_aload_n 0 d_Library_readText_48 rfl (by decide) rfl ?_
    refine ev_dup d_Library_readText_49 (Nat.ne_of_beq_eq_false rfl) ?_
    refine ev_get (t := 3) (k := 1) (by decide) (by decide) rfl i_Library (by decide) rfl rfl tw_119 d_Library_readText_50 hn_a0 ?_
    refine ev_aload_n 0 d_Library_readText_53 rfl (by decide) rfl ?_
    refine ev_get (t := 3) (k := 2) (by decide) (by decide) rfl i_Library (by decide) rfl rfl tw_121 d_Library_readText_54 hn_a0 ?_
    refine ev_iadd d_Library_readText_57 ?_
    obtain ⟨M11, hM11, h⟩ := ltx h
    refine ev_put' (t := 3) (k := 1) (by decide) (by decide) rfl i_Library t_Library_ok n_Library (by decide) rfl rfl rfl rfl tw_119 d_Library_readText_58 hn_a0 hM11 ?_
    refine ev_iconst d_Library_readText_61 rfl ?_
    cases h
    exact ev_retZ d_Library_readText_62 rfl (Or.inr rfl)
  · replace h := itn hc10 h
    refine ev_if_ne_f d_Library_readText_43 (by decide) hc10 ?_
    refine ev_iconst d_Library_readText_46 rfl ?_
    cases h
    exact ev_retZ d_Library_readText_47 rfl (Or.inl rfl)
def f_Library_readText (M : Mm) (a0 : Int) (a1 : Int) : Option (Int × Mm) :=
  lt (mp M (cI a0) 2 0) (fun M1 =>
  (f_Tape_begin M1 a1 2).bind (fun p2 =>
  (loopN (l_Library_readText_12 a0 a1) FU (0, p2)).bind (fun t8 =>
  j_Library_readText_39 t8 a0 a1)))
theorem c_Library_readText {X : XX} {d : Nat} (hd : 9 ≤ d) {M : Mm} {a0 : Int} {a1 : Int} (hn_a0 : a0 ≠ 0) (hn_a1 : a1 ≠ 0) {p : Int × Mm} (h : f_Library_readText M a0 a1 = some p) : Rn X d m_Library_readText [(3, a0), (10, a1)] M (some (0, p.1)) p.2 := by
  refine Rn_of (by decide) rfl (Nat.le_of_ble_eq_true rfl) ?_
  unfold f_Library_readText at h
  refine ev_less (L' := [(0, (3, a0)), (1, (10, a1))]) [0, 1] rfl ?_
  refine ev_aload_n 0 d_Library_readText_0 rfl (by decide) rfl ?_
  refine ev_iconst d_Library_readText_1 rfl ?_
  obtain ⟨M1, hM1, h⟩ := ltx h
  refine ev_put' (t := 3) (k := 2) (by decide) (by decide) rfl i_Library t_Library_ok n_Library (by decide) rfl rfl rfl rfl tw_121 d_Library_readText_2 hn_a0 hM1 ?_
  refine ev_aload_n 1 d_Library_readText_5 rfl (by decide) rfl ?_
  refine ev_iconst d_Library_readText_6 rfl ?_
  obtain ⟨p2, hp2, h⟩ := bx h
  have hRp2 := c_Tape_begin (X := X) (d := d - 1) (by omega) hn_a1 hp2
  refine ev_callVN2 (host := "TownBand") (st2 := []) (as := [(0, 2)]) (rest := []) rfl (by decide) (by decide) rfl hn_a1 rfl (Nat.le_of_ble_eq_true rfl) k_Tape_begin ⟨tw_409, ts_8⟩ (by omega) tw_407 d_Library_readText_7 hRp2 rfl ?_
  refine ev_iconst d_Library_readText_10 rfl ?_
  refine ev_istore_n (L' := [(2, (0, 0)), (0, (3, a0)), (1, (10, a1))]) d_Library_readText_11 rfl (by decide) rfl ?_
  obtain ⟨t8, ht8, h⟩ := bx h
  refine ev_less (L' := [(0, (3, a0)), (1, (10, a1)), (2, (0, 0))]) [1, 2, 0] rfl ?_
  refine loop_ev (step := l_Library_readText_12 a0 a1) (P := fun w : Int × Mm => Ev X m_Library_readText d 12 [(0, (3, a0)), (1, (10, a1)), (2, (0, w.1))] [] w.2 (some (0, p.1)) p.2) (Q := fun w => Ev X m_Library_readText d 39 [(0, (3, a0)), (1, (10, a1))] [] w (some (0, p.1)) p.2) (fun w x hs k1 k2 => cs_l_Library_readText_12 hd hn_a0 hn_a1 hs k1 k2) FU (0, p2) t8 ht8 ?_
  exact cj_Library_readText_39 hd hn_a0 hn_a1 h
def f_Loans_init (M : Mm) (a0 : Int) : Option (Mm) :=
  lt (mw M (200 : Int).toNat) (fun M1 =>
  lt (mp M1 (cI a0) 0 ((mN M : Int) + 1)) (fun M2 =>
  lt (mw M2 (200 : Int).toNat) (fun M3 =>
  lt (mp M3 (cI a0) 1 ((mN M2 : Int) + 1)) (fun M4 =>
  lt (mw M4 (200 : Int).toNat) (fun M5 =>
  lt (mp M5 (cI a0) 2 ((mN M4 : Int) + 1)) (fun M6 =>
  lt (mw M6 (30 : Int).toNat) (fun M7 =>
  lt (mp M7 (cI a0) 3 ((mN M6 : Int) + 1)) (fun M8 =>
  lt (mw M8 (30 : Int).toNat) (fun M9 =>
  lt (mp M9 (cI a0) 4 ((mN M8 : Int) + 1)) (fun M10 =>
  some M10))))))))))
theorem c_Loans_init {X : XX} {d : Nat} (hd : 1 ≤ d) {M : Mm} {a0 : Int} (hn_a0 : a0 ≠ 0) {p : Mm} (h : f_Loans_init M a0 = some p) : Rn X d m_Loans_init [(4, a0)] M none p := by
  refine Rn_of (by decide) rfl (Nat.le_of_ble_eq_true rfl) ?_
  unfold f_Loans_init at h
  refine ev_less (L' := [(0, (4, a0))]) [0] rfl ?_
  refine ev_aload_n 0 d_Loans_init_0 rfl (by decide) rfl ?_
  refine ev_objInit (t := 4) (by decide) (by decide) hn_a0 (Nat.le_of_ble_eq_true rfl) (by omega) tw_207 tw_25 tw_26 d_Loans_init_1 ?_
  refine ev_aload_n 0 d_Loans_init_4 rfl (by decide) rfl ?_
  refine ev_sipush d_Loans_init_5 rfl ?_
  obtain ⟨M1, hM1, h⟩ := ltx h
  refine ev_newI' tw_61 d_Loans_init_8 ⟨by decide, by decide⟩ hM1 ?_
  obtain ⟨M2, hM2, h⟩ := ltx h
  refine ev_putF' (t := 4) (k := 0) (by decide) (by decide) rfl i_Loans t_Loans_ok n_Loans (by decide) rfl rfl rfl rfl rfl rfl tw_208 d_Loans_init_10 hn_a0 hM2 ?_
  refine ev_aload_n 0 d_Loans_init_13 rfl (by decide) rfl ?_
  refine ev_sipush d_Loans_init_14 rfl ?_
  obtain ⟨M3, hM3, h⟩ := ltx h
  refine ev_newI' tw_61 d_Loans_init_17 ⟨by decide, by decide⟩ hM3 ?_
  obtain ⟨M4, hM4, h⟩ := ltx h
  refine ev_putF' (t := 4) (k := 1) (by decide) (by decide) rfl i_Loans t_Loans_ok n_Loans (by decide) rfl rfl rfl rfl rfl rfl tw_209 d_Loans_init_19 hn_a0 hM4 ?_
  refine ev_aload_n 0 d_Loans_init_22 rfl (by decide) rfl ?_
  refine ev_sipush d_Loans_init_23 rfl ?_
  obtain ⟨M5, hM5, h⟩ := ltx h
  refine ev_newI' tw_61 d_Loans_init_26 ⟨by decide, by decide⟩ hM5 ?_
  obtain ⟨M6, hM6, h⟩ := ltx h
  refine ev_putF' (t := 4) (k := 2) (by decide) (by decide) rfl i_Loans t_Loans_ok n_Loans (by decide) rfl rfl rfl rfl rfl rfl tw_210 d_Loans_init_28 hn_a0 hM6 ?_
  refine ev_aload_n 0 d_Loans_init_31 rfl (by decide) rfl ?_
  refine ev_bipush d_Loans_init_32 rfl ?_
  obtain ⟨M7, hM7, h⟩ := ltx h
  refine ev_newI' tw_61 d_Loans_init_34 ⟨by decide, by decide⟩ hM7 ?_
  obtain ⟨M8, hM8, h⟩ := ltx h
  refine ev_putF' (t := 4) (k := 3) (by decide) (by decide) rfl i_Loans t_Loans_ok n_Loans (by decide) rfl rfl rfl rfl rfl rfl tw_211 d_Loans_init_36 hn_a0 hM8 ?_
  refine ev_aload_n 0 d_Loans_init_39 rfl (by decide) rfl ?_
  refine ev_bipush d_Loans_init_40 rfl ?_
  obtain ⟨M9, hM9, h⟩ := ltx h
  refine ev_newI' tw_61 d_Loans_init_42 ⟨by decide, by decide⟩ hM9 ?_
  obtain ⟨M10, hM10, h⟩ := ltx h
  refine ev_putF' (t := 4) (k := 4) (by decide) (by decide) rfl i_Loans t_Loans_ok n_Loans (by decide) rfl rfl rfl rfl rfl rfl tw_212 d_Loans_init_44 hn_a0 hM10 ?_
  cases h
  exact ev_retV d_Loans_init_47 rfl
def f_Loans_note (M : Mm) (a0 : Int) (a1 : Int) (a2 : Int) (a3 : Int) : Option (Int × Mm) :=
  if (mg M (cI a0) 5) < 200 then
  if (mg M (cI a0) 0) ≠ 0 then
  if (0 : Int) ≤ (mg M (cI a0) 5) ∧ (mg M (cI a0) 5) < (ml M (cI (mg M (cI a0) 0)) : Int) then
  lt (mp M (cI (mg M (cI a0) 0)) ((mg M (cI a0) 5) : Int).toNat a1) (fun M4 =>
  if (mg M4 (cI a0) 1) ≠ 0 then
  if (0 : Int) ≤ (mg M4 (cI a0) 5) ∧ (mg M4 (cI a0) 5) < (ml M4 (cI (mg M4 (cI a0) 1)) : Int) then
  lt (mp M4 (cI (mg M4 (cI a0) 1)) ((mg M4 (cI a0) 5) : Int).toNat a2) (fun M7 =>
  if (mg M7 (cI a0) 2) ≠ 0 then
  if (0 : Int) ≤ (mg M7 (cI a0) 5) ∧ (mg M7 (cI a0) 5) < (ml M7 (cI (mg M7 (cI a0) 2)) : Int) then
  lt (mp M7 (cI (mg M7 (cI a0) 2)) ((mg M7 (cI a0) 5) : Int).toNat a3) (fun M10 =>
  lt (mp M10 (cI a0) 5 (w32 ((mg M10 (cI a0) 5) + 1))) (fun M11 =>
  some ((w32 ((mg M11 (cI a0) 5) - 1)), M11)))
  else none
  else none)
  else none
  else none)
  else none
  else none
  else
  some ((-1), M)
theorem c_Loans_note {X : XX} {d : Nat} (hd : 0 ≤ d) {M : Mm} {a0 : Int} {a1 : Int} {a2 : Int} {a3 : Int} (hn_a0 : a0 ≠ 0) {p : Int × Mm} (h : f_Loans_note M a0 a1 a2 a3 = some p) : Rn X d m_Loans_note [(4, a0), (0, a1), (0, a2), (0, a3)] M (some (0, p.1)) p.2 := by
  refine Rn_of (by decide) rfl (Nat.le_of_ble_eq_true rfl) ?_
  unfold f_Loans_note at h
  refine ev_less (L' := [(0, (4, a0)), (1, (0, a1)), (2, (0, a2)), (3, (0, a3))]) [0, 1, 2, 3] rfl ?_
  refine ev_aload_n 0 d_Loans_note_0 rfl (by decide) rfl ?_
  refine ev_get (t := 4) (k := 5) (by decide) (by decide) rfl i_Loans (by decide) rfl rfl tw_213 d_Loans_note_1 hn_a0 ?_
  refine ev_sipush d_Loans_note_4 rfl ?_
  by_cases hc1 : (mg M (cI a0) 5) < 200
  · replace h := itp hc1 h
    refine ev_icmp_lt_t (tgt := 12) d_Loans_note_7 (by decide) hc1 ?_
    refine ev_aload_n 0 d_Loans_note_12 rfl (by decide) rfl ?_
    refine ev_get (t := 4) (k := 0) (by decide) (by decide) rfl i_Loans (by decide) rfl rfl tw_208 d_Loans_note_13 hn_a0 ?_
    refine ev_aload_n 0 d_Loans_note_16 rfl (by decide) rfl ?_
    refine ev_get (t := 4) (k := 5) (by decide) (by decide) rfl i_Loans (by decide) rfl rfl tw_213 d_Loans_note_17 hn_a0 ?_
    refine ev_iload_n 1 d_Loans_note_20 rfl rfl ?_
    obtain ⟨hz2, h⟩ := gx h
    obtain ⟨hg3, h⟩ := gx h
    obtain ⟨M4, hM4, h⟩ := ltx h
    refine ev_iast' d_Loans_note_21 hz2 hg3 hM4 ?_
    refine ev_aload_n 0 d_Loans_note_22 rfl (by decide) rfl ?_
    refine ev_get (t := 4) (k := 1) (by decide) (by decide) rfl i_Loans (by decide) rfl rfl tw_209 d_Loans_note_23 hn_a0 ?_
    refine ev_aload_n 0 d_Loans_note_26 rfl (by decide) rfl ?_
    refine ev_get (t := 4) (k := 5) (by decide) (by decide) rfl i_Loans (by decide) rfl rfl tw_213 d_Loans_note_27 hn_a0 ?_
    refine ev_iload_n 2 d_Loans_note_30 rfl rfl ?_
    obtain ⟨hz5, h⟩ := gx h
    obtain ⟨hg6, h⟩ := gx h
    obtain ⟨M7, hM7, h⟩ := ltx h
    refine ev_iast' d_Loans_note_31 hz5 hg6 hM7 ?_
    refine ev_aload_n 0 d_Loans_note_32 rfl (by decide) rfl ?_
    refine ev_get (t := 4) (k := 2) (by decide) (by decide) rfl i_Loans (by decide) rfl rfl tw_210 d_Loans_note_33 hn_a0 ?_
    refine ev_aload_n 0 d_Loans_note_36 rfl (by decide) rfl ?_
    refine ev_get (t := 4) (k := 5) (by decide) (by decide) rfl i_Loans (by decide) rfl rfl tw_213 d_Loans_note_37 hn_a0 ?_
    refine ev_iload_n 3 d_Loans_note_40 rfl rfl ?_
    obtain ⟨hz8, h⟩ := gx h
    obtain ⟨hg9, h⟩ := gx h
    obtain ⟨M10, hM10, h⟩ := ltx h
    refine ev_iast' d_Loans_note_41 hz8 hg9 hM10 ?_
    refine ev_aload_n 0 d_Loans_note_42 rfl (by decide) rfl ?_
    refine ev_dup d_Loans_note_43 (Nat.ne_of_beq_eq_false rfl) ?_
    refine ev_get (t := 4) (k := 5) (by decide) (by decide) rfl i_Loans (by decide) rfl rfl tw_213 d_Loans_note_44 hn_a0 ?_
    refine ev_iconst d_Loans_note_47 rfl ?_
    refine ev_iadd d_Loans_note_48 ?_
    obtain ⟨M11, hM11, h⟩ := ltx h
    refine ev_put' (t := 4) (k := 5) (by decide) (by decide) rfl i_Loans t_Loans_ok n_Loans (by decide) rfl rfl rfl rfl tw_213 d_Loans_note_49 hn_a0 hM11 ?_
    refine ev_aload_n 0 d_Loans_note_52 rfl (by decide) rfl ?_
    refine ev_get (t := 4) (k := 5) (by decide) (by decide) rfl i_Loans (by decide) rfl rfl tw_213 d_Loans_note_53 hn_a0 ?_
    refine ev_iconst d_Loans_note_56 rfl ?_
    refine ev_isub d_Loans_note_57 ?_
    cases h
    exact ev_ret d_Loans_note_58 rfl
  · replace h := itn hc1 h
    refine ev_icmp_lt_f d_Loans_note_7 (by decide) hc1 ?_
    refine ev_iconst d_Loans_note_10 rfl ?_
    cases h
    exact ev_ret d_Loans_note_11 rfl
def l_Loans_settle_18 (a0 : Int) (a1 : Int) (a2 : Int) (s : Int × Mm) : Option ((Int × Mm) ⊕ (Mm)) :=
  if a2 ≤ s.1 then
  some (.inr s.2)
  else
  if (mg s.2 (cI a0) 5) ≤ s.1 then
  some (.inr s.2)
  else
  if (mg s.2 (cI a0) 0) ≠ 0 then
  if (0 : Int) ≤ s.1 ∧ s.1 < (ml s.2 (cI (mg s.2 (cI a0) 0)) : Int) then
  lt ((mg s.2 (cI (mg s.2 (cI a0) 0)) (s.1 : Int).toNat)) (fun x9 : Int =>
  if (mg s.2 (cI a0) 1) ≠ 0 then
  if (0 : Int) ≤ s.1 ∧ s.1 < (ml s.2 (cI (mg s.2 (cI a0) 1)) : Int) then
  if a1 < (mg s.2 (cI (mg s.2 (cI a0) 1)) (s.1 : Int).toNat) then
  lt (w32 (s.1 + 1)) (fun x13 : Int =>
  some (.inl (x13, s.2)))
  else
  if (mg s.2 (cI a0) 3) ≠ 0 then
  if (0 : Int) ≤ x9 ∧ x9 < (ml s.2 (cI (mg s.2 (cI a0) 3)) : Int) then
  if (mg s.2 (cI (mg s.2 (cI a0) 1)) (s.1 : Int).toNat) < (mg s.2 (cI (mg s.2 (cI a0) 3)) (x9 : Int).toNat) then
  lt (w32 (s.1 + 1)) (fun x17 : Int =>
  some (.inl (x17, s.2)))
  else
  lt (mp s.2 (cI (mg s.2 (cI a0) 3)) (x9 : Int).toNat (mg s.2 (cI (mg s.2 (cI a0) 1)) (s.1 : Int).toNat)) (fun M18 =>
  if (mg M18 (cI a0) 2) ≠ 0 then
  if (0 : Int) ≤ s.1 ∧ s.1 < (ml M18 (cI (mg M18 (cI a0) 2)) : Int) then
  if (mg M18 (cI a0) 4) ≠ 0 then
  if (0 : Int) ≤ x9 ∧ x9 < (ml M18 (cI (mg M18 (cI a0) 4)) : Int) then
  lt (mp M18 (cI (mg M18 (cI a0) 4)) (x9 : Int).toNat (mg M18 (cI (mg M18 (cI a0) 2)) (s.1 : Int).toNat)) (fun M23 =>
  lt (w32 (s.1 + 1)) (fun x24 : Int =>
  some (.inl (x24, M23))))
  else none
  else none
  else none
  else none)
  else none
  else none
  else none
  else none)
  else none
  else none
theorem cs_l_Loans_settle_18 {X : XX} {d : Nat} (hd : 1 ≤ d) {a0 : Int} {a1 : Int} {a2 : Int} (hn_a0 : a0 ≠ 0) {s : Int × Mm} {x : (Int × Mm) ⊕ (Mm)} {r : Option AV} {M' : Mm} (h : l_Loans_settle_18 a0 a1 a2 s = some x) (hk1 : ∀ s : Int × Mm, x = .inl s → Ev X m_Loans_settle d 18 [(0, (4, a0)), (1, (0, a1)), (2, (0, a2)), (3, (0, s.1))] [] s.2 r M') (hk2 : ∀ t : Mm, x = .inr t → Ev X m_Loans_settle d 97 [] [] t r M') : Ev X m_Loans_settle d 18 [(0, (4, a0)), (1, (0, a1)), (2, (0, a2)), (3, (0, s.1))] [] s.2 r M' := by
  unfold l_Loans_settle_18 at h
  refine ev_iload_n 3 d_Loans_settle_18 rfl rfl ?_
  refine ev_iload_n 2 d_Loans_settle_19 rfl rfl ?_
  by_cases hc5 : a2 ≤ s.1
  · replace h := itp hc5 h
    refine ev_icmp_ge_t (tgt := 97) d_Loans_settle_20 (by decide) hc5 ?_
    refine ev_less (L' := []) [] rfl ?_
    cases h
    exact hk2 _ rfl
  · replace h := itn hc5 h
    refine ev_icmp_ge_f d_Loans_settle_20 (by decide) hc5 ?_
    refine ev_iload_n 3 d_Loans_settle_23 rfl rfl ?_
    refine ev_aload_n 0 d_Loans_settle_24 rfl (by decide) rfl ?_
    refine ev_get (t := 4) (k := 5) (by decide) (by decide) rfl i_Loans (by decide) rfl rfl tw_213 d_Loans_settle_25 hn_a0 ?_
    by_cases hc6 : (mg s.2 (cI a0) 5) ≤ s.1
    · replace h := itp hc6 h
      refine ev_icmp_ge_t (tgt := 97) d_Loans_settle_28 (by decide) hc6 ?_
      refine ev_less (L' := []) [] rfl ?_
      cases h
      exact hk2 _ rfl
    · replace h := itn hc6 h
      refine ev_icmp_ge_f d_Loans_settle_28 (by decide) hc6 ?_
      refine ev_aload_n 0 d_Loans_settle_31 rfl (by decide) rfl ?_
      refine ev_get (t := 4) (k := 0) (by decide) (by decide) rfl i_Loans (by decide) rfl rfl tw_208 d_Loans_settle_32 hn_a0 ?_
      refine ev_iload_n 3 d_Loans_settle_35 rfl rfl ?_
      obtain ⟨hz7, h⟩ := gx h
      obtain ⟨hg8, h⟩ := gx h
      refine ev_iald d_Loans_settle_36 hz7 hg8 ?_
      obtain ⟨x9, hx9, h⟩ := ltx h
      refine ev_istore' (y := x9) (L' := [(4, (0, x9)), (0, (4, a0)), (1, (0, a1)), (2, (0, a2)), (3, (0, s.1))]) d_Loans_settle_37 (by decide) rfl hx9 ?_
      refine ev_aload_n 1 d_Loans_settle_39 rfl (by decide) rfl ?_
      refine ev_get (t := 4) (k := 1) (by decide) (by decide) rfl i_Loans (by decide) rfl rfl tw_209 d_Loans_settle_40 hn_a0 ?_
      refine ev_iload_n 4 d_Loans_settle_43 rfl rfl ?_
      obtain ⟨hz10, h⟩ := gx h
      obtain ⟨hg11, h⟩ := gx h
      refine ev_iald d_Loans_settle_44 hz10 hg11 ?_
      refine ev_iload_n 2 d_Loans_settle_45 rfl rfl ?_
      by_cases hc12 : a1 < (mg s.2 (cI (mg s.2 (cI a0) 1)) (s.1 : Int).toNat)
      · replace h := itp hc12 h
        refine ev_icmp_gt_t (tgt := 91) d_Loans_settle_46 (by decide) hc12 ?_
        obtain ⟨x13, hx13, h⟩ := ltx h
        refine ev_iinc' 4 (y := x13) (L' := [(3, (0, x13)), (4, (0, x9)), (0, (4, a0)), (1, (0, a1)), (2, (0, a2))]) d_Loans_settle_91 rfl (by decide) rfl hx13 ?_
        refine ev_goto (tgt := 18) d_Loans_settle_94 (by decide) ?_
        refine ev_less (L' := [(0, (4, a0)), (1, (0, a1)), (2, (0, a2)), (3, (0, x13))]) [2, 3, 4, 0] rfl ?_
        cases h
        exact hk1 _ rfl
      · replace h := itn hc12 h
        refine ev_icmp_gt_f d_Loans_settle_46 (by decide) hc12 ?_
        refine ev_aload_n 1 d_Loans_settle_49 rfl (by decide) rfl ?_
        refine ev_get (t := 4) (k := 1) (by decide) (by decide) rfl i_Loans (by decide) rfl rfl tw_209 d_Loans_settle_50 hn_a0 ?_
        refine ev_iload_n 4 d_Loans_settle_53 rfl rfl ?_
        refine ev_iald d_Loans_settle_54 hz10 hg11 ?_
        refine ev_aload_n 1 d_Loans_settle_55 rfl (by decide) rfl ?_
        refine ev_get (t := 4) (k := 3) (by decide) (by decide) rfl i_Loans (by decide) rfl rfl tw_211 d_Loans_settle_56 hn_a0 ?_
        refine ev_iload 0 d_Loans_settle_59 rfl ?_
        obtain ⟨hz14, h⟩ := gx h
        obtain ⟨hg15, h⟩ := gx h
        refine ev_iald d_Loans_settle_61 hz14 hg15 ?_
        by_cases hc16 : (mg s.2 (cI (mg s.2 (cI a0) 1)) (s.1 : Int).toNat) < (mg s.2 (cI (mg s.2 (cI a0) 3)) (x9 : Int).toNat)
        · replace h := itp hc16 h
          refine ev_icmp_lt_t (tgt := 91) d_Loans_settle_62 (by decide) hc16 ?_
          obtain ⟨x17, hx17, h⟩ := ltx h
          refine ev_iinc' 4 (y := x17) (L' := [(3, (0, x17)), (4, (0, x9)), (0, (4, a0)), (1, (0, a1)), (2, (0, a2))]) d_Loans_settle_91 rfl (by decide) rfl hx17 ?_
          refine ev_goto (tgt := 18) d_Loans_settle_94 (by decide) ?_
          refine ev_less (L' := [(0, (4, a0)), (1, (0, a1)), (2, (0, a2)), (3, (0, x17))]) [2, 3, 4, 0] rfl ?_
          cases h
          exact hk1 _ rfl
        · replace h := itn hc16 h
          refine ev_icmp_lt_f d_Loans_settle_62 (by decide) hc16 ?_
          refine ev_aload_n 1 d_Loans_settle_65 rfl (by decide) rfl ?_
          refine ev_get (t := 4) (k := 3) (by decide) (by decide) rfl i_Loans (by decide) rfl rfl tw_211 d_Loans_settle_66 hn_a0 ?_
          refine ev_iload 0 d_Loans_settle_69 rfl ?_
          refine ev_aload_n 1 d_Loans_settle_71 rfl (by decide) rfl ?_
          refine ev_get (t := 4) (k := 1) (by decide) (by decide) rfl i_Loans (by decide) rfl rfl tw_209 d_Loans_settle_72 hn_a0 ?_
          refine ev_iload_n 4 d_Loans_settle_75 rfl rfl ?_
          refine ev_iald d_Loans_settle_76 hz10 hg11 ?_
          obtain ⟨M18, hM18, h⟩ := ltx h
          refine ev_iast' d_Loans_settle_77 hz14 hg15 hM18 ?_
          refine ev_aload_n 1 d_Loans_settle_78 rfl (by decide) rfl ?_
          refine ev_get (t := 4) (k := 4) (by decide) (by decide) rfl i_Loans (by decide) rfl rfl tw_212 d_Loans_settle_79 hn_a0 ?_
          refine ev_iload 0 d_Loans_settle_82 rfl ?_
          refine ev_aload_n 1 d_Loans_settle_84 rfl (by decide) rfl ?_
          refine ev_get (t := 4) (k := 2) (by decide) (by decide) rfl i_Loans (by decide) rfl rfl tw_210 d_Loans_settle_85 hn_a0 ?_
          refine ev_iload_n 4 d_Loans_settle_88 rfl rfl ?_
          obtain ⟨hz19, h⟩ := gx h
          obtain ⟨hg20, h⟩ := gx h
          refine ev_iald d_Loans_settle_89 hz19 hg20 ?_
          obtain ⟨hz21, h⟩ := gx h
          obtain ⟨hg22, h⟩ := gx h
          obtain ⟨M23, hM23, h⟩ := ltx h
          refine ev_iast' d_Loans_settle_90 hz21 hg22 hM23 ?_
          obtain ⟨x24, hx24, h⟩ := ltx h
          refine ev_iinc' 4 (y := x24) (L' := [(3, (0, x24)), (4, (0, x9)), (0, (4, a0)), (1, (0, a1)), (2, (0, a2))]) d_Loans_settle_91 rfl (by decide) rfl hx24 ?_
          refine ev_goto (tgt := 18) d_Loans_settle_94 (by decide) ?_
          refine ev_less (L' := [(0, (4, a0)), (1, (0, a1)), (2, (0, a2)), (3, (0, x24))]) [2, 3, 4, 0] rfl ?_
          cases h
          exact hk1 _ rfl
def f_Loans_settle (M : Mm) (a0 : Int) (a1 : Int) (a2 : Int) : Option (Mm) :=
  if (mg M (cI a0) 3) ≠ 0 then
  (f_Arrays_fillI M (mg M (cI a0) 3) (-1)).bind (fun p2 =>
  if (mg p2 (cI a0) 4) ≠ 0 then
  (f_Arrays_fillI p2 (mg p2 (cI a0) 4) (-1)).bind (fun p4 =>
  (loopN (l_Loans_settle_18 a0 a1 a2) FU (0, p4)).bind (fun t25 =>
  some t25))
  else none)
  else none
theorem c_Loans_settle {X : XX} {d : Nat} (hd : 1 ≤ d) {M : Mm} {a0 : Int} {a1 : Int} {a2 : Int} (hn_a0 : a0 ≠ 0) {p : Mm} (h : f_Loans_settle M a0 a1 a2 = some p) : Rn X d m_Loans_settle [(4, a0), (0, a1), (0, a2)] M none p := by
  refine Rn_of (by decide) rfl (Nat.le_of_ble_eq_true rfl) ?_
  unfold f_Loans_settle at h
  refine ev_less (L' := [(0, (4, a0)), (1, (0, a1)), (2, (0, a2))]) [0, 1, 2] rfl ?_
  refine ev_aload_n 0 d_Loans_settle_0 rfl (by decide) rfl ?_
  refine ev_get (t := 4) (k := 3) (by decide) (by decide) rfl i_Loans (by decide) rfl rfl tw_211 d_Loans_settle_1 hn_a0 ?_
  refine ev_iconst d_Loans_settle_4 rfl ?_
  obtain ⟨hz1, h⟩ := gx h
  obtain ⟨p2, hp2, h⟩ := bx h
  have hRp2 := c_Arrays_fillI (X := X) (d := d - 1) (by omega) hz1 hp2
  refine ev_callS2 (st2 := []) (as := [(13, (mg M (cI a0) 3)), (0, (-1))]) (rest := []) rfl rfl (Nat.le_of_ble_eq_true rfl) k_Arrays_fillI tw_34 (by omega) tw_836 d_Loans_settle_5 hRp2 rfl ?_
  refine ev_aload_n 0 d_Loans_settle_8 rfl (by decide) rfl ?_
  refine ev_get (t := 4) (k := 4) (by decide) (by decide) rfl i_Loans (by decide) rfl rfl tw_212 d_Loans_settle_9 hn_a0 ?_
  refine ev_iconst d_Loans_settle_12 rfl ?_
  obtain ⟨hz3, h⟩ := gx h
  obtain ⟨p4, hp4, h⟩ := bx h
  have hRp4 := c_Arrays_fillI (X := X) (d := d - 1) (by omega) hz3 hp4
  refine ev_callS2 (st2 := []) (as := [(13, (mg p2 (cI a0) 4)), (0, (-1))]) (rest := []) rfl rfl (Nat.le_of_ble_eq_true rfl) k_Arrays_fillI tw_34 (by omega) tw_836 d_Loans_settle_13 hRp4 rfl ?_
  refine ev_iconst d_Loans_settle_16 rfl ?_
  refine ev_istore_n (L' := [(3, (0, 0)), (0, (4, a0)), (1, (0, a1)), (2, (0, a2))]) d_Loans_settle_17 rfl (by decide) rfl ?_
  obtain ⟨t25, ht25, h⟩ := bx h
  refine ev_less (L' := [(0, (4, a0)), (1, (0, a1)), (2, (0, a2)), (3, (0, 0))]) [1, 2, 3, 0] rfl ?_
  refine loop_ev (step := l_Loans_settle_18 a0 a1 a2) (P := fun w : Int × Mm => Ev X m_Loans_settle d 18 [(0, (4, a0)), (1, (0, a1)), (2, (0, a2)), (3, (0, w.1))] [] w.2 none p) (Q := fun w => Ev X m_Loans_settle d 97 [] [] w none p) (fun w x hs k1 k2 => cs_l_Loans_settle_18 hd hn_a0 hs k1 k2) FU (0, p4) t25 ht25 ?_
  cases h
  exact ev_retV d_Loans_settle_97 rfl
def f_Loans_placeOf (M : Mm) (a0 : Int) (a1 : Int) (a2 : Int) (a3 : Int) : Option (Int × Mm) :=
  (f_Loans_settle M a0 a2 a3).bind (fun p1 =>
  if (mg p1 (cI a0) 4) ≠ 0 then
  if (0 : Int) ≤ a1 ∧ a1 < (ml p1 (cI (mg p1 (cI a0) 4)) : Int) then
  some ((mg p1 (cI (mg p1 (cI a0) 4)) (a1 : Int).toNat), p1)
  else none
  else none)
theorem c_Loans_placeOf {X : XX} {d : Nat} (hd : 2 ≤ d) {M : Mm} {a0 : Int} {a1 : Int} {a2 : Int} {a3 : Int} (hn_a0 : a0 ≠ 0) {p : Int × Mm} (h : f_Loans_placeOf M a0 a1 a2 a3 = some p) : Rn X d m_Loans_placeOf [(4, a0), (0, a1), (0, a2), (0, a3)] M (some (0, p.1)) p.2 := by
  refine Rn_of (by decide) rfl (Nat.le_of_ble_eq_true rfl) ?_
  unfold f_Loans_placeOf at h
  refine ev_less (L' := [(0, (4, a0)), (1, (0, a1)), (2, (0, a2)), (3, (0, a3))]) [0, 1, 2, 3] rfl ?_
  refine ev_aload_n 0 d_Loans_placeOf_0 rfl (by decide) rfl ?_
  refine ev_iload_n 2 d_Loans_placeOf_1 rfl rfl ?_
  refine ev_iload_n 3 d_Loans_placeOf_2 rfl rfl ?_
  obtain ⟨p1, hp1, h⟩ := bx h
  have hRp1 := c_Loans_settle (X := X) (d := d - 1) (by omega) hn_a0 hp1
  refine ev_callV2 (st2 := []) (as := [(0, a2), (0, a3)]) (rest := []) rfl (by decide) (by decide) rfl hn_a0 rfl (Nat.le_of_ble_eq_true rfl) k_Loans_settle ⟨tw_834, ts_67⟩ (by omega) tw_832 d_Loans_placeOf_3 hRp1 rfl ?_
  refine ev_aload_n 0 d_Loans_placeOf_6 rfl (by decide) rfl ?_
  refine ev_get (t := 4) (k := 4) (by decide) (by decide) rfl i_Loans (by decide) rfl rfl tw_212 d_Loans_placeOf_7 hn_a0 ?_
  refine ev_iload_n 1 d_Loans_placeOf_10 rfl rfl ?_
  obtain ⟨hz2, h⟩ := gx h
  obtain ⟨hg3, h⟩ := gx h
  refine ev_iald d_Loans_placeOf_11 hz2 hg3 ?_
  cases h
  exact ev_ret d_Loans_placeOf_12 rfl
def l_Loans_copiesAt_12 (M : Mm) (a0 : Int) (a1 : Int) (s : Int × Int) : Option ((Int × Int) ⊕ (Int)) :=
  if 30 ≤ s.2 then
  some (.inr s.1)
  else
  if (mg M (cI a0) 4) ≠ 0 then
  if (0 : Int) ≤ s.2 ∧ s.2 < (ml M (cI (mg M (cI a0) 4)) : Int) then
  if (mg M (cI (mg M (cI a0) 4)) (s.2 : Int).toNat) ≠ a1 then
  lt (w32 (s.2 + 1)) (fun x6 : Int =>
  some (.inl (s.1, x6)))
  else
  lt (w32 (s.1 + 1)) (fun x7 : Int =>
  lt (w32 (s.2 + 1)) (fun x8 : Int =>
  some (.inl (x7, x8))))
  else none
  else none
theorem cs_l_Loans_copiesAt_12 {X : XX} {d : Nat} (hd : 2 ≤ d) {M : Mm} {a0 : Int} {a1 : Int} (hn_a0 : a0 ≠ 0) {s : Int × Int} {x : (Int × Int) ⊕ (Int)} {r : Option AV} {M' : Mm} (h : l_Loans_copiesAt_12 M a0 a1 s = some x) (hk1 : ∀ s : Int × Int, x = .inl s → Ev X m_Loans_copiesAt d 12 [(0, (4, a0)), (1, (0, a1)), (4, (0, s.1)), (5, (0, s.2))] [] M r M') (hk2 : ∀ t : Int, x = .inr t → Ev X m_Loans_copiesAt d 39 [(4, (0, t))] [] M r M') : Ev X m_Loans_copiesAt d 12 [(0, (4, a0)), (1, (0, a1)), (4, (0, s.1)), (5, (0, s.2))] [] M r M' := by
  unfold l_Loans_copiesAt_12 at h
  refine ev_iload 3 d_Loans_copiesAt_12 rfl ?_
  refine ev_bipush d_Loans_copiesAt_14 rfl ?_
  by_cases hc2 : 30 ≤ s.2
  · replace h := itp hc2 h
    refine ev_icmp_ge_t (tgt := 39) d_Loans_copiesAt_16 (by decide) hc2 ?_
    refine ev_less (L' := [(4, (0, s.1))]) [2] rfl ?_
    cases h
    exact hk2 _ rfl
  · replace h := itn hc2 h
    refine ev_icmp_ge_f d_Loans_copiesAt_16 (by decide) hc2 ?_
    refine ev_aload_n 0 d_Loans_copiesAt_19 rfl (by decide) rfl ?_
    refine ev_get (t := 4) (k := 4) (by decide) (by decide) rfl i_Loans (by decide) rfl rfl tw_212 d_Loans_copiesAt_20 hn_a0 ?_
    refine ev_iload 3 d_Loans_copiesAt_23 rfl ?_
    obtain ⟨hz3, h⟩ := gx h
    obtain ⟨hg4, h⟩ := gx h
    refine ev_iald d_Loans_copiesAt_25 hz3 hg4 ?_
    refine ev_iload_n 1 d_Loans_copiesAt_26 rfl rfl ?_
    by_cases hc5 : (mg M (cI (mg M (cI a0) 4)) (s.2 : Int).toNat) ≠ a1
    · replace h := itp hc5 h
      refine ev_icmp_ne_t (tgt := 33) d_Loans_copiesAt_27 (by decide) hc5 ?_
      obtain ⟨x6, hx6, h⟩ := ltx h
      refine ev_iinc' 3 (y := x6) (L' := [(5, (0, x6)), (0, (4, a0)), (1, (0, a1)), (4, (0, s.1))]) d_Loans_copiesAt_33 rfl (by decide) rfl hx6 ?_
      refine ev_goto (tgt := 12) d_Loans_copiesAt_36 (by decide) ?_
      refine ev_less (L' := [(0, (4, a0)), (1, (0, a1)), (4, (0, s.1)), (5, (0, x6))]) [1, 2, 3, 0] rfl ?_
      cases h
      exact hk1 _ rfl
    · replace h := itn hc5 h
      refine ev_icmp_ne_f d_Loans_copiesAt_27 (by decide) hc5 ?_
      obtain ⟨x7, hx7, h⟩ := ltx h
      refine ev_iinc' 2 (y := x7) (L' := [(4, (0, x7)), (0, (4, a0)), (1, (0, a1)), (5, (0, s.2))]) d_Loans_copiesAt_30 rfl (by decide) rfl hx7 ?_
      obtain ⟨x8, hx8, h⟩ := ltx h
      refine ev_iinc' 3 (y := x8) (L' := [(5, (0, x8)), (4, (0, x7)), (0, (4, a0)), (1, (0, a1))]) d_Loans_copiesAt_33 rfl (by decide) rfl hx8 ?_
      refine ev_goto (tgt := 12) d_Loans_copiesAt_36 (by decide) ?_
      refine ev_less (L' := [(0, (4, a0)), (1, (0, a1)), (4, (0, x7)), (5, (0, x8))]) [2, 3, 1, 0] rfl ?_
      cases h
      exact hk1 _ rfl
def f_Loans_copiesAt (M : Mm) (a0 : Int) (a1 : Int) (a2 : Int) (a3 : Int) : Option (Int × Mm) :=
  (f_Loans_settle M a0 a2 a3).bind (fun p1 =>
  (loopN (l_Loans_copiesAt_12 p1 a0 a1) FU (0, 0)).bind (fun t9 =>
  some (t9, p1)))
theorem c_Loans_copiesAt {X : XX} {d : Nat} (hd : 2 ≤ d) {M : Mm} {a0 : Int} {a1 : Int} {a2 : Int} {a3 : Int} (hn_a0 : a0 ≠ 0) {p : Int × Mm} (h : f_Loans_copiesAt M a0 a1 a2 a3 = some p) : Rn X d m_Loans_copiesAt [(4, a0), (0, a1), (0, a2), (0, a3)] M (some (0, p.1)) p.2 := by
  refine Rn_of (by decide) rfl (Nat.le_of_ble_eq_true rfl) ?_
  unfold f_Loans_copiesAt at h
  refine ev_less (L' := [(0, (4, a0)), (1, (0, a1)), (2, (0, a2)), (3, (0, a3))]) [0, 1, 2, 3] rfl ?_
  refine ev_aload_n 0 d_Loans_copiesAt_0 rfl (by decide) rfl ?_
  refine ev_iload_n 2 d_Loans_copiesAt_1 rfl rfl ?_
  refine ev_iload_n 3 d_Loans_copiesAt_2 rfl rfl ?_
  obtain ⟨p1, hp1, h⟩ := bx h
  have hRp1 := c_Loans_settle (X := X) (d := d - 1) (by omega) hn_a0 hp1
  refine ev_callV2 (st2 := []) (as := [(0, a2), (0, a3)]) (rest := []) rfl (by decide) (by decide) rfl hn_a0 rfl (Nat.le_of_ble_eq_true rfl) k_Loans_settle ⟨tw_834, ts_67⟩ (by omega) tw_832 d_Loans_copiesAt_3 hRp1 rfl ?_
  refine ev_iconst d_Loans_copiesAt_6 rfl ?_
  refine ev_istore (L' := [(4, (0, 0)), (0, (4, a0)), (1, (0, a1)), (2, (0, a2)), (3, (0, a3))]) d_Loans_copiesAt_7 (by decide) rfl ?_
  refine ev_iconst d_Loans_copiesAt_9 rfl ?_
  refine ev_istore (L' := [(5, (0, 0)), (4, (0, 0)), (0, (4, a0)), (1, (0, a1)), (2, (0, a2)), (3, (0, a3))]) d_Loans_copiesAt_10 (by decide) rfl ?_
  obtain ⟨t9, ht9, h⟩ := bx h
  refine ev_less (L' := [(0, (4, a0)), (1, (0, a1)), (4, (0, 0)), (5, (0, 0))]) [2, 3, 1, 0] rfl ?_
  refine loop_ev (step := l_Loans_copiesAt_12 p1 a0 a1) (P := fun w : Int × Int => Ev X m_Loans_copiesAt d 12 [(0, (4, a0)), (1, (0, a1)), (4, (0, w.1)), (5, (0, w.2))] [] p1 (some (0, p.1)) p.2) (Q := fun w => Ev X m_Loans_copiesAt d 39 [(4, (0, w))] [] p1 (some (0, p.1)) p.2) (fun w x hs k1 k2 => cs_l_Loans_copiesAt_12 hd hn_a0 hs k1 k2) FU (0, 0) t9 ht9 ?_
  refine ev_iload 0 d_Loans_copiesAt_39 rfl ?_
  cases h
  exact ev_ret d_Loans_copiesAt_41 rfl
def f_Piece_hasPart (M : Mm) (a0 : Int) (a1 : Int) : Option (Int) :=
  if a1 < 0 then
  some 0
  else
  if (mg M (cI a0) 7) ≤ a1 then
  some 0
  else
  some 1
theorem c_Piece_hasPart {X : XX} {d : Nat} (hd : 0 ≤ d) {M : Mm} {a0 : Int} {a1 : Int} (hn_a0 : a0 ≠ 0) {p : Int} (h : f_Piece_hasPart M a0 a1 = some p) : Rn X d m_Piece_hasPart [(5, a0), (0, a1)] M (some (0, p)) M := by
  refine Rn_of (by decide) rfl (Nat.le_of_ble_eq_true rfl) ?_
  unfold f_Piece_hasPart at h
  refine ev_less (L' := [(0, (5, a0)), (1, (0, a1))]) [0, 1] rfl ?_
  refine ev_iload_n 1 d_Piece_hasPart_0 rfl rfl ?_
  by_cases hc1 : a1 < 0
  · replace h := itp hc1 h
    refine ev_if_lt_t (tgt := 16) d_Piece_hasPart_1 (by decide) hc1 ?_
    refine ev_iconst d_Piece_hasPart_16 rfl ?_
    cases h
    exact ev_retZ d_Piece_hasPart_17 rfl (Or.inl rfl)
  · replace h := itn hc1 h
    refine ev_if_lt_f d_Piece_hasPart_1 (by decide) hc1 ?_
    refine ev_iload_n 1 d_Piece_hasPart_4 rfl rfl ?_
    refine ev_aload_n 0 d_Piece_hasPart_5 rfl (by decide) rfl ?_
    refine ev_get (t := 5) (k := 7) (by decide) (by decide) rfl i_Piece (by decide) rfl rfl tw_92 d_Piece_hasPart_6 hn_a0 ?_
    by_cases hc2 : (mg M (cI a0) 7) ≤ a1
    · replace h := itp hc2 h
      refine ev_icmp_ge_t (tgt := 16) d_Piece_hasPart_9 (by decide) hc2 ?_
      refine ev_iconst d_Piece_hasPart_16 rfl ?_
      cases h
      exact ev_retZ d_Piece_hasPart_17 rfl (Or.inl rfl)
    · replace h := itn hc2 h
      refine ev_icmp_ge_f d_Piece_hasPart_9 (by decide) hc2 ?_
      refine ev_iconst d_Piece_hasPart_12 rfl ?_
      refine ev_goto (tgt := 17) d_Piece_hasPart_13 (by decide) ?_
      cases h
      exact ev_retZ d_Piece_hasPart_17 rfl (Or.inr rfl)
def j_Piece_partDetail_27 (M : Mm) (a0 : Int) (a1 : Int) : Option (Int) :=
  if a1 < 100 then
  some (-1)
  else
  (f_Piece_hasPart M a0 (iDiv (w32 (a1 - 100)) 10)).bind (fun p3 =>
  if p3 ≠ 0 then
  lt ((iDiv (w32 (a1 - 100)) 10)) (fun x5 : Int =>
  lt ((iRem (w32 (a1 - 100)) 10)) (fun x6 : Int =>
  if (mg M (cI a0) 0) ≠ 0 then
  if (0 : Int) ≤ x5 ∧ x5 < (ml M (cI (mg M (cI a0) 0)) : Int) then
  if (mg M (cI (mg M (cI a0) 0)) (x5 : Int).toNat) ≤ x6 then
  some (-1)
  else
  (f_Piece_instrument M a0 x5 x6).bind (fun p10 =>
  some p10)
  else none
  else none))
  else
  some (-1))
theorem cj_Piece_partDetail_27 {X : XX} {d : Nat} (hd : 1 ≤ d) {M : Mm} {a0 : Int} {a1 : Int} (hn_a0 : a0 ≠ 0) {p : Int} (h : j_Piece_partDetail_27 M a0 a1 = some p) : Ev X m_Piece_partDetail d 27 [(0, (5, a0)), (1, (0, a1))] [] M (some (0, p)) M := by
  unfold j_Piece_partDetail_27 at h
  refine ev_iload_n 1 d_Piece_partDetail_27 rfl rfl ?_
  refine ev_bipush d_Piece_partDetail_28 rfl ?_
  by_cases hc2 : a1 < 100
  · replace h := itp hc2 h
    refine ev_icmp_lt_t (tgt := 47) d_Piece_partDetail_30 (by decide) hc2 ?_
    refine ev_iconst d_Piece_partDetail_47 rfl ?_
    cases h
    exact ev_ret d_Piece_partDetail_48 rfl
  · replace h := itn hc2 h
    refine ev_icmp_lt_f d_Piece_partDetail_30 (by decide) hc2 ?_
    refine ev_aload_n 0 d_Piece_partDetail_33 rfl (by decide) rfl ?_
    refine ev_iload_n 1 d_Piece_partDetail_34 rfl rfl ?_
    refine ev_bipush d_Piece_partDetail_35 rfl ?_
    refine ev_isub d_Piece_partDetail_37 ?_
    refine ev_bipush d_Piece_partDetail_38 rfl ?_
    refine ev_idiv d_Piece_partDetail_40 (by decide) ?_
    obtain ⟨p3, hp3, h⟩ := bx h
    have hRp3 := c_Piece_hasPart (X := X) (d := d - 1) (by omega) hn_a0 hp3
    refine ev_callV2 (st2 := [(0, p3)]) (as := [(0, (iDiv (w32 (a1 - 100)) 10))]) (rest := []) rfl (by decide) (by decide) rfl hn_a0 rfl (Nat.le_of_ble_eq_true rfl) k_Piece_hasPart ⟨tw_606, ts_34⟩ (by omega) tw_604 d_Piece_partDetail_41 hRp3 rfl ?_
    by_cases hc4 : p3 ≠ 0
    · replace h := itp hc4 h
      refine ev_if_ne_t (tgt := 49) d_Piece_partDetail_44 (by decide) hc4 ?_
      refine ev_iload_n 1 d_Piece_partDetail_49 rfl rfl ?_
      refine ev_bipush d_Piece_partDetail_50 rfl ?_
      refine ev_isub d_Piece_partDetail_52 ?_
      refine ev_bipush d_Piece_partDetail_53 rfl ?_
      refine ev_idiv d_Piece_partDetail_55 (by decide) ?_
      obtain ⟨x5, hx5, h⟩ := ltx h
      refine ev_istore_n' (y := x5) (L' := [(2, (0, x5)), (0, (5, a0)), (1, (0, a1))]) d_Piece_partDetail_56 rfl (by decide) rfl hx5 ?_
      refine ev_iload_n 2 d_Piece_partDetail_57 rfl rfl ?_
      refine ev_bipush d_Piece_partDetail_58 rfl ?_
      refine ev_isub d_Piece_partDetail_60 ?_
      refine ev_bipush d_Piece_partDetail_61 rfl ?_
      refine ev_irem d_Piece_partDetail_63 (by decide) ?_
      obtain ⟨x6, hx6, h⟩ := ltx h
      refine ev_istore_n' (y := x6) (L' := [(3, (0, x6)), (2, (0, x5)), (0, (5, a0)), (1, (0, a1))]) d_Piece_partDetail_64 rfl (by decide) rfl hx6 ?_
      refine ev_iload_n 0 d_Piece_partDetail_65 rfl rfl ?_
      refine ev_aload_n 2 d_Piece_partDetail_66 rfl (by decide) rfl ?_
      refine ev_get (t := 5) (k := 0) (by decide) (by decide) rfl i_Piece (by decide) rfl rfl tw_75 d_Piece_partDetail_67 hn_a0 ?_
      refine ev_iload_n 1 d_Piece_partDetail_70 rfl rfl ?_
      obtain ⟨hz7, h⟩ := gx h
      obtain ⟨hg8, h⟩ := gx h
      refine ev_iald d_Piece_partDetail_71 hz7 hg8 ?_
      by_cases hc9 : (mg M (cI (mg M (cI a0) 0)) (x5 : Int).toNat) ≤ x6
      · replace h := itp hc9 h
        refine ev_icmp_ge_t (tgt := 84) d_Piece_partDetail_72 (by decide) hc9 ?_
        refine ev_iconst d_Piece_partDetail_84 rfl ?_
        cases h
        exact ev_ret d_Piece_partDetail_85 rfl
      · replace h := itn hc9 h
        refine ev_icmp_ge_f d_Piece_partDetail_72 (by decide) hc9 ?_
        refine ev_aload_n 2 d_Piece_partDetail_75 rfl (by decide) rfl ?_
        refine ev_iload_n 1 d_Piece_partDetail_76 rfl rfl ?_
        refine ev_iload_n 0 d_Piece_partDetail_77 rfl rfl ?_
        obtain ⟨p10, hp10, h⟩ := bx h
        have hRp10 := c_Piece_instrument (X := X) (d := d - 1) (by omega) hn_a0 hp10
        refine ev_callV2 (st2 := [(0, p10)]) (as := [(0, x5), (0, x6)]) (rest := []) rfl (by decide) (by decide) rfl hn_a0 rfl (Nat.le_of_ble_eq_true rfl) k_Piece_instrument ⟨tw_521, ts_19⟩ (by omega) tw_519 d_Piece_partDetail_78 hRp10 rfl ?_
        refine ev_goto (tgt := 85) d_Piece_partDetail_81 (by decide) ?_
        cases h
        exact ev_ret d_Piece_partDetail_85 rfl
    · replace h := itn hc4 h
      refine ev_if_ne_f d_Piece_partDetail_44 (by decide) hc4 ?_
      refine ev_iconst d_Piece_partDetail_47 rfl ?_
      cases h
      exact ev_ret d_Piece_partDetail_48 rfl
def f_Piece_partDetail (M : Mm) (a0 : Int) (a1 : Int) : Option (Int) :=
  if a1 < 10 then
  j_Piece_partDetail_27 M a0 a1
  else
  (f_Piece_hasPart M a0 (w32 (a1 - 10))).bind (fun p11 =>
  if p11 = 0 then
  j_Piece_partDetail_27 M a0 a1
  else
  if (mg M (cI a0) 0) ≠ 0 then
  if (0 : Int) ≤ (w32 (a1 - 10)) ∧ (w32 (a1 - 10)) < (ml M (cI (mg M (cI a0) 0)) : Int) then
  some (mg M (cI (mg M (cI a0) 0)) ((w32 (a1 - 10)) : Int).toNat)
  else none
  else none)
theorem c_Piece_partDetail {X : XX} {d : Nat} (hd : 1 ≤ d) {M : Mm} {a0 : Int} {a1 : Int} (hn_a0 : a0 ≠ 0) {p : Int} (h : f_Piece_partDetail M a0 a1 = some p) : Rn X d m_Piece_partDetail [(5, a0), (0, a1)] M (some (0, p)) M := by
  refine Rn_of (by decide) rfl (Nat.le_of_ble_eq_true rfl) ?_
  unfold f_Piece_partDetail at h
  refine ev_less (L' := [(0, (5, a0)), (1, (0, a1))]) [0, 1] rfl ?_
  refine ev_iload_n 1 d_Piece_partDetail_0 rfl rfl ?_
  refine ev_bipush d_Piece_partDetail_1 rfl ?_
  by_cases hc1 : a1 < 10
  · replace h := itp hc1 h
    refine ev_icmp_lt_t (tgt := 27) d_Piece_partDetail_3 (by decide) hc1 ?_
    exact cj_Piece_partDetail_27 hd hn_a0 h
  · replace h := itn hc1 h
    refine ev_icmp_lt_f d_Piece_partDetail_3 (by decide) hc1 ?_
    refine ev_aload_n 0 d_Piece_partDetail_6 rfl (by decide) rfl ?_
    refine ev_iload_n 1 d_Piece_partDetail_7 rfl rfl ?_
    refine ev_bipush d_Piece_partDetail_8 rfl ?_
    refine ev_isub d_Piece_partDetail_10 ?_
    obtain ⟨p11, hp11, h⟩ := bx h
    have hRp11 := c_Piece_hasPart (X := X) (d := d - 1) (by omega) hn_a0 hp11
    refine ev_callV2 (st2 := [(0, p11)]) (as := [(0, (w32 (a1 - 10)))]) (rest := []) rfl (by decide) (by decide) rfl hn_a0 rfl (Nat.le_of_ble_eq_true rfl) k_Piece_hasPart ⟨tw_606, ts_34⟩ (by omega) tw_604 d_Piece_partDetail_11 hRp11 rfl ?_
    by_cases hc12 : p11 = 0
    · replace h := itp hc12 h
      refine ev_if_eq_t (tgt := 27) d_Piece_partDetail_14 (by decide) hc12 ?_
      exact cj_Piece_partDetail_27 hd hn_a0 h
    · replace h := itn hc12 h
      refine ev_if_eq_f d_Piece_partDetail_14 (by decide) hc12 ?_
      refine ev_aload_n 0 d_Piece_partDetail_17 rfl (by decide) rfl ?_
      refine ev_get (t := 5) (k := 0) (by decide) (by decide) rfl i_Piece (by decide) rfl rfl tw_75 d_Piece_partDetail_18 hn_a0 ?_
      refine ev_iload_n 1 d_Piece_partDetail_21 rfl rfl ?_
      refine ev_bipush d_Piece_partDetail_22 rfl ?_
      refine ev_isub d_Piece_partDetail_24 ?_
      obtain ⟨hz13, h⟩ := gx h
      obtain ⟨hg14, h⟩ := gx h
      refine ev_iald d_Piece_partDetail_25 hz13 hg14 ?_
      cases h
      exact ev_ret d_Piece_partDetail_26 rfl
def f_Piece_detail (M : Mm) (a0 : Int) (a1 : Int) : Option (Int) :=
  if a1 = 0 then
  some (mg M (cI a0) 4)
  else
  if a1 = 1 then
  some (mg M (cI a0) 5)
  else
  if a1 = 2 then
  some (mg M (cI a0) 6)
  else
  if a1 = 3 then
  some (mg M (cI a0) 7)
  else
  if a1 = 4 then
  some (mg M (cI a0) 8)
  else
  (f_Piece_partDetail M a0 a1).bind (fun p6 =>
  some p6)
theorem c_Piece_detail {X : XX} {d : Nat} (hd : 2 ≤ d) {M : Mm} {a0 : Int} {a1 : Int} (hn_a0 : a0 ≠ 0) {p : Int} (h : f_Piece_detail M a0 a1 = some p) : Rn X d m_Piece_detail [(5, a0), (0, a1)] M (some (0, p)) M := by
  refine Rn_of (by decide) rfl (Nat.le_of_ble_eq_true rfl) ?_
  unfold f_Piece_detail at h
  refine ev_less (L' := [(0, (5, a0)), (1, (0, a1))]) [0, 1] rfl ?_
  refine ev_iload_n 1 d_Piece_detail_0 rfl rfl ?_
  by_cases hc1 : a1 = 0
  · replace h := itp hc1 h
    refine ev_tabIn (tgt := 36) 0 d_Piece_detail_1 (by rw [hc1]; rfl) (by decide) rfl (by decide) ?_
    refine ev_aload_n 0 d_Piece_detail_36 rfl (by decide) rfl ?_
    refine ev_get (t := 5) (k := 4) (by decide) (by decide) rfl i_Piece (by decide) rfl rfl tw_85 d_Piece_detail_37 hn_a0 ?_
    cases h
    exact ev_ret d_Piece_detail_40 rfl
  · replace h := itn hc1 h
    by_cases hc2 : a1 = 1
    · replace h := itp hc2 h
      refine ev_tabIn (tgt := 41) 1 d_Piece_detail_1 (by rw [hc2]; rfl) (by decide) rfl (by decide) ?_
      refine ev_aload_n 0 d_Piece_detail_41 rfl (by decide) rfl ?_
      refine ev_get (t := 5) (k := 5) (by decide) (by decide) rfl i_Piece (by decide) rfl rfl tw_88 d_Piece_detail_42 hn_a0 ?_
      cases h
      exact ev_ret d_Piece_detail_45 rfl
    · replace h := itn hc2 h
      by_cases hc3 : a1 = 2
      · replace h := itp hc3 h
        refine ev_tabIn (tgt := 46) 2 d_Piece_detail_1 (by rw [hc3]; rfl) (by decide) rfl (by decide) ?_
        refine ev_aload_n 0 d_Piece_detail_46 rfl (by decide) rfl ?_
        refine ev_get (t := 5) (k := 6) (by decide) (by decide) rfl i_Piece (by decide) rfl rfl tw_91 d_Piece_detail_47 hn_a0 ?_
        cases h
        exact ev_ret d_Piece_detail_50 rfl
      · replace h := itn hc3 h
        by_cases hc4 : a1 = 3
        · replace h := itp hc4 h
          refine ev_tabIn (tgt := 51) 3 d_Piece_detail_1 (by rw [hc4]; rfl) (by decide) rfl (by decide) ?_
          refine ev_aload_n 0 d_Piece_detail_51 rfl (by decide) rfl ?_
          refine ev_get (t := 5) (k := 7) (by decide) (by decide) rfl i_Piece (by decide) rfl rfl tw_92 d_Piece_detail_52 hn_a0 ?_
          cases h
          exact ev_ret d_Piece_detail_55 rfl
        · replace h := itn hc4 h
          by_cases hc5 : a1 = 4
          · replace h := itp hc5 h
            refine ev_tabIn (tgt := 56) 4 d_Piece_detail_1 (by rw [hc5]; rfl) (by decide) rfl (by decide) ?_
            refine ev_aload_n 0 d_Piece_detail_56 rfl (by decide) rfl ?_
            refine ev_get (t := 5) (k := 8) (by decide) (by decide) rfl i_Piece (by decide) rfl rfl tw_97 d_Piece_detail_57 hn_a0 ?_
            cases h
            exact ev_ret d_Piece_detail_60 rfl
          · replace h := itn hc5 h
            refine ev_tabOut (tgt := 61) d_Piece_detail_1 (by omega) (by decide) ?_
            refine ev_aload_n 0 d_Piece_detail_61 rfl (by decide) rfl ?_
            refine ev_iload_n 1 d_Piece_detail_62 rfl rfl ?_
            obtain ⟨p6, hp6, h⟩ := bx h
            have hRp6 := c_Piece_partDetail (X := X) (d := d - 1) (by omega) hn_a0 hp6
            refine ev_callV2 (st2 := [(0, p6)]) (as := [(0, a1)]) (rest := []) rfl (by decide) (by decide) rfl hn_a0 rfl (Nat.le_of_ble_eq_true rfl) k_Piece_partDetail ⟨tw_602, ts_33⟩ (by omega) tw_600 d_Piece_detail_63 hRp6 rfl ?_
            cases h
            exact ev_ret d_Piece_detail_66 rfl
def l_Piece_seated_4 (M : Mm) (a0 : Int) (s : Int × Int) : Option ((Int × Int) ⊕ (Int)) :=
  if (mg M (cI a0) 7) ≤ s.2 then
  some (.inr s.1)
  else
  if (mg M (cI a0) 2) ≠ 0 then
  if (0 : Int) ≤ s.2 ∧ s.2 < (ml M (cI (mg M (cI a0) 2)) : Int) then
  if (mg M (cI (mg M (cI a0) 2)) (s.2 : Int).toNat) = (-1) then
  lt (w32 (s.2 + 1)) (fun x5 : Int =>
  some (.inl (s.1, x5)))
  else
  lt (w32 (s.1 + 1)) (fun x6 : Int =>
  lt (w32 (s.2 + 1)) (fun x7 : Int =>
  some (.inl (x6, x7))))
  else none
  else none
theorem cs_l_Piece_seated_4 {X : XX} {d : Nat} (hd : 0 ≤ d) {M : Mm} {a0 : Int} (hn_a0 : a0 ≠ 0) {s : Int × Int} {x : (Int × Int) ⊕ (Int)} {r : Option AV} {M' : Mm} (h : l_Piece_seated_4 M a0 s = some x) (hk1 : ∀ s : Int × Int, x = .inl s → Ev X m_Piece_seated d 4 [(0, (5, a0)), (1, (0, s.1)), (2, (0, s.2))] [] M r M') (hk2 : ∀ t : Int, x = .inr t → Ev X m_Piece_seated d 31 [(1, (0, t))] [] M r M') : Ev X m_Piece_seated d 4 [(0, (5, a0)), (1, (0, s.1)), (2, (0, s.2))] [] M r M' := by
  unfold l_Piece_seated_4 at h
  refine ev_iload_n 2 d_Piece_seated_4 rfl rfl ?_
  refine ev_aload_n 0 d_Piece_seated_5 rfl (by decide) rfl ?_
  refine ev_get (t := 5) (k := 7) (by decide) (by decide) rfl i_Piece (by decide) rfl rfl tw_92 d_Piece_seated_6 hn_a0 ?_
  by_cases hc1 : (mg M (cI a0) 7) ≤ s.2
  · replace h := itp hc1 h
    refine ev_icmp_ge_t (tgt := 31) d_Piece_seated_9 (by decide) hc1 ?_
    refine ev_less (L' := [(1, (0, s.1))]) [1] rfl ?_
    cases h
    exact hk2 _ rfl
  · replace h := itn hc1 h
    refine ev_icmp_ge_f d_Piece_seated_9 (by decide) hc1 ?_
    refine ev_aload_n 0 d_Piece_seated_12 rfl (by decide) rfl ?_
    refine ev_get (t := 5) (k := 2) (by decide) (by decide) rfl i_Piece (by decide) rfl rfl tw_78 d_Piece_seated_13 hn_a0 ?_
    refine ev_iload_n 2 d_Piece_seated_16 rfl rfl ?_
    obtain ⟨hz2, h⟩ := gx h
    obtain ⟨hg3, h⟩ := gx h
    refine ev_iald d_Piece_seated_17 hz2 hg3 ?_
    refine ev_iconst d_Piece_seated_18 rfl ?_
    by_cases hc4 : (mg M (cI (mg M (cI a0) 2)) (s.2 : Int).toNat) = (-1)
    · replace h := itp hc4 h
      refine ev_icmp_eq_t (tgt := 25) d_Piece_seated_19 (by decide) hc4 ?_
      obtain ⟨x5, hx5, h⟩ := ltx h
      refine ev_iinc' 2 (y := x5) (L' := [(2, (0, x5)), (0, (5, a0)), (1, (0, s.1))]) d_Piece_seated_25 rfl (by decide) rfl hx5 ?_
      refine ev_goto (tgt := 4) d_Piece_seated_28 (by decide) ?_
      refine ev_less (L' := [(0, (5, a0)), (1, (0, s.1)), (2, (0, x5))]) [1, 2, 0] rfl ?_
      cases h
      exact hk1 _ rfl
    · replace h := itn hc4 h
      refine ev_icmp_eq_f d_Piece_seated_19 (by decide) hc4 ?_
      obtain ⟨x6, hx6, h⟩ := ltx h
      refine ev_iinc' 1 (y := x6) (L' := [(1, (0, x6)), (0, (5, a0)), (2, (0, s.2))]) d_Piece_seated_22 rfl (by decide) rfl hx6 ?_
      obtain ⟨x7, hx7, h⟩ := ltx h
      refine ev_iinc' 2 (y := x7) (L' := [(2, (0, x7)), (1, (0, x6)), (0, (5, a0))]) d_Piece_seated_25 rfl (by decide) rfl hx7 ?_
      refine ev_goto (tgt := 4) d_Piece_seated_28 (by decide) ?_
      refine ev_less (L' := [(0, (5, a0)), (1, (0, x6)), (2, (0, x7))]) [2, 1, 0] rfl ?_
      cases h
      exact hk1 _ rfl
def f_Piece_seated (M : Mm) (a0 : Int) : Option (Int) :=
  (loopN (l_Piece_seated_4 M a0) FU (0, 0)).bind (fun t8 =>
  some t8)
theorem c_Piece_seated {X : XX} {d : Nat} (hd : 0 ≤ d) {M : Mm} {a0 : Int} (hn_a0 : a0 ≠ 0) {p : Int} (h : f_Piece_seated M a0 = some p) : Rn X d m_Piece_seated [(5, a0)] M (some (0, p)) M := by
  refine Rn_of (by decide) rfl (Nat.le_of_ble_eq_true rfl) ?_
  unfold f_Piece_seated at h
  refine ev_less (L' := [(0, (5, a0))]) [0] rfl ?_
  refine ev_iconst d_Piece_seated_0 rfl ?_
  refine ev_istore_n (L' := [(1, (0, 0)), (0, (5, a0))]) d_Piece_seated_1 rfl (by decide) rfl ?_
  refine ev_iconst d_Piece_seated_2 rfl ?_
  refine ev_istore_n (L' := [(2, (0, 0)), (1, (0, 0)), (0, (5, a0))]) d_Piece_seated_3 rfl (by decide) rfl ?_
  obtain ⟨t8, ht8, h⟩ := bx h
  refine ev_less (L' := [(0, (5, a0)), (1, (0, 0)), (2, (0, 0))]) [2, 1, 0] rfl ?_
  refine loop_ev (step := l_Piece_seated_4 M a0) (P := fun w : Int × Int => Ev X m_Piece_seated d 4 [(0, (5, a0)), (1, (0, w.1)), (2, (0, w.2))] [] M (some (0, p)) M) (Q := fun w => Ev X m_Piece_seated d 31 [(1, (0, w))] [] M (some (0, p)) M) (fun w x hs k1 k2 => cs_l_Piece_seated_4 hd hn_a0 hs k1 k2) FU (0, 0) t8 ht8 ?_
  refine ev_iload_n 0 d_Piece_seated_31 rfl rfl ?_
  cases h
  exact ev_ret d_Piece_seated_32 rfl
def l_Piece_seatsElsewhere_2 (M : Mm) (a0 : Int) (a1 : Int) (a2 : Int) (s : Int) : Option ((Int) ⊕ ((Int) ⊕ (Unit))) :=
  if (mg M (cI a0) 7) ≤ s then
  some (.inr (.inr ()))
  else
  if s = a2 then
  lt (w32 (s + 1)) (fun x3 : Int =>
  some (.inl x3))
  else
  if (mg M (cI a0) 2) ≠ 0 then
  if (0 : Int) ≤ s ∧ s < (ml M (cI (mg M (cI a0) 2)) : Int) then
  if (mg M (cI (mg M (cI a0) 2)) (s : Int).toNat) ≠ a1 then
  lt (w32 (s + 1)) (fun x7 : Int =>
  some (.inl x7))
  else
  some (.inr (.inl (1)))
  else none
  else none
theorem cs_l_Piece_seatsElsewhere_2 {X : XX} {d : Nat} (hd : 0 ≤ d) {M : Mm} {a0 : Int} {a1 : Int} {a2 : Int} (hn_a0 : a0 ≠ 0) {s : Int} {x : (Int) ⊕ ((Int) ⊕ (Unit))} {r : Option AV} {M' : Mm} (h : l_Piece_seatsElsewhere_2 M a0 a1 a2 s = some x) (hk1 : ∀ s : Int, x = .inl s → Ev X m_Piece_seatsElsewhere d 2 [(0, (5, a0)), (1, (0, a1)), (2, (0, a2)), (3, (0, s))] [] M r M') (hk2 : ∀ q : Int, x = .inr (.inl q) → r = some (0, q) ∧ M' = M) (hk3 : ∀ t : Unit, x = .inr (.inr t) → Ev X m_Piece_seatsElsewhere d 33 [] [] M r M') : Ev X m_Piece_seatsElsewhere d 2 [(0, (5, a0)), (1, (0, a1)), (2, (0, a2)), (3, (0, s))] [] M r M' := by
  unfold l_Piece_seatsElsewhere_2 at h
  refine ev_iload_n 3 d_Piece_seatsElsewhere_2 rfl rfl ?_
  refine ev_aload_n 0 d_Piece_seatsElsewhere_3 rfl (by decide) rfl ?_
  refine ev_get (t := 5) (k := 7) (by decide) (by decide) rfl i_Piece (by decide) rfl rfl tw_92 d_Piece_seatsElsewhere_4 hn_a0 ?_
  by_cases hc1 : (mg M (cI a0) 7) ≤ s
  · replace h := itp hc1 h
    refine ev_icmp_ge_t (tgt := 33) d_Piece_seatsElsewhere_7 (by decide) hc1 ?_
    refine ev_less (L' := []) [] rfl ?_
    cases h
    exact hk3 _ rfl
  · replace h := itn hc1 h
    refine ev_icmp_ge_f d_Piece_seatsElsewhere_7 (by decide) hc1 ?_
    refine ev_iload_n 3 d_Piece_seatsElsewhere_10 rfl rfl ?_
    refine ev_iload_n 2 d_Piece_seatsElsewhere_11 rfl rfl ?_
    by_cases hc2 : s = a2
    · replace h := itp hc2 h
      refine ev_icmp_eq_t (tgt := 27) d_Piece_seatsElsewhere_12 (by decide) hc2 ?_
      obtain ⟨x3, hx3, h⟩ := ltx h
      refine ev_iinc' 3 (y := x3) (L' := [(3, (0, x3)), (0, (5, a0)), (1, (0, a1)), (2, (0, a2))]) d_Piece_seatsElsewhere_27 rfl (by decide) rfl hx3 ?_
      refine ev_goto (tgt := 2) d_Piece_seatsElsewhere_30 (by decide) ?_
      refine ev_less (L' := [(0, (5, a0)), (1, (0, a1)), (2, (0, a2)), (3, (0, x3))]) [1, 2, 3, 0] rfl ?_
      cases h
      exact hk1 _ rfl
    · replace h := itn hc2 h
      refine ev_icmp_eq_f d_Piece_seatsElsewhere_12 (by decide) hc2 ?_
      refine ev_aload_n 0 d_Piece_seatsElsewhere_15 rfl (by decide) rfl ?_
      refine ev_get (t := 5) (k := 2) (by decide) (by decide) rfl i_Piece (by decide) rfl rfl tw_78 d_Piece_seatsElsewhere_16 hn_a0 ?_
      refine ev_iload_n 3 d_Piece_seatsElsewhere_19 rfl rfl ?_
      obtain ⟨hz4, h⟩ := gx h
      obtain ⟨hg5, h⟩ := gx h
      refine ev_iald d_Piece_seatsElsewhere_20 hz4 hg5 ?_
      refine ev_iload_n 1 d_Piece_seatsElsewhere_21 rfl rfl ?_
      by_cases hc6 : (mg M (cI (mg M (cI a0) 2)) (s : Int).toNat) ≠ a1
      · replace h := itp hc6 h
        refine ev_icmp_ne_t (tgt := 27) d_Piece_seatsElsewhere_22 (by decide) hc6 ?_
        obtain ⟨x7, hx7, h⟩ := ltx h
        refine ev_iinc' 3 (y := x7) (L' := [(3, (0, x7)), (0, (5, a0)), (1, (0, a1)), (2, (0, a2))]) d_Piece_seatsElsewhere_27 rfl (by decide) rfl hx7 ?_
        refine ev_goto (tgt := 2) d_Piece_seatsElsewhere_30 (by decide) ?_
        refine ev_less (L' := [(0, (5, a0)), (1, (0, a1)), (2, (0, a2)), (3, (0, x7))]) [1, 2, 3, 0] rfl ?_
        cases h
        exact hk1 _ rfl
      · replace h := itn hc6 h
        refine ev_icmp_ne_f d_Piece_seatsElsewhere_22 (by decide) hc6 ?_
        refine ev_iconst d_Piece_seatsElsewhere_25 rfl ?_
        cases h
        obtain ⟨rfl, rfl⟩ := hk2 _ rfl
        exact ev_retZ d_Piece_seatsElsewhere_26 rfl (Or.inr rfl)
def f_Piece_seatsElsewhere (M : Mm) (a0 : Int) (a1 : Int) (a2 : Int) : Option (Int) :=
  (loopN (l_Piece_seatsElsewhere_2 M a0 a1 a2) FU 0).bind (fun t8 =>
  Sum.elim (fun q9 => some q9) (fun u10 =>
  some 0) t8)
theorem c_Piece_seatsElsewhere {X : XX} {d : Nat} (hd : 0 ≤ d) {M : Mm} {a0 : Int} {a1 : Int} {a2 : Int} (hn_a0 : a0 ≠ 0) {p : Int} (h : f_Piece_seatsElsewhere M a0 a1 a2 = some p) : Rn X d m_Piece_seatsElsewhere [(5, a0), (0, a1), (0, a2)] M (some (0, p)) M := by
  refine Rn_of (by decide) rfl (Nat.le_of_ble_eq_true rfl) ?_
  unfold f_Piece_seatsElsewhere at h
  refine ev_less (L' := [(0, (5, a0)), (1, (0, a1)), (2, (0, a2))]) [0, 1, 2] rfl ?_
  refine ev_iconst d_Piece_seatsElsewhere_0 rfl ?_
  refine ev_istore_n (L' := [(3, (0, 0)), (0, (5, a0)), (1, (0, a1)), (2, (0, a2))]) d_Piece_seatsElsewhere_1 rfl (by decide) rfl ?_
  obtain ⟨t8, ht8, h⟩ := bx h
  refine ev_less (L' := [(0, (5, a0)), (1, (0, a1)), (2, (0, a2)), (3, (0, 0))]) [1, 2, 3, 0] rfl ?_
  refine loop_ev (step := l_Piece_seatsElsewhere_2 M a0 a1 a2) (P := fun w : Int => Ev X m_Piece_seatsElsewhere d 2 [(0, (5, a0)), (1, (0, a1)), (2, (0, a2)), (3, (0, w))] [] M (some (0, p)) M) (Q := fun u => (∀ q, u = .inl q → (some (0, p)) = some (0, q) ∧ M = M) ∧ (∀ w, u = .inr w → Ev X m_Piece_seatsElsewhere d 33 [] [] M (some (0, p)) M)) (fun w x hs k1 k2 => cs_l_Piece_seatsElsewhere_2 hd hn_a0 hs k1 (fun q e => (k2 _ e).1 q rfl) (fun t e => (k2 _ e).2 t rfl)) FU 0 t8 ht8 ?_
  refine ⟨fun qq e => ?_, fun tt e => ?_⟩
  · subst e; replace h := sx1 h; (obtain ⟨q9, rfl⟩ : ∃ y, y = qq := ⟨_, rfl⟩)
    cases h
    exact ⟨rfl, rfl⟩
  · subst e; replace h := sx2 h; (obtain ⟨u10, rfl⟩ : ∃ y, y = tt := ⟨_, rfl⟩)
    refine ev_iconst d_Piece_seatsElsewhere_33 rfl ?_
    cases h
    exact ev_retZ d_Piece_seatsElsewhere_34 rfl (Or.inl rfl)
def f_Planner_init (M : Mm) (a0 : Int) : Option (Mm) :=
  lt (mw M (10 : Int).toNat) (fun M1 =>
  lt (mp M1 (cI a0) 0 ((mN M : Int) + 1)) (fun M2 =>
  lt (mw M2 (10 : Int).toNat) (fun M3 =>
  lt (mp M3 (cI a0) 3 ((mN M2 : Int) + 1)) (fun M4 =>
  lt (mw M4 (10 : Int).toNat) (fun M5 =>
  lt (mp M5 (cI a0) 4 ((mN M4 : Int) + 1)) (fun M6 =>
  lt (mw M6 (10 : Int).toNat) (fun M7 =>
  lt (mp M7 (cI a0) 5 ((mN M6 : Int) + 1)) (fun M8 =>
  lt (mw M8 (10 : Int).toNat) (fun M9 =>
  lt (mp M9 (cI a0) 6 ((mN M8 : Int) + 1)) (fun M10 =>
  lt (mw M10 (0 : Int).toNat) (fun M11 =>
  lt (mp M11 (cI a0) 8 ((mN M10 : Int) + 1)) (fun M12 =>
  some M12))))))))))))
theorem c_Planner_init {X : XX} {d : Nat} (hd : 1 ≤ d) {M : Mm} {a0 : Int} (hn_a0 : a0 ≠ 0) {p : Mm} (h : f_Planner_init M a0 = some p) : Rn X d m_Planner_init [(6, a0)] M none p := by
  refine Rn_of (by decide) rfl (Nat.le_of_ble_eq_true rfl) ?_
  unfold f_Planner_init at h
  refine ev_less (L' := [(0, (6, a0))]) [0] rfl ?_
  refine ev_aload_n 0 d_Planner_init_0 rfl (by decide) rfl ?_
  refine ev_objInit (t := 6) (by decide) (by decide) hn_a0 (Nat.le_of_ble_eq_true rfl) (by omega) tw_281 tw_25 tw_26 d_Planner_init_1 ?_
  refine ev_aload_n 0 d_Planner_init_4 rfl (by decide) rfl ?_
  refine ev_bipush d_Planner_init_5 rfl ?_
  obtain ⟨M1, hM1, h⟩ := ltx h
  refine ev_newI' tw_61 d_Planner_init_7 ⟨by decide, by decide⟩ hM1 ?_
  obtain ⟨M2, hM2, h⟩ := ltx h
  refine ev_putF' (t := 6) (k := 0) (by decide) (by decide) rfl i_Planner t_Planner_ok n_Planner (by decide) rfl rfl rfl rfl rfl rfl tw_282 d_Planner_init_9 hn_a0 hM2 ?_
  refine ev_aload_n 0 d_Planner_init_12 rfl (by decide) rfl ?_
  refine ev_bipush d_Planner_init_13 rfl ?_
  obtain ⟨M3, hM3, h⟩ := ltx h
  refine ev_newI' tw_61 d_Planner_init_15 ⟨by decide, by decide⟩ hM3 ?_
  obtain ⟨M4, hM4, h⟩ := ltx h
  refine ev_putF' (t := 6) (k := 3) (by decide) (by decide) rfl i_Planner t_Planner_ok n_Planner (by decide) rfl rfl rfl rfl rfl rfl tw_288 d_Planner_init_17 hn_a0 hM4 ?_
  refine ev_aload_n 0 d_Planner_init_20 rfl (by decide) rfl ?_
  refine ev_bipush d_Planner_init_21 rfl ?_
  obtain ⟨M5, hM5, h⟩ := ltx h
  refine ev_newI' tw_61 d_Planner_init_23 ⟨by decide, by decide⟩ hM5 ?_
  obtain ⟨M6, hM6, h⟩ := ltx h
  refine ev_putF' (t := 6) (k := 4) (by decide) (by decide) rfl i_Planner t_Planner_ok n_Planner (by decide) rfl rfl rfl rfl rfl rfl tw_289 d_Planner_init_25 hn_a0 hM6 ?_
  refine ev_aload_n 0 d_Planner_init_28 rfl (by decide) rfl ?_
  refine ev_bipush d_Planner_init_29 rfl ?_
  obtain ⟨M7, hM7, h⟩ := ltx h
  refine ev_newI' tw_61 d_Planner_init_31 ⟨by decide, by decide⟩ hM7 ?_
  obtain ⟨M8, hM8, h⟩ := ltx h
  refine ev_putF' (t := 6) (k := 5) (by decide) (by decide) rfl i_Planner t_Planner_ok n_Planner (by decide) rfl rfl rfl rfl rfl rfl tw_290 d_Planner_init_33 hn_a0 hM8 ?_
  refine ev_aload_n 0 d_Planner_init_36 rfl (by decide) rfl ?_
  refine ev_bipush d_Planner_init_37 rfl ?_
  obtain ⟨M9, hM9, h⟩ := ltx h
  refine ev_newI' tw_61 d_Planner_init_39 ⟨by decide, by decide⟩ hM9 ?_
  obtain ⟨M10, hM10, h⟩ := ltx h
  refine ev_putF' (t := 6) (k := 6) (by decide) (by decide) rfl i_Planner t_Planner_ok n_Planner (by decide) rfl rfl rfl rfl rfl rfl tw_291 d_Planner_init_41 hn_a0 hM10 ?_
  refine ev_aload_n 0 d_Planner_init_44 rfl (by decide) rfl ?_
  refine ev_iconst d_Planner_init_45 rfl ?_
  obtain ⟨M11, hM11, h⟩ := ltx h
  refine ev_newJ' tw_275 d_Planner_init_46 ⟨by decide, by decide⟩ hM11 ?_
  obtain ⟨M12, hM12, h⟩ := ltx h
  refine ev_put' (t := 6) (k := 8) (by decide) (by decide) rfl i_Planner t_Planner_ok n_Planner (by decide) rfl rfl rfl rfl tw_293 d_Planner_init_48 hn_a0 hM12 ?_
  cases h
  exact ev_retV d_Planner_init_51 rfl
def f_Planner_forgetChoices (M : Mm) (a0 : Int) : Option (Mm) :=
  lt (mp M (cI a0) 7 0) (fun M1 =>
  some M1)
theorem c_Planner_forgetChoices {X : XX} {d : Nat} (hd : 0 ≤ d) {M : Mm} {a0 : Int} (hn_a0 : a0 ≠ 0) {p : Mm} (h : f_Planner_forgetChoices M a0 = some p) : Rn X d m_Planner_forgetChoices [(6, a0)] M none p := by
  refine Rn_of (by decide) rfl (Nat.le_of_ble_eq_true rfl) ?_
  unfold f_Planner_forgetChoices at h
  refine ev_less (L' := [(0, (6, a0))]) [0] rfl ?_
  refine ev_aload_n 0 d_Planner_forgetChoices_0 rfl (by decide) rfl ?_
  refine ev_iconst d_Planner_forgetChoices_1 rfl ?_
  obtain ⟨M1, hM1, h⟩ := ltx h
  refine ev_put' (t := 6) (k := 7) (by decide) (by decide) rfl i_Planner t_Planner_ok n_Planner (by decide) rfl rfl rfl rfl tw_292 d_Planner_forgetChoices_2 hn_a0 hM1 ?_
  cases h
  exact ev_retV d_Planner_forgetChoices_5 rfl
end
