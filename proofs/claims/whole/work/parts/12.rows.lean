section EV2
variable {X : XX} {mi : MI} {d pc : Nat} {L : List (Nat × AV)} {st : List AV} {M : Mm} {r : Option AV} {M' : Mm}
theorem ev_iadd {a b : Int} (hd : decode mi.2.1 pc = .ok (.iadd, 1)) (h : Ev X mi d (pc + 1) L ((0, w32 (a + b)) :: st) M r M') : Ev X mi d pc L ((0, b) :: (0, a) :: st) M r M' := by
  refine ev_step h ?_
  intro G R p l e s m args below meth c Q A kd ad H locs cells slots ls hC hX hst hL hl
  refine ⟨ok_cs (okI (w32_ok _)) (ok_tl (ok_tl hst)), hL, fun k => ?_⟩
  have hk := k ls hl
  rw [List.map_cons, cv_i, i32_w, Int32.ofInt_add] at hk
  exact lv_iadd hC.1 hC.2.1 hd hk
theorem ev_isub {a b : Int} (hd : decode mi.2.1 pc = .ok (.isub, 1)) (h : Ev X mi d (pc + 1) L ((0, w32 (a - b)) :: st) M r M') : Ev X mi d pc L ((0, b) :: (0, a) :: st) M r M' := by
  refine ev_step h ?_
  intro G R p l e s m args below meth c Q A kd ad H locs cells slots ls hC hX hst hL hl
  refine ⟨ok_cs (okI (w32_ok _)) (ok_tl (ok_tl hst)), hL, fun k => ?_⟩
  have hk := k ls hl
  rw [List.map_cons, cv_i, i32_w, Int32.ofInt_sub] at hk
  exact lv_isub hC.1 hC.2.1 hd hk
theorem ev_imul {a b : Int} (hd : decode mi.2.1 pc = .ok (.imul, 1)) (h : Ev X mi d (pc + 1) L ((0, w32 (a * b)) :: st) M r M') : Ev X mi d pc L ((0, b) :: (0, a) :: st) M r M' := by
  refine ev_step h ?_
  intro G R p l e s m args below meth c Q A kd ad H locs cells slots ls hC hX hst hL hl
  refine ⟨ok_cs (okI (w32_ok _)) (ok_tl (ok_tl hst)), hL, fun k => ?_⟩
  have hk := k ls hl
  rw [List.map_cons, cv_i, i32_w, Int32.ofInt_mul] at hk
  exact lv_imul hC.1 hC.2.1 hd hk
theorem ev_iand {a b : Int} (hd : decode mi.2.1 pc = .ok (.iand, 1)) (h : Ev X mi d (pc + 1) L ((0, bAnd a b) :: st) M r M') : Ev X mi d pc L ((0, b) :: (0, a) :: st) M r M' := by
  refine ev_step h ?_
  intro G R p l e s m args below meth c Q A kd ad H locs cells slots ls hC hX hst hL hl
  refine ⟨ok_cs (okI (by rw [bAnd_d]; exact i32_ok _)) (ok_tl (ok_tl hst)), hL, fun k => ?_⟩
  have hk := k ls hl
  rw [List.map_cons, cv_i, bAnd_d, i32_of] at hk
  exact lv_iand hC.1 hC.2.1 hd hk
theorem ev_ior {a b : Int} (hd : decode mi.2.1 pc = .ok (.ior, 1)) (h : Ev X mi d (pc + 1) L ((0, bOr a b) :: st) M r M') : Ev X mi d pc L ((0, b) :: (0, a) :: st) M r M' := by
  refine ev_step h ?_
  intro G R p l e s m args below meth c Q A kd ad H locs cells slots ls hC hX hst hL hl
  refine ⟨ok_cs (okI (by rw [bOr_d]; exact i32_ok _)) (ok_tl (ok_tl hst)), hL, fun k => ?_⟩
  have hk := k ls hl
  rw [List.map_cons, cv_i, bOr_d, i32_of] at hk
  exact lv_ior hC.1 hC.2.1 hd hk
theorem ev_ixor {a b : Int} (hd : decode mi.2.1 pc = .ok (.ixor, 1)) (h : Ev X mi d (pc + 1) L ((0, bXor a b) :: st) M r M') : Ev X mi d pc L ((0, b) :: (0, a) :: st) M r M' := by
  refine ev_step h ?_
  intro G R p l e s m args below meth c Q A kd ad H locs cells slots ls hC hX hst hL hl
  refine ⟨ok_cs (okI (by rw [bXor_d]; exact i32_ok _)) (ok_tl (ok_tl hst)), hL, fun k => ?_⟩
  have hk := k ls hl
  rw [List.map_cons, cv_i, bXor_d, i32_of] at hk
  exact lv_ixor hC.1 hC.2.1 hd hk
theorem ev_ishl {a b : Int} (hd : decode mi.2.1 pc = .ok (.ishl, 1)) (h : Ev X mi d (pc + 1) L ((0, bShl a b) :: st) M r M') : Ev X mi d pc L ((0, b) :: (0, a) :: st) M r M' := by
  refine ev_step h ?_
  intro G R p l e s m args below meth c Q A kd ad H locs cells slots ls hC hX hst hL hl
  refine ⟨ok_cs (okI (by rw [bShl_d]; exact i32_ok _)) (ok_tl (ok_tl hst)), hL, fun k => ?_⟩
  have hk := k ls hl
  rw [List.map_cons, cv_i, bShl_d, i32_of] at hk
  exact lv_ishl hC.1 hC.2.1 hd hk
theorem ev_ishr {a b : Int} (hd : decode mi.2.1 pc = .ok (.ishr, 1)) (h : Ev X mi d (pc + 1) L ((0, bShr a b) :: st) M r M') : Ev X mi d pc L ((0, b) :: (0, a) :: st) M r M' := by
  refine ev_step h ?_
  intro G R p l e s m args below meth c Q A kd ad H locs cells slots ls hC hX hst hL hl
  refine ⟨ok_cs (okI (by rw [bShr_d]; exact i32_ok _)) (ok_tl (ok_tl hst)), hL, fun k => ?_⟩
  have hk := k ls hl
  rw [List.map_cons, cv_i, bShr_d, i32_of] at hk
  exact lv_ishr hC.1 hC.2.1 hd hk
theorem ev_iushr {a b : Int} (hd : decode mi.2.1 pc = .ok (.iushr, 1)) (h : Ev X mi d (pc + 1) L ((0, bUshr a b) :: st) M r M') : Ev X mi d pc L ((0, b) :: (0, a) :: st) M r M' := by
  refine ev_step h ?_
  intro G R p l e s m args below meth c Q A kd ad H locs cells slots ls hC hX hst hL hl
  refine ⟨ok_cs (okI (by rw [bUshr_d]; exact i32_ok _)) (ok_tl (ok_tl hst)), hL, fun k => ?_⟩
  have hk := k ls hl
  rw [List.map_cons, cv_i, bUshr_d, i32_of] at hk
  exact lv_iushr hC.1 hC.2.1 hd rfl hk
theorem i32_ne0 {b : Int} (hb : ok32 b) (h : b ≠ 0) : ¬ Int32.ofInt b = 0 := fun e => h ((i32_eq hb ok32_0).mp e)
theorem i64_ne0 {b : Int} (hb : ok64 b) (h : b ≠ 0) : ¬ Int64.ofInt b = 0 := fun e => h ((i64_eq hb (by unfold ok64; omega)).mp e)
theorem ev_idiv {a b : Int} (hd : decode mi.2.1 pc = .ok (.idiv, 1)) (hb0 : b ≠ 0) (h : Ev X mi d (pc + 1) L ((0, iDiv a b) :: st) M r M') : Ev X mi d pc L ((0, b) :: (0, a) :: st) M r M' := by
  refine ev_step h ?_
  intro G R p l e s m args below meth c Q A kd ad H locs cells slots ls hC hX hst hL hl
  refine ⟨ok_cs (okI (by rw [iDiv_d]; exact i32_ok _)) (ok_tl (ok_tl hst)), hL, fun k => ?_⟩
  have hk := k ls hl
  rw [List.map_cons, cv_i, iDiv_d, i32_of] at hk
  exact lv_idiv hC.1 hC.2.1 hd (i32_ne0 ((ok_hd hst).1 rfl) hb0) hk
theorem ev_irem {a b : Int} (hd : decode mi.2.1 pc = .ok (.irem, 1)) (hb0 : b ≠ 0) (h : Ev X mi d (pc + 1) L ((0, iRem a b) :: st) M r M') : Ev X mi d pc L ((0, b) :: (0, a) :: st) M r M' := by
  refine ev_step h ?_
  intro G R p l e s m args below meth c Q A kd ad H locs cells slots ls hC hX hst hL hl
  refine ⟨ok_cs (okI (by rw [iRem_d]; exact i32_ok _)) (ok_tl (ok_tl hst)), hL, fun k => ?_⟩
  have hk := k ls hl
  rw [List.map_cons, cv_i, iRem_d, i32_of] at hk
  exact lv_irem hC.1 hC.2.1 hd (i32_ne0 ((ok_hd hst).1 rfl) hb0) hk
theorem ev_ladd {a b : Int} (hd : decode mi.2.1 pc = .ok (.ladd, 1)) (h : Ev X mi d (pc + 1) L ((1, w64 (a + b)) :: st) M r M') : Ev X mi d pc L ((1, b) :: (1, a) :: st) M r M' := by
  refine ev_step h ?_
  intro G R p l e s m args below meth c Q A kd ad H locs cells slots ls hC hX hst hL hl
  refine ⟨ok_cs (okJ (w64_ok _)) (ok_tl (ok_tl hst)), hL, fun k => ?_⟩
  have hk := k ls hl
  rw [List.map_cons, cv_l, i64_w, Int64.ofInt_add] at hk
  exact lv_ladd hC.1 hC.2.1 hd hk
theorem ev_lsub {a b : Int} (hd : decode mi.2.1 pc = .ok (.lsub, 1)) (h : Ev X mi d (pc + 1) L ((1, w64 (a - b)) :: st) M r M') : Ev X mi d pc L ((1, b) :: (1, a) :: st) M r M' := by
  refine ev_step h ?_
  intro G R p l e s m args below meth c Q A kd ad H locs cells slots ls hC hX hst hL hl
  refine ⟨ok_cs (okJ (w64_ok _)) (ok_tl (ok_tl hst)), hL, fun k => ?_⟩
  have hk := k ls hl
  rw [List.map_cons, cv_l, i64_w, Int64.ofInt_sub] at hk
  exact lv_lsub hC.1 hC.2.1 hd hk
theorem ev_lmul {a b : Int} (hd : decode mi.2.1 pc = .ok (.lmul, 1)) (h : Ev X mi d (pc + 1) L ((1, w64 (a * b)) :: st) M r M') : Ev X mi d pc L ((1, b) :: (1, a) :: st) M r M' := by
  refine ev_step h ?_
  intro G R p l e s m args below meth c Q A kd ad H locs cells slots ls hC hX hst hL hl
  refine ⟨ok_cs (okJ (w64_ok _)) (ok_tl (ok_tl hst)), hL, fun k => ?_⟩
  have hk := k ls hl
  rw [List.map_cons, cv_l, i64_w, Int64.ofInt_mul] at hk
  exact lv_lmul hC.1 hC.2.1 hd hk
theorem ev_lor {a b : Int} (hd : decode mi.2.1 pc = .ok (.lor, 1)) (h : Ev X mi d (pc + 1) L ((1, lOr a b) :: st) M r M') : Ev X mi d pc L ((1, b) :: (1, a) :: st) M r M' := by
  refine ev_step h ?_
  intro G R p l e s m args below meth c Q A kd ad H locs cells slots ls hC hX hst hL hl
  refine ⟨ok_cs (okJ (by rw [lOr_d]; exact i64_ok _)) (ok_tl (ok_tl hst)), hL, fun k => ?_⟩
  have hk := k ls hl
  rw [List.map_cons, cv_l, lOr_d, i64_of] at hk
  exact lv_lor hC.1 hC.2.1 hd hk
theorem ev_ldiv {a b : Int} (hd : decode mi.2.1 pc = .ok (.ldiv, 1)) (hb0 : b ≠ 0) (h : Ev X mi d (pc + 1) L ((1, lDiv a b) :: st) M r M') : Ev X mi d pc L ((1, b) :: (1, a) :: st) M r M' := by
  refine ev_step h ?_
  intro G R p l e s m args below meth c Q A kd ad H locs cells slots ls hC hX hst hL hl
  refine ⟨ok_cs (okJ (by rw [lDiv_d]; exact i64_ok _)) (ok_tl (ok_tl hst)), hL, fun k => ?_⟩
  have hk := k ls hl
  rw [List.map_cons, cv_l, lDiv_d, i64_of] at hk
  exact lv_ldiv hC.1 hC.2.1 hd (i64_ne0 ((ok_hd hst).2.1 rfl) hb0) hk
theorem ev_lrem {a b : Int} (hd : decode mi.2.1 pc = .ok (.lrem, 1)) (hb0 : b ≠ 0) (h : Ev X mi d (pc + 1) L ((1, lRem a b) :: st) M r M') : Ev X mi d pc L ((1, b) :: (1, a) :: st) M r M' := by
  refine ev_step h ?_
  intro G R p l e s m args below meth c Q A kd ad H locs cells slots ls hC hX hst hL hl
  refine ⟨ok_cs (okJ (by rw [lRem_d]; exact i64_ok _)) (ok_tl (ok_tl hst)), hL, fun k => ?_⟩
  have hk := k ls hl
  rw [List.map_cons, cv_l, lRem_d, i64_of] at hk
  exact lv_lrem hC.1 hC.2.1 hd (i64_ne0 ((ok_hd hst).2.1 rfl) hb0) hk
theorem ev_lshl {a b : Int} (hd : decode mi.2.1 pc = .ok (.lshl, 1)) (h : Ev X mi d (pc + 1) L ((1, lShl a b) :: st) M r M') : Ev X mi d pc L ((0, b) :: (1, a) :: st) M r M' := by
  refine ev_step h ?_
  intro G R p l e s m args below meth c Q A kd ad H locs cells slots ls hC hX hst hL hl
  refine ⟨ok_cs (okJ (by rw [lShl_d]; exact i64_ok _)) (ok_tl (ok_tl hst)), hL, fun k => ?_⟩
  have hk := k ls hl
  rw [List.map_cons, cv_l, lShl_d, i64_of] at hk
  exact lv_lshl hC.1 hC.2.1 hd rfl hk
theorem ev_ineg {a : Int} (hd : decode mi.2.1 pc = .ok (.ineg, 1)) (h : Ev X mi d (pc + 1) L ((0, w32 (-a)) :: st) M r M') : Ev X mi d pc L ((0, a) :: st) M r M' := by
  refine ev_step h ?_
  intro G R p l e s m args below meth c Q A kd ad H locs cells slots ls hC hX hst hL hl
  refine ⟨ok_cs (okI (w32_ok _)) (ok_tl hst), hL, fun k => ?_⟩
  have hk := k ls hl
  rw [List.map_cons, cv_i, i32_w, Int32.ofInt_neg] at hk
  exact lv_ineg hC.1 hC.2.1 hd hk
theorem ev_i2l {a : Int} (hd : decode mi.2.1 pc = .ok (.i2l, 1)) (h : Ev X mi d (pc + 1) L ((1, a) :: st) M r M') : Ev X mi d pc L ((0, a) :: st) M r M' := by
  refine ev_step h ?_
  intro G R p l e s m args below meth c Q A kd ad H locs cells slots ls hC hX hst hL hl
  have ha := (ok_hd hst).1 rfl
  have ha6 : ok64 a := by unfold ok32 at ha; unfold ok64; simp only at ha; omega
  refine ⟨ok_cs (okJ ha6) (ok_tl hst), hL, fun k => lv_i2l hC.1 hC.2.1 hd ?_ (k ls hl)⟩
  apply Int64.toInt_inj.mp
  rw [Int32.toInt_toInt64, i64_c ha6, i32_c ha]
theorem ev_l2i {a : Int} (hd : decode mi.2.1 pc = .ok (.l2i, 1)) (h : Ev X mi d (pc + 1) L ((0, w32 a) :: st) M r M') : Ev X mi d pc L ((1, a) :: st) M r M' := by
  refine ev_step h ?_
  intro G R p l e s m args below meth c Q A kd ad H locs cells slots ls hC hX hst hL hl
  have ha := (ok_hd hst).2.1 rfl
  refine ⟨ok_cs (okI (w32_ok _)) (ok_tl hst), hL, fun k => lv_l2i hC.1 hC.2.1 hd ?_ (k ls hl)⟩
  rw [i32_w]
  apply Int32.toInt_inj.mp
  rw [Int64.toInt_toInt32, i64_c ha, i32_t, Int.bmod_def, w32_d]; split <;> omega
theorem ev_i2c {a : Int} (h0 : 0 ≤ a) (h1 : a < 65536) (hd : decode mi.2.1 pc = .ok (.i2c, 1)) (h : Ev X mi d (pc + 1) L ((0, a) :: st) M r M') : Ev X mi d pc L ((0, a) :: st) M r M' := by
  refine ev_step h ?_
  intro G R p l e s m args below meth c Q A kd ad H locs cells slots ls hC hX hst hL hl
  have ha := (ok_hd hst).1 rfl
  refine ⟨hst, hL, fun k => ?_⟩
  have hk := k ls hl
  rw [List.map_cons, cv_i] at hk
  refine lv_i2c hC.1 hC.2.1 hd ?_ hk
  obtain ⟨n, rfl⟩ := Int.eq_ofNat_of_zero_le h0
  have e : Int32.ofInt (n : Int) = nI n := by
    apply Int32.toInt_inj.mp; rw [i32_c ha, nI_toInt (by omega)]
  rw [e, pk_char, pk_tn (by omega), Nat.mod_eq_of_lt (by omega)]
theorem ev_icmp_eq {a b : Int} {off : Int} {tgt : Nat} (hd : decode mi.2.1 pc = .ok (.if_icmp .eq off, 3)) (ht : (pc : Int) + off = (tgt : Int)) (hm : (mN M ≤ mN M' ∧ mZ M ≤ mZ M') ∧ rB mi r) (kt : a = b → Ev X mi d tgt L st M r M') (kf : ¬ (a = b) → Ev X mi d (pc + 3) L st M r M') : Ev X mi d pc L ((0, b) :: (0, a) :: st) M r M' := by
  refine ⟨hm.1, hm.2, ?_⟩
  intro G R p l e s m args below meth c Q A kd ad H locs cells slots ls hC hX hst hL hl hc hs he
  have hb := (ok_hd hst).1 rfl
  have ha := (ok_hd (ok_tl hst)).1 rfl
  refine lv_icmp_eq (tgt := tgt) hC.1 hC.2.1 hd ht (fun q => ?_) (fun q => ?_)
  · exact (kt ((i32_eq ha hb).mp q)).2.2 G R p l e s m args below meth c Q A kd ad H locs cells slots ls hC hX (ok_tl (ok_tl hst)) hL hl hc hs he
  · exact (kf (fun z => q ((i32_eq ha hb).mpr z))).2.2 G R p l e s m args below meth c Q A kd ad H locs cells slots ls hC hX (ok_tl (ok_tl hst)) hL hl hc hs he
theorem ev_icmp_ne {a b : Int} {off : Int} {tgt : Nat} (hd : decode mi.2.1 pc = .ok (.if_icmp .ne off, 3)) (ht : (pc : Int) + off = (tgt : Int)) (hm : (mN M ≤ mN M' ∧ mZ M ≤ mZ M') ∧ rB mi r) (kt : a ≠ b → Ev X mi d tgt L st M r M') (kf : ¬ (a ≠ b) → Ev X mi d (pc + 3) L st M r M') : Ev X mi d pc L ((0, b) :: (0, a) :: st) M r M' := by
  refine ⟨hm.1, hm.2, ?_⟩
  intro G R p l e s m args below meth c Q A kd ad H locs cells slots ls hC hX hst hL hl hc hs he
  have hb := (ok_hd hst).1 rfl
  have ha := (ok_hd (ok_tl hst)).1 rfl
  refine lv_icmp_ne (tgt := tgt) hC.1 hC.2.1 hd ht (fun q => ?_) (fun q => ?_)
  · exact (kt ((not_congr (i32_eq ha hb)).mp q)).2.2 G R p l e s m args below meth c Q A kd ad H locs cells slots ls hC hX (ok_tl (ok_tl hst)) hL hl hc hs he
  · exact (kf (fun z => ((not_congr (i32_eq ha hb)).mpr z) q)).2.2 G R p l e s m args below meth c Q A kd ad H locs cells slots ls hC hX (ok_tl (ok_tl hst)) hL hl hc hs he
theorem ev_icmp_lt {a b : Int} {off : Int} {tgt : Nat} (hd : decode mi.2.1 pc = .ok (.if_icmp .lt off, 3)) (ht : (pc : Int) + off = (tgt : Int)) (hm : (mN M ≤ mN M' ∧ mZ M ≤ mZ M') ∧ rB mi r) (kt : a < b → Ev X mi d tgt L st M r M') (kf : ¬ (a < b) → Ev X mi d (pc + 3) L st M r M') : Ev X mi d pc L ((0, b) :: (0, a) :: st) M r M' := by
  refine ⟨hm.1, hm.2, ?_⟩
  intro G R p l e s m args below meth c Q A kd ad H locs cells slots ls hC hX hst hL hl hc hs he
  have hb := (ok_hd hst).1 rfl
  have ha := (ok_hd (ok_tl hst)).1 rfl
  refine lv_icmp_lt (tgt := tgt) hC.1 hC.2.1 hd ht (fun q => ?_) (fun q => ?_)
  · exact (kt ((i32_lt ha hb).mp q)).2.2 G R p l e s m args below meth c Q A kd ad H locs cells slots ls hC hX (ok_tl (ok_tl hst)) hL hl hc hs he
  · exact (kf (fun z => q ((i32_lt ha hb).mpr z))).2.2 G R p l e s m args below meth c Q A kd ad H locs cells slots ls hC hX (ok_tl (ok_tl hst)) hL hl hc hs he
theorem ev_icmp_ge {a b : Int} {off : Int} {tgt : Nat} (hd : decode mi.2.1 pc = .ok (.if_icmp .ge off, 3)) (ht : (pc : Int) + off = (tgt : Int)) (hm : (mN M ≤ mN M' ∧ mZ M ≤ mZ M') ∧ rB mi r) (kt : b ≤ a → Ev X mi d tgt L st M r M') (kf : ¬ (b ≤ a) → Ev X mi d (pc + 3) L st M r M') : Ev X mi d pc L ((0, b) :: (0, a) :: st) M r M' := by
  refine ⟨hm.1, hm.2, ?_⟩
  intro G R p l e s m args below meth c Q A kd ad H locs cells slots ls hC hX hst hL hl hc hs he
  have hb := (ok_hd hst).1 rfl
  have ha := (ok_hd (ok_tl hst)).1 rfl
  refine lv_icmp_ge (tgt := tgt) hC.1 hC.2.1 hd ht (fun q => ?_) (fun q => ?_)
  · exact (kt ((i32_le hb ha).mp q)).2.2 G R p l e s m args below meth c Q A kd ad H locs cells slots ls hC hX (ok_tl (ok_tl hst)) hL hl hc hs he
  · exact (kf (fun z => q ((i32_le hb ha).mpr z))).2.2 G R p l e s m args below meth c Q A kd ad H locs cells slots ls hC hX (ok_tl (ok_tl hst)) hL hl hc hs he
theorem ev_icmp_gt {a b : Int} {off : Int} {tgt : Nat} (hd : decode mi.2.1 pc = .ok (.if_icmp .gt off, 3)) (ht : (pc : Int) + off = (tgt : Int)) (hm : (mN M ≤ mN M' ∧ mZ M ≤ mZ M') ∧ rB mi r) (kt : b < a → Ev X mi d tgt L st M r M') (kf : ¬ (b < a) → Ev X mi d (pc + 3) L st M r M') : Ev X mi d pc L ((0, b) :: (0, a) :: st) M r M' := by
  refine ⟨hm.1, hm.2, ?_⟩
  intro G R p l e s m args below meth c Q A kd ad H locs cells slots ls hC hX hst hL hl hc hs he
  have hb := (ok_hd hst).1 rfl
  have ha := (ok_hd (ok_tl hst)).1 rfl
  refine lv_icmp_gt (tgt := tgt) hC.1 hC.2.1 hd ht (fun q => ?_) (fun q => ?_)
  · exact (kt ((i32_lt hb ha).mp q)).2.2 G R p l e s m args below meth c Q A kd ad H locs cells slots ls hC hX (ok_tl (ok_tl hst)) hL hl hc hs he
  · exact (kf (fun z => q ((i32_lt hb ha).mpr z))).2.2 G R p l e s m args below meth c Q A kd ad H locs cells slots ls hC hX (ok_tl (ok_tl hst)) hL hl hc hs he
theorem ev_icmp_le {a b : Int} {off : Int} {tgt : Nat} (hd : decode mi.2.1 pc = .ok (.if_icmp .le off, 3)) (ht : (pc : Int) + off = (tgt : Int)) (hm : (mN M ≤ mN M' ∧ mZ M ≤ mZ M') ∧ rB mi r) (kt : a ≤ b → Ev X mi d tgt L st M r M') (kf : ¬ (a ≤ b) → Ev X mi d (pc + 3) L st M r M') : Ev X mi d pc L ((0, b) :: (0, a) :: st) M r M' := by
  refine ⟨hm.1, hm.2, ?_⟩
  intro G R p l e s m args below meth c Q A kd ad H locs cells slots ls hC hX hst hL hl hc hs he
  have hb := (ok_hd hst).1 rfl
  have ha := (ok_hd (ok_tl hst)).1 rfl
  refine lv_icmp_le (tgt := tgt) hC.1 hC.2.1 hd ht (fun q => ?_) (fun q => ?_)
  · exact (kt ((i32_le ha hb).mp q)).2.2 G R p l e s m args below meth c Q A kd ad H locs cells slots ls hC hX (ok_tl (ok_tl hst)) hL hl hc hs he
  · exact (kf (fun z => q ((i32_le ha hb).mpr z))).2.2 G R p l e s m args below meth c Q A kd ad H locs cells slots ls hC hX (ok_tl (ok_tl hst)) hL hl hc hs he
theorem ev_if_eq {a : Int} {off : Int} {tgt : Nat} (hd : decode mi.2.1 pc = .ok (.ifCond .eq off, 3)) (ht : (pc : Int) + off = (tgt : Int)) (hm : (mN M ≤ mN M' ∧ mZ M ≤ mZ M') ∧ rB mi r) (kt : a = 0 → Ev X mi d tgt L st M r M') (kf : ¬ (a = 0) → Ev X mi d (pc + 3) L st M r M') : Ev X mi d pc L ((0, a) :: st) M r M' := by
  refine ⟨hm.1, hm.2, ?_⟩
  intro G R p l e s m args below meth c Q A kd ad H locs cells slots ls hC hX hst hL hl hc hs he
  have ha := (ok_hd hst).1 rfl
  refine lv_if_eq (tgt := tgt) hC.1 hC.2.1 hd ht (fun q => ?_) (fun q => ?_)
  · exact (kt ((i32_eq ha ok32_0).mp q)).2.2 G R p l e s m args below meth c Q A kd ad H locs cells slots ls hC hX (ok_tl hst) hL hl hc hs he
  · exact (kf (fun z => q ((i32_eq ha ok32_0).mpr z))).2.2 G R p l e s m args below meth c Q A kd ad H locs cells slots ls hC hX (ok_tl hst) hL hl hc hs he
theorem ev_if_ne {a : Int} {off : Int} {tgt : Nat} (hd : decode mi.2.1 pc = .ok (.ifCond .ne off, 3)) (ht : (pc : Int) + off = (tgt : Int)) (hm : (mN M ≤ mN M' ∧ mZ M ≤ mZ M') ∧ rB mi r) (kt : a ≠ 0 → Ev X mi d tgt L st M r M') (kf : ¬ (a ≠ 0) → Ev X mi d (pc + 3) L st M r M') : Ev X mi d pc L ((0, a) :: st) M r M' := by
  refine ⟨hm.1, hm.2, ?_⟩
  intro G R p l e s m args below meth c Q A kd ad H locs cells slots ls hC hX hst hL hl hc hs he
  have ha := (ok_hd hst).1 rfl
  refine lv_if_ne (tgt := tgt) hC.1 hC.2.1 hd ht (fun q => ?_) (fun q => ?_)
  · exact (kt ((not_congr (i32_eq ha ok32_0)).mp q)).2.2 G R p l e s m args below meth c Q A kd ad H locs cells slots ls hC hX (ok_tl hst) hL hl hc hs he
  · exact (kf (fun z => ((not_congr (i32_eq ha ok32_0)).mpr z) q)).2.2 G R p l e s m args below meth c Q A kd ad H locs cells slots ls hC hX (ok_tl hst) hL hl hc hs he
theorem ev_if_lt {a : Int} {off : Int} {tgt : Nat} (hd : decode mi.2.1 pc = .ok (.ifCond .lt off, 3)) (ht : (pc : Int) + off = (tgt : Int)) (hm : (mN M ≤ mN M' ∧ mZ M ≤ mZ M') ∧ rB mi r) (kt : a < 0 → Ev X mi d tgt L st M r M') (kf : ¬ (a < 0) → Ev X mi d (pc + 3) L st M r M') : Ev X mi d pc L ((0, a) :: st) M r M' := by
  refine ⟨hm.1, hm.2, ?_⟩
  intro G R p l e s m args below meth c Q A kd ad H locs cells slots ls hC hX hst hL hl hc hs he
  have ha := (ok_hd hst).1 rfl
  refine lv_if_lt (tgt := tgt) hC.1 hC.2.1 hd ht (fun q => ?_) (fun q => ?_)
  · exact (kt ((i32_lt ha ok32_0).mp q)).2.2 G R p l e s m args below meth c Q A kd ad H locs cells slots ls hC hX (ok_tl hst) hL hl hc hs he
  · exact (kf (fun z => q ((i32_lt ha ok32_0).mpr z))).2.2 G R p l e s m args below meth c Q A kd ad H locs cells slots ls hC hX (ok_tl hst) hL hl hc hs he
theorem ev_if_ge {a : Int} {off : Int} {tgt : Nat} (hd : decode mi.2.1 pc = .ok (.ifCond .ge off, 3)) (ht : (pc : Int) + off = (tgt : Int)) (hm : (mN M ≤ mN M' ∧ mZ M ≤ mZ M') ∧ rB mi r) (kt : 0 ≤ a → Ev X mi d tgt L st M r M') (kf : ¬ (0 ≤ a) → Ev X mi d (pc + 3) L st M r M') : Ev X mi d pc L ((0, a) :: st) M r M' := by
  refine ⟨hm.1, hm.2, ?_⟩
  intro G R p l e s m args below meth c Q A kd ad H locs cells slots ls hC hX hst hL hl hc hs he
  have ha := (ok_hd hst).1 rfl
  refine lv_if_ge (tgt := tgt) hC.1 hC.2.1 hd ht (fun q => ?_) (fun q => ?_)
  · exact (kt ((i32_le ok32_0 ha).mp q)).2.2 G R p l e s m args below meth c Q A kd ad H locs cells slots ls hC hX (ok_tl hst) hL hl hc hs he
  · exact (kf (fun z => q ((i32_le ok32_0 ha).mpr z))).2.2 G R p l e s m args below meth c Q A kd ad H locs cells slots ls hC hX (ok_tl hst) hL hl hc hs he
theorem ev_if_gt {a : Int} {off : Int} {tgt : Nat} (hd : decode mi.2.1 pc = .ok (.ifCond .gt off, 3)) (ht : (pc : Int) + off = (tgt : Int)) (hm : (mN M ≤ mN M' ∧ mZ M ≤ mZ M') ∧ rB mi r) (kt : 0 < a → Ev X mi d tgt L st M r M') (kf : ¬ (0 < a) → Ev X mi d (pc + 3) L st M r M') : Ev X mi d pc L ((0, a) :: st) M r M' := by
  refine ⟨hm.1, hm.2, ?_⟩
  intro G R p l e s m args below meth c Q A kd ad H locs cells slots ls hC hX hst hL hl hc hs he
  have ha := (ok_hd hst).1 rfl
  refine lv_if_gt (tgt := tgt) hC.1 hC.2.1 hd ht (fun q => ?_) (fun q => ?_)
  · exact (kt ((i32_lt ok32_0 ha).mp q)).2.2 G R p l e s m args below meth c Q A kd ad H locs cells slots ls hC hX (ok_tl hst) hL hl hc hs he
  · exact (kf (fun z => q ((i32_lt ok32_0 ha).mpr z))).2.2 G R p l e s m args below meth c Q A kd ad H locs cells slots ls hC hX (ok_tl hst) hL hl hc hs he
theorem ev_if_le {a : Int} {off : Int} {tgt : Nat} (hd : decode mi.2.1 pc = .ok (.ifCond .le off, 3)) (ht : (pc : Int) + off = (tgt : Int)) (hm : (mN M ≤ mN M' ∧ mZ M ≤ mZ M') ∧ rB mi r) (kt : a ≤ 0 → Ev X mi d tgt L st M r M') (kf : ¬ (a ≤ 0) → Ev X mi d (pc + 3) L st M r M') : Ev X mi d pc L ((0, a) :: st) M r M' := by
  refine ⟨hm.1, hm.2, ?_⟩
  intro G R p l e s m args below meth c Q A kd ad H locs cells slots ls hC hX hst hL hl hc hs he
  have ha := (ok_hd hst).1 rfl
  refine lv_if_le (tgt := tgt) hC.1 hC.2.1 hd ht (fun q => ?_) (fun q => ?_)
  · exact (kt ((i32_le ha ok32_0).mp q)).2.2 G R p l e s m args below meth c Q A kd ad H locs cells slots ls hC hX (ok_tl hst) hL hl hc hs he
  · exact (kf (fun z => q ((i32_le ha ok32_0).mpr z))).2.2 G R p l e s m args below meth c Q A kd ad H locs cells slots ls hC hX (ok_tl hst) hL hl hc hs he
theorem ev_icmp_eq_t {a b : Int} {off : Int} {tgt : Nat} (hd : decode mi.2.1 pc = .ok (.if_icmp .eq off, 3)) (ht : (pc : Int) + off = (tgt : Int)) (hc : a = b) (h : Ev X mi d tgt L st M r M') : Ev X mi d pc L ((0, b) :: (0, a) :: st) M r M' := ev_icmp_eq hd ht ⟨h.1, h.2.1⟩ (fun _ => h) (fun q => absurd hc q)
theorem ev_icmp_eq_f {a b : Int} {off : Int} (hd : decode mi.2.1 pc = .ok (.if_icmp .eq off, 3)) (ht : 0 ≤ (pc : Int) + off) (hc : ¬ (a = b)) (h : Ev X mi d (pc + 3) L st M r M') : Ev X mi d pc L ((0, b) :: (0, a) :: st) M r M' := ev_icmp_eq (tgt := ((pc : Int) + off).toNat) hd (Int.toNat_of_nonneg ht).symm ⟨h.1, h.2.1⟩ (fun q => absurd q hc) (fun _ => h)
theorem ev_icmp_ne_t {a b : Int} {off : Int} {tgt : Nat} (hd : decode mi.2.1 pc = .ok (.if_icmp .ne off, 3)) (ht : (pc : Int) + off = (tgt : Int)) (hc : a ≠ b) (h : Ev X mi d tgt L st M r M') : Ev X mi d pc L ((0, b) :: (0, a) :: st) M r M' := ev_icmp_ne hd ht ⟨h.1, h.2.1⟩ (fun _ => h) (fun q => absurd hc q)
theorem ev_icmp_ne_f {a b : Int} {off : Int} (hd : decode mi.2.1 pc = .ok (.if_icmp .ne off, 3)) (ht : 0 ≤ (pc : Int) + off) (hc : ¬ (a ≠ b)) (h : Ev X mi d (pc + 3) L st M r M') : Ev X mi d pc L ((0, b) :: (0, a) :: st) M r M' := ev_icmp_ne (tgt := ((pc : Int) + off).toNat) hd (Int.toNat_of_nonneg ht).symm ⟨h.1, h.2.1⟩ (fun q => absurd q hc) (fun _ => h)
theorem ev_icmp_lt_t {a b : Int} {off : Int} {tgt : Nat} (hd : decode mi.2.1 pc = .ok (.if_icmp .lt off, 3)) (ht : (pc : Int) + off = (tgt : Int)) (hc : a < b) (h : Ev X mi d tgt L st M r M') : Ev X mi d pc L ((0, b) :: (0, a) :: st) M r M' := ev_icmp_lt hd ht ⟨h.1, h.2.1⟩ (fun _ => h) (fun q => absurd hc q)
theorem ev_icmp_lt_f {a b : Int} {off : Int} (hd : decode mi.2.1 pc = .ok (.if_icmp .lt off, 3)) (ht : 0 ≤ (pc : Int) + off) (hc : ¬ (a < b)) (h : Ev X mi d (pc + 3) L st M r M') : Ev X mi d pc L ((0, b) :: (0, a) :: st) M r M' := ev_icmp_lt (tgt := ((pc : Int) + off).toNat) hd (Int.toNat_of_nonneg ht).symm ⟨h.1, h.2.1⟩ (fun q => absurd q hc) (fun _ => h)
theorem ev_icmp_ge_t {a b : Int} {off : Int} {tgt : Nat} (hd : decode mi.2.1 pc = .ok (.if_icmp .ge off, 3)) (ht : (pc : Int) + off = (tgt : Int)) (hc : b ≤ a) (h : Ev X mi d tgt L st M r M') : Ev X mi d pc L ((0, b) :: (0, a) :: st) M r M' := ev_icmp_ge hd ht ⟨h.1, h.2.1⟩ (fun _ => h) (fun q => absurd hc q)
theorem ev_icmp_ge_f {a b : Int} {off : Int} (hd : decode mi.2.1 pc = .ok (.if_icmp .ge off, 3)) (ht : 0 ≤ (pc : Int) + off) (hc : ¬ (b ≤ a)) (h : Ev X mi d (pc + 3) L st M r M') : Ev X mi d pc L ((0, b) :: (0, a) :: st) M r M' := ev_icmp_ge (tgt := ((pc : Int) + off).toNat) hd (Int.toNat_of_nonneg ht).symm ⟨h.1, h.2.1⟩ (fun q => absurd q hc) (fun _ => h)
theorem ev_icmp_gt_t {a b : Int} {off : Int} {tgt : Nat} (hd : decode mi.2.1 pc = .ok (.if_icmp .gt off, 3)) (ht : (pc : Int) + off = (tgt : Int)) (hc : b < a) (h : Ev X mi d tgt L st M r M') : Ev X mi d pc L ((0, b) :: (0, a) :: st) M r M' := ev_icmp_gt hd ht ⟨h.1, h.2.1⟩ (fun _ => h) (fun q => absurd hc q)
theorem ev_icmp_gt_f {a b : Int} {off : Int} (hd : decode mi.2.1 pc = .ok (.if_icmp .gt off, 3)) (ht : 0 ≤ (pc : Int) + off) (hc : ¬ (b < a)) (h : Ev X mi d (pc + 3) L st M r M') : Ev X mi d pc L ((0, b) :: (0, a) :: st) M r M' := ev_icmp_gt (tgt := ((pc : Int) + off).toNat) hd (Int.toNat_of_nonneg ht).symm ⟨h.1, h.2.1⟩ (fun q => absurd q hc) (fun _ => h)
theorem ev_icmp_le_t {a b : Int} {off : Int} {tgt : Nat} (hd : decode mi.2.1 pc = .ok (.if_icmp .le off, 3)) (ht : (pc : Int) + off = (tgt : Int)) (hc : a ≤ b) (h : Ev X mi d tgt L st M r M') : Ev X mi d pc L ((0, b) :: (0, a) :: st) M r M' := ev_icmp_le hd ht ⟨h.1, h.2.1⟩ (fun _ => h) (fun q => absurd hc q)
theorem ev_icmp_le_f {a b : Int} {off : Int} (hd : decode mi.2.1 pc = .ok (.if_icmp .le off, 3)) (ht : 0 ≤ (pc : Int) + off) (hc : ¬ (a ≤ b)) (h : Ev X mi d (pc + 3) L st M r M') : Ev X mi d pc L ((0, b) :: (0, a) :: st) M r M' := ev_icmp_le (tgt := ((pc : Int) + off).toNat) hd (Int.toNat_of_nonneg ht).symm ⟨h.1, h.2.1⟩ (fun q => absurd q hc) (fun _ => h)
theorem ev_if_eq_t {a : Int} {off : Int} {tgt : Nat} (hd : decode mi.2.1 pc = .ok (.ifCond .eq off, 3)) (ht : (pc : Int) + off = (tgt : Int)) (hc : a = 0) (h : Ev X mi d tgt L st M r M') : Ev X mi d pc L ((0, a) :: st) M r M' := ev_if_eq hd ht ⟨h.1, h.2.1⟩ (fun _ => h) (fun q => absurd hc q)
theorem ev_if_eq_f {a : Int} {off : Int} (hd : decode mi.2.1 pc = .ok (.ifCond .eq off, 3)) (ht : 0 ≤ (pc : Int) + off) (hc : ¬ (a = 0)) (h : Ev X mi d (pc + 3) L st M r M') : Ev X mi d pc L ((0, a) :: st) M r M' := ev_if_eq (tgt := ((pc : Int) + off).toNat) hd (Int.toNat_of_nonneg ht).symm ⟨h.1, h.2.1⟩ (fun q => absurd q hc) (fun _ => h)
theorem ev_if_ne_t {a : Int} {off : Int} {tgt : Nat} (hd : decode mi.2.1 pc = .ok (.ifCond .ne off, 3)) (ht : (pc : Int) + off = (tgt : Int)) (hc : a ≠ 0) (h : Ev X mi d tgt L st M r M') : Ev X mi d pc L ((0, a) :: st) M r M' := ev_if_ne hd ht ⟨h.1, h.2.1⟩ (fun _ => h) (fun q => absurd hc q)
theorem ev_if_ne_f {a : Int} {off : Int} (hd : decode mi.2.1 pc = .ok (.ifCond .ne off, 3)) (ht : 0 ≤ (pc : Int) + off) (hc : ¬ (a ≠ 0)) (h : Ev X mi d (pc + 3) L st M r M') : Ev X mi d pc L ((0, a) :: st) M r M' := ev_if_ne (tgt := ((pc : Int) + off).toNat) hd (Int.toNat_of_nonneg ht).symm ⟨h.1, h.2.1⟩ (fun q => absurd q hc) (fun _ => h)
theorem ev_if_lt_t {a : Int} {off : Int} {tgt : Nat} (hd : decode mi.2.1 pc = .ok (.ifCond .lt off, 3)) (ht : (pc : Int) + off = (tgt : Int)) (hc : a < 0) (h : Ev X mi d tgt L st M r M') : Ev X mi d pc L ((0, a) :: st) M r M' := ev_if_lt hd ht ⟨h.1, h.2.1⟩ (fun _ => h) (fun q => absurd hc q)
theorem ev_if_lt_f {a : Int} {off : Int} (hd : decode mi.2.1 pc = .ok (.ifCond .lt off, 3)) (ht : 0 ≤ (pc : Int) + off) (hc : ¬ (a < 0)) (h : Ev X mi d (pc + 3) L st M r M') : Ev X mi d pc L ((0, a) :: st) M r M' := ev_if_lt (tgt := ((pc : Int) + off).toNat) hd (Int.toNat_of_nonneg ht).symm ⟨h.1, h.2.1⟩ (fun q => absurd q hc) (fun _ => h)
theorem ev_if_ge_t {a : Int} {off : Int} {tgt : Nat} (hd : decode mi.2.1 pc = .ok (.ifCond .ge off, 3)) (ht : (pc : Int) + off = (tgt : Int)) (hc : 0 ≤ a) (h : Ev X mi d tgt L st M r M') : Ev X mi d pc L ((0, a) :: st) M r M' := ev_if_ge hd ht ⟨h.1, h.2.1⟩ (fun _ => h) (fun q => absurd hc q)
theorem ev_if_ge_f {a : Int} {off : Int} (hd : decode mi.2.1 pc = .ok (.ifCond .ge off, 3)) (ht : 0 ≤ (pc : Int) + off) (hc : ¬ (0 ≤ a)) (h : Ev X mi d (pc + 3) L st M r M') : Ev X mi d pc L ((0, a) :: st) M r M' := ev_if_ge (tgt := ((pc : Int) + off).toNat) hd (Int.toNat_of_nonneg ht).symm ⟨h.1, h.2.1⟩ (fun q => absurd q hc) (fun _ => h)
theorem ev_if_gt_t {a : Int} {off : Int} {tgt : Nat} (hd : decode mi.2.1 pc = .ok (.ifCond .gt off, 3)) (ht : (pc : Int) + off = (tgt : Int)) (hc : 0 < a) (h : Ev X mi d tgt L st M r M') : Ev X mi d pc L ((0, a) :: st) M r M' := ev_if_gt hd ht ⟨h.1, h.2.1⟩ (fun _ => h) (fun q => absurd hc q)
theorem ev_if_gt_f {a : Int} {off : Int} (hd : decode mi.2.1 pc = .ok (.ifCond .gt off, 3)) (ht : 0 ≤ (pc : Int) + off) (hc : ¬ (0 < a)) (h : Ev X mi d (pc + 3) L st M r M') : Ev X mi d pc L ((0, a) :: st) M r M' := ev_if_gt (tgt := ((pc : Int) + off).toNat) hd (Int.toNat_of_nonneg ht).symm ⟨h.1, h.2.1⟩ (fun q => absurd q hc) (fun _ => h)
theorem ev_if_le_t {a : Int} {off : Int} {tgt : Nat} (hd : decode mi.2.1 pc = .ok (.ifCond .le off, 3)) (ht : (pc : Int) + off = (tgt : Int)) (hc : a ≤ 0) (h : Ev X mi d tgt L st M r M') : Ev X mi d pc L ((0, a) :: st) M r M' := ev_if_le hd ht ⟨h.1, h.2.1⟩ (fun _ => h) (fun q => absurd hc q)
theorem ev_if_le_f {a : Int} {off : Int} (hd : decode mi.2.1 pc = .ok (.ifCond .le off, 3)) (ht : 0 ≤ (pc : Int) + off) (hc : ¬ (a ≤ 0)) (h : Ev X mi d (pc + 3) L st M r M') : Ev X mi d pc L ((0, a) :: st) M r M' := ev_if_le (tgt := ((pc : Int) + off).toNat) hd (Int.toNat_of_nonneg ht).symm ⟨h.1, h.2.1⟩ (fun q => absurd q hc) (fun _ => h)
def lC (a b : Int) : Int := if a < b then -1 else if a = b then 0 else 1
theorem lC_ok (a b : Int) : ok32 (lC a b) := by unfold lC ok32; split <;> (try split) <;> omega
theorem ev_lcmp {a b : Int} (hd : decode mi.2.1 pc = .ok (.lcmp, 1)) (h : Ev X mi d (pc + 1) L ((0, lC a b) :: st) M r M') : Ev X mi d pc L ((1, b) :: (1, a) :: st) M r M' := by
  refine ev_step h ?_
  intro G R p l e s m args below meth c Q A kd ad H locs cells slots ls hC hX hst hL hl
  have hb := (ok_hd hst).2.1 rfl
  have ha := (ok_hd (ok_tl hst)).2.1 rfl
  refine ⟨ok_cs (okI (lC_ok _ _)) (ok_tl (ok_tl hst)), hL, fun k => ?_⟩
  have hk := k ls hl
  rw [List.map_cons, cv_i] at hk
  have e : lg_cmp (Int64.ofInt a) (Int64.ofInt b) = Int32.ofInt (lC a b) := by
    have h1 := i64_lt ha hb
    have h2 := i64_lt hb ha
    have h3 := i64_eq ha hb
    unfold lg_cmp lC
    by_cases q1 : a < b
    · have q2 := h1.mpr q1
      have q3 : ¬ Int64.ofInt b < Int64.ofInt a := fun z => by have := h2.mp z; omega
      have q4 : ¬ Int64.ofInt a = Int64.ofInt b := fun z => by have := h3.mp z; omega
      simp [q1, q2, q3, q4] <;> rfl
    · have q2 : ¬ Int64.ofInt a < Int64.ofInt b := fun z => q1 (h1.mp z)
      by_cases q5 : a = b
      · have q6 := h3.mpr q5
        have q3 : ¬ Int64.ofInt b < Int64.ofInt a := fun z => by have := h2.mp z; omega
        simp [q1, q2, q3, q5, q6] <;> rfl
      · have q4 : ¬ Int64.ofInt a = Int64.ofInt b := fun z => q5 (h3.mp z)
        have q3 : Int64.ofInt b < Int64.ofInt a := h2.mpr (by omega)
        simp [q1, q2, q3, q4, q5] <;> rfl
  refine W.lcmp hC.1 hC.2.1 hd ?_
  rw [e]; exact hk
theorem lC_eq (a b : Int) : lC a b = 0 ↔ a = b := by unfold lC; split <;> (try split) <;> omega
theorem lC_ne (a b : Int) : lC a b ≠ 0 ↔ a ≠ b := by unfold lC; split <;> (try split) <;> omega
theorem lC_lt (a b : Int) : lC a b < 0 ↔ a < b := by unfold lC; split <;> (try split) <;> omega
theorem lC_ge (a b : Int) : 0 ≤ lC a b ↔ b ≤ a := by unfold lC; split <;> (try split) <;> omega
theorem lC_gt (a b : Int) : 0 < lC a b ↔ b < a := by unfold lC; split <;> (try split) <;> omega
theorem lC_le (a b : Int) : lC a b ≤ 0 ↔ a ≤ b := by unfold lC; split <;> (try split) <;> omega
theorem ev_goto {off : Int} {tgt : Nat} (hd : decode mi.2.1 pc = .ok (.goto off, 3)) (ht : (pc : Int) + off = (tgt : Int)) (h : Ev X mi d tgt L st M r M') : Ev X mi d pc L st M r M' := by
  refine ev_step h ?_
  intro G R p l e s m args below meth c Q A kd ad H locs cells slots ls hC hX hst hL hl
  exact ⟨hst, hL, fun k => lv_goto hC.1 hC.2.1 hd ht (k ls hl)⟩
theorem cat1 {G : GG} {ad : Nat → Nat} {q : AV} (h : q.1 ≠ 1) : (cv G ad q).category = 1 := by rw [cv_cat, if_neg h]
theorem ev_dup {q : AV} (hd : decode mi.2.1 pc = .ok (.dup, 1)) (hq : q.1 ≠ 1) (h : Ev X mi d (pc + 1) L (q :: q :: st) M r M') : Ev X mi d pc L (q :: st) M r M' := by
  refine ev_step h ?_
  intro G R p l e s m args below meth c Q A kd ad H locs cells slots ls hC hX hst hL hl
  exact ⟨ok_cs (ok_hd hst) hst, hL, fun k => lv_dup hC.1 hC.2.1 hd (cat1 hq) (k ls hl)⟩
theorem ev_pop {q : AV} (hd : decode mi.2.1 pc = .ok (.pop, 1)) (hq : q.1 ≠ 1) (h : Ev X mi d (pc + 1) L st M r M') : Ev X mi d pc L (q :: st) M r M' := by
  refine ev_step h ?_
  intro G R p l e s m args below meth c Q A kd ad H locs cells slots ls hC hX hst hL hl
  exact ⟨ok_tl hst, hL, fun k => lv_pop hC.1 hC.2.1 hd (cat1 hq) (k ls hl)⟩
theorem ev_dup2 {q q2 : AV} (hd : decode mi.2.1 pc = .ok (.dup2, 1)) (hq : q.1 ≠ 1) (hq2 : q2.1 ≠ 1) (h : Ev X mi d (pc + 1) L (q :: q2 :: q :: q2 :: st) M r M') : Ev X mi d pc L (q :: q2 :: st) M r M' := by
  refine ev_step h ?_
  intro G R p l e s m args below meth c Q A kd ad H locs cells slots ls hC hX hst hL hl
  exact ⟨ok_cs (ok_hd hst) (ok_cs (ok_hd (ok_tl hst)) hst), hL, fun k => lv_dup2_11 hC.1 hC.2.1 hd (cat1 hq) (cat1 hq2) (k ls hl)⟩
theorem ev_lconst {n : Fin 2} {v : Int} (hd : decode mi.2.1 pc = .ok (.lconst n, 1)) (hn : Int64.ofNat (n : Nat) = Int64.ofInt v) (hv : (decide (-9223372036854775808 ≤ v) && decide (v < 9223372036854775808)) = true) (h : Ev X mi d (pc + 1) L ((1, v) :: st) M r M') : Ev X mi d pc L st M r M' := by
  have hv : ok64 v := by simp only [Bool.and_eq_true, decide_eq_true_eq] at hv; exact hv
  refine ev_step h ?_
  intro G R p l e s m args below meth c Q A kd ad H locs cells slots ls hC hX hst hL hl
  exact ⟨ok_cs (okJ hv) hst, hL, fun k => lv_lconst hC.1 hC.2.1 hd hn (k ls hl)⟩
theorem ev_null {t : Nat} (h2 : 2 ≤ t) (h16 : t ≤ 16) (hd : decode mi.2.1 pc = .ok (.aconst_null, 1)) (h : Ev X mi d (pc + 1) L ((t, 0) :: st) M r M') : Ev X mi d pc L st M r M' := by
  refine ev_step h ?_
  intro G R p l e s m args below meth c Q A kd ad H locs cells slots ls hC hX hst hL hl
  refine ⟨ok_cs ⟨fun e => by simp only at e; omega, fun e => by simp only at e; omega, fun _ _ => Or.inl rfl, fun e => by simp only at e; omega, fun e => by simp only at e; omega⟩ hst, hL, fun k => ?_⟩
  have hk := k ls hl
  rw [List.map_cons, cv_n G ad h2 h16] at hk
  exact lv_null hC.1 hC.2.1 hd hk
theorem ev_ifnull_t {t : Nat} {v : Int} {off : Int} {tgt : Nat} (h2 : 2 ≤ t) (h16 : t ≤ 16) (hd : decode mi.2.1 pc = .ok (.ifnull off, 3)) (ht : (pc : Int) + off = (tgt : Int)) (hv : v = 0) (h : Ev X mi d tgt L st M r M') : Ev X mi d pc L ((t, v) :: st) M r M' := by
  subst hv
  refine ev_step h ?_
  intro G R p l e s m args below meth c Q A kd ad H locs cells slots ls hC hX hst hL hl
  refine ⟨ok_tl hst, hL, fun k => ?_⟩
  rw [List.map_cons, cv_n G ad h2 h16]
  exact lv_ifnullN hC.1 hC.2.1 hd ht (k ls hl)
theorem ev_ifnull_f {t : Nat} {v : Int} {off : Int} (h2 : 2 ≤ t) (h16 : t ≤ 16) (hd : decode mi.2.1 pc = .ok (.ifnull off, 3)) (hv : ¬ (v = 0)) (h : Ev X mi d (pc + 3) L st M r M') : Ev X mi d pc L ((t, v) :: st) M r M' := by
  refine ev_step h ?_
  intro G R p l e s m args below meth c Q A kd ad H locs cells slots ls hC hX hst hL hl
  refine ⟨ok_tl hst, hL, fun k => ?_⟩
  rw [List.map_cons, cv_r G ad h2 h16 hv]
  exact lv_ifnull hC.1 hC.2.1 hd (k ls hl)
theorem ev_ifnonnull_t {t : Nat} {v : Int} {off : Int} {tgt : Nat} (h2 : 2 ≤ t) (h16 : t ≤ 16) (hd : decode mi.2.1 pc = .ok (.ifnonnull off, 3)) (ht : (pc : Int) + off = (tgt : Int)) (hv : v ≠ 0) (h : Ev X mi d tgt L st M r M') : Ev X mi d pc L ((t, v) :: st) M r M' := by
  refine ev_step h ?_
  intro G R p l e s m args below meth c Q A kd ad H locs cells slots ls hC hX hst hL hl
  refine ⟨ok_tl hst, hL, fun k => ?_⟩
  rw [List.map_cons, cv_r G ad h2 h16 hv]
  exact lv_ifnonnull hC.1 hC.2.1 hd ht (k ls hl)
theorem ev_ifnonnull_f {t : Nat} {v : Int} {off : Int} (h2 : 2 ≤ t) (h16 : t ≤ 16) (hd : decode mi.2.1 pc = .ok (.ifnonnull off, 3)) (hv : ¬ (v ≠ 0)) (h : Ev X mi d (pc + 3) L st M r M') : Ev X mi d pc L ((t, v) :: st) M r M' := by
  have hv : v = 0 := by omega
  subst hv
  refine ev_step h ?_
  intro G R p l e s m args below meth c Q A kd ad H locs cells slots ls hC hX hst hL hl
  refine ⟨ok_tl hst, hL, fun k => ?_⟩
  rw [List.map_cons, cv_n G ad h2 h16]
  exact lv_ifnonnullN hC.1 hC.2.1 hd (k ls hl)
theorem ev_tabIn {v : Int} (i : Nat) {dflt lo hi : Int} {offs : Array Int} {len : Nat} {off : Int} {tgt : Nat} (hd : decode mi.2.1 pc = .ok (.tableswitch dflt lo hi offs, len)) (hv : v = lo + (i : Int)) (h2 : ¬ hi < lo + (i : Int)) (ho : offs[i]? = some off) (ht : (pc : Int) + off = (tgt : Int)) (h : Ev X mi d tgt L st M r M') : Ev X mi d pc L ((0, v) :: st) M r M' := by
  refine ev_step h ?_
  intro G R p l e s m args below meth c Q A kd ad H locs cells slots ls hC hX hst hL hl
  have ha := (ok_hd hst).1 rfl
  refine ⟨ok_tl hst, hL, fun k => lv_tableIn hC.1 hC.2.1 hd ?_ ?_ ?_ ht (k ls hl)⟩
  · rw [i32_c ha]; omega
  · rw [i32_c ha]; omega
  · rw [i32_c ha, show (v - lo).toNat = i by omega]; exact ho
theorem ev_tabOut {v : Int} {dflt lo hi : Int} {offs : Array Int} {len : Nat} {tgt : Nat} (hd : decode mi.2.1 pc = .ok (.tableswitch dflt lo hi offs, len)) (hv : v < lo ∨ hi < v) (ht : (pc : Int) + dflt = (tgt : Int)) (h : Ev X mi d tgt L st M r M') : Ev X mi d pc L ((0, v) :: st) M r M' := by
  refine ev_step h ?_
  intro G R p l e s m args below meth c Q A kd ad H locs cells slots ls hC hX hst hL hl
  have ha := (ok_hd hst).1 rfl
  refine ⟨ok_tl hst, hL, fun k => lv_tableOut hC.1 hC.2.1 hd ?_ ht (k ls hl)⟩
  rw [i32_c ha]; exact hv
theorem ev_look {v : Int} {dflt : Int} {ps : Array (Int × Int)} {len : Nat} {off : Int} {tgt : Nat} (hd : decode mi.2.1 pc = .ok (.lookupswitch dflt ps, len)) (hp : (ps.toList.zip (ps.toList.drop 1)).all (fun (a, next) => a.1 < next.1) = true) (ho : Op.lookupswitch.offset ps.toList dflt v = off) (ht : (pc : Int) + off = (tgt : Int)) (h : Ev X mi d tgt L st M r M') : Ev X mi d pc L ((0, v) :: st) M r M' := by
  refine ev_step h ?_
  intro G R p l e s m args below meth c Q A kd ad H locs cells slots ls hC hX hst hL hl
  have ha := (ok_hd hst).1 rfl
  refine ⟨ok_tl hst, hL, fun k => lv_lookup hC.1 hC.2.1 hd hp ?_ ht (k ls hl)⟩
  rw [i32_c ha]; exact ho
theorem ev_ret {v : Int} (hd : decode mi.2.1 pc = .ok (.ireturn, 1)) (hi : mi.2.2.2.1 = some .int) : Ev X mi d pc L [(0, v)] M (some (0, v)) M := by
  refine ⟨⟨Nat.le_refl _, Nat.le_refl _⟩, fun q _ h => (by rw [hi] at h; cases h), ?_⟩
  intro G R p l e s m args below meth c Q A kd ad H locs cells slots ls hC hX hst hL hl hc hs he
  exact he kd ad H locs cells slots pc ls (fun _ _ => ⟨rfl, rfl⟩) hX ⟨ok_hd hst, Or.inl ⟨rfl, Or.inl hi⟩⟩ hd (by omega) (by omega)
theorem ev_retZ {v : Int} (hd : decode mi.2.1 pc = .ok (.ireturn, 1)) (hi : mi.2.2.2.1 = some .boolean) (hv : v = 0 ∨ v = 1) : Ev X mi d pc L [(0, v)] M (some (0, v)) M := by
  refine ⟨⟨Nat.le_refl _, Nat.le_refl _⟩, fun q e _ => (by cases e; exact hv), ?_⟩
  intro G R p l e s m args below meth c Q A kd ad H locs cells slots ls hC hX hst hL hl hc hs he
  exact he kd ad H locs cells slots pc ls (fun _ _ => ⟨rfl, rfl⟩) hX ⟨ok_hd hst, Or.inl ⟨rfl, Or.inr (Or.inl ⟨hi, hv⟩)⟩⟩ hd (by omega) (by omega)
theorem ev_retB (hd : decode mi.2.1 pc = .ok (.ireturn, 1)) (hi : mi.2.2.2.1 = some .byte) : Ev X mi d pc L [(0, 0)] M (some (0, 0)) M := by
  refine ⟨⟨Nat.le_refl _, Nat.le_refl _⟩, fun q _ h => (by rw [hi] at h; cases h), ?_⟩
  intro G R p l e s m args below meth c Q A kd ad H locs cells slots ls hC hX hst hL hl hc hs he
  exact he kd ad H locs cells slots pc ls (fun _ _ => ⟨rfl, rfl⟩) hX ⟨ok_hd hst, Or.inl ⟨rfl, Or.inr (Or.inr (Or.inl ⟨hi, rfl⟩))⟩⟩ hd (by omega) (by omega)
theorem ev_retC {v : Int} (hd : decode mi.2.1 pc = .ok (.ireturn, 1)) (hi : mi.2.2.2.1 = some .char) (hv : 0 ≤ v ∧ v < 128) : Ev X mi d pc L [(0, v)] M (some (0, v)) M := by
  refine ⟨⟨Nat.le_refl _, Nat.le_refl _⟩, fun q _ h => (by rw [hi] at h; cases h), ?_⟩
  intro G R p l e s m args below meth c Q A kd ad H locs cells slots ls hC hX hst hL hl hc hs he
  exact he kd ad H locs cells slots pc ls (fun _ _ => ⟨rfl, rfl⟩) hX ⟨ok_hd hst, Or.inl ⟨rfl, Or.inr (Or.inr (Or.inr ⟨hi, hv.1, hv.2⟩))⟩⟩ hd (by omega) (by omega)
theorem ev_retL {v : Int} (hd : decode mi.2.1 pc = .ok (.lreturn, 1)) (hi : mi.2.2.2.1 = some .long) : Ev X mi d pc L [(1, v)] M (some (1, v)) M := by
  refine ⟨⟨Nat.le_refl _, Nat.le_refl _⟩, fun q _ h => (by rw [hi] at h; cases h), ?_⟩
  intro G R p l e s m args below meth c Q A kd ad H locs cells slots ls hC hX hst hL hl hc hs he
  exact he kd ad H locs cells slots pc ls (fun _ _ => ⟨rfl, rfl⟩) hX ⟨ok_hd hst, Or.inr (Or.inl ⟨rfl, hi⟩)⟩ hd (by omega) (by omega)
theorem ev_retV (hd : decode mi.2.1 pc = .ok (.return_, 1)) (hi : mi.2.2.2.1 = none) : Ev X mi d pc L [] M none M := by
  refine ⟨⟨Nat.le_refl _, Nat.le_refl _⟩, fun q e _ => (by cases e), ?_⟩
  intro G R p l e s m args below meth c Q A kd ad H locs cells slots ls hC hX hst hL hl hc hs he
  exact he kd ad H locs cells slots pc ls (fun _ _ => ⟨rfl, rfl⟩) hX hi hd (by omega) (by omega)
theorem ev_retA {t : Nat} {v : Int} {C : String} (h2 : 2 ≤ t) (h16 : t ≤ 16) (hd : decode mi.2.1 pc = .ok (.areturn, 1)) (hi : mi.2.2.2.1 = some (.object C)) : Ev X mi d pc L [(t, v)] M (some (t, v)) M := by
  refine ⟨⟨Nat.le_refl _, Nat.le_refl _⟩, fun q _ h => (by rw [hi] at h; cases h), ?_⟩
  intro G R p l e s m args below meth c Q A kd ad H locs cells slots ls hC hX hst hL hl hc hs he
  have hrd : rD mi pc (some (t, v)) := by unfold rD; simp only; rw [if_neg (by omega), if_neg (by omega)]; exact hd
  exact he kd ad H locs cells slots pc ls (fun _ _ => ⟨rfl, rfl⟩) hX ⟨ok_hd hst, Or.inr (Or.inr ⟨h2, h16, C, hi⟩)⟩ hrd (by omega) (by omega)
end EV2
