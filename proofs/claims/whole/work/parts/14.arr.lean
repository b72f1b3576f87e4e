theorem cE_I {G : GG} {ad kd : Nat → Nat} {M : Mm} {c : Nat} (h : kd c = 13) : cE G ad kd M c = .inl (G.2.1.1, ml M c, .inl fun k => Int32.ofInt (mg M c k)) := by
  unfold cE; rw [h]; rfl
theorem cE_J {G : GG} {ad kd : Nat → Nat} {M : Mm} {c : Nat} (h : kd c = 14) : cE G ad kd M c = .inl (G.2.1.2.1, ml M c, .inr (.inl fun k => Int64.ofInt (mg M c k))) := by
  unfold cE; rw [h]; rfl
theorem cE_Z {G : GG} {ad kd : Nat → Nat} {M : Mm} {c : Nat} (h : kd c = 15) : cE G ad kd M c = .inl (G.2.1.2.2.1, ml M c, .inl fun k => Int32.ofInt (mg M c k)) := by
  unfold cE; rw [h]; rfl
theorem cE_O {G : GG} {ad kd : Nat → Nat} {M : Mm} {c : Nat} (h : kd c = 16) : cE G ad kd M c = .inl (G.2.1.2.2.2, ml M c, .inr (.inr (.inr (.inr fun k => if mg M c k = 0 then none else some (ad (cI (mg M c k))))))) := by
  unfold cE; rw [h]; rfl
theorem okT {kd : Nat → Nat} {n t : Nat} {v : Int} (h : okV kd n (21, v)) : v = 0 ∨ v = 1 := h.2.2.2.1 rfl
section EV4
variable {X : XX} {mi : MI} {d pc : Nat} {L : List (Nat × AV)} {st : List AV} {M : Mm} {r : Option AV} {M' : Mm}
theorem ev_iald {i v : Int} (hd : decode mi.2.1 pc = .ok (.iaload, 1)) (hv : v ≠ 0) (hi : 0 ≤ i ∧ i < (ml M (cI v) : Int)) (h : Ev X mi d (pc + 1) L ((0, mg M (cI v) i.toNat) :: st) M r M') : Ev X mi d pc L ((0, i) :: (13, v) :: st) M r M' := by
  refine ev_step h ?_
  intro G R p l e s m args below meth c Q A kd ad H locs cells slots ls hC hX hst hL hl
  have hi3 := (ok_hd hst).1 rfl
  obtain ⟨hcn, hkd⟩ := ref_at (ok_hd (ok_tl hst)) (by omega) (by omega) hv
  have ho := (hX.1 _ hcn).2.2.2 i.toNat
  rw [hkd] at ho
  refine ⟨ok_cs ho (ok_tl (ok_tl hst)), hL, fun kk => ?_⟩
  have hk := kk ls hl
  rw [List.map_cons, List.map_cons, cv_r G ad (by omega) (by omega) hv]
  refine va_iald (D := G.1) (cl := cls) (f := fun k => Int32.ofInt (mg M (cI v) k)) hC.1 hC.2.1 hC.2.2.2.2.2.2.2.2.1 hX.2.1 (cI v) 0 (by rw [wl_at hcn, cE_I hkd]) rfl (i32_in hi3 hi.1 hi.2) hd ?_
  rw [i32_cl hi3]; exact hk
theorem ev_lald {i v : Int} (hd : decode mi.2.1 pc = .ok (.laload, 1)) (hv : v ≠ 0) (hi : 0 ≤ i ∧ i < (ml M (cI v) : Int)) (h : Ev X mi d (pc + 1) L ((1, mg M (cI v) i.toNat) :: st) M r M') : Ev X mi d pc L ((0, i) :: (14, v) :: st) M r M' := by
  refine ev_step h ?_
  intro G R p l e s m args below meth c Q A kd ad H locs cells slots ls hC hX hst hL hl
  have hi3 := (ok_hd hst).1 rfl
  obtain ⟨hcn, hkd⟩ := ref_at (ok_hd (ok_tl hst)) (by omega) (by omega) hv
  have ho := (hX.1 _ hcn).2.2.2 i.toNat
  rw [hkd] at ho
  refine ⟨ok_cs ho (ok_tl (ok_tl hst)), hL, fun kk => ?_⟩
  have hk := kk ls hl
  rw [List.map_cons, List.map_cons, cv_r G ad (by omega) (by omega) hv]
  refine va_lald (D := G.1) (cl := cls) (f := fun k => Int64.ofInt (mg M (cI v) k)) hC.1 hC.2.1 hC.2.2.2.2.2.2.2.2.1 hX.2.1 (cI v) 1 (by rw [wl_at hcn, cE_J hkd]) rfl (i32_in hi3 hi.1 hi.2) hd ?_
  rw [i32_cl hi3]; exact hk
theorem okZ {kd : Nat → Nat} {n : Nat} {v : Int} (h : okV kd n (21, v)) : okV kd n (0, v) := okI (by rcases okT (t := 0) h with e | e <;> rw [e] <;> unfold ok32 <;> omega)
theorem ev_zald {i v : Int} (hd : decode mi.2.1 pc = .ok (.baload, 1)) (hv : v ≠ 0) (hi : 0 ≤ i ∧ i < (ml M (cI v) : Int)) (h : Ev X mi d (pc + 1) L ((0, mg M (cI v) i.toNat) :: st) M r M') : Ev X mi d pc L ((0, i) :: (15, v) :: st) M r M' := by
  refine ev_step h ?_
  intro G R p l e s m args below meth c Q A kd ad H locs cells slots ls hC hX hst hL hl
  have hi3 := (ok_hd hst).1 rfl
  obtain ⟨hcn, hkd⟩ := ref_at (ok_hd (ok_tl hst)) (by omega) (by omega) hv
  have ho := (hX.1 _ hcn).2.2.2 i.toNat
  rw [hkd] at ho
  refine ⟨ok_cs (okZ ho) (ok_tl (ok_tl hst)), hL, fun kk => ?_⟩
  have hk := kk ls hl
  rw [List.map_cons, List.map_cons, cv_r G ad (by omega) (by omega) hv]
  refine va_zald (D := G.1) (cl := cls) (f := fun k => Int32.ofInt (mg M (cI v) k)) hC.1 hC.2.1 hC.2.2.2.2.2.2.2.2.1 hX.2.1 (cI v) 2 (by rw [wl_at hcn, cE_Z hkd]) rfl (i32_in hi3 hi.1 hi.2) hd ?_
  rw [i32_cl hi3]; exact hk
theorem ev_aald {i v : Int} (hd : decode mi.2.1 pc = .ok (.aaload, 1)) (hv : v ≠ 0) (hi : 0 ≤ i ∧ i < (ml M (cI v) : Int)) (h : Ev X mi d (pc + 1) L ((5, mg M (cI v) i.toNat) :: st) M r M') : Ev X mi d pc L ((0, i) :: (16, v) :: st) M r M' := by
  refine ev_step h ?_
  intro G R p l e s m args below meth c Q A kd ad H locs cells slots ls hC hX hst hL hl
  have hi3 := (ok_hd hst).1 rfl
  obtain ⟨hcn, hkd⟩ := ref_at (ok_hd (ok_tl hst)) (by omega) (by omega) hv
  have ho := (hX.1 _ hcn).2.2.2 i.toNat
  rw [hkd] at ho
  refine ⟨ok_cs ho (ok_tl (ok_tl hst)), hL, fun kk => ?_⟩
  have hk := kk ls hl
  rw [List.map_cons, List.map_cons, cv_r G ad (by omega) (by omega) hv]
  refine va_aldq (D := G.1) (cl := cls) (C := "TownBand$Piece") (f := fun k => if mg M (cI v) k = 0 then none else some (ad (cI (mg M (cI v) k)))) hC.1 hC.2.1 hC.2.2.2.2.2.2.2.2.1 hX.2.1 (cI v) 3 (by rw [wl_at hcn, cE_O hkd]) rfl (i32_in hi3 hi.1 hi.2) hd ?_
  rw [i32_cl hi3]; exact hk
theorem f_upd {α β : Type} (g : α → β) (u : (Nat → β) → Nat → β → Nat → β) (hu : ∀ f k x j, u f k x j = if j = k then x else f j) (f : Nat → α) (k : Nat) (x : α) : u (fun j => g (f j)) k (g x) = fun j => g (if j = k then x else f j) := by
  funext j; rw [hu]; by_cases h : j = k <;> simp [h]
theorem ev_iast {i v x : Int} (hd : decode mi.2.1 pc = .ok (.iastore, 1)) (hv : v ≠ 0) (hi : 0 ≤ i ∧ i < (ml M (cI v) : Int)) (h : Ev X mi d (pc + 1) L st (mp M (cI v) i.toNat x) r M') : Ev X mi d pc L ((0, x) :: (0, i) :: (13, v) :: st) M r M' := by
  refine ev_write h ?_
  intro G R p l e s m args below meth c Q A kd ad H locs cells slots ls hC hX hst hl
  have hi3 := (ok_hd (ok_tl hst)).1 rfl
  obtain ⟨hcn, hkd⟩ := ref_at (ok_hd (ok_tl (ok_tl hst))) (by omega) (by omega) hv
  refine ⟨by rw [hkd]; exact ok_hd hst, ok_tl (ok_tl (ok_tl hst)), fun kk => ?_⟩
  rw [List.map_cons, List.map_cons, List.map_cons, cv_r G ad (by omega) (by omega) hv]
  refine va_iast (D := G.1) (cl := cls) (f := fun k => Int32.ofInt (mg M (cI v) k)) hC.1 hC.2.1 hC.2.2.2.2.2.2.2.2.1 hX.2.1 hX.2.2.1 hX.2.2.2 (cI v) 0 (by rw [wl_at hcn, cE_I hkd]) rfl (i32_in hi3 hi.1 hi.2) hd ?_
  have e : cE G ad kd (mp M (cI v) i.toNat x) (cI v) = .inl (G.2.1.1, ml M (cI v), .inl (upd (fun k => Int32.ofInt (mg M (cI v) k)) (Int32.ofInt i).toNatClampNeg (Int32.ofInt x))) := by
    rw [cE_I hkd, i32_cl hi3, ml_mp]
    have := f_upd Int32.ofInt upd (fun _ _ _ _ => rfl) (fun k => mg M (cI v) k) i.toNat x
    rw [this]; congr 3; congr 1; funext k; rw [mg_mp]; simp
  rw [wl_set hcn e]; exact kk
theorem ev_last {i v x : Int} (hd : decode mi.2.1 pc = .ok (.lastore, 1)) (hv : v ≠ 0) (hi : 0 ≤ i ∧ i < (ml M (cI v) : Int)) (h : Ev X mi d (pc + 1) L st (mp M (cI v) i.toNat x) r M') : Ev X mi d pc L ((1, x) :: (0, i) :: (14, v) :: st) M r M' := by
  refine ev_write h ?_
  intro G R p l e s m args below meth c Q A kd ad H locs cells slots ls hC hX hst hl
  have hi3 := (ok_hd (ok_tl hst)).1 rfl
  obtain ⟨hcn, hkd⟩ := ref_at (ok_hd (ok_tl (ok_tl hst))) (by omega) (by omega) hv
  refine ⟨by rw [hkd]; exact ok_hd hst, ok_tl (ok_tl (ok_tl hst)), fun kk => ?_⟩
  rw [List.map_cons, List.map_cons, List.map_cons, cv_r G ad (by omega) (by omega) hv]
  refine va_last (D := G.1) (cl := cls) (f := fun k => Int64.ofInt (mg M (cI v) k)) hC.1 hC.2.1 hC.2.2.2.2.2.2.2.2.1 hX.2.1 hX.2.2.1 hX.2.2.2 (cI v) 1 (by rw [wl_at hcn, cE_J hkd]) rfl (i32_in hi3 hi.1 hi.2) hd ?_
  have e : cE G ad kd (mp M (cI v) i.toNat x) (cI v) = .inl (G.2.1.2.1, ml M (cI v), .inr (.inl (vp_updL (fun k => Int64.ofInt (mg M (cI v) k)) (Int32.ofInt i).toNatClampNeg (Int64.ofInt x)))) := by
    rw [cE_J hkd, i32_cl hi3, ml_mp]
    have := f_upd Int64.ofInt vp_updL (fun _ _ _ _ => rfl) (fun k => mg M (cI v) k) i.toNat x
    rw [this]; congr 3; congr 2; funext k; rw [mg_mp]; simp
  rw [wl_set hcn e]; exact kk
theorem ev_zast {i v x : Int} (hd : decode mi.2.1 pc = .ok (.bastore, 1)) (hv : v ≠ 0) (hi : 0 ≤ i ∧ i < (ml M (cI v) : Int)) (hx : x = 0 ∨ x = 1) (h : Ev X mi d (pc + 1) L st (mp M (cI v) i.toNat x) r M') : Ev X mi d pc L ((0, x) :: (0, i) :: (15, v) :: st) M r M' := by
  refine ev_write h ?_
  intro G R p l e s m args below meth c Q A kd ad H locs cells slots ls hC hX hst hl
  have hi3 := (ok_hd (ok_tl hst)).1 rfl
  obtain ⟨hcn, hkd⟩ := ref_at (ok_hd (ok_tl (ok_tl hst))) (by omega) (by omega) hv
  refine ⟨by rw [hkd]; exact ⟨fun e => by simp [ft] at e, fun e => by simp [ft] at e, fun _ e => by simp [ft] at e, fun _ => hx, fun e => by simp [ft] at e⟩, ok_tl (ok_tl (ok_tl hst)), fun kk => ?_⟩
  rw [List.map_cons, List.map_cons, List.map_cons, cv_r G ad (by omega) (by omega) hv]
  refine va_zast (D := G.1) (cl := cls) (f := fun k => Int32.ofInt (mg M (cI v) k)) hC.1 hC.2.1 hC.2.2.2.2.2.2.2.2.1 hX.2.1 hX.2.2.1 hX.2.2.2 (cI v) 2 (by rw [wl_at hcn, cE_Z hkd]) rfl (i32_in hi3 hi.1 hi.2) hd ?_
  have hnar : vp_nar .boolean (Int32.ofInt x) = Int32.ofInt x := by rcases hx with e | e <;> rw [e] <;> rfl
  have e : cE G ad kd (mp M (cI v) i.toNat x) (cI v) = .inl (G.2.1.2.2.1, ml M (cI v), .inl (upd (fun k => Int32.ofInt (mg M (cI v) k)) (Int32.ofInt i).toNatClampNeg (vp_nar .boolean (Int32.ofInt x)))) := by
    rw [cE_Z hkd, i32_cl hi3, ml_mp, hnar]
    have := f_upd Int32.ofInt upd (fun _ _ _ _ => rfl) (fun k => mg M (cI v) k) i.toNat x
    rw [this]; congr 3; congr 1; funext k; rw [mg_mp]; simp
  rw [wl_set hcn e]; exact kk
theorem ev_aast {i v x : Int} (hd : decode mi.2.1 pc = .ok (.aastore, 1)) (hv : v ≠ 0) (hi : 0 ≤ i ∧ i < (ml M (cI v) : Int)) (hx : x ≠ 0) (h : Ev X mi d (pc + 1) L st (mp M (cI v) i.toNat x) r M') : Ev X mi d pc L ((5, x) :: (0, i) :: (16, v) :: st) M r M' := by
  refine ev_write h ?_
  intro G R p l e s m args below meth c Q A kd ad H locs cells slots ls hC hX hst hl
  have hi3 := (ok_hd (ok_tl hst)).1 rfl
  obtain ⟨hcn, hkd⟩ := ref_at (ok_hd (ok_tl (ok_tl hst))) (by omega) (by omega) hv
  obtain ⟨hcx, hkx⟩ := ref_at (ok_hd hst) (by omega) (by omega) hx
  refine ⟨by rw [hkd]; exact ok_hd hst, ok_tl (ok_tl (ok_tl hst)), fun kk => ?_⟩
  rw [List.map_cons, List.map_cons, List.map_cons, cv_r G ad (by omega) (by omega) hv, cv_r G ad (by omega) (by omega) hx]
  refine va_astq (D := G.1) (cl := cls) (r := (R_Piece, F_Piece, 9)) (f := fun k => if mg M (cI v) k = 0 then none else some (ad (cI (mg M (cI v) k)))) hC.1 hC.2.1 hC.2.2.2.2.2.2.2.2.1 hX.2.1 hX.2.2.1 hX.2.2.2 (cI v) 3 (cI x) 3 (by rw [wl_at hcn, cE_O hkd]) rfl (by rw [wl_at hcx, cE_obj hkx (by omega)]) rfl (i32_in hi3 hi.1 hi.2) hd ?_
  have e : cE G ad kd (mp M (cI v) i.toNat x) (cI v) = .inl (G.2.1.2.2.2, ml M (cI v), .inr (.inr (.inr (.inr (va_up (fun k => if mg M (cI v) k = 0 then none else some (ad (cI (mg M (cI v) k)))) (Int32.ofInt i).toNatClampNeg (some (ad (cI x)))))))) := by
    rw [cE_O hkd, i32_cl hi3, ml_mp]
    congr 3; congr 4; funext k
    rw [mg_mp]; unfold va_up
    by_cases hk : k = i.toNat <;> simp [hk, hx]
  rw [wl_set hcn e]; exact kk
theorem i32_nat (n : Nat) : Int32.ofInt (n : Int) = Int32.ofNat n := rfl
theorem ev_alen {t : Nat} {v : Int} (h13 : 13 ≤ t) (h16 : t ≤ 16) (hd : decode mi.2.1 pc = .ok (.arraylength, 1)) (hv : v ≠ 0) (h : Ev X mi d (pc + 1) L ((0, (ml M (cI v) : Int)) :: st) M r M') : Ev X mi d pc L ((t, v) :: st) M r M' := by
  refine ev_step h ?_
  intro G R p l e s m args below meth c Q A kd ad H locs cells slots ls hC hX hst hL hl
  obtain ⟨hcn, hkd⟩ := ref_at (ok_hd hst) (by omega) (by omega) hv
  have hlen := (hX.1 _ hcn).2.2.1
  refine ⟨ok_cs (okI (by unfold ok32; omega)) (ok_tl hst), hL, fun kk => ?_⟩
  have hk := kk ls hl
  rw [List.map_cons, cv_r G ad (by omega) (by omega) hv]
  have hw := wl_at (G := G) (ad := ad) (kd := kd) hcn
  have ht : t = 13 ∨ t = 14 ∨ t = 15 ∨ t = 16 := by omega
  rcases ht with e | e | e | e <;> subst e
  · rw [cE_I hkd] at hw
    exact va_alen (D := G.1) (cl := cls) hC.1 hC.2.1 hC.2.2.2.2.2.2.2.2.1 hX.2.1 (cI v) 0 hw rfl rfl hd hk
  · rw [cE_J hkd] at hw
    exact va_alen (D := G.1) (cl := cls) hC.1 hC.2.1 hC.2.2.2.2.2.2.2.2.1 hX.2.1 (cI v) 1 hw rfl rfl hd hk
  · rw [cE_Z hkd] at hw
    exact va_alen (D := G.1) (cl := cls) hC.1 hC.2.1 hC.2.2.2.2.2.2.2.2.1 hX.2.1 (cI v) 2 hw rfl rfl hd hk
  · rw [cE_O hkd] at hw
    exact va_alen (D := G.1) (cl := cls) hC.1 hC.2.1 hC.2.2.2.2.2.2.2.2.1 hX.2.1 (cI v) 3 hw rfl rfl hd hk
/-! constants: statics, rows of longs, texts, the script -/
theorem ev_dig1 {idx : Nat} (hd : decode mi.2.1 pc = .ok (.getstatic idx, 3)) (hw : Cond.fieldLink mi.2.2.2.2 idx "TownBand$Seater" "DIGIT" "[J" ∈ tblG) (h : Ev X mi d (pc + 3) L ((18, 1) :: st) M r M') : Ev X mi d pc L st M r M' := by
  refine ev_step h ?_
  intro G R p l e s m args below meth c Q A kd ad H locs cells slots ls hC hX hst hL hl
  refine ⟨ok_cs ⟨fun e => by simp at e, fun e => by simp at e, fun _ e => by simp at e, fun e => by simp at e, fun e => by simp at e⟩ hst, hL, fun kk => ?_⟩
  exact va_gets hC.1 hC.2.1 hC.2.2.2.2.2.2.2.1.2.1.1 hX.2.2.2 hC.2.2.2.1 (hC.2.2.2.2.1 _ hw) (fun _ h => h) hd (kk ls hl)
theorem ev_dig2 {idx : Nat} (hd : decode mi.2.1 pc = .ok (.getstatic idx, 3)) (hw : Cond.fieldLink mi.2.2.2.2 idx "TownBand$Planner" "DIGIT" "[J" ∈ tblG) (h : Ev X mi d (pc + 3) L ((19, 1) :: st) M r M') : Ev X mi d pc L st M r M' := by
  refine ev_step h ?_
  intro G R p l e s m args below meth c Q A kd ad H locs cells slots ls hC hX hst hL hl
  refine ⟨ok_cs ⟨fun e => by simp at e, fun e => by simp at e, fun _ e => by simp at e, fun e => by simp at e, fun e => by simp at e⟩ hst, hL, fun kk => ?_⟩
  exact va_gets hC.1 hC.2.1 hC.2.2.2.2.2.2.2.1.2.2.1.1 hX.2.2.2 hC.2.2.2.1 (hC.2.2.2.2.1 _ hw) (fun _ h => h) hd (kk ls hl)
theorem dg1_ok (j : Nat) : ok64 (dg1.getD j 0) := by
  by_cases h : j < 10
  · have e : ∀ j, j < 10 → (-9223372036854775808 ≤ dg1.getD j 0 ∧ dg1.getD j 0 < 9223372036854775808) := by decide +kernel
    exact e j h
  · rw [List.getD_eq_getElem?_getD, List.getElem?_eq_none (by simp only [dg1, List.length_cons, List.length_nil]; omega)]
    show ok64 0
    unfold ok64; omega
theorem dg2_ok (j : Nat) : ok64 (dg2.getD j 0) := by
  by_cases h : j < 10
  · have e : ∀ j, j < 10 → (-9223372036854775808 ≤ dg2.getD j 0 ∧ dg2.getD j 0 < 9223372036854775808) := by decide +kernel
    exact e j h
  · rw [List.getD_eq_getElem?_getD, List.getElem?_eq_none (by simp only [dg2, List.length_cons, List.length_nil]; omega)]
    show ok64 0
    unfold ok64; omega
theorem ev_tl1 {i v : Int} (hd : decode mi.2.1 pc = .ok (.laload, 1)) (hi : 0 ≤ i ∧ i < 10) (h : Ev X mi d (pc + 1) L ((1, dg1.getD i.toNat 0) :: st) M r M') : Ev X mi d pc L ((0, i) :: (18, v) :: st) M r M' := by
  refine ev_step h ?_
  intro G R p l e s m args below meth c Q A kd ad H locs cells slots ls hC hX hst hL hl
  have hi3 := (ok_hd hst).1 rfl
  refine ⟨ok_cs (okJ (dg1_ok _)) (ok_tl (ok_tl hst)), hL, fun kk => ?_⟩
  refine va_tl hC.1 hC.2.1 hC.2.2.2.2.2.2.2.1.2.1.2 hX.2.2.2 (i32_in hi3 hi.1 hi.2) ?_ hd (kk ls hl)
  show Value.long _ = Value.long _
  rw [i32_cl hi3]
theorem ev_tl2 {i v : Int} (hd : decode mi.2.1 pc = .ok (.laload, 1)) (hi : 0 ≤ i ∧ i < 10) (h : Ev X mi d (pc + 1) L ((1, dg2.getD i.toNat 0) :: st) M r M') : Ev X mi d pc L ((0, i) :: (19, v) :: st) M r M' := by
  refine ev_step h ?_
  intro G R p l e s m args below meth c Q A kd ad H locs cells slots ls hC hX hst hL hl
  have hi3 := (ok_hd hst).1 rfl
  refine ⟨ok_cs (okJ (dg2_ok _)) (ok_tl (ok_tl hst)), hL, fun kk => ?_⟩
  refine va_tl hC.1 hC.2.1 hC.2.2.2.2.2.2.2.1.2.2.1.2 hX.2.2.2 (i32_in hi3 hi.1 hi.2) ?_ hd (kk ls hl)
  show Value.long _ = Value.long _
  rw [i32_cl hi3]
theorem ev_sld {i v : Int} (hX2 : ∀ j, ok32 (X.2 j)) (hd : decode mi.2.1 pc = .ok (.iaload, 1)) (hi : 0 ≤ i ∧ i < (X.1 : Int)) (h : Ev X mi d (pc + 1) L ((0, X.2 i.toNat) :: st) M r M') : Ev X mi d pc L ((0, i) :: (17, v) :: st) M r M' := by
  refine ev_step h ?_
  intro G R p l e s m args below meth c Q A kd ad H locs cells slots ls hC hX hst hL hl
  have hi3 := (ok_hd hst).1 rfl
  refine ⟨ok_cs (okI (hX2 _)) (ok_tl (ok_tl hst)), hL, fun kk => ?_⟩
  have hk := kk ls hl
  obtain ⟨hx1, hx2, hx3⟩ := hC.2.2.2.2.2.2.2.1.1
  refine va_sld hC.1 hC.2.1 hx1 hx2 hx3 hX.2.2.2 (i32_in hi3 hi.1 hi.2) hd ?_
  rw [i32_cl hi3]; exact hk
theorem ev_slen {v : Int} (hX1 : X.1 < 2147483648) (hd : decode mi.2.1 pc = .ok (.arraylength, 1)) (h : Ev X mi d (pc + 1) L ((0, (X.1 : Int)) :: st) M r M') : Ev X mi d pc L ((17, v) :: st) M r M' := by
  refine ev_step h ?_
  intro G R p l e s m args below meth c Q A kd ad H locs cells slots ls hC hX hst hL hl
  refine ⟨ok_cs (okI (by unfold ok32; omega)) (ok_tl hst), hL, fun kk => ?_⟩
  have hk := kk ls hl
  obtain ⟨hx1, hx2, hx3⟩ := hC.2.2.2.2.2.2.2.1.1
  exact va_slen hC.1 hC.2.1 hx1 hx2 hx3 hX.2.2.2 hd hk
end EV4
