/-! the two desks made: their memory, by evaluation. The loops of the making with little fuel, so that they can be worked out -/
theorem xb {α β : Type} {e : Option α} {k : α → Option β} {x : α} {z : β} (h : e = some x) (hk : k x = some z) : e.bind k = some z := by rw [h]; exact hk
theorem ltI {α β : Type} {e : α} {k : α → Option β} {z : β} (h : k e = some z) : lt e k = some z := h
theorem giI {β : Type} {c : Prop} [Decidable c] {e : Option β} {z : β} (hc : c) (h : e = some z) : (if c then e else none) = some z := by rw [if_pos hc]; exact h
def k_lfill (a0 : Int) (a1 : Int) (z3 : Int) (s : Int × Mm) : Option ((Int × Mm) ⊕ (Mm)) :=
  if z3 ≤ s.1 then
  some (.inr s.2)
  else
  if (0 : Int) ≤ s.1 ∧ s.1 < (ml s.2 (cI a0) : Int) then
  lt (mp s.2 (cI a0) (s.1 : Int).toNat a1) (fun M4 =>
  lt (w32c (s.1 + 1)) (fun x5 : Int =>
  some (.inl (x5, M4))))
  else none
theorem k_lfill_eq : l_Arrays_fillI_5 = k_lfill := by
  unfold l_Arrays_fillI_5 k_lfill; rw [w32_eq]
def k_llib (a0 : Int) (s : Int × Mm) : Option ((Int × Mm) ⊕ (Mm)) :=
  if 10 ≤ s.1 then
  some (.inr s.2)
  else
  lt (mw s.2 9) (fun M4 =>
  (f_Piece_init M4 ((mN s.2 : Int) + 1)).bind (fun p5 =>
  if (mg s.2 (cI a0) 0) ≠ 0 then
  if (0 : Int) ≤ s.1 ∧ s.1 < (ml p5 (cI (mg s.2 (cI a0) 0)) : Int) then
  lt (mp p5 (cI (mg s.2 (cI a0) 0)) (s.1 : Int).toNat ((mN s.2 : Int) + 1)) (fun M8 =>
  lt (w32c (s.1 + 1)) (fun x9 : Int =>
  some (.inl (x9, M8))))
  else none
  else none))
theorem k_llib_eq : l_Library_init_15 = k_llib := by
  unfold l_Library_init_15 k_llib; rw [w32_eq]
def k_fillI (M : Mm) (a0 : Int) (a1 : Int) : Option (Mm) :=
  lt ((ml M (cI a0) : Int)) (fun x1 : Int =>
  (loopN (k_lfill a0 a1 x1) 400 (0, M)).bind (fun t6 =>
  some t6))

def k_PlInit (M : Mm) (a0 : Int) : Option (Mm) :=
  lt (mw M (14 : Int).toNat) (fun M1 =>
  lt (mp M1 (cI a0) 0 ((mN M : Int) + 1)) (fun M2 =>
  lt (mw M2 (14 : Int).toNat) (fun M3 =>
  lt (mp M3 (cI a0) 1 ((mN M2 : Int) + 1)) (fun M4 =>
  lt (mw M4 (14 : Int).toNat) (fun M5 =>
  lt (mp M5 (cI a0) 2 ((mN M4 : Int) + 1)) (fun M6 =>
  lt (mw M6 (140 : Int).toNat) (fun M7 =>
  lt (mp M7 (cI a0) 3 ((mN M6 : Int) + 1)) (fun M8 =>
  if (mg M8 (cI a0) 3) ≠ 0 then
  (k_fillI M8 (mg M8 (cI a0) 3) (-1)).bind (fun p10 =>
  some p10)
  else none))))))))

def k_LbInit (M : Mm) (a0 : Int) : Option (Mm) :=
  lt (mw M (10 : Int).toNat) (fun M1 =>
  lt (mp M1 (cI a0) 0 ((mN M : Int) + 1)) (fun M2 =>
  (loopN (k_llib a0) 40 (0, M2)).bind (fun t10 =>
  some t10)))

def k_BdInit (M : Mm) (a0 : Int) : Option (Mm) :=
  lt (mw M 6) (fun M1 =>
  (k_PlInit M1 ((mN M : Int) + 1)).bind (fun p2 =>
  lt (mp p2 (cI a0) 0 ((mN M : Int) + 1)) (fun M3 =>
  lt (mw M3 3) (fun M4 =>
  (k_LbInit M4 ((mN M3 : Int) + 1)).bind (fun p5 =>
  lt (mp p5 (cI a0) 1 ((mN M3 : Int) + 1)) (fun M6 =>
  lt (mw M6 10) (fun M7 =>
  (f_Tape_init M7 ((mN M6 : Int) + 1)).bind (fun p8 =>
  lt (mp p8 (cI a0) 2 ((mN M6 : Int) + 1)) (fun M9 =>
  lt (mw M9 7) (fun M10 =>
  (f_Rule_init M10 ((mN M9 : Int) + 1)).bind (fun p11 =>
  lt (mp p11 (cI a0) 3 ((mN M9 : Int) + 1)) (fun M12 =>
  lt (mw M12 6) (fun M13 =>
  (f_Loans_init M13 ((mN M12 : Int) + 1)).bind (fun p14 =>
  lt (mp p14 (cI a0) 4 ((mN M12 : Int) + 1)) (fun M15 =>
  lt (mw M15 4) (fun M16 =>
  (f_Cover_init M16 ((mN M15 : Int) + 1)).bind (fun p17 =>
  lt (mp p17 (cI a0) 5 ((mN M15 : Int) + 1)) (fun M18 =>
  lt (mw M18 7) (fun M19 =>
  (f_Seater_init M19 ((mN M18 : Int) + 1)).bind (fun p20 =>
  lt (mp p20 (cI a0) 6 ((mN M18 : Int) + 1)) (fun M21 =>
  lt (mw M21 9) (fun M22 =>
  (f_Planner_init M22 ((mN M21 : Int) + 1)).bind (fun p23 =>
  lt (mp p23 (cI a0) 7 ((mN M21 : Int) + 1)) (fun M24 =>
  some M24))))))))))))))))))))))))

theorem k_fill_up {M : Mm} {a0 a1 : Int} {z : Mm} (h : k_fillI M a0 a1 = some z) : f_Arrays_fillI M a0 a1 = some z := by
  unfold k_fillI at h
  rw [← k_lfill_eq] at h
  unfold f_Arrays_fillI
  obtain ⟨x, hx, h⟩ := ltx h
  obtain ⟨t, ht, h⟩ := bx h
  refine ltI ?_
  rw [← hx]
  exact xb (loop_up _ _ _ _ ht (by rw [FU_eq]; decide)) h
theorem k_pl_up {M : Mm} {a0 : Int} {z : Mm} (h : k_PlInit M a0 = some z) : f_Players_init M a0 = some z := by
  unfold k_PlInit at h
  unfold f_Players_init
  obtain ⟨_, rfl, g1⟩ := ltx h
  obtain ⟨_, rfl, g2⟩ := ltx g1
  obtain ⟨_, rfl, g3⟩ := ltx g2
  obtain ⟨_, rfl, g4⟩ := ltx g3
  obtain ⟨_, rfl, g5⟩ := ltx g4
  obtain ⟨_, rfl, g6⟩ := ltx g5
  obtain ⟨_, rfl, g7⟩ := ltx g6
  obtain ⟨_, rfl, g8⟩ := ltx g7
  obtain ⟨hz, g9⟩ := gx g8
  obtain ⟨p, hp, g10⟩ := bx g9
  refine ltI (ltI (ltI (ltI (ltI (ltI (ltI (ltI ?_)))))))
  exact giI hz (xb (k_fill_up hp) g10)
theorem k_lb_up {M : Mm} {a0 : Int} {z : Mm} (h : k_LbInit M a0 = some z) : f_Library_init M a0 = some z := by
  unfold k_LbInit at h
  rw [← k_llib_eq] at h
  unfold f_Library_init
  obtain ⟨_, rfl, g1⟩ := ltx h
  obtain ⟨_, rfl, g2⟩ := ltx g1
  obtain ⟨t, ht, g3⟩ := bx g2
  refine ltI (ltI ?_)
  exact xb (loop_up _ _ _ _ ht (by rw [FU_eq]; decide)) g3
theorem k_bd_up {M : Mm} {a0 : Int} {z : Mm} (h : k_BdInit M a0 = some z) : f_Band_init M a0 = some z := by
  unfold k_BdInit at h
  unfold f_Band_init
  obtain ⟨_, rfl, g1⟩ := ltx h
  obtain ⟨p2, h2, g2⟩ := bx g1
  obtain ⟨_, rfl, g3⟩ := ltx g2
  obtain ⟨_, rfl, g4⟩ := ltx g3
  obtain ⟨p5, h5, g5⟩ := bx g4
  exact ltI (xb (k_pl_up h2) (ltI (ltI (xb (k_lb_up h5) g5))))
def MBd : Mm := (k_BdInit (mw M0 8) 1).getD M0
theorem iB_some : (k_BdInit (mw M0 8) 1).isSome = true := by decide +kernel
theorem iB0 : k_BdInit (mw M0 8) 1 = some MBd := by
  unfold MBd
  cases h : k_BdInit (mw M0 8) 1 with
  | none => have := iB_some; rw [h] at this; cases this
  | some x => rfl
theorem iB : f_Band_init (mw M0 8) 1 = some MBd := k_bd_up iB0
theorem iB_N : mN MBd = 79 := by decide +kernel
def MIn : Mm := (f_Model_init (mw MBd 48) 80).getD M0
theorem iM_some : (f_Model_init (mw MBd 48) 80).isSome = true := by decide +kernel
theorem iM : f_Model_init (mw MBd 48) 80 = some MIn := by
  unfold MIn
  cases h : f_Model_init (mw MBd 48) 80 with
  | none => have := iM_some; rw [h] at this; cases this
  | some x => rfl
theorem iM_N : mN MIn = 109 := by decide +kernel
theorem iM_Z : mZ MIn ≤ 220000 := by decide +kernel
theorem law_go {X : XX} {M B Q : Mm} (h0 : mN M = 0) (hB : f_Band_init (mw M 8) 1 = some B) (hN : mN B = 79) (hQ : f_Model_init (mw B 48) 80 = some Q) {t : Int × Mm} (hl : loopN (l_Law_law_18 X 1 1 80) FU (0, Q) = some t) : f_Law_law X M 1 = some t := by
  have e0 : ((mN M : Int) + 1) = 1 := by rw [h0]; rfl
  have e1 : ((mN B : Int) + 1) = 80 := by rw [hN]; rfl
  unfold f_Law_law
  rw [e0]
  refine ltI (xb hB ?_)
  rw [e1]
  exact ltI (ltI (xb hQ (ltI (xb hl rfl))))
theorem law_start {X : XX} {t : Int × Mm} (hl : loopN (l_Law_law_18 X 1 1 80) FU (0, MIn) = some t) : f_Law_law X M0 1 = some t := law_go rfl iB iB_N iM hl
