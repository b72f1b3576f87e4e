def imin (a b : Int) : Int := if b < a then b else a
def imax (a b : Int) : Int := if a < b then b else a
noncomputable def iabs (a : Int) : Int := if 0 ≤ a then a else w32 (0 - a)
section EVM
variable {X : XX} {mi : MI} {d pc : Nat} {L : List (Nat × AV)} {st : List AV} {M : Mm} {r : Option AV} {M' : Mm}
theorem ev_mmin {a b : Int} {idx : Nat} (hr8 : aW st ≤ 8) (hd1 : 1 ≤ d) (hw : Cond.methodLink mi.2.2.2.2 idx Lib.Math.min.name ∈ tblG) (hs : Cond.static Lib.Math.min.name ∈ tblG) (hi : Cond.initialized "java/lang/Math" ∈ tblG) (hco : Cond.code Lib.Math.min.name Lib.Math.min.code 2 (some .int) ∈ tblG) (hd : decode mi.2.1 pc = .ok (.invokestatic idx, 3)) (h : Ev X mi d (pc + 3) L ((0, imin a b) :: st) M r M') : Ev X mi d pc L ((0, b) :: (0, a) :: st) M r M' := by
  refine ⟨h.1, h.2.1, ?_⟩
  intro G R p l e s m args below meth c Q A kd ad H locs cells slots ls hC hX hst hL hl hc hsl he
  have hb := (ok_hd hst).1 rfl
  have ha := (ok_hd (ok_tl hst)).1 rfl
  have hf := hC.2.2.2.2.2.2.2.2.2.1
  have hlo := hC.2.2.2.2.2.2.2.2.2.2
  have h3 : ok32 (imin a b) := by unfold imin; split <;> assumption
  have hk := h.2.2 G R p l e s m args below meth c Q A kd ad H locs cells slots ls hC hX (ok_cs (okI h3) (ok_tl (ok_tl hst))) hL hl hc hsl he
  have e1 : Int32.ofInt (imin a b) = if Int32.ofInt b < Int32.ofInt a then Int32.ofInt b else Int32.ofInt a := by
    unfold imin
    by_cases q : b < a
    · rw [if_pos q, if_pos ((i32_lt hb ha).mpr q)]
    · rw [if_neg q, if_neg (fun z => q ((i32_lt hb ha).mp z))]
  rw [List.map_cons, cv_i, e1] at hk
  exact va_mmin hC.1 hC.2.1 (hC.2.2.1.trans hl.1.symm) hC.2.2.2.1 (hC.2.2.2.2.1 _ hw) (hC.2.2.2.2.1 _ hs) (hC.2.2.2.2.1 _ hi) (hC.2.2.2.2.1 _ hco) (by omega) (by rw [aW_cat]; omega) (by omega) (by omega) hd hk
theorem ev_mmax {a b : Int} {idx : Nat} (hr8 : aW st ≤ 8) (hd1 : 1 ≤ d) (hw : Cond.methodLink mi.2.2.2.2 idx Lib.Math.max.name ∈ tblG) (hs : Cond.static Lib.Math.max.name ∈ tblG) (hi : Cond.initialized "java/lang/Math" ∈ tblG) (hco : Cond.code Lib.Math.max.name Lib.Math.max.code 2 (some .int) ∈ tblG) (hd : decode mi.2.1 pc = .ok (.invokestatic idx, 3)) (h : Ev X mi d (pc + 3) L ((0, imax a b) :: st) M r M') : Ev X mi d pc L ((0, b) :: (0, a) :: st) M r M' := by
  refine ⟨h.1, h.2.1, ?_⟩
  intro G R p l e s m args below meth c Q A kd ad H locs cells slots ls hC hX hst hL hl hc hsl he
  have hb := (ok_hd hst).1 rfl
  have ha := (ok_hd (ok_tl hst)).1 rfl
  have hf := hC.2.2.2.2.2.2.2.2.2.1
  have hlo := hC.2.2.2.2.2.2.2.2.2.2
  have h3 : ok32 (imax a b) := by unfold imax; split <;> assumption
  have hk := h.2.2 G R p l e s m args below meth c Q A kd ad H locs cells slots ls hC hX (ok_cs (okI h3) (ok_tl (ok_tl hst))) hL hl hc hsl he
  have e1 : Int32.ofInt (imax a b) = if Int32.ofInt a < Int32.ofInt b then Int32.ofInt b else Int32.ofInt a := by
    unfold imax
    by_cases q : a < b
    · rw [if_pos q, if_pos ((i32_lt ha hb).mpr q)]
    · rw [if_neg q, if_neg (fun z => q ((i32_lt ha hb).mp z))]
  rw [List.map_cons, cv_i, e1] at hk
  exact va_mmax hC.1 hC.2.1 (hC.2.2.1.trans hl.1.symm) hC.2.2.2.1 (hC.2.2.2.2.1 _ hw) (hC.2.2.2.2.1 _ hs) (hC.2.2.2.2.1 _ hi) (hC.2.2.2.2.1 _ hco) (by omega) (by rw [aW_cat]; omega) (by omega) (by omega) hd hk
theorem ev_mabs {a : Int} {idx : Nat} (hr8 : aW st ≤ 8) (hd1 : 1 ≤ d) (hw : Cond.methodLink mi.2.2.2.2 idx Lib.Math.abs.name ∈ tblG) (hs : Cond.static Lib.Math.abs.name ∈ tblG) (hi : Cond.initialized "java/lang/Math" ∈ tblG) (hco : Cond.code Lib.Math.abs.name Lib.Math.abs.code 1 (some .int) ∈ tblG) (hd : decode mi.2.1 pc = .ok (.invokestatic idx, 3)) (h : Ev X mi d (pc + 3) L ((0, iabs a) :: st) M r M') : Ev X mi d pc L ((0, a) :: st) M r M' := by
  refine ⟨h.1, h.2.1, ?_⟩
  intro G R p l e s m args below meth c Q A kd ad H locs cells slots ls hC hX hst hL hl hc hsl he
  have ha := (ok_hd hst).1 rfl
  have hf := hC.2.2.2.2.2.2.2.2.2.1
  have hlo := hC.2.2.2.2.2.2.2.2.2.2
  have h3 : ok32 (iabs a) := by unfold iabs; split; assumption; exact w32_ok _
  have hk := h.2.2 G R p l e s m args below meth c Q A kd ad H locs cells slots ls hC hX (ok_cs (okI h3) (ok_tl hst)) hL hl hc hsl he
  have e1 : Int32.ofInt (iabs a) = if 0 ≤ Int32.ofInt a then Int32.ofInt a else 0 - Int32.ofInt a := by
    unfold iabs
    by_cases q : 0 ≤ a
    · have q2 : (0 : Int32) ≤ Int32.ofInt a := (i32_le ok32_0 ha).mpr q
      rw [if_pos q, if_pos q2]
    · have q2 : ¬ (0 : Int32) ≤ Int32.ofInt a := fun z => q ((i32_le ok32_0 ha).mp z)
      rw [if_neg q, if_neg q2, i32_w, Int32.ofInt_sub]; rfl
  rw [List.map_cons, cv_i, e1] at hk
  exact va_mabs hC.1 hC.2.1 (hC.2.2.1.trans hl.1.symm) hC.2.2.2.1 (hC.2.2.2.2.1 _ hw) (hC.2.2.2.2.1 _ hs) (hC.2.2.2.2.1 _ hi) (hC.2.2.2.2.1 _ hco) (by omega) (by rw [aW_cat]; omega) (by omega) (by omega) hd hk
theorem ev_mminL {a b : Int} {idx : Nat} (hr8 : aW st ≤ 8) (hd1 : 1 ≤ d) (hw : Cond.methodLink mi.2.2.2.2 idx Lib.MathLoose.min_long.x ∈ tblG) (hs : Cond.static Lib.MathLoose.min_long.x ∈ tblG) (hi : Cond.initialized "java/lang/Math" ∈ tblG) (hco : Cond.code Lib.MathLoose.min_long.x Lib.MathLoose.min_long.code 4 (some .long) ∈ tblG) (hd : decode mi.2.1 pc = .ok (.invokestatic idx, 3)) (h : Ev X mi d (pc + 3) L ((1, imin a b) :: st) M r M') : Ev X mi d pc L ((1, b) :: (1, a) :: st) M r M' := by
  refine ⟨h.1, h.2.1, ?_⟩
  intro G R p l e s m args below meth c Q A kd ad H locs cells slots ls hC hX hst hL hl hc hsl he
  have hb := (ok_hd hst).2.1 rfl
  have ha := (ok_hd (ok_tl hst)).2.1 rfl
  have hf := hC.2.2.2.2.2.2.2.2.2.1
  have hlo := hC.2.2.2.2.2.2.2.2.2.2
  have h3 : ok64 (imin a b) := by unfold imin; split <;> assumption
  have hk := h.2.2 G R p l e s m args below meth c Q A kd ad H locs cells slots ls hC hX (ok_cs (okJ h3) (ok_tl (ok_tl hst))) hL hl hc hsl he
  have e1 : Int64.ofInt (imin a b) = if Int64.ofInt b < Int64.ofInt a then Int64.ofInt b else Int64.ofInt a := by
    unfold imin
    by_cases q : b < a
    · rw [if_pos q, if_pos ((i64_lt hb ha).mpr q)]
    · rw [if_neg q, if_neg (fun z => q ((i64_lt hb ha).mp z))]
  rw [List.map_cons, cv_l, e1] at hk
  exact va_mmin_long hC.1 hC.2.1 (hC.2.2.1.trans hl.1.symm) hC.2.2.2.1 (hC.2.2.2.2.1 _ hw) (hC.2.2.2.2.1 _ hs) (hC.2.2.2.2.1 _ hi) (hC.2.2.2.2.1 _ hco) (by omega) (by rw [aW_cat]; omega) (by omega) (by omega) hd hk
end EVM
