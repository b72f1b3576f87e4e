/-! the start of the law: what the Statement gives is the abstract machine's start -/
def M0 : Mm := (fun _ _ => 0, fun _ => 0, 0, 0)
def spA (b t1 t2 f g : Nat) (adK adV : Nat → Nat) : Nat → Nat := fun k => if k = 17 then b else if k = 18 then t1 else if k = 19 then t2 else if k = 23 then f else if k = 24 then g else if k < 200 then adK (k - 100) else adV (k - 200)
def txT (i : Nat) : Term := .string (txK.getD i ("", 0, "")).1 (txK.getD i ("", 0, "")).2.1
abbrev flt : List Cond := flatC (Jvm.Cond.and given_1 narrow_1)
theorem fl_ex : ∀ i, i < 9 → Cond.exactly (txT i) "java/lang/String" ∈ flt := by decide +kernel
theorem fl_co : ∀ i, i < 9 → Cond.eq (.field (txT i) "java/lang/String" "coder" "B") (.int 0) ∈ flt := by decide +kernel
theorem fl_ar : ∀ i, i < 9 → Cond.arrayOf (.field (txT i) "java/lang/String" "value" "[B") .byte ∈ flt := by decide +kernel
theorem fl_le : ∀ i, i < 9 → Cond.eq (.length (.field (txT i) "java/lang/String" "value" "[B")) (.int (Int32.ofNat (txL.getD i 0))) ∈ flt := by decide +kernel
theorem fl_el : ∀ i, i < 9 → ∀ j, j < txL.getD i 0 → Cond.eq (.elem (.field (txT i) "java/lang/String" "value" "[B") (.int (Int32.ofNat j))) (.int ((txB.getD i []).getD j 0)) ∈ flt := by decide +kernel
theorem fl_ne : ∀ i, i < 9 → ∀ j, j < 9 → i ≠ j → Cond.not (Cond.eq (txT i) (txT j)) ∈ flt ∨ Cond.not (Cond.eq (txT j) (txT i)) ∈ flt := by decide +kernel
theorem fl_d1 : ∀ j, j < 10 → Cond.eq (.elem (.static "TownBand$Seater" "DIGIT" "[J") (.int (Int32.ofNat j))) (.long (Int64.ofInt (dg1.getD j 0))) ∈ flt := by decide +kernel
theorem fl_d2 : ∀ j, j < 10 → Cond.eq (.elem (.static "TownBand$Planner" "DIGIT" "[J") (.int (Int32.ofNat j))) (.long (Int64.ofInt (dg2.getD j 0))) ∈ flt := by decide +kernel
theorem arr_of {s : State} {args : Array Value} {ty : FieldType} (h : (Cond.arrayClass ty).before args s = true) (hty : ∀ C, ty ≠ .object C) : ∃ cA : ClassId, ArrOfT s cA ty ∧ va_RA s cA ty := by
  obtain ⟨cA, kA, comp, h1, h2, h3⟩ := Cond.arrayClass_spec h
  refine ⟨cA, fun n z => ⟨fun k h => (by cases h), kA, h2, comp, h3⟩, ?_⟩
  cases ty <;> first | exact h1 | exact absurd rfl (hty _)
theorem arr_over {s : State} {args : Array Value} {C : String} (h : (Cond.arrayOver (.object C)).before args s = true) : ∃ cA : ClassId, ArrOfT s cA (.object C) ∧ va_RA s cA (.object C) := by
  obtain ⟨comp, cA, kA, h1, h2, h3, h4, h5⟩ := Cond.arrayOver_spec h
  exact ⟨cA, fun n z => ⟨fun k h => (by cases h), kA, h3, comp, h4⟩, kA, comp, h3, h4, h1, h5⟩
/-- the classes are known -/
theorem known_all {s : State} {args : Array Value} (hts : ∀ w ∈ tblG, w.before args s = true) (hao : (Cond.arrayOver (.object "TownBand$Piece")).before args s = true) : ∃ (D : va_G) (q : ClassId × ClassId × ClassId × ClassId), ∀ sp : Nat → Nat, va_K D cls (tyG (D, q, sp)) s := by
  obtain ⟨c0, i0, h0⟩ := u_known hts i_Cover (hts _ tw_229)
  obtain ⟨c1, i1, h1⟩ := u_known hts i_Library (hts _ tw_63)
  obtain ⟨c2, i2, h2⟩ := u_known hts i_Loans (hts _ tw_203)
  obtain ⟨c3, i3, h3⟩ := u_known hts i_Piece (hts _ tw_70)
  obtain ⟨c4, i4, h4⟩ := u_known hts i_Planner (hts _ tw_277)
  obtain ⟨c5, i5, h5⟩ := u_known hts i_Players (hts _ tw_28)
  obtain ⟨c6, i6, h6⟩ := u_known hts i_Rule (hts _ tw_175)
  obtain ⟨c7, i7, h7⟩ := u_known hts i_Seater (hts _ tw_248)
  obtain ⟨c8, i8, h8⟩ := u_known hts i_Tape (hts _ tw_130)
  obtain ⟨c9, i9, h9⟩ := u_known hts i_Band (hts _ tw_20)
  obtain ⟨c10, i10, h10⟩ := u_known hts i_Model (hts _ tw_894)
  obtain ⟨aI, g1⟩ := arr_of (hts _ tw_61) (fun C h => by cases h)
  obtain ⟨aJ, g2⟩ := arr_of (hts _ tw_275) (fun C h => by cases h)
  obtain ⟨aZ, g3⟩ := arr_of (hts _ tw_1045) (fun C h => by cases h)
  obtain ⟨aO, g4⟩ := arr_over hao
  refine ⟨(fun k => [c0, c1, c2, c3, c4, c5, c6, c7, c8, c9, c10].getD k 0, fun k => [i0, i1, i2, i3, i4, i5, i6, i7, i8, i9, i10].getD k (fun _ => 0)), (aI, aJ, aZ, aO), fun sp => ⟨fun c q hq => ?_, fun k q hk => ?_⟩⟩
  · match c, hq with
    | 0, hq => cases hq; exact h0
    | 1, hq => cases hq; exact h1
    | 2, hq => cases hq; exact h2
    | 3, hq => cases hq; exact h3
    | 4, hq => cases hq; exact h4
    | 5, hq => cases hq; exact h5
    | 6, hq => cases hq; exact h6
    | 7, hq => cases hq; exact h7
    | 8, hq => cases hq; exact h8
    | 9, hq => cases hq; exact h9
    | 10, hq => cases hq; exact h10
    | n + 11, hq => cases hq
  · match k, hk with
    | 0, hk => cases hk; exact g1
    | 1, hk => cases hk; exact g2
    | 2, hk => cases hk; exact g3
    | 3, hk => cases hk; exact g4
    | n + 4, hk => cases hk
/-- what stands outside -/
theorem sp_all {s : State} {b L : Nat} {xs : Nat → Int32} {D : va_G} {q : ClassId × ClassId × ClassId × ClassId} (hts : ∀ w ∈ lw_tbl, w.before #[Value.ref b] s = true) (hX : va_X b L xs s s.heap) (hbl : b < s.heap.size) (hgv : (Jvm.Cond.and given_1 narrow_1).before #[Value.ref b] s = true) : ∃ sp : Nat → Nat, sp 17 = b ∧ Sp (L, fun j => (xs j).toInt) (D, q, sp) (fun q => s.heap.size ≤ q) s s.heap := by
  have hs := flat_of_before _ hgv
  have hA : ∀ a : Nat, a < s.heap.size → ¬ (fun q => s.heap.size ≤ q) a := fun a h => Nat.not_le.mpr h
  obtain ⟨t1, e1, T1⟩ := va_Tof (f := fun j => .long (Int64.ofInt (dg1.getD j 0))) (N := 10) (A := fun q => s.heap.size ≤ q) (tm := .static "TownBand$Seater" "DIGIT" "[J") (ty := .long) (by decide) (hs _ (by decide +kernel)) (va_eqt (hs _ (by decide +kernel))) (fun j hj => va_eqtl (hs _ (fl_d1 j hj))) hA
  obtain ⟨t2, e2, T2⟩ := va_Tof (f := fun j => .long (Int64.ofInt (dg2.getD j 0))) (N := 10) (A := fun q => s.heap.size ≤ q) (tm := .static "TownBand$Planner" "DIGIT" "[J") (ty := .long) (by decide) (hs _ (by decide +kernel)) (va_eqt (hs _ (by decide +kernel))) (fun j hj => va_eqtl (hs _ (fl_d2 j hj))) hA
  have Z1 := va_Zref (A := fun q => s.heap.size ≤ q) (hts (.laysStatic "TownBand$Seater" "DIGIT" "[J") (List.mem_append_right _ (List.mem_append_right _ (List.mem_append_right _ (List.mem_append_left _ (List.mem_of_getElem? (i := 190) rfl)))))) (hts _ (List.mem_filter.mp tw_10).1) e1 hA
  have Z2 := va_Zref (A := fun q => s.heap.size ≤ q) (hts (.laysStatic "TownBand$Planner" "DIGIT" "[J") (List.mem_append_right _ (List.mem_append_right _ (List.mem_append_right _ (List.mem_append_right _ (List.mem_append_left _ (List.mem_of_getElem? (i := 60) rfl))))))) (hts _ (List.mem_filter.mp tw_11).1) e2 hA
  have Z3 := va_Zof (A := fun q => s.heap.size ≤ q) (v := .int 1) (hts (.laysStatic "java/lang/String" "COMPACT_STRINGS" "Z") (List.mem_append_right _ (List.mem_append_right _ (List.mem_append_left _ (List.mem_of_getElem? (i := 189) rfl))))) (hts _ (List.mem_filter.mp tw_13).1) (va_eqt (hs _ (by decide +kernel))) hA
  have Z4 := va_Zqof (A := fun q => s.heap.size ≤ q) (hts (.laysStatic "jdk/internal/util/Preconditions" "SIOOBE_FORMATTER" "Ljava/util/function/BiFunction;") (List.mem_append_right _ (List.mem_append_right _ (List.mem_append_left _ (List.mem_of_getElem? (i := 205) rfl))))) (hts _ (List.mem_filter.mp tw_15).1) (hs _ (by decide +kernel)) hA
  obtain ⟨adK, adV, S, E⟩ := vk_Sof (args := #[Value.ref b]) (s := s) (N := 9) (tm := txT) (len := txL) (byt := txB) (A := fun q => s.heap.size ≤ q) (fun i hi => by have := txL_9 i hi; omega) (fun i hi => hs _ (fl_ex i hi)) (fun i hi => hs _ (fl_co i hi)) (fun i hi => hs _ (fl_ar i hi)) (fun i hi => hs _ (fl_le i hi)) (fun i hi j hj => hs _ (fl_el i hi j hj)) (fun i j hi hj hij => (fl_ne i hi j hj hij).elim (fun h => Or.inl (hs _ h)) (fun h => Or.inr (hs _ h))) hA
  have hao : (Cond.arrayOver (.object "TownBand$Piece")).before #[Value.ref b] s = true := hts _ (List.mem_append_right _ (List.mem_append_left _ (List.mem_of_getElem? (i := 69) rfl)))
  have key : ∀ f g : Nat, va_Z "jdk/internal/util/Preconditions" "SIOOBE_FORMATTER" "Ljava/util/function/BiFunction;" (va_rf (if f = 0 then none else some g)) (fun q => s.heap.size ≤ q) s s.heap → ∃ sp : Nat → Nat, sp 17 = b ∧ Sp (L, fun j => (xs j).toInt) (D, q, sp) (fun q => s.heap.size ≤ q) s s.heap := by
    intro f g hz
    have eK : ∀ i, i < 9 → spA b t1 t2 f g adK adV (100 + i) = adK i := fun i hi => by
      unfold spA; rw [if_neg (by omega), if_neg (by omega), if_neg (by omega), if_neg (by omega), if_neg (by omega), if_pos (by omega), show 100 + i - 100 = i by omega]
    have eV : ∀ i, i < 9 → spA b t1 t2 f g adK adV (200 + i) = adV i := fun i hi => by
      unfold spA; rw [if_neg (by omega), if_neg (by omega), if_neg (by omega), if_neg (by omega), if_neg (by omega), if_neg (by omega), show 200 + i - 200 = i by omega]
    refine ⟨spA b t1 t2 f g adK adV, rfl, ⟨?_, hbl, Nat.not_le.mpr hbl⟩, ⟨Z1, T1⟩, ⟨Z2, T2⟩, fun w hw => va_Nw.of (nest_on hw) (hts w (List.mem_append_right _ (List.mem_filter.mp hw).1)), ⟨⟨fun i hi => ?_, fun i j hi hj e => ?_⟩, fun i q hq => ?_⟩, ⟨Z3, hz⟩, va_AO.of hao⟩
    · have ex : (fun j => Int32.ofInt ((xs j).toInt)) = xs := by funext j; exact i32_of _
      show va_X b L (fun j => Int32.ofInt ((xs j).toInt)) s s.heap
      rw [ex]; exact hX
    · have h := S.1 i hi
      simp only [eK i hi, eV i hi]; exact h
    · have e : spA b t1 t2 f g adK adV (100 + i) = spA b t1 t2 f g adK adV (100 + j) := e
      rw [eK i hi, eK j hj] at e
      exact S.2 i j hi hj e
    · have hi : i < 9 := (List.getElem?_eq_some_iff.mp hq).1
      show vk_R q.1 q.2.1 q.2.2 (spA b t1 t2 f g adK adV (100 + i)) s
      rw [eK i hi]
      have hd : txK.getD i ("", 0, "") = q := by rw [List.getD_eq_getElem?_getD, hq]; rfl
      have hE := E i hi
      unfold txT at hE
      rw [hd] at hE
      have hm : Cond.stringRef q.1 q.2.1 q.2.2 ∈ tables_1 := by
        have hall : ∀ q ∈ txK, Cond.stringRef q.1 q.2.1 q.2.2 ∈ tables_1 := by decide +kernel
        exact hall q (List.mem_of_getElem? hq)
      exact vk_R.of (A := #[Value.ref b]) (hts _ (List.mem_append_right _ hm)) hE
  rcases Z4 with h | ⟨t, h⟩
  · exact key 0 0 h
  · exact key 1 t h
