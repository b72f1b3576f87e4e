/-! texts -/
def txb (i j : Nat) : Int := ((txB.getD i []).getD j 0).toInt
theorem txb_ok : ∀ i, i < 9 → ∀ j, j < 5 → 0 ≤ txb i j ∧ txb i j < 128 := by decide +kernel
theorem txb_0 (i j : Nat) : ok32 (txb i j) := i32_ok _
theorem txL_9 : ∀ i, i < 9 → txL.getD i 0 ≤ 5 := by decide +kernel
section EV7
variable {X : XX} {mi : MI} {d pc : Nat} {L : List (Nat × AV)} {st : List AV} {M : Mm} {r : Option AV} {M' : Mm}
theorem ok_20 {kd : Nat → Nat} {n : Nat} {i : Nat} (h : i < 9) : okV kd n (20, (i : Int)) := ⟨fun e => by simp at e, fun e => by simp at e, fun _ e => by simp at e, fun e => by simp at e, fun _ => ⟨by simp only; omega, by simp only; omega⟩⟩
theorem ok_22 {kd : Nat → Nat} {n : Nat} {i : Nat} (h : i < 9) : okV kd n (22, (i : Int)) := ⟨fun e => by simp at e, fun e => by simp at e, fun _ e => by simp at e, fun e => by simp at e, fun _ => ⟨by simp only; omega, by simp only; omega⟩⟩
theorem ev_text {idx i : Nat} {tx : String} (hk : txK[i]? = some (mi.2.2.2.2, idx, tx)) (hd : decode mi.2.1 pc = .ok (.ldc idx, 2)) (h : Ev X mi d (pc + 2) L ((20, (i : Int)) :: st) M r M') : Ev X mi d pc L st M r M' := by
  refine ev_step h ?_
  intro G R p l e s m args below meth c Q A kd ad H locs cells slots ls hC hX hst hL hl
  have h9 : i < 9 := (List.getElem?_eq_some_iff.mp hk).1
  refine ⟨ok_cs (ok_20 h9) hst, hL, fun kk => ?_⟩
  exact va_ldcS hC.1 hC.2.1 hC.2.2.2.1 (hC.2.2.2.2.2.2.2.1.2.2.2.2.1.2 i _ hk) hd (kk ls hl)
theorem ev_textV {idx i : Nat} (h9 : i < 9) (hw : Cond.fieldLink mi.2.2.2.2 idx "java/lang/String" "value" "[B" ∈ tblG) (hd : decode mi.2.1 pc = .ok (.getfield idx, 3)) (h : Ev X mi d (pc + 3) L ((22, (i : Int)) :: st) M r M') : Ev X mi d pc L ((20, (i : Int)) :: st) M r M' := by
  refine ev_step h ?_
  intro G R p l e s m args below meth c Q A kd ad H locs cells slots ls hC hX hst hL hl
  refine ⟨ok_cs (ok_22 h9) (ok_tl hst), hL, fun kk => ?_⟩
  exact vk_getf hC.1 hC.2.1 (hC.2.2.2.2.2.2.2.1.2.2.2.2.1.1.1 i h9).2.2.1 hX.2.2.2 hC.2.2.2.1 (hC.2.2.2.2.1 _ hw) (fun _ h => h) hd (kk ls hl)
theorem ev_textC {idx i : Nat} (h9 : i < 9) (hw : Cond.fieldLink mi.2.2.2.2 idx "java/lang/String" "coder" "B" ∈ tblG) (hd : decode mi.2.1 pc = .ok (.getfield idx, 3)) (h : Ev X mi d (pc + 3) L ((0, 0) :: st) M r M') : Ev X mi d pc L ((20, (i : Int)) :: st) M r M' := by
  refine ev_step h ?_
  intro G R p l e s m args below meth c Q A kd ad H locs cells slots ls hC hX hst hL hl
  refine ⟨ok_cs (okI ok32_0) (ok_tl hst), hL, fun kk => ?_⟩
  exact vk_getf hC.1 hC.2.1 (hC.2.2.2.2.2.2.2.1.2.2.2.2.1.1.1 i h9).2.1 hX.2.2.2 hC.2.2.2.1 (hC.2.2.2.2.1 _ hw) (fun _ h => h) hd (kk ls hl)
theorem ev_textL {i : Nat} (h9 : i < 9) (hd : decode mi.2.1 pc = .ok (.arraylength, 1)) (h : Ev X mi d (pc + 1) L ((0, (txL.getD i 0 : Int)) :: st) M r M') : Ev X mi d pc L ((22, (i : Int)) :: st) M r M' := by
  refine ev_step h ?_
  intro G R p l e s m args below meth c Q A kd ad H locs cells slots ls hC hX hst hL hl
  have h5 := txL_9 i h9
  refine ⟨ok_cs (okI (by unfold ok32; omega)) (ok_tl hst), hL, fun kk => ?_⟩
  exact va_tlen hC.1 hC.2.1 (hC.2.2.2.2.2.2.2.1.2.2.2.2.1.1.1 i h9).2.2.2 hX.2.2.2 rfl hd (kk ls hl)
theorem ev_textB {i : Nat} {j : Int} (h9 : i < 9) (hj : 0 ≤ j ∧ j < (txL.getD i 0 : Int)) (hd : decode mi.2.1 pc = .ok (.baload, 1)) (h : Ev X mi d (pc + 1) L ((0, txb i j.toNat) :: st) M r M') : Ev X mi d pc L ((0, j) :: (22, (i : Int)) :: st) M r M' := by
  refine ev_step h ?_
  intro G R p l e s m args below meth c Q A kd ad H locs cells slots ls hC hX hst hL hl
  have hi3 := (ok_hd hst).1 rfl
  refine ⟨ok_cs (okI (txb_0 _ _)) (ok_tl (ok_tl hst)), hL, fun kk => ?_⟩
  refine va_tb hC.1 hC.2.1 (hC.2.2.2.2.2.2.2.1.2.2.2.2.1.1.1 i h9).2.2.2 hX.2.2.2 (i32_in hi3 hj.1 hj.2) ?_ hd (kk ls hl)
  show Value.int _ = Value.int _
  rw [i32_cl hi3, txb, i32_of]
theorem ev_comp {idx : Nat} (hw : Cond.fieldLink mi.2.2.2.2 idx "java/lang/String" "COMPACT_STRINGS" "Z" ∈ tblG) (hd : decode mi.2.1 pc = .ok (.getstatic idx, 3)) (h : Ev X mi d (pc + 3) L ((0, 1) :: st) M r M') : Ev X mi d pc L st M r M' := by
  refine ev_step h ?_
  intro G R p l e s m args below meth c Q A kd ad H locs cells slots ls hC hX hst hL hl
  refine ⟨ok_cs (okI (by unfold ok32; omega)) hst, hL, fun kk => ?_⟩
  exact va_gets hC.1 hC.2.1 hC.2.2.2.2.2.2.2.1.2.2.2.2.2.1.1 hX.2.2.2 hC.2.2.2.1 (hC.2.2.2.2.1 _ hw) (fun _ h => h) hd (kk ls hl)
/-- a static that only is passed on: a reference or null, the tag 23 -/
theorem ev_form {idx : Nat} (hw : Cond.fieldLink mi.2.2.2.2 idx "jdk/internal/util/Preconditions" "SIOOBE_FORMATTER" "Ljava/util/function/BiFunction;" ∈ tblG) (hd : decode mi.2.1 pc = .ok (.getstatic idx, 3)) (h : Ev X mi d (pc + 3) L ((23, 1) :: st) M r M') : Ev X mi d pc L st M r M' := by
  refine ev_step h ?_
  intro G R p l e s m args below meth c Q A kd ad H locs cells slots ls hC hX hst hL hl
  refine ⟨ok_cs ⟨fun e => by simp at e, fun e => by simp at e, fun _ e => by simp at e, fun e => by simp at e, fun e => by simp at e⟩ hst, hL, fun kk => ?_⟩
  exact va_gets hC.1 hC.2.1 hC.2.2.2.2.2.2.2.1.2.2.2.2.2.1.2 hX.2.2.2 hC.2.2.2.1 (hC.2.2.2.2.1 _ hw) (fun _ h => h) hd (kk ls hl)
theorem ev_callT {mi' : MI} {d' n idx : Nat} {i : Nat} {as rest : List AV} {r1 : Option AV} {M1 : Mm} (hst : st = as.reverse ++ (20, (i : Int)) :: rest) (h9 : i < 9) (hn : as.length = n) (hr8 : aW rest ≤ 8) (ho : CalOk mi' n) (hi : Cond.instanceMethod mi'.1 ∈ tblG ∧ Cond.selects "java/lang/String" mi'.1 mi'.1 ∈ tblG) (hdd : d' + 1 ≤ d) (hw : Cond.methodLink mi.2.2.2.2 idx mi'.1 ∈ tblG) (hd : decode mi.2.1 pc = .ok (.invokevirtual idx, 3)) (hR : Rn X d' mi' ((20, (i : Int)) :: as) M r1 M1) (h : Ev X mi d (pc + 3) L (r1.toList ++ rest) M1 r M') : Ev X mi d pc L st M r M' := by
  subst hst
  refine call_core hR (fun q hq => List.mem_append_right _ (List.mem_cons_of_mem _ hq)) (fun q hq => by
    rcases List.mem_cons.mp hq with e | e
    · rw [e]; exact List.mem_append_right _ List.mem_cons_self
    · exact List.mem_append_left _ (List.mem_reverse.mpr e)) h ?_
  intro G R p l e s m args below meth c A kd ad H locs cells slots ls hC hX hst hl hcs hM hp
  have er : cv G ad (20, (i : Int)) = .ref (G.2.2 (100 + i)) := rfl
  have em : ((20, (i : Int)) :: as).map (cv G ad) = .ref (G.2.2 (100 + i)) :: as.map (cv G ad) := by rw [List.map_cons, er]
  rw [em] at hM hp ⊢
  exact va_runV (C := "java/lang/String") (b := G.2.2 (100 + i)) (As := as.map (cv G ad)) (mfix hC) hM ⟨mkB hC ho hdd hw, hC.2.2.2.2.1 _ hi.1, hC.2.2.2.2.1 _ hi.2⟩ ⟨preR_blind _, vk_recv (adK := fun i => G.2.2 (100 + i)) (i := i) hC.2.2.2.2.2.2.2.1.2.2.2.2.1.1 h9 hX.2.2.2, hp⟩ rfl (by rw [List.length_map]; exact hn) hl.1 (by show List.map (cv G ad) _ = _; rw [List.map_append, List.map_reverse, List.map_cons, er]) (lv_room (by rw [aW_cat]; exact hr8)) hd hcs
end EV7
