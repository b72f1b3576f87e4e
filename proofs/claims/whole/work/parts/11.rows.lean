/-! the step of an instruction that leaves the memory -/
theorem ev_step {X : XX} {mi : MI} {d pc pc' : Nat} {L L' : List (Nat × AV)} {st st' : List AV} {M : Mm} {r : Option AV} {M' : Mm} (h : Ev X mi d pc' L' st' M r M')
    (step : ∀ (G : GG) (R : Room) (p : Program) (l : Launch) (e : Env) (s : State) (m : MethodId) (args : Array Value) (below : List Frame) (meth : Method) (c : Code) (Q : State → Prop) (A : Nat → Prop) (kd ad : Nat → Nat) (H : Heap) (locs : List Loc) (cells slots : Nat) (ls : Array Slot),
      Cx X mi G d R p s m args meth c A → Sx G ad kd M A s H locs → (∀ q ∈ st, okV kd (mN M) q) → (∀ q ∈ L, okV kd (mN M) q.2) → lv_has ls mi.2.2.1 (lvs G ad L) →
      (∀ q ∈ st', okV kd (mN M) q) ∧ (∀ q ∈ L', okV kd (mN M) q.2) ∧ ((∀ ls' : Array Slot, lv_has ls' mi.2.2.1 (lvs G ad L') → W p l e R s m args below meth c H locs cells slots Q (F0 m pc' ls' (st'.map (cv G ad)))) → W p l e R s m args below meth c H locs cells slots Q (F0 m pc ls (st.map (cv G ad))))) :
    Ev X mi d pc L st M r M' := by
  refine ⟨h.1, h.2.1, ?_⟩
  intro G R p l e s m args below meth c Q A kd ad H locs cells slots ls hC hX hst hL hl hc hs he
  obtain ⟨a1, a2, a3⟩ := step G R p l e s m args below meth c Q A kd ad H locs cells slots ls hC hX hst hL hl
  exact a3 fun ls' hl' => h.2.2 G R p l e s m args below meth c Q A kd ad H locs cells slots ls' hC hX a1 a2 hl' hc hs he
theorem okI {kd : Nat → Nat} {n : Nat} {v : Int} (h : ok32 v) : okV kd n (0, v) := ⟨fun _ => h, fun h => by simp at h, fun h => by simp at h, fun h => by simp at h, fun h => by simp at h⟩
theorem okJ {kd : Nat → Nat} {n : Nat} {v : Int} (h : ok64 v) : okV kd n (1, v) := ⟨fun h => by simp at h, fun _ => h, fun h => by simp at h, fun h => by simp at h, fun h => by simp at h⟩
theorem cv_i (G : GG) (ad : Nat → Nat) (v : Int) : cv G ad (0, v) = .int (Int32.ofInt v) := rfl
theorem cv_l (G : GG) (ad : Nat → Nat) (v : Int) : cv G ad (1, v) = .long (Int64.ofInt v) := rfl
theorem cv_n (G : GG) (ad : Nat → Nat) {t : Nat} (h2 : 2 ≤ t) (h16 : t ≤ 16) : cv G ad (t, 0) = .null := by
  unfold cv; rw [if_neg (by omega), if_neg (by omega), if_pos h16]; rfl
theorem cv_r (G : GG) (ad : Nat → Nat) {t : Nat} {v : Int} (h2 : 2 ≤ t) (h16 : t ≤ 16) (hv : v ≠ 0) : cv G ad (t, v) = .ref (ad (cI v)) := by
  unfold cv; rw [if_neg (by omega), if_neg (by omega), if_pos h16]; simp only [hv, if_false]; rfl
theorem cv_or (G : GG) (ad : Nat → Nat) {t : Nat} {v : Int} (h2 : 2 ≤ t) : cv G ad (t, v) = .null ∨ ∃ a, cv G ad (t, v) = .ref a := by
  unfold cv; rw [if_neg (by omega), if_neg (by omega)]
  split
  · exact va_rf_or _
  · split
    · exact Or.inr ⟨_, rfl⟩
    · split
      · exact Or.inr ⟨_, rfl⟩
      · split
        · exact va_rf_or _
        · exact Or.inr ⟨_, rfl⟩
theorem cv_cat (G : GG) (ad : Nat → Nat) (q : AV) : (cv G ad q).category = if q.1 = 1 then 2 else 1 := by
  by_cases h1 : q.1 = 1
  · obtain ⟨t, v⟩ := q; simp only at h1; subst h1; rfl
  · rw [if_neg h1]
    by_cases h0 : q.1 = 0
    · obtain ⟨t, v⟩ := q; simp only at h0; subst h0; rfl
    · rcases cv_or G ad (t := q.1) (v := q.2) (by omega) with h | ⟨a, h⟩ <;> (have e : q = (q.1, q.2) := rfl) <;> rw [e, h] <;> rfl
theorem ok_hd {kd : Nat → Nat} {n : Nat} {a : AV} {st : List AV} (h : ∀ q ∈ a :: st, okV kd n q) : okV kd n a := h a List.mem_cons_self
theorem ok_tl {kd : Nat → Nat} {n : Nat} {a : AV} {st : List AV} (h : ∀ q ∈ a :: st, okV kd n q) : ∀ q ∈ st, okV kd n q := fun q hq => h q (List.mem_cons_of_mem _ hq)
theorem ok_cs {kd : Nat → Nat} {n : Nat} {a : AV} {st : List AV} (ha : okV kd n a) (h : ∀ q ∈ st, okV kd n q) : ∀ q ∈ a :: st, okV kd n q := fun q hq => (List.mem_cons.mp hq).elim (fun e => e ▸ ha) (h q)
section EV
variable {X : XX} {mi : MI} {d pc : Nat} {L : List (Nat × AV)} {st : List AV} {M : Mm} {r : Option AV} {M' : Mm}
theorem ev_iconst {v : Int} (hd : decode mi.2.1 pc = .ok (.iconst v, 1)) (hv : (decide (-2147483648 ≤ v) && decide (v < 2147483648)) = true) (h : Ev X mi d (pc + 1) L ((0, v) :: st) M r M') : Ev X mi d pc L st M r M' := by
  have hv : ok32 v := by simp only [Bool.and_eq_true, decide_eq_true_eq] at hv; exact hv
  refine ev_step h ?_
  intro G R p l e s m args below meth c Q A kd ad H locs cells slots ls hC hX hst hL hl
  exact ⟨ok_cs (okI hv) hst, hL, fun k => lv_iconst hC.1 hC.2.1 hd rfl (k ls hl)⟩
theorem ev_bipush {v : Int} (hd : decode mi.2.1 pc = .ok (.bipush v, 2)) (hv : (decide (-128 ≤ v) && decide (v < 128)) = true) (h : Ev X mi d (pc + 2) L ((0, v) :: st) M r M') : Ev X mi d pc L st M r M' := by
  have hv : -128 ≤ v ∧ v < 128 := by simp only [Bool.and_eq_true, decide_eq_true_eq] at hv; exact hv
  refine ev_step h ?_
  intro G R p l e s m args below meth c Q A kd ad H locs cells slots ls hC hX hst hL hl
  refine ⟨ok_cs (okI (by unfold ok32; omega)) hst, hL, fun k => lv_bipush hC.1 hC.2.1 hd ?_ (k ls hl)⟩
  apply Int32.toInt_inj.mp
  rw [i32_c (by unfold ok32; omega), Int8.toInt_toInt32, Int8.toInt_ofInt, Int.bmod_def]
  simp only [Int8.size]; split <;> omega
theorem ev_sipush {v : Int} (hd : decode mi.2.1 pc = .ok (.sipush v, 3)) (hv : (decide (-32768 ≤ v) && decide (v < 32768)) = true) (h : Ev X mi d (pc + 3) L ((0, v) :: st) M r M') : Ev X mi d pc L st M r M' := by
  have hv : -32768 ≤ v ∧ v < 32768 := by simp only [Bool.and_eq_true, decide_eq_true_eq] at hv; exact hv
  refine ev_step h ?_
  intro G R p l e s m args below meth c Q A kd ad H locs cells slots ls hC hX hst hL hl
  refine ⟨ok_cs (okI (by unfold ok32; omega)) hst, hL, fun k => lv_sipush hC.1 hC.2.1 hd ?_ (k ls hl)⟩
  apply Int32.toInt_inj.mp
  rw [i32_c (by unfold ok32; omega), Int16.toInt_toInt32, Int16.toInt_ofInt, Int.bmod_def]
  simp only [Int16.size]; split <;> omega
theorem ev_ldc {i : Nat} {v : Int} (hd : decode mi.2.1 pc = .ok (.ldc i, 2)) (hw : Cond.constant mi.2.2.2.2 i (Int32.ofInt v) ∈ tblG) (hv : (decide (-2147483648 ≤ v) && decide (v < 2147483648)) = true) (h : Ev X mi d (pc + 2) L ((0, v) :: st) M r M') : Ev X mi d pc L st M r M' := by
  have hv : ok32 v := by simp only [Bool.and_eq_true, decide_eq_true_eq] at hv; exact hv
  refine ev_step h ?_
  intro G R p l e s m args below meth c Q A kd ad H locs cells slots ls hC hX hst hL hl
  exact ⟨ok_cs (okI hv) hst, hL, fun k => lv_ldc hC.1 hC.2.1 hC.2.2.2.1 (hC.2.2.2.2.1 _ hw) hd (k ls hl)⟩
theorem ev_ldcw {i : Nat} {v : Int} (hd : decode mi.2.1 pc = .ok (.ldc_w i, 3)) (hw : Cond.constant mi.2.2.2.2 i (Int32.ofInt v) ∈ tblG) (hv : (decide (-2147483648 ≤ v) && decide (v < 2147483648)) = true) (h : Ev X mi d (pc + 3) L ((0, v) :: st) M r M') : Ev X mi d pc L st M r M' := by
  have hv : ok32 v := by simp only [Bool.and_eq_true, decide_eq_true_eq] at hv; exact hv
  refine ev_step h ?_
  intro G R p l e s m args below meth c Q A kd ad H locs cells slots ls hC hX hst hL hl
  exact ⟨ok_cs (okI hv) hst, hL, fun k => lv_ldcw hC.1 hC.2.1 hC.2.2.2.1 (hC.2.2.2.2.1 _ hw) hd (k ls hl)⟩
theorem ev_ldc2 {i : Nat} {v : Int} (hd : decode mi.2.1 pc = .ok (.ldc2_w i, 3)) (hw : Cond.constantLong mi.2.2.2.2 i (Int64.ofInt v) ∈ tblG) (hv : (decide (-9223372036854775808 ≤ v) && decide (v < 9223372036854775808)) = true) (h : Ev X mi d (pc + 3) L ((1, v) :: st) M r M') : Ev X mi d pc L st M r M' := by
  have hv : ok64 v := by simp only [Bool.and_eq_true, decide_eq_true_eq] at hv; exact hv
  refine ev_step h ?_
  intro G R p l e s m args below meth c Q A kd ad H locs cells slots ls hC hX hst hL hl
  exact ⟨ok_cs (okJ hv) hst, hL, fun k => lv_ldc2 hC.1 hC.2.1 hC.2.2.2.1 (hC.2.2.2.2.1 _ hw) hd (k ls hl)⟩
theorem lv_of {G : GG} {ad : Nat → Nat} {ls : Array Slot} {n k i : Nat} {q : AV} (hl : lv_has ls n (lvs G ad L)) (hk : L[k]? = some (i, q)) : ls[i]? = some (.val (cv G ad q)) :=
  lv_at hl k (by unfold lvs; rw [List.getElem?_map, hk]; rfl)
theorem okL_at {kd : Nat → Nat} {n k i : Nat} {q : AV} (hL : ∀ q ∈ L, okV kd n q.2) (hk : L[k]? = some (i, q)) : okV kd n q := hL (i, q) (List.mem_of_getElem? hk)
theorem ev_iload_n {j : Fin 4} {v : Int} (k : Nat) {i : Nat} (hd : decode mi.2.1 pc = .ok (.iload_n j, 1)) (hi : (j : Nat) = i) (hk : L[k]? = some (i, (0, v))) (h : Ev X mi d (pc + 1) L ((0, v) :: st) M r M') : Ev X mi d pc L st M r M' := by
  refine ev_step h ?_
  intro G R p l e s m args below meth c Q A kd ad H locs cells slots ls hC hX hst hL hl
  exact ⟨ok_cs (okL_at hL hk) hst, hL, fun k => lv_iload_n hC.1 hC.2.1 hd hi (lv_of hl hk) (k ls hl)⟩
theorem ev_iload {v : Int} (k : Nat) {i : Nat} (hd : decode mi.2.1 pc = .ok (.iload i, 2)) (hk : L[k]? = some (i, (0, v))) (h : Ev X mi d (pc + 2) L ((0, v) :: st) M r M') : Ev X mi d pc L st M r M' := by
  refine ev_step h ?_
  intro G R p l e s m args below meth c Q A kd ad H locs cells slots ls hC hX hst hL hl
  exact ⟨ok_cs (okL_at hL hk) hst, hL, fun k => lv_iload hC.1 hC.2.1 hd (lv_of hl hk) (k ls hl)⟩
theorem ev_lload_n {j : Fin 4} {v : Int} (k : Nat) {i : Nat} (hd : decode mi.2.1 pc = .ok (.lload_n j, 1)) (hi : (j : Nat) = i) (hk : L[k]? = some (i, (1, v))) (h : Ev X mi d (pc + 1) L ((1, v) :: st) M r M') : Ev X mi d pc L st M r M' := by
  refine ev_step h ?_
  intro G R p l e s m args below meth c Q A kd ad H locs cells slots ls hC hX hst hL hl
  exact ⟨ok_cs (okL_at hL hk) hst, hL, fun k => lv_lload_n hC.1 hC.2.1 hd hi (lv_of hl hk) (k ls hl)⟩
theorem ev_lload {v : Int} (k : Nat) {i : Nat} (hd : decode mi.2.1 pc = .ok (.lload i, 2)) (hk : L[k]? = some (i, (1, v))) (h : Ev X mi d (pc + 2) L ((1, v) :: st) M r M') : Ev X mi d pc L st M r M' := by
  refine ev_step h ?_
  intro G R p l e s m args below meth c Q A kd ad H locs cells slots ls hC hX hst hL hl
  exact ⟨ok_cs (okL_at hL hk) hst, hL, fun k => lv_lload hC.1 hC.2.1 hd (lv_of hl hk) (k ls hl)⟩
theorem ev_aload_n {j : Fin 4} {t : Nat} {v : Int} (k : Nat) {i : Nat} (hd : decode mi.2.1 pc = .ok (.aload_n j, 1)) (hi : (j : Nat) = i) (ht : 2 ≤ t) (hk : L[k]? = some (i, (t, v))) (h : Ev X mi d (pc + 1) L ((t, v) :: st) M r M') : Ev X mi d pc L st M r M' := by
  refine ev_step h ?_
  intro G R p l e s m args below meth c Q A kd ad H locs cells slots ls hC hX hst hL hl
  refine ⟨ok_cs (okL_at hL hk) hst, hL, fun k => ?_⟩
  have hk2 := k ls hl
  have h1 := lv_of hl hk
  rw [List.map_cons] at hk2
  rcases cv_or G ad (t := t) (v := v) ht with e | ⟨a, e⟩ <;> rw [e] at h1 hk2
  · exact lv_aload_nN hC.1 hC.2.1 hd hi h1 hk2
  · exact lv_aload_n hC.1 hC.2.1 hd hi h1 hk2
theorem ev_aload {t : Nat} {v : Int} (k : Nat) {i : Nat} (hd : decode mi.2.1 pc = .ok (.aload i, 2)) (ht : 2 ≤ t) (hk : L[k]? = some (i, (t, v))) (h : Ev X mi d (pc + 2) L ((t, v) :: st) M r M') : Ev X mi d pc L st M r M' := by
  refine ev_step h ?_
  intro G R p l e s m args below meth c Q A kd ad H locs cells slots ls hC hX hst hL hl
  refine ⟨ok_cs (okL_at hL hk) hst, hL, fun k => ?_⟩
  have hk2 := k ls hl
  have h1 := lv_of hl hk
  rw [List.map_cons] at hk2
  rcases cv_or G ad (t := t) (v := v) ht with e | ⟨a, e⟩ <;> rw [e] at h1 hk2
  · exact lv_aloadN hC.1 hC.2.1 hd h1 hk2
  · exact lv_aload hC.1 hC.2.1 hd h1 hk2
/-- the locals behind a store -/
def lset (L : List (Nat × AV)) (i : Nat) (q : AV) : List (Nat × AV) := (i, q) :: L.filter (fun x => !(x.1 == i) && !(x.1 + 1 == i && x.2.1 == 1))
def lsetL (L : List (Nat × AV)) (i : Nat) (q : AV) : List (Nat × AV) := (i, q) :: L.filter (fun x => !(x.1 == i) && (!(x.1 == i + 1) && !(x.1 + 1 == i && x.2.1 == 1)))
theorem cat_eq (G : GG) (ad : Nat → Nat) (q : AV) : ((cv G ad q).category == 2) = (q.1 == 1) := by
  rw [cv_cat]; by_cases h : q.1 = 1 <;> simp [h]
theorem lset_lvs (G : GG) (ad : Nat → Nat) (i : Nat) (q : AV) : (i, cv G ad q) :: (lvs G ad L).filter (fun x => !(x.1 == i) && !(x.1 + 1 == i && x.2.category == 2)) = lvs G ad (lset L i q) := by
  unfold lvs lset; rw [List.map_cons, List.filter_map]
  congr 2
  apply List.filter_congr; intro x hx
  simp only [Function.comp, cat_eq]
theorem lsetL_lvs (G : GG) (ad : Nat → Nat) (i : Nat) (q : AV) : (i, cv G ad q) :: (lvs G ad L).filter (fun x => !(x.1 == i) && (!(x.1 == i + 1) && !(x.1 + 1 == i && x.2.category == 2))) = lvs G ad (lsetL L i q) := by
  unfold lvs lsetL; rw [List.map_cons, List.filter_map]
  congr 2
  apply List.filter_congr; intro x hx
  simp only [Function.comp, cat_eq]
theorem ok_lset {kd : Nat → Nat} {n i : Nat} {q : AV} (hq : okV kd n q) (hL : ∀ q ∈ L, okV kd n q.2) : ∀ x ∈ lset L i q, okV kd n x.2 := fun x hx => by
  unfold lset at hx
  rcases List.mem_cons.mp hx with e | e
  · rw [e]; exact hq
  · exact hL x (List.mem_filter.mp e).1
theorem ok_lsetL {kd : Nat → Nat} {n i : Nat} {q : AV} (hq : okV kd n q) (hL : ∀ q ∈ L, okV kd n q.2) : ∀ x ∈ lsetL L i q, okV kd n x.2 := fun x hx => by
  unfold lsetL at hx
  rcases List.mem_cons.mp hx with e | e
  · rw [e]; exact hq
  · exact hL x (List.mem_filter.mp e).1
theorem ev_istore_n {j : Fin 4} {v : Int} {i : Nat} {L' : List (Nat × AV)} (hd : decode mi.2.1 pc = .ok (.istore_n j, 1)) (hi : (j : Nat) = i) (hn : i < mi.2.2.1) (hL' : lset L i (0, v) = L') (h : Ev X mi d (pc + 1) L' st M r M') : Ev X mi d pc L ((0, v) :: st) M r M' := by
  subst hL'
  refine ev_step h ?_
  intro G R p l e s m args below meth c Q A kd ad H locs cells slots ls hC hX hst hL hl
  exact ⟨ok_tl hst, ok_lset (ok_hd hst) hL, fun k => lv_istore_n hC.1 hC.2.1 hd hi hl hn (lset_lvs G ad i (0, v)) k⟩
theorem ev_istore {v : Int} {i : Nat} {L' : List (Nat × AV)} (hd : decode mi.2.1 pc = .ok (.istore i, 2)) (hn : i < mi.2.2.1) (hL' : lset L i (0, v) = L') (h : Ev X mi d (pc + 2) L' st M r M') : Ev X mi d pc L ((0, v) :: st) M r M' := by
  subst hL'
  refine ev_step h ?_
  intro G R p l e s m args below meth c Q A kd ad H locs cells slots ls hC hX hst hL hl
  exact ⟨ok_tl hst, ok_lset (ok_hd hst) hL, fun k => lv_istore hC.1 hC.2.1 hd hl hn (lset_lvs G ad i (0, v)) k⟩
theorem ev_lstore {v : Int} {i : Nat} {L' : List (Nat × AV)} (hd : decode mi.2.1 pc = .ok (.lstore i, 2)) (hn : i + 1 < mi.2.2.1) (hL' : lsetL L i (1, v) = L') (h : Ev X mi d (pc + 2) L' st M r M') : Ev X mi d pc L ((1, v) :: st) M r M' := by
  subst hL'
  refine ev_step h ?_
  intro G R p l e s m args below meth c Q A kd ad H locs cells slots ls hC hX hst hL hl
  exact ⟨ok_tl hst, ok_lsetL (ok_hd hst) hL, fun k => lv_lstore hC.1 hC.2.1 hd hl hn (lsetL_lvs G ad i (1, v)) k⟩
theorem ev_astore_n {j : Fin 4} {t : Nat} {v : Int} {i : Nat} {L' : List (Nat × AV)} (hd : decode mi.2.1 pc = .ok (.astore_n j, 1)) (hi : (j : Nat) = i) (ht : 2 ≤ t) (hn : i < mi.2.2.1) (hL' : lset L i (t, v) = L') (h : Ev X mi d (pc + 1) L' st M r M') : Ev X mi d pc L ((t, v) :: st) M r M' := by
  subst hL'
  refine ev_step h ?_
  intro G R p l e s m args below meth c Q A kd ad H locs cells slots ls hC hX hst hL hl
  refine ⟨ok_tl hst, ok_lset (ok_hd hst) hL, fun k => ?_⟩
  have h1 := lset_lvs (L := L) G ad i (t, v)
  rw [List.map_cons]
  rcases cv_or G ad (t := t) (v := v) ht with e | ⟨a, e⟩ <;> rw [e] at h1 ⊢
  · exact lv_astore_nN hC.1 hC.2.1 hd hi hl hn h1 k
  · exact lv_astore_n hC.1 hC.2.1 hd hi hl hn h1 k
theorem ev_astore {t : Nat} {v : Int} {i : Nat} {L' : List (Nat × AV)} (hd : decode mi.2.1 pc = .ok (.astore i, 2)) (ht : 2 ≤ t) (hn : i < mi.2.2.1) (hL' : lset L i (t, v) = L') (h : Ev X mi d (pc + 2) L' st M r M') : Ev X mi d pc L ((t, v) :: st) M r M' := by
  subst hL'
  refine ev_step h ?_
  intro G R p l e s m args below meth c Q A kd ad H locs cells slots ls hC hX hst hL hl
  refine ⟨ok_tl hst, ok_lset (ok_hd hst) hL, fun k => ?_⟩
  have h1 := lset_lvs (L := L) G ad i (t, v)
  rw [List.map_cons]
  rcases cv_or G ad (t := t) (v := v) ht with e | ⟨a, e⟩ <;> rw [e] at h1 ⊢
  · exact lv_astoreN hC.1 hC.2.1 hd hl hn h1 k
  · exact lv_astore hC.1 hC.2.1 hd hl hn h1 k
theorem ev_iinc {v n : Int} (k : Nat) {i : Nat} {L' : List (Nat × AV)} (hd : decode mi.2.1 pc = .ok (.iinc i n, 3)) (hk : L[k]? = some (i, (0, v))) (hn : i < mi.2.2.1) (hL' : lset L i (0, w32 (v + n)) = L') (h : Ev X mi d (pc + 3) L' st M r M') : Ev X mi d pc L st M r M' := by
  subst hL'
  refine ev_step h ?_
  intro G R p l e s m args below meth c Q A kd ad H locs cells slots ls hC hX hst hL hl
  refine ⟨hst, ok_lset (okI (w32_ok _)) hL, fun kk => ?_⟩
  refine lv_iinc (k := k) (x := Int32.ofInt v) (v := Int32.ofInt (w32 (v + n))) hC.1 hC.2.1 hd hl (by unfold lvs; rw [List.getElem?_map, hk]; rfl) ?_ hn (lset_lvs G ad i (0, w32 (v + n))) kk
  rw [i32_w, Int32.ofInt_add]
/-- fewer locals -/
theorem ev_less {L' : List (Nat × AV)} (ks : List Nat) (hs : ks.filterMap (fun k => L[k]?) = L') (h : Ev X mi d pc L' st M r M') : Ev X mi d pc L st M r M' := by
  refine ev_step h ?_
  intro G R p l e s m args below meth c Q A kd ad H locs cells slots ls hC hX hst hL hl
  refine ⟨hst, fun q hq => ?_, fun k => k ls ?_⟩
  · rw [← hs] at hq
    obtain ⟨i, -, hi⟩ := List.mem_filterMap.mp hq
    exact hL q (List.mem_of_getElem? hi)
  · refine lv_sub hl ks ?_
    unfold lv_pick lvs
    rw [← hs, List.map_filterMap]
    congr 1; funext k; rw [List.getElem?_map]
end EV
