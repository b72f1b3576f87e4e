/-! a world in which more cells stand: values and cells of the old ones -/
theorem cv_ag {G : GG} {ad ad' kd : Nat → Nat} {n : Nat} {q : AV} (h : okV kd n q) (ha : ∀ c, c < n → ad' c = ad c) : cv G ad' q = cv G ad q := by
  obtain ⟨t, v⟩ := q
  unfold cv
  by_cases h0 : t = 0
  · simp [h0]
  by_cases h1 : t = 1
  · simp [h1]
  by_cases h16 : t ≤ 16
  · simp only [h0, h1, h16, if_false, if_true]
    by_cases hv : v = 0
    · simp [hv]
    · have := (ref_at h (by omega) h16 hv).1
      simp only [hv, if_false]; rw [ha _ this]
  · simp [h0, h1, h16]
theorem map_ag {G : GG} {ad ad' kd : Nat → Nat} {n : Nat} {st : List AV} (h : ∀ q ∈ st, okV kd n q) (ha : ∀ c, c < n → ad' c = ad c) : st.map (cv G ad') = st.map (cv G ad) := List.map_congr_left fun q hq => cv_ag (h q hq) ha
theorem lvs_ag {G : GG} {ad ad' kd : Nat → Nat} {n : Nat} {L : List (Nat × AV)} (h : ∀ q ∈ L, okV kd n q.2) (ha : ∀ c, c < n → ad' c = ad c) : lvs G ad' L = lvs G ad L := by
  unfold lvs; exact List.map_congr_left fun q hq => by rw [cv_ag (h q hq) ha]
theorem okV_ag {kd kd' : Nat → Nat} {n n' : Nat} {q : AV} (h : okV kd n q) (hk : ∀ c, c < n → kd' c = kd c) (hn : n ≤ n') : okV kd' n' q := by
  refine ⟨h.1, h.2.1, fun a b => ?_, h.2.2.2⟩
  rcases h.2.2.1 a b with e | ⟨c, e, hc, hkc⟩
  · exact Or.inl e
  · exact Or.inr ⟨c, e, Nat.lt_of_lt_of_le hc hn, by rw [hk c hc]; exact hkc⟩
theorem cE_ag {G : GG} {ad ad' kd kd' : Nat → Nat} {M M1 : Mm} {c : Nat} (hw : WT kd M) (hc : c < mN M) (ha : ∀ c, c < mN M → kd' c = kd c ∧ ad' c = ad c) (hv : ∀ k, mg M1 c k = mg M c k) (hl : ml M1 c = ml M c) : cE G ad' kd' M1 c = cE G ad kd M c := by
  obtain ⟨h1, h2, h3, h4⟩ := hw c hc
  have ha2 : ∀ c, c < mN M → ad' c = ad c := fun c h => (ha c h).2
  have hkc := (ha c hc).1
  by_cases h12 : kd c ≤ 12
  · rw [cE_obj (kd := kd') hkc h12, cE_obj (kd := kd) rfl h12]
    congr 2
    exact List.map_congr_left fun k _ => by rw [hv]; exact cv_ag (h4 k) ha2
  · have h5 : kd c = 13 ∨ kd c = 14 ∨ kd c = 15 ∨ kd c = 16 := by omega
    rcases h5 with e | e | e | e
    · rw [cE_I (hkc.trans e), cE_I e, hl]; simp only [hv]
    · rw [cE_J (hkc.trans e), cE_J e, hl]; simp only [hv]
    · rw [cE_Z (hkc.trans e), cE_Z e, hl]; simp only [hv]
    · rw [cE_O (hkc.trans e), cE_O e, hl]; simp only [hv]
      congr 3; congr 4; funext k
      by_cases hz : mg M c k = 0
      · simp [hz]
      · have h6 := h4 k
        rw [e] at h6
        have := (ref_at h6 (show 2 ≤ 5 by decide) (show 5 ≤ 16 by decide) hz).1
        simp only [hz, if_false]; rw [ha2 _ this]
theorem mg_mw (M : Mm) (n c k : Nat) : mg (mw M n) c k = if c = mN M then 0 else mg M c k := rfl
theorem ml_mw (M : Mm) (n c : Nat) : ml (mw M n) c = if c = mN M then n else ml M c := rfl
theorem mN_mw (M : Mm) (n : Nat) : mN (mw M n) = mN M + 1 := rfl
theorem mZ_mw (M : Mm) (n : Nat) : mZ (mw M n) = mZ M + n := rfl
theorem wl_mw {G : GG} {ad kd : Nat → Nat} {M : Mm} {n t q : Nat} (hw : WT kd M) : wl G (va_up ad (mN M) q) (va_up kd (mN M) t) (mw M n) = wl G ad kd M ++ [(q, cE G (va_up ad (mN M) q) (va_up kd (mN M) t) (mw M n) (mN M))] := by
  unfold wl
  rw [mN_mw, List.range_succ, List.map_append, List.map_singleton]
  congr 1
  · apply List.map_congr_left; intro c hc
    have hc : c < mN M := List.mem_range.mp hc
    have hne : c ≠ mN M := by omega
    rw [cE_ag (M1 := mw M n) (ad' := va_up ad (mN M) q) (kd' := va_up kd (mN M) t) hw hc (fun c h => by unfold va_up; rw [if_neg (by omega), if_neg (by omega)]; exact ⟨rfl, rfl⟩) (fun k => by rw [mg_mw, if_neg hne]) (by rw [ml_mw, if_neg hne])]
    unfold va_up; rw [if_neg hne]
  · unfold va_up; simp
theorem ok_0 {kd : Nat → Nat} {n t : Nat} (h : t ≤ 16 ∨ t = 21) : okV kd n (t, 0) := ⟨fun _ => ok32_0, fun _ => by unfold ok64; constructor <;> simp, fun _ _ => Or.inl rfl, fun _ => Or.inl rfl, fun e => by simp only at e; omega⟩
theorem ft_le (t k : Nat) : ft t k ≤ 16 ∨ ft t k = 21 := by
  unfold ft
  split
  · omega
  · split
    · omega
    · split
      · omega
      · split
        · omega
        · left
          have h : ∀ t k, (fl t).getD k 0 ≤ 16 := by
            intro t k
            rw [List.getD_eq_getElem?_getD]
            cases e : (fl t)[k]? with
            | none => simp
            | some x =>
              have hx : x ∈ fl t := List.mem_of_getElem? e
              have ha : ∀ x ∈ fl t, x ≤ 16 := by
                unfold fl; split <;> decide
              simpa using ha x hx
          exact h t k
theorem WT_mw {kd : Nat → Nat} {M : Mm} {n t : Nat} (hw : WT kd M) (h2 : 2 ≤ t) (h16 : t ≤ 16) (hn : n < 2147483648) : WT (va_up kd (mN M) t) (mw M n) := by
  intro c hc
  rw [mN_mw] at hc
  by_cases e : c = mN M
  · subst e
    have ek : va_up kd (mN M) t (mN M) = t := by unfold va_up; simp
    rw [ek, ml_mw, if_pos rfl]
    exact ⟨h2, h16, hn, fun k => by rw [mg_mw, if_pos rfl]; exact ok_0 (ft_le t k)⟩
  · have hc' : c < mN M := by omega
    obtain ⟨h1, h3, h4, h5⟩ := hw c hc'
    have ek : va_up kd (mN M) t c = kd c := by unfold va_up; rw [if_neg e]
    rw [ek, ml_mw, if_neg e]
    exact ⟨h1, h3, h4, fun k => by rw [mg_mw, if_neg e]; exact okV_ag (h5 k) (fun c hc => by unfold va_up; rw [if_neg (by omega)]) (by rw [mN_mw]; omega)⟩
section EV5
variable {X : XX} {mi : MI} {d pc : Nat} {L : List (Nat × AV)} {st : List AV} {M : Mm} {r : Option AV} {M' : Mm}
/-- the step of an instruction that makes a cell of a tag -/
theorem ev_make {pc' t n : Nat} {st0 : List AV} (h2 : 2 ≤ t) (h16 : t ≤ 16) (hn : n < 2147483648) (hsub : ∀ q ∈ st0, q ∈ st) (h : Ev X mi d pc' L ((t, (mN M : Int) + 1) :: st0) (mw M n) r M')
    (step : ∀ (G : GG) (R : Room) (p : Program) (l : Launch) (e : Env) (s : State) (m : MethodId) (args : Array Value) (below : List Frame) (meth : Method) (c : Code) (Q : State → Prop) (A : Nat → Prop) (kd ad : Nat → Nat) (H : Heap) (locs : List Loc) (cells slots : Nat) (ls : Array Slot),
      Cx X mi G d R p s m args meth c A → Sx G ad kd M A s H locs → (∀ q ∈ st, okV kd (mN M) q) → cells + 1 ≤ R.cells → slots + n ≤ R.slots →
      (∀ (q : Nat) (H1 : Heap), va_P G.1 cls (wl G ad kd M ++ [(q, cE G (va_up ad (mN M) q) (va_up kd (mN M) t) (mw M n) (mN M))]) H1 → va_D A (wl G ad kd M ++ [(q, cE G (va_up ad (mN M) q) (va_up kd (mN M) t) (mw M n) (mN M))]) → va_S A s.heap H1 locs → W p l e R s m args below meth c H1 locs (cells + 1) (slots + n) Q (F0 m pc' ls (.ref q :: st0.map (cv G ad)))) → W p l e R s m args below meth c H locs cells slots Q (F0 m pc ls (st.map (cv G ad)))) :
    Ev X mi d pc L st M r M' := by
  have hm := h.1
  rw [mN_mw, mZ_mw] at hm
  refine ⟨⟨by omega, by omega⟩, h.2.1, ?_⟩
  intro G R p l e s m args below meth c Q A kd ad H locs cells slots ls hC hX hst hL hl hc hs he
  refine step G R p l e s m args below meth c Q A kd ad H locs cells slots ls hC hX hst (by omega) (by omega) fun q H1 b1 b2 b3 => ?_
  rw [← wl_mw hX.1] at b1 b2
  have ha : ∀ c, c < mN M → va_up ad (mN M) q c = ad c := fun c h => by unfold va_up; rw [if_neg (by omega)]
  have hk : ∀ c, c < mN M → va_up kd (mN M) t c = kd c := fun c h => by unfold va_up; rw [if_neg (by omega)]
  have h0 : ∀ q ∈ st0, okV kd (mN M) q := fun q hq => hst q (hsub q hq)
  have hkk := h.2.2 G R p l e s m args below meth c Q A (va_up kd (mN M) t) (va_up ad (mN M) q) H1 locs (cells + 1) (slots + n) ls hC ⟨WT_mw hX.1 h2 h16 hn, b1, b2, b3⟩
    (ok_cs ⟨fun e => by simp only at e; omega, fun e => by simp only at e; omega, fun _ _ => Or.inr ⟨mN M, rfl, by rw [mN_mw]; omega, by unfold va_up; simp⟩, fun e => by simp only at e; omega, fun e => by simp only at e; omega⟩ (fun q hq => okV_ag (h0 q hq) hk (by rw [mN_mw]; omega)))
    (fun q hq => okV_ag (hL q hq) hk (by rw [mN_mw]; omega)) (by rw [lvs_ag hL ha]; exact hl) (by rw [mN_mw]; omega) (by rw [mZ_mw]; omega)
    (fun kd' ad' H' locs' cells' slots' pc'' ls' g1 g2 g3 g4 g5 g6 => he kd' ad' H' locs' cells' slots' pc'' ls' (fun c hc => by have := g1 c (by rw [mN_mw]; omega); rw [this.1, this.2, hk c hc, ha c hc]; exact ⟨rfl, rfl⟩) g2 g3 g4 (by rw [mN_mw] at g5; omega) (by rw [mZ_mw] at g6; omega))
  rw [List.map_cons, map_ag h0 ha] at hkk
  have er : cv G (va_up ad (mN M) q) (t, (mN M : Int) + 1) = .ref q := by
    rw [cv_r G _ h2 h16 (by omega), cI_s]; unfold va_up; simp
  rw [er] at hkk; exact hkk
theorem ev_new {t idx N : Nat} {C : String} {T : u_T} {ty0 : Nat → FieldType} (h2 : 2 ≤ t) (h12 : t ≤ 12) (hc : cls[t - 2]? = some (C, T, N)) (hin : ∀ w ∈ u_ws C T N, w ∈ tblG) (hty : ∀ k, k < N → parseFieldDescriptor (T k).2.2.1 = some (ty0 k)) (hN : nf t = N) (hto : ∀ k, k < N → tyOk (ty0 k) (ft t k) = true) (hN2 : N < 2147483648) (hw : Cond.classLink mi.2.2.2.2 idx C ∈ tblG) (hi : Cond.instantiable C N ∈ tblG) (hini : Cond.initialized C ∈ tblG) (hd : decode mi.2.1 pc = .ok (.new idx, 3)) (h : Ev X mi d (pc + 3) L ((t, (mN M : Int) + 1) :: st) (mw M N) r M') : Ev X mi d pc L st M r M' := by
  refine ev_make h2 (by omega) hN2 (fun q hq => hq) h ?_
  intro G R p l e s m args below meth c Q A kd ad H locs cells slots ls hC hX hst hc1 hs1 kk
  refine va_new (D := G.1) (cl := cls) (ci := t - 2) (fs := (List.range (nf t)).map fun k => cv G ad (ft t k, 0)) hC.1 hC.2.1 hC.2.2.2.2.1 hin ty0 hty hC.2.2.2.1 (hC.2.2.2.2.1 _ hw) (hC.2.2.2.2.1 _ hi) (hC.2.2.2.2.1 _ hini) hC.2.2.2.2.2.2.2.2.1 hX.2.1 hX.2.2.1 hX.2.2.2 hC.2.2.2.2.2.2.1 hc ?_ hc1 hs1 hd ?_
  · intro j hj
    unfold vp_V
    rw [List.getD_eq_getElem?_getD, List.getElem?_map, List.getElem?_range (by omega)]
    show _ = cv G ad (ft t j, 0)
    have ho := hto j hj
    unfold tyOk at ho
    split at ho
    · rename_i e1; rw [e1]; have e2 : ft t j = 0 := by simpa using ho
      rw [e2]; rfl
    · rename_i e1; rw [e1]; have e2 : ft t j = 1 := by simpa using ho
      rw [e2]; rfl
    · rename_i e1; rw [e1]; have e2 : 2 ≤ ft t j := by simpa using ho
      have e3 := ft_le t j
      have e4 : ft t j ≠ 21 := by
        unfold ft; rw [if_neg (by omega), if_neg (by omega), if_neg (by omega), if_neg (by omega)]
        intro e; have := ft_le t j; unfold ft at this; rw [if_neg (by omega), if_neg (by omega), if_neg (by omega), if_neg (by omega), e] at this
        have h7 : ∀ t k, (fl t).getD k 0 ≤ 16 := by
          intro t k
          rw [List.getD_eq_getElem?_getD]
          cases e : (fl t)[k]? with
          | none => simp
          | some x =>
            have hx : x ∈ fl t := List.mem_of_getElem? e
            have ha : ∀ x ∈ fl t, x ≤ 16 := by
              unfold fl; split <;> decide
            simpa using ha x hx
        have := h7 t j; omega
      rw [cv_n G ad e2 (by omega)]; rfl
    · rename_i e1; rw [e1]; have e2 : 2 ≤ ft t j := by simpa using ho
      have e3 := ft_le t j
      have e4 : ft t j ≠ 21 := by
        unfold ft; rw [if_neg (by omega), if_neg (by omega), if_neg (by omega), if_neg (by omega)]
        have h7 : ∀ t k, (fl t).getD k 0 ≤ 16 := by
          intro t k
          rw [List.getD_eq_getElem?_getD]
          cases e : (fl t)[k]? with
          | none => simp
          | some x =>
            have hx : x ∈ fl t := List.mem_of_getElem? e
            have ha : ∀ x ∈ fl t, x ≤ 16 := by
              unfold fl; split <;> decide
            simpa using ha x hx
        have := h7 t j; omega
      rw [cv_n G ad e2 (by omega)]; rfl
    · exact absurd ho (by decide)
  · intro q H1 b1 b2 b3
    have e : cE G (va_up ad (mN M) q) (va_up kd (mN M) t) (mw M N) (mN M) = .inr (t - 2, (List.range (nf t)).map fun k => cv G ad (ft t k, 0)) := by
      rw [cE_obj (t := t) (by unfold va_up; simp) h12]
      congr 2
      apply List.map_congr_left; intro k _
      rw [mg_mw, if_pos rfl]
      exact cv_ag (kd := kd) (n := mN M) (ok_0 (ft_le t k)) (fun c h => by unfold va_up; rw [if_neg (by omega)])
    rw [← e] at b1 b2
    exact kk q H1 b1 b2 b3
theorem va_sole {D : va_G} {cl : List vw_C} {tys : List (ClassId × FieldType)} {U : State} {cA cB : ClassId} {ty : FieldType} (h : va_K D cl (tys ++ [(cA, ty)]) U) {k : Nat} (hk : tys[k]? = some (cB, ty)) : cA = cB := by
  have h1 : va_RA U cA ty := (h.2 tys.length (cA, ty) (by rw [List.getElem?_append_right (Nat.le_refl _), Nat.sub_self]; rfl)).2
  have h2 : va_RA U cB ty := (h.2 k (cB, ty) (by rw [List.getElem?_append_left (List.getElem?_eq_some_iff.mp hk).1]; exact hk)).2
  cases ty with
  | object C =>
    obtain ⟨_, _, _, _, _, e1⟩ := h1
    obtain ⟨_, _, _, _, _, e2⟩ := h2
    rw [e1] at e2; exact Option.some.inj e2
  | _ => exact Option.some.inj ((show U.vm.findClass _ = some cA from h1).symm.trans (show U.vm.findClass _ = some cB from h2))
theorem ev_newI {v : Int} (hw : Cond.arrayClass .int ∈ tblG) (hd : decode mi.2.1 pc = .ok (.newarray .int, 2)) (hv : 0 ≤ v ∧ v < 1000000) (h : Ev X mi d (pc + 2) L ((13, (mN M : Int) + 1) :: st) (mw M v.toNat) r M') : Ev X mi d pc L ((0, v) :: st) M r M' := by
  refine ev_make (by omega) (by omega) (by omega) (fun q hq => List.mem_cons_of_mem _ hq) h ?_
  intro G R p l e s m args below meth c Q A kd ad H locs cells slots ls hC hX hst hc1 hs1 kk
  have hv3 := (ok_hd hst).1 rfl
  refine va_newa (D := G.1) (cl := cls) (a0 := (v.toNat, .inl fun _ => 0)) hC.1 hC.2.1 (atype := .int) (hC.2.2.2.2.1 _ hw) rfl hC.2.2.2.2.2.2.2.2.1 hX.2.1 hX.2.2.1 hX.2.2.2 hC.2.2.2.2.2.2.1 (fun _ => rfl) (fun z => by rw [← i32_0, i32_lt hv3 ok32_0] at z; simp only at z; omega) (i32_cl hv3) (by show v.toNat * 4 ≤ _; omega) hc1 hs1 hd ?_
  intro q cA H1 b0 b1 b2 b3
  have ec : cA = G.2.1.1 := va_sole b0 (k := 0) rfl
  have e : cE G (va_up ad (mN M) q) (va_up kd (mN M) 13) (mw M v.toNat) (mN M) = .inl (cA, v.toNat, .inl fun _ => 0) := by
    rw [cE_I (by unfold va_up; simp), ml_mw, if_pos rfl, ec]; simp only [mg_mw, if_true]; rfl
  rw [← e] at b1 b2
  exact kk q H1 b1 b2 b3
theorem ev_newJ {v : Int} (hw : Cond.arrayClass .long ∈ tblG) (hd : decode mi.2.1 pc = .ok (.newarray .long, 2)) (hv : 0 ≤ v ∧ v < 1000000) (h : Ev X mi d (pc + 2) L ((14, (mN M : Int) + 1) :: st) (mw M v.toNat) r M') : Ev X mi d pc L ((0, v) :: st) M r M' := by
  refine ev_make (by omega) (by omega) (by omega) (fun q hq => List.mem_cons_of_mem _ hq) h ?_
  intro G R p l e s m args below meth c Q A kd ad H locs cells slots ls hC hX hst hc1 hs1 kk
  have hv3 := (ok_hd hst).1 rfl
  refine va_newa (D := G.1) (cl := cls) (a0 := (v.toNat, .inr (.inl fun _ => 0))) hC.1 hC.2.1 (atype := .long) (hC.2.2.2.2.1 _ hw) rfl hC.2.2.2.2.2.2.2.2.1 hX.2.1 hX.2.2.1 hX.2.2.2 hC.2.2.2.2.2.2.1 (fun _ => rfl) (fun z => by rw [← i32_0, i32_lt hv3 ok32_0] at z; simp only at z; omega) (i32_cl hv3) (by show v.toNat * 8 ≤ _; omega) hc1 hs1 hd ?_
  intro q cA H1 b0 b1 b2 b3
  have ec : cA = G.2.1.2.1 := va_sole b0 (k := 1) rfl
  have e : cE G (va_up ad (mN M) q) (va_up kd (mN M) 14) (mw M v.toNat) (mN M) = .inl (cA, v.toNat, .inr (.inl fun _ => 0)) := by
    rw [cE_J (by unfold va_up; simp), ml_mw, if_pos rfl, ec]; simp only [mg_mw, if_true]; rfl
  rw [← e] at b1 b2
  exact kk q H1 b1 b2 b3
theorem ev_newZ {v : Int} (hw : Cond.arrayClass .boolean ∈ tblG) (hd : decode mi.2.1 pc = .ok (.newarray .boolean, 2)) (hv : 0 ≤ v ∧ v < 1000000) (h : Ev X mi d (pc + 2) L ((15, (mN M : Int) + 1) :: st) (mw M v.toNat) r M') : Ev X mi d pc L ((0, v) :: st) M r M' := by
  refine ev_make (by omega) (by omega) (by omega) (fun q hq => List.mem_cons_of_mem _ hq) h ?_
  intro G R p l e s m args below meth c Q A kd ad H locs cells slots ls hC hX hst hc1 hs1 kk
  have hv3 := (ok_hd hst).1 rfl
  refine va_newa (D := G.1) (cl := cls) (a0 := (v.toNat, .inl fun _ => 0)) hC.1 hC.2.1 (atype := .boolean) (hC.2.2.2.2.1 _ hw) rfl hC.2.2.2.2.2.2.2.2.1 hX.2.1 hX.2.2.1 hX.2.2.2 hC.2.2.2.2.2.2.1 (fun _ => rfl) (fun z => by rw [← i32_0, i32_lt hv3 ok32_0] at z; simp only at z; omega) (i32_cl hv3) (by show v.toNat * 1 ≤ _; omega) hc1 hs1 hd ?_
  intro q cA H1 b0 b1 b2 b3
  have ec : cA = G.2.1.2.2.1 := va_sole b0 (k := 2) rfl
  have e : cE G (va_up ad (mN M) q) (va_up kd (mN M) 15) (mw M v.toNat) (mN M) = .inl (cA, v.toNat, .inl fun _ => 0) := by
    rw [cE_Z (by unfold va_up; simp), ml_mw, if_pos rfl, ec]; simp only [mg_mw, if_true]; rfl
  rw [← e] at b1 b2
  exact kk q H1 b1 b2 b3
theorem ev_newO {v : Int} {idx : Nat} (hw : Cond.classLink mi.2.2.2.2 idx "TownBand$Piece" ∈ tblG) (hd : decode mi.2.1 pc = .ok (.anewarray idx, 3)) (hv : 0 ≤ v ∧ v < 1000000) (h : Ev X mi d (pc + 3) L ((16, (mN M : Int) + 1) :: st) (mw M v.toNat) r M') : Ev X mi d pc L ((0, v) :: st) M r M' := by
  refine ev_make (by omega) (by omega) (by omega) (fun q hq => List.mem_cons_of_mem _ hq) h ?_
  intro G R p l e s m args below meth c Q A kd ad H locs cells slots ls hC hX hst hc1 hs1 kk
  have hv3 := (ok_hd hst).1 rfl
  refine va_newq (D := G.1) (cl := cls) (N' := v.toNat) hC.1 hC.2.1 hC.2.2.2.1 (hC.2.2.2.2.1 _ hw) hC.2.2.2.2.2.2.2.1.2.2.2.2.2.2 hC.2.2.2.2.2.2.2.2.1 hX.2.1 hX.2.2.1 hX.2.2.2 hC.2.2.2.2.2.2.1 (fun z => by rw [← i32_0, i32_lt hv3 ok32_0] at z; simp only at z; omega) (i32_cl hv3) (by omega) hc1 hs1 hd ?_
  intro q cA H1 b0 b1 b2 b3
  have ec : cA = G.2.1.2.2.2 := va_sole b0 (k := 3) rfl
  have e : cE G (va_up ad (mN M) q) (va_up kd (mN M) 16) (mw M v.toNat) (mN M) = .inl (cA, v.toNat, .inr (.inr (.inr (.inr (fun _ => none))))) := by
    rw [cE_O (by unfold va_up; simp), ml_mw, if_pos rfl, ec]; simp only [mg_mw, if_true]
  rw [← e] at b1 b2
  exact kk q H1 b1 b2 b3
end EV5
