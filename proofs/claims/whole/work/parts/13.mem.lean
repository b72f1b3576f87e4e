/-! the world's list -/
theorem wl_len (G : GG) (ad kd : Nat → Nat) (M : Mm) : (wl G ad kd M).length = mN M := by unfold wl; rw [List.length_map, List.length_range]
theorem wl_at {G : GG} {ad kd : Nat → Nat} {M : Mm} {c : Nat} (h : c < mN M) : (wl G ad kd M)[c]? = some (ad c, cE G ad kd M c) := by
  unfold wl; rw [List.getElem?_map, List.getElem?_range h]; rfl
theorem cI_s (c : Nat) : cI ((c : Int) + 1) = c := by unfold cI; omega
/-- a reference that isn't null: its cell -/
theorem ref_at {kd : Nat → Nat} {n t : Nat} {v : Int} (h : okV kd n (t, v)) (h2 : 2 ≤ t) (h16 : t ≤ 16) (hv : v ≠ 0) : cI v < n ∧ kd (cI v) = t := by
  rcases h.2.2.1 h2 h16 with e | ⟨c, e, hc, hk⟩
  · exact absurd e hv
  · simp only at e; rw [e, cI_s]; exact ⟨hc, hk⟩
theorem mg_mp_s (M : Mm) (c k : Nat) (v : Int) : mg (mp M c k v) c k = v := by unfold mg mp; simp
theorem mg_mp_n {M : Mm} {c k c' k' : Nat} {v : Int} (h : ¬ (c' = c ∧ k' = k)) : mg (mp M c k v) c' k' = mg M c' k' := by unfold mg mp; simp only [h, if_false]
theorem mg_mp (M : Mm) (c k : Nat) (v : Int) (c' k' : Nat) : mg (mp M c k v) c' k' = if c' = c ∧ k' = k then v else mg M c' k' := rfl
theorem ml_mp (M : Mm) (c k : Nat) (v : Int) (c' : Nat) : ml (mp M c k v) c' = ml M c' := rfl
theorem mN_mp (M : Mm) (c k : Nat) (v : Int) : mN (mp M c k v) = mN M := rfl
theorem mZ_mp (M : Mm) (c k : Nat) (v : Int) : mZ (mp M c k v) = mZ M := rfl
theorem cE_ne {G : GG} {ad kd : Nat → Nat} {M : Mm} {c k j : Nat} {x : Int} (h : j ≠ c) : cE G ad kd (mp M c k x) j = cE G ad kd M j := by
  have e : ∀ k', mg (mp M c k x) j k' = mg M j k' := fun k' => mg_mp_n (fun z => h z.1)
  unfold cE; simp only [e, ml_mp]
theorem wl_set {G : GG} {ad kd : Nat → Nat} {M : Mm} {c k : Nat} {x : Int} (hc : c < mN M) {e : va_E} (he : cE G ad kd (mp M c k x) c = e) : (wl G ad kd M).set c (ad c, e) = wl G ad kd (mp M c k x) := by
  apply List.ext_getElem?; intro j
  by_cases hj : j = c
  · subst hj
    rw [List.getElem?_set_self (by rw [wl_len]; exact hc), wl_at (M := mp M j k x) hc, he]
  · rw [List.getElem?_set_ne (Ne.symm hj)]
    by_cases hl : j < mN M
    · rw [wl_at hl, wl_at (M := mp M c k x) hl, cE_ne hj]
    · rw [List.getElem?_eq_none (by rw [wl_len]; omega), List.getElem?_eq_none (by rw [wl_len, mN_mp]; omega)]
theorem WT_mp {kd : Nat → Nat} {M : Mm} {c k : Nat} {x : Int} (h : WT kd M) (hx : okV kd (mN M) (ft (kd c) k, x)) : WT kd (mp M c k x) := by
  intro j hj
  obtain ⟨h1, h2, h3, h4⟩ := h j hj
  refine ⟨h1, h2, h3, fun k' => ?_⟩
  rw [mg_mp, mN_mp]
  by_cases e : j = c ∧ k' = k
  · rw [if_pos e, e.1, e.2]; exact hx
  · rw [if_neg e]; exact h4 k'
theorem cE_obj {G : GG} {ad kd : Nat → Nat} {M : Mm} {c t : Nat} (h : kd c = t) (h12 : t ≤ 12) : cE G ad kd M c = .inr (t - 2, (List.range (nf t)).map fun k => cv G ad (ft t k, mg M c k)) := by
  unfold cE; rw [h, if_pos h12]
theorem fs_set {G : GG} {ad : Nat → Nat} {M : Mm} {c t k : Nat} {x : Int} : ((List.range (nf t)).map fun k => cv G ad (ft t k, mg M c k)).set k (cv G ad (ft t k, x)) = (List.range (nf t)).map fun k' => cv G ad (ft t k', mg (mp M c k x) c k') := by
  apply List.ext_getElem?; intro j
  by_cases hl : j < nf t
  · by_cases hj : j = k
    · subst hj
      rw [List.getElem?_set_self (by rw [List.length_map, List.length_range]; exact hl), List.getElem?_map, List.getElem?_range hl, Option.map_some, mg_mp_s]
    · rw [List.getElem?_set_ne (Ne.symm hj), List.getElem?_map, List.getElem?_map, List.getElem?_range hl, Option.map_some, Option.map_some, mg_mp_n (fun z => hj z.2)]
  · rw [List.getElem?_eq_none (by rw [List.length_set, List.length_map, List.length_range]; omega), List.getElem?_eq_none (by rw [List.length_map, List.length_range]; omega)]
section EV3
variable {X : XX} {mi : MI} {d pc : Nat} {L : List (Nat × AV)} {st : List AV} {M : Mm} {r : Option AV} {M' : Mm}
theorem ev_get {t k idx tk N : Nat} {v : Int} {C : String} {T : u_T} (h2 : 2 ≤ t) (h12 : t ≤ 12) (hc : cls[t - 2]? = some (C, T, N)) (hin : ∀ w ∈ u_ws C T N, w ∈ tblG) (hk : k < N) (hN : nf t = N) (htk : ft t k = tk) (hw : Cond.fieldLink mi.2.2.2.2 idx (T k).1 (T k).2.1 (T k).2.2.1 ∈ tblG) (hd : decode mi.2.1 pc = .ok (.getfield idx, 3)) (hv : v ≠ 0) (h : Ev X mi d (pc + 3) L ((tk, mg M (cI v) k) :: st) M r M') : Ev X mi d pc L ((t, v) :: st) M r M' := by
  refine ev_step h ?_
  intro G R p l e s m args below meth c Q A kd ad H locs cells slots ls hC hX hst hL hl
  obtain ⟨hcn, hkd⟩ := ref_at (ok_hd hst) h2 (by omega) hv
  refine ⟨ok_cs (by rw [← htk, ← hkd]; exact (hX.1 _ hcn).2.2.2 k) (ok_tl hst), hL, fun kk => ?_⟩
  rw [List.map_cons, cv_r G ad h2 (by omega) hv]
  refine va_get (D := G.1) (cl := cls) (ci := t - 2) (v := cv G ad (tk, mg M (cI v) k)) (C := C) (T := T) (N := N) hC.1 hC.2.1 hC.2.2.2.2.1 hin hC.2.2.2.1 hC.2.2.2.2.2.2.2.2.1 hX.2.1 (cI v) (fs := (List.range (nf t)).map fun k => cv G ad (ft t k, mg M (cI v) k)) (by rw [wl_at hcn, cE_obj hkd h12]) hc k hk (hC.2.2.2.2.1 _ hw) (fun _ h9 => h9) ?_ hd (kk ls hl)
  rw [List.getElem?_map, List.getElem?_range (by omega), Option.map_some, htk]
theorem ev_getN {t k idx tk N : Nat} {v : Int} {C host : String} {T : u_T} (h2 : 2 ≤ t) (h12 : t ≤ 12) (hc : cls[t - 2]? = some (C, T, N)) (hin : ∀ w ∈ u_ws C T N, w ∈ tblG) (hk : k < N) (hN : nf t = N) (htk : ft t k = tk) (hw : Cond.fieldLinkNest mi.2.2.2.2 idx (T k).1 (T k).2.1 (T k).2.2.1 host ∈ tblN) (hd : decode mi.2.1 pc = .ok (.getfield idx, 3)) (hv : v ≠ 0) (h : Ev X mi d (pc + 3) L ((tk, mg M (cI v) k) :: st) M r M') : Ev X mi d pc L ((t, v) :: st) M r M' := by
  refine ev_step h ?_
  intro G R p l e s m args below meth c Q A kd ad H locs cells slots ls hC hX hst hL hl
  obtain ⟨hcn, hkd⟩ := ref_at (ok_hd hst) h2 (by omega) hv
  refine ⟨ok_cs (by rw [← htk, ← hkd]; exact (hX.1 _ hcn).2.2.2 k) (ok_tl hst), hL, fun kk => ?_⟩
  rw [List.map_cons, cv_r G ad h2 (by omega) hv]
  refine va_getN (D := G.1) (cl := cls) (ci := t - 2) (v := cv G ad (tk, mg M (cI v) k)) (C := C) (T := T) (N := N) hC.1 hC.2.1 hC.2.2.2.2.1 hin hC.2.2.2.1 hC.2.2.2.2.2.2.2.2.1 hX.2.1 (cI v) (fs := (List.range (nf t)).map fun k => cv G ad (ft t k, mg M (cI v) k)) (by rw [wl_at hcn, cE_obj hkd h12]) hc k hk (va_Nw.use rfl (hC.2.2.2.2.2.2.2.1.2.2.2.1 _ hw)) (fun _ h9 => h9) ?_ hd (kk ls hl)
  rw [List.getElem?_map, List.getElem?_range (by omega), Option.map_some, htk]
/-- the step of an instruction that writes one place -/
theorem ev_write {pc' c0 k0 : Nat} {x : Int} {st' : List AV} (h : Ev X mi d pc' L st' (mp M c0 k0 x) r M')
    (step : ∀ (G : GG) (R : Room) (p : Program) (l : Launch) (e : Env) (s : State) (m : MethodId) (args : Array Value) (below : List Frame) (meth : Method) (c : Code) (Q : State → Prop) (A : Nat → Prop) (kd ad : Nat → Nat) (H : Heap) (locs : List Loc) (cells slots : Nat) (ls : Array Slot),
      Cx X mi G d R p s m args meth c A → Sx G ad kd M A s H locs → (∀ q ∈ st, okV kd (mN M) q) → lv_has ls mi.2.2.1 (lvs G ad L) →
      okV kd (mN M) (ft (kd c0) k0, x) ∧ (∀ q ∈ st', okV kd (mN M) q) ∧ ((∀ (H1 : Heap) (locs1 : List Loc), va_P G.1 cls (wl G ad kd (mp M c0 k0 x)) H1 → va_D A (wl G ad kd (mp M c0 k0 x)) → va_S A s.heap H1 locs1 → W p l e R s m args below meth c H1 locs1 cells slots Q (F0 m pc' ls (st'.map (cv G ad)))) → W p l e R s m args below meth c H locs cells slots Q (F0 m pc ls (st.map (cv G ad))))) :
    Ev X mi d pc L st M r M' := by
  refine ⟨h.1, h.2.1, ?_⟩
  intro G R p l e s m args below meth c Q A kd ad H locs cells slots ls hC hX hst hL hl hc hs he
  obtain ⟨a0, a1, a3⟩ := step G R p l e s m args below meth c Q A kd ad H locs cells slots ls hC hX hst hl
  exact a3 fun H1 locs1 b1 b2 b3 => h.2.2 G R p l e s m args below meth c Q A kd ad H1 locs1 cells slots ls hC ⟨WT_mp hX.1 a0, b1, b2, b3⟩ a1 hL hl hc hs he
/-- a field's type takes values of a tag -/
def tyOk (ty : FieldType) (t : Nat) : Bool := match ty with
  | .int => t == 0
  | .long => t == 1
  | .object _ => decide (2 ≤ t)
  | .array _ => decide (2 ≤ t)
  | _ => false
theorem tyOk_fit {ty : FieldType} {t : Nat} {x : Int} (h : tyOk ty t = true) (G : GG) (ad : Nat → Nat) : narrow ty (cv G ad (t, x)) = cv G ad (t, x) ∧ fits ty (cv G ad (t, x)) = true := by
  unfold tyOk at h
  split at h
  · have e : t = 0 := by simpa using h
    subst e; exact ⟨rfl, rfl⟩
  · have e : t = 1 := by simpa using h
    subst e; exact ⟨rfl, rfl⟩
  · have e : 2 ≤ t := by simpa using h
    rcases cv_or G ad (t := t) (v := x) e with q | ⟨a, q⟩ <;> rw [q] <;> exact ⟨rfl, rfl⟩
  · have e : 2 ≤ t := by simpa using h
    rcases cv_or G ad (t := t) (v := x) e with q | ⟨a, q⟩ <;> rw [q] <;> exact ⟨rfl, rfl⟩
  · exact absurd h (by decide)
theorem ev_put {t k idx tk N : Nat} {v x : Int} {C : String} {T : u_T} {ty0 : Nat → FieldType} (h2 : 2 ≤ t) (h12 : t ≤ 12) (hc : cls[t - 2]? = some (C, T, N)) (hin : ∀ w ∈ u_ws C T N, w ∈ tblG) (hty : ∀ k, k < N → parseFieldDescriptor (T k).2.2.1 = some (ty0 k)) (hnm : ∀ a, a < N → ∀ b, b < N → a ≠ b → (T a).2.1 ≠ (T b).2.1) (hk : k < N) (hN : nf t = N) (htk : ft t k = tk) (hto : tyOk (ty0 k) tk = true) (hfin : (T k).2.2.2 = false) (hw : Cond.fieldLink mi.2.2.2.2 idx (T k).1 (T k).2.1 (T k).2.2.1 ∈ tblG) (hd : decode mi.2.1 pc = .ok (.putfield idx, 3)) (hv : v ≠ 0) (h : Ev X mi d (pc + 3) L st (mp M (cI v) k x) r M') : Ev X mi d pc L ((tk, x) :: (t, v) :: st) M r M' := by
  refine ev_write h ?_
  intro G R p l e s m args below meth c Q A kd ad H locs cells slots ls hC hX hst hl
  obtain ⟨hcn, hkd⟩ := ref_at (ok_hd (ok_tl hst)) h2 (by omega) hv
  refine ⟨by rw [hkd, htk]; exact ok_hd hst, ok_tl (ok_tl hst), fun kk => ?_⟩
  rw [List.map_cons, List.map_cons, cv_r G ad h2 (by omega) hv]
  refine va_put (D := G.1) (cl := cls) (ci := t - 2) (C := C) (T := T) (N := N) (ty := ty0 k) (v := cv G ad (tk, x)) hC.1 hC.2.1 hC.2.2.2.2.1 hin ty0 hty hnm hC.2.2.2.1 hC.2.2.2.2.2.2.2.2.1 hX.2.1 hX.2.2.1 hX.2.2.2 (cI v) (fs := (List.range (nf t)).map fun k => cv G ad (ft t k, mg M (cI v) k)) (by rw [wl_at hcn, cE_obj hkd h12]) hc k hk (hC.2.2.2.2.1 _ hw) (fun _ h9 => h9) hfin (hty k hk) (tyOk_fit hto G ad).1 (tyOk_fit hto G ad).2 (by rw [List.length_map, List.length_range]; omega) hd ?_
  rw [← htk, fs_set, ← cE_obj (M := mp M (cI v) k x) hkd h12, wl_set hcn rfl]
  exact kk
theorem ev_putN {t k idx tk N : Nat} {v x : Int} {C host : String} {T : u_T} {ty0 : Nat → FieldType} (h2 : 2 ≤ t) (h12 : t ≤ 12) (hc : cls[t - 2]? = some (C, T, N)) (hin : ∀ w ∈ u_ws C T N, w ∈ tblG) (hty : ∀ k, k < N → parseFieldDescriptor (T k).2.2.1 = some (ty0 k)) (hnm : ∀ a, a < N → ∀ b, b < N → a ≠ b → (T a).2.1 ≠ (T b).2.1) (hk : k < N) (hN : nf t = N) (htk : ft t k = tk) (hto : tyOk (ty0 k) tk = true) (hfin : (T k).2.2.2 = false) (hw : Cond.fieldLinkNest mi.2.2.2.2 idx (T k).1 (T k).2.1 (T k).2.2.1 host ∈ tblN) (hd : decode mi.2.1 pc = .ok (.putfield idx, 3)) (hv : v ≠ 0) (h : Ev X mi d (pc + 3) L st (mp M (cI v) k x) r M') : Ev X mi d pc L ((tk, x) :: (t, v) :: st) M r M' := by
  refine ev_write h ?_
  intro G R p l e s m args below meth c Q A kd ad H locs cells slots ls hC hX hst hl
  obtain ⟨hcn, hkd⟩ := ref_at (ok_hd (ok_tl hst)) h2 (by omega) hv
  refine ⟨by rw [hkd, htk]; exact ok_hd hst, ok_tl (ok_tl hst), fun kk => ?_⟩
  rw [List.map_cons, List.map_cons, cv_r G ad h2 (by omega) hv]
  refine va_putN (D := G.1) (cl := cls) (ci := t - 2) (C := C) (T := T) (N := N) (ty := ty0 k) (v := cv G ad (tk, x)) hC.1 hC.2.1 hC.2.2.2.2.1 hin ty0 hty hnm hC.2.2.2.1 hC.2.2.2.2.2.2.2.2.1 hX.2.1 hX.2.2.1 hX.2.2.2 (cI v) (fs := (List.range (nf t)).map fun k => cv G ad (ft t k, mg M (cI v) k)) (by rw [wl_at hcn, cE_obj hkd h12]) hc k hk (va_Nw.use rfl (hC.2.2.2.2.2.2.2.1.2.2.2.1 _ hw)) (fun _ h9 => h9) hfin (hty k hk) (tyOk_fit hto G ad).1 (tyOk_fit hto G ad).2 (by rw [List.length_map, List.length_range]; omega) hd ?_
  rw [← htk, fs_set, ← cE_obj (M := mp M (cI v) k x) hkd h12, wl_set hcn rfl]
  exact kk
theorem ev_putF {t k idx tk N : Nat} {v x : Int} {C : String} {T : u_T} {ty0 : Nat → FieldType} (h2 : 2 ≤ t) (h12 : t ≤ 12) (hc : cls[t - 2]? = some (C, T, N)) (hin : ∀ w ∈ u_ws C T N, w ∈ tblG) (hty : ∀ k, k < N → parseFieldDescriptor (T k).2.2.1 = some (ty0 k)) (hnm : ∀ a, a < N → ∀ b, b < N → a ≠ b → (T a).2.1 ≠ (T b).2.1) (hk : k < N) (hN : nf t = N) (htk : ft t k = tk) (hto : tyOk (ty0 k) tk = true) (hfin : (T k).2.2.2 = true) (hi : mi.1.name = "<init>") (hde : (T k).1 = mi.2.2.2.2) (hw : Cond.fieldLink mi.2.2.2.2 idx (T k).1 (T k).2.1 (T k).2.2.1 ∈ tblG) (hd : decode mi.2.1 pc = .ok (.putfield idx, 3)) (hv : v ≠ 0) (h : Ev X mi d (pc + 3) L st (mp M (cI v) k x) r M') : Ev X mi d pc L ((tk, x) :: (t, v) :: st) M r M' := by
  refine ev_write h ?_
  intro G R p l e s m args below meth c Q A kd ad H locs cells slots ls hC hX hst hl
  obtain ⟨hcn, hkd⟩ := ref_at (ok_hd (ok_tl hst)) h2 (by omega) hv
  refine ⟨by rw [hkd, htk]; exact ok_hd hst, ok_tl (ok_tl hst), fun kk => ?_⟩
  rw [List.map_cons, List.map_cons, cv_r G ad h2 (by omega) hv]
  refine va_putF (D := G.1) (cl := cls) (ci := t - 2) (C := C) (T := T) (N := N) (ty := ty0 k) (v := cv G ad (tk, x)) hC.1 hC.2.1 hC.2.2.2.2.1 hin ty0 hty hnm hC.2.2.2.1 hC.2.2.2.2.2.2.2.2.1 hX.2.1 hX.2.2.1 hX.2.2.2 (cI v) (fs := (List.range (nf t)).map fun k => cv G ad (ft t k, mg M (cI v) k)) (by rw [wl_at hcn, cE_obj hkd h12]) hc k hk (hC.2.2.2.2.1 _ hw) (fun _ h9 => h9) hfin (hC.2.2.2.2.2.1.trans hi) hde (hty k hk) (tyOk_fit hto G ad).1 (tyOk_fit hto G ad).2 (by rw [List.length_map, List.length_range]; omega) hd ?_
  rw [← htk, fs_set, ← cE_obj (M := mp M (cI v) k x) hkd h12, wl_set hcn rfl]
  exact kk
end EV3
