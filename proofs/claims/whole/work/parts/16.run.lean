/-! what stands outside, at other states -/
theorem Sp_mv {X : XX} {G : GG} {A : Nat → Prop} {u U : State} {H : Heap} (hvm : u.vm.Alike U.vm) (hN : ∀ w ∈ tblN, va_Nw w u → va_Nw w U) (hR : ∀ (own tx : String) (k a : Nat), vk_R own k tx a u → vk_R own k tx a U) (h : Sp X G A u H) : Sp X G A U H :=
  ⟨⟨va_X.moved hvm h.1.1, h.1.2⟩, ⟨va_Z.moved hvm h.2.1.1, va_T.moved hvm h.2.1.2⟩, ⟨va_Z.moved hvm h.2.2.1.1, va_T.moved hvm h.2.2.1.2⟩, fun w hw => hN w hw (h.2.2.2.1 w hw), ⟨vk_S.moved hvm h.2.2.2.2.1.1, fun i q hq => hR _ _ _ _ (h.2.2.2.2.1.2 i q hq)⟩, ⟨va_Z.moved hvm h.2.2.2.2.2.1.1, va_Z.moved hvm h.2.2.2.2.2.1.2⟩, va_AO.moved hvm h.2.2.2.2.2.2⟩
theorem nest_on {w : Cond} (h : w ∈ tblN) : w.onTables = true := by
  have h := (List.mem_filter.mp h).2
  cases w <;> first | rfl | exact absurd h Bool.false_ne_true
theorem Sp_warm {X : XX} {G : GG} {A : Nat → Prop} {s U : State} {H : Heap} (hW : s.WarmedH U.vm) (h : Sp X G A s H) : Sp X G A U H := by
  refine Sp_mv hW.alike (fun w hw hz => ?_) (fun own tx k a => vk_R.warm hW) h
  have hn := (List.mem_filter.mp hw).2
  cases w <;> first | exact va_Nw.warmF hW hz | exact va_Nw.warmM hW hz | exact absurd hn Bool.false_ne_true
theorem Sp_kept {X : XX} {G : GG} {A : Nat → Prop} {U : State} {H H1 : Heap} (h : Sp X G A U H) (hs : H.size ≤ H1.size) (hq : ∀ a : Nat, a < H.size → ¬ A a → H1[a]? = H[a]?) : Sp X G A U H1 :=
  ⟨⟨h.1.1.kept (hq _ h.1.2.1 h.1.2.2), Nat.lt_of_lt_of_le h.1.2.1 hs, h.1.2.2⟩, ⟨h.2.1.1.kept hq, h.2.1.2.kept hq⟩, ⟨h.2.2.1.1.kept hq, h.2.2.1.2.kept hq⟩, h.2.2.2.1, ⟨h.2.2.2.2.1.1.kept hq, h.2.2.2.2.1.2⟩, ⟨h.2.2.2.2.2.1.1.kept hq, h.2.2.2.2.2.1.2.kept hq⟩, h.2.2.2.2.2.2⟩
theorem Sp_narrow {X : XX} {G : GG} {A B : Nat → Prop} {U : State} {H : Heap} (h : Sp X G A U H) (hAB : ∀ q, B q → A q) : Sp X G B U H :=
  ⟨⟨h.1.1, h.1.2.1, fun z => h.1.2.2 (hAB _ z)⟩, ⟨h.2.1.1.narrow hAB, h.2.1.2.narrow hAB⟩, ⟨h.2.2.1.1.narrow hAB, h.2.2.1.2.narrow hAB⟩, h.2.2.2.1, ⟨h.2.2.2.2.1.1.narrow hAB, h.2.2.2.2.1.2⟩, ⟨h.2.2.2.2.2.1.1.narrow hAB, h.2.2.2.2.2.1.2.narrow hAB⟩, h.2.2.2.2.2.2⟩
theorem preR_blind {X : XX} {G : GG} {ad kd : Nat → Nat} {sz : Nat} {M : Mm} (as : List Value) : FrameBlind (va_Pc as (preR X G ad kd sz M)) := by
  intro a U g mk q
  obtain ⟨q0, q1, qP, qK, qD, qS⟩ := q
  exact ⟨q0, q1, qP, va_K.moved (u := U) (U := U.calling g mk a) (Vm.Alike.refl U.vm) qK, qD, Sp_mv (u := U) (U := U.calling g mk a) (Vm.Alike.refl U.vm) (fun w hw hz => va_Nw.same (u := U) (U := U.calling g mk a) (nest_on hw) rfl hz) (fun own tx k b hz => vk_R.same (u := U) (U := U.calling g mk a) rfl hz) qS⟩
/-! the arguments as locals -/
def aL : Nat → List AV → List (Nat × AV)
  | _, [] => []
  | i, v :: vs => (i, v) :: aL (if v.1 = 1 then i + 2 else i + 1) vs
def aW (as : List AV) : Nat := (as.map fun q => if q.1 = 1 then 2 else 1).sum
theorem aL_lvs (G : GG) (ad : Nat → Nat) : ∀ (as : List AV) (i : Nat), lvs G ad (aL i as) = lv_args i (as.map (cv G ad))
  | [], i => rfl
  | v :: vs, i => by
    unfold aL lvs
    rw [List.map_cons, List.map_cons]
    show _ = (i, cv G ad v) :: lv_args (if (cv G ad v).category = 2 then i + 2 else i + 1) (vs.map (cv G ad))
    have e : (if (cv G ad v).category = 2 then i + 2 else i + 1) = if v.1 = 1 then i + 2 else i + 1 := by
      rw [cv_cat]; by_cases h : v.1 = 1 <;> simp [h]
    rw [e, ← aL_lvs G ad vs]; rfl
theorem aW_len (G : GG) (ad : Nat → Nat) : ∀ (as : List AV), (lg_sl (as.map (cv G ad))).length = aW as
  | [] => rfl
  | v :: vs => by
    have ih := aW_len G ad vs
    unfold lg_sl at ih ⊢
    unfold aW at ih ⊢
    rw [List.map_cons, List.flatMap_cons, List.length_append, ih, List.map_cons, List.sum_cons, cv_cat]
    by_cases h : v.1 = 1 <;> simp [h]
theorem aL_ok {kd : Nat → Nat} {n : Nat} : ∀ (as : List AV) (i : Nat), (∀ q ∈ as, okV kd n q) → ∀ q ∈ aL i as, okV kd n q.2
  | [], i, _, q, hq => by cases hq
  | v :: vs, i, h, q, hq => by
    unfold aL at hq
    rcases List.mem_cons.mp hq with e | e
    · rw [e]; exact h v List.mem_cons_self
    · exact aL_ok vs _ (fun q hq => h q (List.mem_cons_of_mem _ hq)) q e
theorem aW_cat (G : GG) (ad : Nat → Nat) (st : List AV) : ((st.map (cv G ad)).map fun v => v.category).sum = aW st := by
  unfold aW; rw [List.map_map]; congr 1; apply List.map_congr_left; intro q _; exact cv_cat G ad q
/-- a method's contract out of a walk of its body -/
theorem Rn_of {X : XX} {mi : MI} {d : Nat} {as : List AV} {M : Mm} {r : Option AV} {M' : Mm} (hy : plainName mi.1.cls = true) (hown : mi.2.2.2.2 = mi.1.cls) (hmax : aW as ≤ mi.2.2.1) (he : Ev X mi d 0 (aL 0 as) [] M r M') : Rn X d mi as M r M' := by
  refine ⟨he.1, he.2.1, fun l G ad kd sz hW has => ?_⟩
  refine Met.ofW (cc := mi.2.1) (maxL := mi.2.2.1) (ret := mi.2.2.2.1) hy rfl ?_
  intro p e s m args below meth c s₁ B hml hv
  obtain ⟨rfl, hsz, hP, hK, hD0, hSp⟩ := hv
  have hts := atoms_spec (ws := wsM mi) B.pre
  have hf : s.vm.findClass mi.2.2.2.2 = some m.cls := by rw [hown]; exact findClass_of_methodNamed B.named
  have hr := B.returns
  have hlocks := B.notSynchronized
  have hin : meth.name = mi.1.name := (name_of_methodNamed B.named B.method).1
  subst hsz
  rw [lg_entry_eq]
  have hl := lv_entry (as.map (cv G ad)) (n := mi.2.2.1) (by rw [aW_len]; exact hmax)
  rw [← aL_lvs] at hl
  have hC : Cx X mi G d (headSpec (wsM mi) (rmF d M M')).room p s m (as.map (cv G ad)).toArray meth c (va_A (wl G ad kd M) s.heap.size) :=
    ⟨B.exec, B.bytes, hml, hf, fun w hw => hts w (List.mem_cons_of_mem _ hw), hin, fun q h => Or.inr h, hSp, hK, Nat.le_refl d, Nat.le_refl (64 * d)⟩
  refine he.2.2 G _ p l e s m _ below meth c _ (va_A (wl G ad kd M) s.heap.size) kd ad s.heap [] 0 0 _ hC ⟨hW, hP, hD0.self, va_S.rf⟩ (fun q hq => by cases hq) (aL_ok as 0 has) hl (Nat.le_of_eq (Nat.zero_add _)) (Nat.le_of_eq (Nat.zero_add _)) ?_
  intro kd' ad' H' locs' cells' slots' pc' ls' g1 g2 g3 g4 g5 g6
  refine W.widen (k := mN M' - mN M) (n := mZ M' - mZ M) (by omega) (by omega) ?_
  have hq : ∀ t : State, t.heap = H' → s.WarmedH t.vm → posR mi G ad kd s.heap.size M r M' (as.map (cv G ad)).toArray s (.returned (r.map (cv G ad'))) t := fun t ht hWt =>
    ⟨⟨kd', ad', rfl, g1, g2.1, g3, by rw [ht]; exact g2.2.1, va_K.moved hWt.alike hK, g2.2.2.1⟩, g2.2.2.2.F ht⟩
  have hfr := g2.2.2.2.2.2
  cases r with
  | none => exact W.vret B.exec B.bytes (hr.trans g3) hq hfr g4
  | some q =>
    obtain ⟨t, v⟩ := q
    obtain ⟨o1, o2⟩ := g3
    rcases o2 with ⟨e0, o3⟩ | ⟨e1, o3⟩ | ⟨e2, e16, C, o3⟩
    · simp only at e0; subst e0
      rcases o3 with o4 | ⟨o4, o5⟩ | ⟨o4, o5⟩ | ⟨o4, o5, o6⟩
      · exact W.zret (ty := .int) B.exec B.bytes (hr.trans o4) rfl hq hfr g4
      · refine W.zret (ty := .boolean) (v := Int32.ofInt v) B.exec B.bytes (hr.trans o4) ?_ hq hfr g4
        rcases o5 with o6 | o6 <;> simp only at o6 <;> rw [o6] <;> rfl
      · refine W.zret (ty := .byte) (v := Int32.ofInt v) B.exec B.bytes (hr.trans o4) ?_ hq hfr g4
        simp only at o5; rw [o5]; rfl
      · refine W.zret (ty := .char) (v := Int32.ofInt v) B.exec B.bytes (hr.trans o4) ?_ hq hfr g4
        simp only at o5 o6
        obtain ⟨n, rfl⟩ := Int.eq_ofNat_of_zero_le o5
        exact (pk_charN (q := n) (by omega)).1
    · simp only at e1; subst e1
      exact W.lret B.exec B.bytes (hr.trans o3) hq hfr g4
    · simp only at e2 e16
      have g5 : decode mi.2.1 pc' = .ok (.areturn, 1) := by
        unfold rD at g4; simp only at g4; rw [if_neg (by omega), if_neg (by omega)] at g4; exact g4
      exact W.aret (rt := .object C) B.exec B.bytes (hr.trans o3) (Or.inl ⟨C, rfl⟩) (cv_or G ad' e2) hq hfr g5
section EV6
variable {X : XX} {mi : MI} {d pc : Nat} {L : List (Nat × AV)} {st : List AV} {M : Mm} {r : Option AV} {M' : Mm}
theorem call_core {mi' : MI} {d' : Nat} {as rest : List AV} {r1 : Option AV} {M1 : Mm} (hR : Rn X d' mi' as M r1 M1) (hsub : ∀ q ∈ rest, q ∈ st) (hsa : ∀ q ∈ as, q ∈ st) (h : Ev X mi d (pc + 3) L (r1.toList ++ rest) M1 r M')
    (run : ∀ (G : GG) (R : Room) (p : Program) (l : Launch) (e : Env) (s : State) (m : MethodId) (args : Array Value) (below : List Frame) (meth : Method) (c : Code) (A : Nat → Prop) (kd ad : Nat → Nat) (H : Heap) (locs : List Loc) (cells slots : Nat) (ls : Array Slot),
      Cx X mi G d R p s m args meth c A → Sx G ad kd M A s H locs → (∀ q ∈ st, okV kd (mN M) q) → lv_has ls mi.2.2.1 (lvs G ad L) → (cells + (mN M1 - mN M) ≤ R.cells ∧ slots + (mZ M1 - mZ M) ≤ R.slots) →
      Met l mi'.1 (wsM mi') (rmF d' M M1) (va_Pc (as.map (cv G ad)) (preR X G ad kd H.size M)) (posR mi' G ad kd H.size M r1 M1) (mN M1 - mN M) (mZ M1 - mZ M) (va_A (wl G ad kd M) H.size) →
      (∀ U : State, U.heap = H → s.WarmedH U.vm → va_Pc (as.map (cv G ad)) (preR X G ad kd H.size M) (as.map (cv G ad)).toArray U) →
      va_Run p l e R s m args below meth c H locs cells slots (mN M1 - mN M) (mZ M1 - mZ M) (F0 m pc ls (st.map (cv G ad))) (rest.map (cv G ad)) (posR mi' G ad kd H.size M r1 M1 (as.map (cv G ad)).toArray) (va_A (wl G ad kd M) H.size)) :
    Ev X mi d pc L st M r M' := by
  obtain ⟨⟨hm1, hm2⟩, hb, hM⟩ := hR
  refine ⟨⟨Nat.le_trans hm1 h.1.1, Nat.le_trans hm2 h.1.2⟩, h.2.1, ?_⟩
  have hn1 := h.1.1
  have hn2 := h.1.2
  intro G R p l e s m args below meth c Q A kd ad H locs cells slots ls hC hX hst hL hl hc hs he
  have hFc : ∀ q, va_A (wl G ad kd M) H.size q → A q := by
    intro q hq
    rcases hq with ⟨k, e, hk⟩ | hq
    · exact hX.2.2.1.2 k _ hk
    · exact hC.2.2.2.2.2.2.1 q (Nat.le_trans hX.2.2.2.1 hq)
  have hSp : Sp X G (va_A (wl G ad kd M) H.size) s H := Sp_narrow (Sp_kept hC.2.2.2.2.2.2.2.1 hX.2.2.2.1 hX.2.2.2.2.1) hFc
  have has : ∀ q ∈ as, okV kd (mN M) q := fun q hq => hst q (hsa q hq)
  have hre : ∀ q ∈ rest, okV kd (mN M) q := fun q hq => hst q (hsub q hq)
  have hrun := run G R p l e s m args below meth c A kd ad H locs cells slots ls hC hX hst hl ⟨by omega, by omega⟩ (hM l G ad kd H.size hX.1 has)
    (fun U hU hWu => ⟨rfl, by rw [hU], by rw [hU]; exact hX.2.1, va_K.moved hWu.alike hC.2.2.2.2.2.2.2.2.1, hX.2.2.1.weaken (fun _ _ _ _ => trivial), by rw [hU]; exact Sp_warm hWu hSp⟩)
  intro T hT XT
  obtain ⟨v, st₀, t, T', L2, h0, X', hL2, e1, e2, ⟨⟨kd', ad', hv, hag, hWT, hrO, hP', hK', hD'⟩, hF⟩, hgo⟩ := hrun T hT XT
  cases hv
  have hz := hF.1
  have hk := hF.2
  rw [h0] at hz hk
  have ha2 : ∀ c, c < mN M → ad' c = ad c := fun c h => (hag c h).2
  have hk2 : ∀ c, c < mN M → kd' c = kd c := fun c h => (hag c h).1
  have hS' : va_S A s.heap T'.heap (locs ++ L2) :=
    ⟨Nat.le_trans hX.2.2.2.1 (by rw [e1]; exact hz), fun q h1 h2 => by rw [e1, hk q (Nat.lt_of_lt_of_le h1 hX.2.2.2.1) (fun z => h2 (hFc q z))]; exact hX.2.2.2.2.1 q h1 h2, fun q hq => by
      rcases List.mem_append.mp hq with h | h
      · exact hX.2.2.2.2.2 q h
      · exact hFc _ (hL2 q h)⟩
  have hW := h.2.2 G R p l e s m args below meth c Q A kd' ad' T'.heap (locs ++ L2) (cells + (mN M1 - mN M)) (slots + (mZ M1 - mZ M)) ls hC ⟨hWT, by rw [e1]; exact hP', hD'.weaken (fun _ _ _ hz => hFc _ hz), hS'⟩
    (fun q hq => by
      rcases List.mem_append.mp hq with h9 | h9
      · cases r1 with
        | none => cases h9
        | some q1 =>
          rcases List.mem_singleton.mp h9 with rfl
          exact hrO.1
      · exact okV_ag (hre q h9) hk2 hm1)
    (fun q hq => okV_ag (hL q hq) hk2 hm1) (by rw [lvs_ag hL ha2]; exact hl) (by omega) (by omega)
    (fun kd'' ad'' H' locs' cells' slots' pc'' ls' g1 g2 g3 g4 g5 g6 => he kd'' ad'' H' locs' cells' slots' pc'' ls' (fun c hc => by have := g1 c (by omega); rw [this.1, this.2, hk2 c hc, ha2 c hc]; exact ⟨rfl, rfl⟩) g2 g3 g4 (by omega) (by omega))
  obtain ⟨t2, a1, b1⟩ := hW T' rfl X'
  refine ⟨t2, hgo t2 ?_, b1⟩
  have es : (r1.toList ++ rest).map (cv G ad') = (r1.map (cv G ad')).toList ++ rest.map (cv G ad) := by
    rw [List.map_append, map_ag hre ha2]; congr 1; cases r1 <;> rfl
  rw [es] at a1
  exact a1
/-- what a call of a method needs -/
def CalOk (mi : MI) (n : Nat) : Prop := Cond.code mi.1 mi.2.1 mi.2.2.1 mi.2.2.2.1 ∈ tblG ∧ Cond.initialized mi.1.cls ∈ tblG ∧ (mi.1.cls ≠ "java/lang/invoke/MethodHandle" ∧ mi.1.cls ≠ "java/lang/invoke/VarHandle") ∧ (parseMethodDescriptor mi.1.desc).map (fun d => d.parameters.length) = some n ∧ mi.2.2.1 ≤ 45
theorem ws_good {mi' : MI} (h : Cond.code mi'.1 mi'.2.1 mi'.2.2.1 mi'.2.2.2.1 ∈ tblG) : ∀ w ∈ wsM mi', w ∈ tblG ∧ ((w.onTables && w.keeps) = true ∨ ∃ ty, w = .arrayClass ty) := by
  intro w hw
  rcases List.mem_cons.mp hw with e | e
  · rw [e]; exact ⟨h, good_of_word (tblG_good _ h)⟩
  · exact ⟨e, good_of_word (tblG_good _ e)⟩
theorem par_len {desc : String} {n : Nat} (h : (parseMethodDescriptor desc).map (fun d => d.parameters.length) = some n) : ∀ sig, parseMethodDescriptor desc = some sig → n = sig.parameters.length := by
  intro sig hs; rw [hs] at h; exact (Option.some.inj h).symm
theorem mkB {mi' : MI} {n d' idx : Nat} {M1 : Mm} {G : GG} {R : Room} {p : Program} {s : State} {m : MethodId} {args : Array Value} {meth : Method} {c : Code} {A : Nat → Prop} (hC : Cx X mi G d R p s m args meth c A) (ho : CalOk mi' n) (hd : d' + 1 ≤ d) (hl : Cond.methodLink mi.2.2.2.2 idx mi'.1 ∈ tblG) : CallB R s args mi.2.2.2.2 idx mi'.1 mi'.2.1 mi'.2.2.1 mi'.2.2.2.1 (wsM mi') (rmF d' M M1) (mN M1 - mN M) (mZ M1 - mZ M) n :=
  ⟨rfl, rfl, Nat.le_trans hd hC.2.2.2.2.2.2.2.2.2.1, by have := hC.2.2.2.2.2.2.2.2.2.2; have := ho.2.2.2.2; show 8 + (mi'.2.2.1 + 11) + 64 * d' ≤ R.locals; omega, pay_in hC.2.2.2.2.1 (ws_good ho.1), List.mem_cons_self, hC.2.2.2.2.1 _ ho.1, hC.2.2.2.2.1 _ ho.2.1, ho.2.2.1, par_len ho.2.2.2.1, hC.2.2.2.2.1 _ hl⟩
theorem mkN {mi' : MI} {n d' idx : Nat} {host : String} {M1 : Mm} {G : GG} {R : Room} {p : Program} {s : State} {m : MethodId} {args : Array Value} {meth : Method} {c : Code} {A : Nat → Prop} (hC : Cx X mi G d R p s m args meth c A) (ho : CalOk mi' n) (hd : d' + 1 ≤ d) (hl : Cond.methodLinkNest mi.2.2.2.2 idx mi'.1 host ∈ tblN) : va_CN R s args mi.2.2.2.2 idx mi'.1 host mi'.2.1 mi'.2.2.1 mi'.2.2.2.1 (wsM mi') (rmF d' M M1) (mN M1 - mN M) (mZ M1 - mZ M) n :=
  ⟨⟨rfl, rfl, Nat.le_trans hd hC.2.2.2.2.2.2.2.2.2.1, by have := hC.2.2.2.2.2.2.2.2.2.2; have := ho.2.2.2.2; show 8 + (mi'.2.2.1 + 11) + 64 * d' ≤ R.locals; omega, pay_in hC.2.2.2.2.1 (ws_good ho.1), List.mem_cons_self⟩, hC.2.2.2.2.1 _ ho.1, hC.2.2.2.2.1 _ ho.2.1, ho.2.2.1, par_len ho.2.2.2.1, va_Nw.use rfl (hC.2.2.2.2.2.2.2.1.2.2.2.1 _ hl)⟩
theorem mfix {G : GG} {R : Room} {p : Program} {s : State} {m : MethodId} {args : Array Value} {meth : Method} {c : Code} {A : Nat → Prop} (hC : Cx X mi G d R p s m args meth c A) : CallFix p m c mi.2.1 mi.2.2.1 s args tblG mi.2.2.2.2 := ⟨hC.1, hC.2.1, hC.2.2.1, hC.2.2.2.1, hC.2.2.2.2.1⟩
theorem recv_at {G : GG} {R : Room} {p : Program} {s : State} {m : MethodId} {args : Array Value} {meth : Method} {c : Code} {A : Nat → Prop} {kd ad : Nat → Nat} {H : Heap} {locs : List Loc} {t : Nat} {v : Int} {q : vw_C} (hC : Cx X mi G d R p s m args meth c A) (hX : Sx G ad kd M A s H locs) (ho : okV kd (mN M) (t, v)) (h2 : 2 ≤ t) (h12 : t ≤ 12) (hv : v ≠ 0) (hc : cls[t - 2]? = some q) : ∃ cell : Cell, H[ad (cI v)]? = some cell ∧ cell.vm.isStatics = false ∧ s.vm.findClass q.1 = some cell.cls := by
  obtain ⟨hcn, hkd⟩ := ref_at ho h2 (by omega) hv
  exact va_recv hC.2.2.2.2.2.2.2.2.1 hX.2.1 hc (by rw [wl_at hcn, cE_obj hkd h12])
theorem ev_callV {mi' : MI} {d' t n idx N : Nat} {v : Int} {as rest : List AV} {r1 : Option AV} {M1 : Mm} {C : String} {T : u_T} (hst : st = as.reverse ++ (t, v) :: rest) (h2 : 2 ≤ t) (h12 : t ≤ 12) (hc : cls[t - 2]? = some (C, T, N)) (hv : v ≠ 0) (hn : as.length = n) (hr8 : aW rest ≤ 8) (ho : CalOk mi' n) (hi : Cond.instanceMethod mi'.1 ∈ tblG ∧ Cond.selects C mi'.1 mi'.1 ∈ tblG) (hdd : d' + 1 ≤ d) (hw : Cond.methodLink mi.2.2.2.2 idx mi'.1 ∈ tblG) (hd : decode mi.2.1 pc = .ok (.invokevirtual idx, 3)) (hR : Rn X d' mi' ((t, v) :: as) M r1 M1) (h : Ev X mi d (pc + 3) L (r1.toList ++ rest) M1 r M') : Ev X mi d pc L st M r M' := by
  subst hst
  refine call_core hR (fun q hq => List.mem_append_right _ (List.mem_cons_of_mem _ hq)) (fun q hq => by
    rcases List.mem_cons.mp hq with e | e
    · rw [e]; exact List.mem_append_right _ List.mem_cons_self
    · exact List.mem_append_left _ (List.mem_reverse.mpr e)) h ?_
  intro G R p l e s m args below meth c A kd ad H locs cells slots ls hC hX hst hl hcs hM hp
  have hvo := hst (t, v) (List.mem_append_right _ List.mem_cons_self)
  have er := cv_r G ad h2 (show t ≤ 16 by omega) hv
  have em : ((t, v) :: as).map (cv G ad) = .ref (ad (cI v)) :: as.map (cv G ad) := by rw [List.map_cons, er]
  rw [em] at hM hp ⊢
  exact va_runV (C := C) (b := ad (cI v)) (As := as.map (cv G ad)) (mfix hC) hM ⟨mkB hC ho hdd hw, hC.2.2.2.2.1 _ hi.1, hC.2.2.2.2.1 _ hi.2⟩ ⟨preR_blind _, recv_at hC hX hvo h2 h12 hv hc, hp⟩ rfl (by rw [List.length_map]; exact hn) hl.1 (by show List.map (cv G ad) _ = _; rw [List.map_append, List.map_reverse, List.map_cons, er]) (lv_room (by rw [aW_cat]; exact hr8)) hd hcs
theorem ev_callVN {mi' : MI} {d' t n idx N : Nat} {v : Int} {as rest : List AV} {r1 : Option AV} {M1 : Mm} {C host : String} {T : u_T} (hst : st = as.reverse ++ (t, v) :: rest) (h2 : 2 ≤ t) (h12 : t ≤ 12) (hc : cls[t - 2]? = some (C, T, N)) (hv : v ≠ 0) (hn : as.length = n) (hr8 : aW rest ≤ 8) (ho : CalOk mi' n) (hi : Cond.instanceMethod mi'.1 ∈ tblG ∧ Cond.selects C mi'.1 mi'.1 ∈ tblG) (hdd : d' + 1 ≤ d) (hw : Cond.methodLinkNest mi.2.2.2.2 idx mi'.1 host ∈ tblN) (hd : decode mi.2.1 pc = .ok (.invokevirtual idx, 3)) (hR : Rn X d' mi' ((t, v) :: as) M r1 M1) (h : Ev X mi d (pc + 3) L (r1.toList ++ rest) M1 r M') : Ev X mi d pc L st M r M' := by
  subst hst
  refine call_core hR (fun q hq => List.mem_append_right _ (List.mem_cons_of_mem _ hq)) (fun q hq => by
    rcases List.mem_cons.mp hq with e | e
    · rw [e]; exact List.mem_append_right _ List.mem_cons_self
    · exact List.mem_append_left _ (List.mem_reverse.mpr e)) h ?_
  intro G R p l e s m args below meth c A kd ad H locs cells slots ls hC hX hst hl hcs hM hp
  have hvo := hst (t, v) (List.mem_append_right _ List.mem_cons_self)
  have er := cv_r G ad h2 (show t ≤ 16 by omega) hv
  have em : ((t, v) :: as).map (cv G ad) = .ref (ad (cI v)) :: as.map (cv G ad) := by rw [List.map_cons, er]
  rw [em] at hM hp ⊢
  exact va_runVN (C := C) (b := ad (cI v)) (As := as.map (cv G ad)) (mfix hC) hM ⟨mkN hC ho hdd hw, hC.2.2.2.2.1 _ hi.1, hC.2.2.2.2.1 _ hi.2⟩ ⟨preR_blind _, recv_at hC hX hvo h2 h12 hv hc, hp⟩ rfl (by rw [List.length_map]; exact hn) hl.1 (by show List.map (cv G ad) _ = _; rw [List.map_append, List.map_reverse, List.map_cons, er]) (lv_room (by rw [aW_cat]; exact hr8)) hd hcs
theorem ev_callS {mi' : MI} {d' n idx : Nat} {as rest : List AV} {r1 : Option AV} {M1 : Mm} (hst : st = as.reverse ++ rest) (hn : as.length = n) (hr8 : aW rest ≤ 8) (ho : CalOk mi' n) (hi : Cond.static mi'.1 ∈ tblG) (hdd : d' + 1 ≤ d) (hw : Cond.methodLink mi.2.2.2.2 idx mi'.1 ∈ tblG) (hd : decode mi.2.1 pc = .ok (.invokestatic idx, 3)) (hR : Rn X d' mi' as M r1 M1) (h : Ev X mi d (pc + 3) L (r1.toList ++ rest) M1 r M') : Ev X mi d pc L st M r M' := by
  subst hst
  refine call_core hR (fun q hq => List.mem_append_right _ hq) (fun q hq => List.mem_append_left _ (List.mem_reverse.mpr hq)) h ?_
  intro G R p l e s m args below meth c A kd ad H locs cells slots ls hC hX hst hl hcs hM hp
  exact va_runS (As := as.map (cv G ad)) (mfix hC) hM ⟨mkB hC ho hdd hw, hC.2.2.2.2.1 _ hi⟩ ⟨preR_blind _, hp⟩ rfl (by rw [List.length_map]; exact hn) hl.1 (by show List.map (cv G ad) _ = _; rw [List.map_append, List.map_reverse]) (lv_room (by rw [aW_cat]; exact hr8)) hd hcs
theorem ev_callSN {mi' : MI} {d' n idx : Nat} {host : String} {as rest : List AV} {r1 : Option AV} {M1 : Mm} (hst : st = as.reverse ++ rest) (hn : as.length = n) (hr8 : aW rest ≤ 8) (ho : CalOk mi' n) (hi : Cond.static mi'.1 ∈ tblG) (hdd : d' + 1 ≤ d) (hw : Cond.methodLinkNest mi.2.2.2.2 idx mi'.1 host ∈ tblN) (hd : decode mi.2.1 pc = .ok (.invokestatic idx, 3)) (hR : Rn X d' mi' as M r1 M1) (h : Ev X mi d (pc + 3) L (r1.toList ++ rest) M1 r M') : Ev X mi d pc L st M r M' := by
  subst hst
  refine call_core hR (fun q hq => List.mem_append_right _ hq) (fun q hq => List.mem_append_left _ (List.mem_reverse.mpr hq)) h ?_
  intro G R p l e s m args below meth c A kd ad H locs cells slots ls hC hX hst hl hcs hM hp
  exact va_runSN (As := as.map (cv G ad)) (mfix hC) hM ⟨mkN hC ho hdd hw, hC.2.2.2.2.1 _ hi, trivial⟩ ⟨preR_blind _, hp⟩ rfl (by rw [List.length_map]; exact hn) hl.1 (by show List.map (cv G ad) _ = _; rw [List.map_append, List.map_reverse]) (lv_room (by rw [aW_cat]; exact hr8)) hd hcs
theorem ev_callI {mi' : MI} {d' t n idx : Nat} {v : Int} {as rest : List AV} {M1 : Mm} (hst : st = as.reverse ++ (t, v) :: rest) (h2 : 2 ≤ t) (h12 : t ≤ 12) (hv : v ≠ 0) (hn : as.length = n) (hr8 : aW rest ≤ 8) (ho : CalOk mi' n) (hi : Cond.instanceMethod mi'.1 ∈ tblG) (hy : mi'.1.name = "<init>") (hre : mi'.2.2.2.1 = none) (hdd : d' + 1 ≤ d) (hw : Cond.methodLink mi.2.2.2.2 idx mi'.1 ∈ tblG) (hd : decode mi.2.1 pc = .ok (.invokespecial idx, 3)) (hR : Rn X d' mi' ((t, v) :: as) M none M1) (h : Ev X mi d (pc + 3) L rest M1 r M') : Ev X mi d pc L st M r M' := by
  subst hst
  refine call_core hR (fun q hq => List.mem_append_right _ (List.mem_cons_of_mem _ hq)) (fun q hq => by
    rcases List.mem_cons.mp hq with e | e
    · rw [e]; exact List.mem_append_right _ List.mem_cons_self
    · exact List.mem_append_left _ (List.mem_reverse.mpr e)) h ?_
  intro G R p l e s m args below meth c A kd ad H locs cells slots ls hC hX hst hl hcs hM hp
  have er := cv_r G ad h2 (show t ≤ 16 by omega) hv
  have em : ((t, v) :: as).map (cv G ad) = .ref (ad (cI v)) :: as.map (cv G ad) := by rw [List.map_cons, er]
  rw [em] at hM hp ⊢
  have hB := mkB (M := M) (M1 := M1) hC ho hdd hw
  rw [hre] at hB
  exact va_runI (b := ad (cI v)) (As := as.map (cv G ad)) (mfix hC) hM ⟨hB, hy, hC.2.2.2.2.1 _ hi⟩ ⟨preR_blind _, hp⟩ rfl (by rw [List.length_map]; exact hn) hl.1 (by show List.map (cv G ad) _ = _; rw [List.map_append, List.map_reverse, List.map_cons, er]) (lv_room (by rw [aW_cat]; exact hr8)) hd hcs
theorem ev_callIN {mi' : MI} {d' t n idx : Nat} {v : Int} {host : String} {as rest : List AV} {M1 : Mm} (hst : st = as.reverse ++ (t, v) :: rest) (h2 : 2 ≤ t) (h12 : t ≤ 12) (hv : v ≠ 0) (hn : as.length = n) (hr8 : aW rest ≤ 8) (ho : CalOk mi' n) (hi : Cond.instanceMethod mi'.1 ∈ tblG) (hy : mi'.1.name = "<init>") (hre : mi'.2.2.2.1 = none) (hdd : d' + 1 ≤ d) (hw : Cond.methodLinkNest mi.2.2.2.2 idx mi'.1 host ∈ tblN) (hd : decode mi.2.1 pc = .ok (.invokespecial idx, 3)) (hR : Rn X d' mi' ((t, v) :: as) M none M1) (h : Ev X mi d (pc + 3) L rest M1 r M') : Ev X mi d pc L st M r M' := by
  subst hst
  refine call_core hR (fun q hq => List.mem_append_right _ (List.mem_cons_of_mem _ hq)) (fun q hq => by
    rcases List.mem_cons.mp hq with e | e
    · rw [e]; exact List.mem_append_right _ List.mem_cons_self
    · exact List.mem_append_left _ (List.mem_reverse.mpr e)) h ?_
  intro G R p l e s m args below meth c A kd ad H locs cells slots ls hC hX hst hl hcs hM hp
  have er := cv_r G ad h2 (show t ≤ 16 by omega) hv
  have em : ((t, v) :: as).map (cv G ad) = .ref (ad (cI v)) :: as.map (cv G ad) := by rw [List.map_cons, er]
  rw [em] at hM hp ⊢
  have hB := mkN (M := M) (M1 := M1) hC ho hdd hw
  rw [hre] at hB
  exact va_runIN (b := ad (cI v)) (As := as.map (cv G ad)) (mfix hC) hM ⟨hB, hy, hC.2.2.2.2.1 _ hi⟩ ⟨preR_blind _, hp⟩ rfl (by rw [List.length_map]; exact hn) hl.1 (by show List.map (cv G ad) _ = _; rw [List.map_append, List.map_reverse, List.map_cons, er]) (lv_room (by rw [aW_cat]; exact hr8)) hd hcs
theorem ev_objInit {t idx : Nat} {v : Int} (h2 : 2 ≤ t) (h12 : t ≤ 12) (hv : v ≠ 0) (hr8 : aW st ≤ 8) (hd1 : 1 ≤ d) (hw : Cond.methodLink mi.2.2.2.2 idx Lib.objectInit ∈ tblG) (hi : Cond.instanceMethod Lib.objectInit ∈ tblG) (ho : Cond.code Lib.objectInit ⟨#[0xb1]⟩ 1 none ∈ tblG) (hd : decode mi.2.1 pc = .ok (.invokespecial idx, 3)) (h : Ev X mi d (pc + 3) L st M r M') : Ev X mi d pc L ((t, v) :: st) M r M' := by
  refine ev_step h ?_
  intro G R p l e s m args below meth c Q A kd ad H locs cells slots ls hC hX hst hL hl
  refine ⟨ok_tl hst, hL, fun kk => ?_⟩
  rw [List.map_cons, cv_r G ad h2 (by omega) hv]
  have hf := hC.2.2.2.2.2.2.2.2.2.1
  have hlo := hC.2.2.2.2.2.2.2.2.2.2
  refine W.objInit (g := F0 m pc ls (.ref (ad (cI v)) :: st.map (cv G ad))) (a := ad (cI v)) (rest := st.map (cv G ad)) hC.1 hC.2.1 hC.2.2.2.1 (hC.2.2.2.2.1 _ hw) (hC.2.2.2.2.1 _ hi) (hC.2.2.2.2.1 _ ho) rfl (hl.1.trans hC.2.2.1.symm) rfl hd (by omega) ?_ (kk ls hl)
  rw [aW_cat]
  show 2 * 0 + aW st + 12 ≤ R.locals
  omega
end EV6
