/-! names of values, loops -/
def lt {α β : Type} (e : α) (k : α → β) : β := k e
theorem ltx {α β : Type} {e : α} {k : α → Option β} {z : β} (h : lt e k = some z) : ∃ x, x = e ∧ k x = some z := ⟨_, rfl, h⟩
theorem bx {α β : Type} {e : Option α} {k : α → Option β} {z : β} (h : e.bind k = some z) : ∃ x, e = some x ∧ k x = some z := Option.bind_eq_some_iff.mp h
theorem gx {β : Type} {c : Prop} [Decidable c] {e : Option β} {z : β} (h : (if c then e else none) = some z) : c ∧ e = some z := by
  by_cases hc : c
  · rw [if_pos hc] at h; exact ⟨hc, h⟩
  · rw [if_neg hc] at h; cases h
def loopN {S R : Type} (step : S → Option (S ⊕ R)) : Nat → S → Option R
  | 0, _ => none
  | n + 1, s => match step s with
    | none => none
    | some (.inl s') => loopN step n s'
    | some (.inr t) => some t
theorem loop_ev {S R : Type} {step : S → Option (S ⊕ R)} {P : S → Prop} {Q : R → Prop} (hs : ∀ s x, step s = some x → (∀ s', x = .inl s' → P s') → (∀ t, x = .inr t → Q t) → P s) : ∀ n s t, loopN step n s = some t → Q t → P s
  | 0, s, t, h, _ => by cases h
  | n + 1, s, t, h, hq => by
    unfold loopN at h
    cases e : step s with
    | none => rw [e] at h; cases h
    | some x =>
      rw [e] at h
      refine hs s x e (fun s' hx => ?_) (fun t' hx => ?_)
      · subst hx; exact loop_ev hs n s' t h hq
      · subst hx; cases h; exact hq
/-- a loop whose measure falls -/
theorem loop_inv {S R : Type} {step : S → Option (S ⊕ R)} (I : S → Prop) (μ : S → Nat) (Q : R → Prop) (hs : ∀ s, I s → ∃ x, step s = some x ∧ (∀ s', x = .inl s' → I s' ∧ μ s' < μ s) ∧ (∀ t, x = .inr t → Q t)) : ∀ n s, I s → μ s < n → ∃ t, loopN step n s = some t ∧ Q t
  | 0, s, _, hm => absurd hm (Nat.not_lt_zero _)
  | n + 1, s, hi, hm => by
    obtain ⟨x, hx, h1, h2⟩ := hs s hi
    unfold loopN
    rw [hx]
    cases x with
    | inl s' =>
      obtain ⟨a, b⟩ := h1 s' rfl
      exact loop_inv I μ Q hs n s' a (by omega)
    | inr t => exact ⟨t, rfl, h2 t rfl⟩
/-- the fuel of every loop: a million, as a number that nothing unfolds -/
noncomputable def FU : Nat := Classical.choose (⟨1000000, rfl⟩ : ∃ n : Nat, n = 1000000)
theorem FU_eq : FU = 1000000 := Classical.choose_spec (⟨1000000, rfl⟩ : ∃ n : Nat, n = 1000000)
theorem loop_up {S R : Type} {step : S → Option (S ⊕ R)} : ∀ (n m : Nat) (s : S) (t : R), loopN step n s = some t → n ≤ m → loopN step m s = some t
  | 0, _, _, _, h, _ => by cases h
  | n + 1, 0, _, _, _, hm => absurd hm (Nat.not_succ_le_zero n)
  | n + 1, m + 1, s, t, h, hm => by
    unfold loopN at h ⊢
    cases e : step s with
    | none => rw [e] at h; cases h
    | some x =>
      rw [e] at h
      cases x with
      | inl s' => exact loop_up n m s' t h (Nat.le_of_succ_le_succ hm)
      | inr t' => exact h
theorem nz (M : Mm) : ((mN M : Int) + 1) ≠ 0 := by omega
theorem cI_nz (M : Mm) : cI ((mN M : Int) + 1) = mN M := cI_s _
section EV8
variable {X : XX} {mi : MI} {d pc : Nat} {L : List (Nat × AV)} {st : List AV} {M : Mm} {r : Option AV} {M' M1 : Mm}
theorem ev_put' {t k idx tk N : Nat} {v x : Int} {C : String} {T : u_T} {ty0 : Nat → FieldType} (h2 : 2 ≤ t) (h12 : t ≤ 12) (hc : cls[t - 2]? = some (C, T, N)) (hin : ∀ w ∈ u_ws C T N, w ∈ tblG) (hty : ∀ k, k < N → parseFieldDescriptor (T k).2.2.1 = some (ty0 k)) (hnm : ∀ a, a < N → ∀ b, b < N → a ≠ b → (T a).2.1 ≠ (T b).2.1) (hk : k < N) (hN : nf t = N) (htk : ft t k = tk) (hto : tyOk (ty0 k) tk = true) (hfin : (T k).2.2.2 = false) (hw : Cond.fieldLink mi.2.2.2.2 idx (T k).1 (T k).2.1 (T k).2.2.1 ∈ tblG) (hd : decode mi.2.1 pc = .ok (.putfield idx, 3)) (hv : v ≠ 0) (hM1 : M1 = (mp M (cI v) k x)) (h : Ev X mi d (pc + 3) L st M1 r M') : Ev X mi d pc L ((tk, x) :: (t, v) :: st) M r M' := by
  subst hM1; exact ev_put h2 h12 hc hin hty hnm hk hN htk hto hfin hw hd hv h
theorem ev_putN' {t k idx tk N : Nat} {v x : Int} {C host : String} {T : u_T} {ty0 : Nat → FieldType} (h2 : 2 ≤ t) (h12 : t ≤ 12) (hc : cls[t - 2]? = some (C, T, N)) (hin : ∀ w ∈ u_ws C T N, w ∈ tblG) (hty : ∀ k, k < N → parseFieldDescriptor (T k).2.2.1 = some (ty0 k)) (hnm : ∀ a, a < N → ∀ b, b < N → a ≠ b → (T a).2.1 ≠ (T b).2.1) (hk : k < N) (hN : nf t = N) (htk : ft t k = tk) (hto : tyOk (ty0 k) tk = true) (hfin : (T k).2.2.2 = false) (hw : Cond.fieldLinkNest mi.2.2.2.2 idx (T k).1 (T k).2.1 (T k).2.2.1 host ∈ tblN) (hd : decode mi.2.1 pc = .ok (.putfield idx, 3)) (hv : v ≠ 0) (hM1 : M1 = (mp M (cI v) k x)) (h : Ev X mi d (pc + 3) L st M1 r M') : Ev X mi d pc L ((tk, x) :: (t, v) :: st) M r M' := by
  subst hM1; exact ev_putN h2 h12 hc hin hty hnm hk hN htk hto hfin hw hd hv h
theorem ev_putF' {t k idx tk N : Nat} {v x : Int} {C : String} {T : u_T} {ty0 : Nat → FieldType} (h2 : 2 ≤ t) (h12 : t ≤ 12) (hc : cls[t - 2]? = some (C, T, N)) (hin : ∀ w ∈ u_ws C T N, w ∈ tblG) (hty : ∀ k, k < N → parseFieldDescriptor (T k).2.2.1 = some (ty0 k)) (hnm : ∀ a, a < N → ∀ b, b < N → a ≠ b → (T a).2.1 ≠ (T b).2.1) (hk : k < N) (hN : nf t = N) (htk : ft t k = tk) (hto : tyOk (ty0 k) tk = true) (hfin : (T k).2.2.2 = true) (hi : mi.1.name = "<init>") (hde : (T k).1 = mi.2.2.2.2) (hw : Cond.fieldLink mi.2.2.2.2 idx (T k).1 (T k).2.1 (T k).2.2.1 ∈ tblG) (hd : decode mi.2.1 pc = .ok (.putfield idx, 3)) (hv : v ≠ 0) (hM1 : M1 = (mp M (cI v) k x)) (h : Ev X mi d (pc + 3) L st M1 r M') : Ev X mi d pc L ((tk, x) :: (t, v) :: st) M r M' := by
  subst hM1; exact ev_putF h2 h12 hc hin hty hnm hk hN htk hto hfin hi hde hw hd hv h
theorem ev_iast' {i v x : Int} (hd : decode mi.2.1 pc = .ok (.iastore, 1)) (hv : v ≠ 0) (hi : 0 ≤ i ∧ i < (ml M (cI v) : Int)) (hM1 : M1 = (mp M (cI v) i.toNat x)) (h : Ev X mi d (pc + 1) L st M1 r M') : Ev X mi d pc L ((0, x) :: (0, i) :: (13, v) :: st) M r M' := by
  subst hM1; exact ev_iast hd hv hi h
theorem ev_last' {i v x : Int} (hd : decode mi.2.1 pc = .ok (.lastore, 1)) (hv : v ≠ 0) (hi : 0 ≤ i ∧ i < (ml M (cI v) : Int)) (hM1 : M1 = (mp M (cI v) i.toNat x)) (h : Ev X mi d (pc + 1) L st M1 r M') : Ev X mi d pc L ((1, x) :: (0, i) :: (14, v) :: st) M r M' := by
  subst hM1; exact ev_last hd hv hi h
theorem ev_zast' {i v x : Int} (hd : decode mi.2.1 pc = .ok (.bastore, 1)) (hv : v ≠ 0) (hi : 0 ≤ i ∧ i < (ml M (cI v) : Int)) (hx : x = 0 ∨ x = 1) (hM1 : M1 = (mp M (cI v) i.toNat x)) (h : Ev X mi d (pc + 1) L st M1 r M') : Ev X mi d pc L ((0, x) :: (0, i) :: (15, v) :: st) M r M' := by
  subst hM1; exact ev_zast hd hv hi hx h
theorem ev_aast' {i v x : Int} (hd : decode mi.2.1 pc = .ok (.aastore, 1)) (hv : v ≠ 0) (hi : 0 ≤ i ∧ i < (ml M (cI v) : Int)) (hx : x ≠ 0) (hM1 : M1 = (mp M (cI v) i.toNat x)) (h : Ev X mi d (pc + 1) L st M1 r M') : Ev X mi d pc L ((5, x) :: (0, i) :: (16, v) :: st) M r M' := by
  subst hM1; exact ev_aast hd hv hi hx h
theorem ev_new' {t idx N : Nat} {C : String} {T : u_T} {ty0 : Nat → FieldType} (h2 : 2 ≤ t) (h12 : t ≤ 12) (hc : cls[t - 2]? = some (C, T, N)) (hin : ∀ w ∈ u_ws C T N, w ∈ tblG) (hty : ∀ k, k < N → parseFieldDescriptor (T k).2.2.1 = some (ty0 k)) (hN : nf t = N) (hto : ∀ k, k < N → tyOk (ty0 k) (ft t k) = true) (hN2 : N < 2147483648) (hw : Cond.classLink mi.2.2.2.2 idx C ∈ tblG) (hi : Cond.instantiable C N ∈ tblG) (hini : Cond.initialized C ∈ tblG) (hd : decode mi.2.1 pc = .ok (.new idx, 3)) (hM1 : M1 = (mw M N)) (h : Ev X mi d (pc + 3) L ((t, (mN M : Int) + 1) :: st) M1 r M') : Ev X mi d pc L st M r M' := by
  subst hM1; exact ev_new h2 h12 hc hin hty hN hto hN2 hw hi hini hd h
theorem ev_newI' {v : Int} (hw : Cond.arrayClass .int ∈ tblG) (hd : decode mi.2.1 pc = .ok (.newarray .int, 2)) (hv : 0 ≤ v ∧ v < 1000000) (hM1 : M1 = (mw M v.toNat)) (h : Ev X mi d (pc + 2) L ((13, (mN M : Int) + 1) :: st) M1 r M') : Ev X mi d pc L ((0, v) :: st) M r M' := by
  subst hM1; exact ev_newI hw hd hv h
theorem ev_newJ' {v : Int} (hw : Cond.arrayClass .long ∈ tblG) (hd : decode mi.2.1 pc = .ok (.newarray .long, 2)) (hv : 0 ≤ v ∧ v < 1000000) (hM1 : M1 = (mw M v.toNat)) (h : Ev X mi d (pc + 2) L ((14, (mN M : Int) + 1) :: st) M1 r M') : Ev X mi d pc L ((0, v) :: st) M r M' := by
  subst hM1; exact ev_newJ hw hd hv h
theorem ev_newZ' {v : Int} (hw : Cond.arrayClass .boolean ∈ tblG) (hd : decode mi.2.1 pc = .ok (.newarray .boolean, 2)) (hv : 0 ≤ v ∧ v < 1000000) (hM1 : M1 = (mw M v.toNat)) (h : Ev X mi d (pc + 2) L ((15, (mN M : Int) + 1) :: st) M1 r M') : Ev X mi d pc L ((0, v) :: st) M r M' := by
  subst hM1; exact ev_newZ hw hd hv h
theorem ev_newO' {v : Int} {idx : Nat} (hw : Cond.classLink mi.2.2.2.2 idx "TownBand$Piece" ∈ tblG) (hd : decode mi.2.1 pc = .ok (.anewarray idx, 3)) (hv : 0 ≤ v ∧ v < 1000000) (hM1 : M1 = (mw M v.toNat)) (h : Ev X mi d (pc + 3) L ((16, (mN M : Int) + 1) :: st) M1 r M') : Ev X mi d pc L ((0, v) :: st) M r M' := by
  subst hM1; exact ev_newO hw hd hv h
theorem ev_istore_n' {y : Int} {j : Fin 4} {v : Int} {i : Nat} {L' : List (Nat × AV)} (hd : decode mi.2.1 pc = .ok (.istore_n j, 1)) (hi : (j : Nat) = i) (hn : i < mi.2.2.1) (hL' : lset L i (0, y) = L') (hy : y = v) (h : Ev X mi d (pc + 1) L' st M r M') : Ev X mi d pc L ((0, v) :: st) M r M' := by
  subst hy; exact ev_istore_n hd hi hn hL' h
theorem ev_istore' {y : Int} {v : Int} {i : Nat} {L' : List (Nat × AV)} (hd : decode mi.2.1 pc = .ok (.istore i, 2)) (hn : i < mi.2.2.1) (hL' : lset L i (0, y) = L') (hy : y = v) (h : Ev X mi d (pc + 2) L' st M r M') : Ev X mi d pc L ((0, v) :: st) M r M' := by
  subst hy; exact ev_istore hd hn hL' h
theorem ev_lstore' {y : Int} {v : Int} {i : Nat} {L' : List (Nat × AV)} (hd : decode mi.2.1 pc = .ok (.lstore i, 2)) (hn : i + 1 < mi.2.2.1) (hL' : lsetL L i (1, y) = L') (hy : y = v) (h : Ev X mi d (pc + 2) L' st M r M') : Ev X mi d pc L ((1, v) :: st) M r M' := by
  subst hy; exact ev_lstore hd hn hL' h
theorem ev_astore_n' {y : Int} {j : Fin 4} {t : Nat} {v : Int} {i : Nat} {L' : List (Nat × AV)} (hd : decode mi.2.1 pc = .ok (.astore_n j, 1)) (hi : (j : Nat) = i) (ht : 2 ≤ t) (hn : i < mi.2.2.1) (hL' : lset L i (t, y) = L') (hy : y = v) (h : Ev X mi d (pc + 1) L' st M r M') : Ev X mi d pc L ((t, v) :: st) M r M' := by
  subst hy; exact ev_astore_n hd hi ht hn hL' h
theorem ev_astore' {y : Int} {t : Nat} {v : Int} {i : Nat} {L' : List (Nat × AV)} (hd : decode mi.2.1 pc = .ok (.astore i, 2)) (ht : 2 ≤ t) (hn : i < mi.2.2.1) (hL' : lset L i (t, y) = L') (hy : y = v) (h : Ev X mi d (pc + 2) L' st M r M') : Ev X mi d pc L ((t, v) :: st) M r M' := by
  subst hy; exact ev_astore hd ht hn hL' h
theorem ev_iinc' {y : Int} {v n : Int} (k : Nat) {i : Nat} {L' : List (Nat × AV)} (hd : decode mi.2.1 pc = .ok (.iinc i n, 3)) (hk : L[k]? = some (i, (0, v))) (hn : i < mi.2.2.1) (hL' : lset L i (0, y) = L') (hy : y = w32 (v + n)) (h : Ev X mi d (pc + 3) L' st M r M') : Ev X mi d pc L st M r M' := by
  subst hy; exact ev_iinc k hd hk hn hL' h
end EV8
