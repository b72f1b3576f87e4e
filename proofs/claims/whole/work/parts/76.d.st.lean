/-! where a reader stands: at a token (its place, how many so far), or at a fault (what, where) -/
abbrev Ts : Type := (Nat × Nat) ⊕ (Int × Int)
def zN (n : Nat) (b : Nat → Int) (dg : Nat) : Ts → Ts
  | .inl q => .inl (tEn n b q.1, tks n b dg (tEn n b q.1) q.2)
  | .inr e => .inr e
def zF (n : Nat) (b : Nat → Int) (k : Int) : Ts → Ts
  | .inl q => .inr (k, (tPl n b q.1 : Int))
  | .inr e => .inr e
def zK (n : Nat) (b : Nat → Int) (dg : Nat) : Ts → Int
  | .inl q => ckd n b dg q.1
  | .inr _ => -4
def zW (n : Nat) (b : Nat → Int) (dg : Nat) (l : List Int) : Ts → Bool
  | .inl q => decide (tTg n b dg q.1 = 2) && decide (tLs n b q.1 = l)
  | .inr _ => false
def zV (n : Nat) (b : Nat → Int) : Ts → Int
  | .inl q => tVl n b q.1
  | .inr _ => 0
def zL (n : Nat) (b : Nat → Int) : Ts → List Int
  | .inl q => tLs n b q.1
  | .inr _ => []
/-- a place that a reader may stand at -/
def zO (n : Nat) (b : Nat → Int) (dg : Nat) : Ts → Prop
  | .inl q => q.1 ≤ n ∧ q.2 ≤ tEn n b q.1 ∧ (tTg n b dg q.1 ≠ 0 → 1 ≤ q.2)
  | .inr e => e.1 = 1 ∨ e.1 = 2 ∨ e.1 = 3 ∨ e.1 = 4
def txs (w : Nat) : List Int := ([[112, 105, 101, 99, 101], [109, 117, 115, 116], [109, 97, 121], [111, 114], [97, 103, 101], [100, 97, 121, 115], [112, 97, 115, 116], [111, 117, 116], [100, 97, 121]] : List (List Int)).getD w []
theorem txs_ok (w : Nat) (hw : w < 9) : (txs w).length = txL.getD w 0 ∧ ∀ j, j < (txs w).length → txb w j = (txs w).getD j 0 := by
  have : ∀ w : Fin 9, (txs w).length = txL.getD w 0 ∧ ∀ j : Fin 5, j < (txs w).length → txb w j = (txs w).getD j 0 := by decide
  have h5 : ∀ w : Fin 9, (txs w).length ≤ 5 := by decide
  refine ⟨(this ⟨w, hw⟩).1, fun j hj => (this ⟨w, hw⟩).2 ⟨j, Nat.lt_of_lt_of_le hj (h5 ⟨w, hw⟩)⟩ hj⟩
def RS (n : Nat) (b : Nat → Int) (dg : Nat) (σ : Ts) (M : Mm) : Prop := TB n b dg M ∧ zO n b dg σ ∧ match σ with
  | .inl q => LX n b dg q.1 q.2 M
  | .inr e => mg M 48 8 = e.1 ∧ mg M 48 9 = e.2 ∧ mg M 48 4 = -4
/-- what a reader of the class writes of the tape -/
def WRd (c x : Nat) : Prop := c = 48 ∧ 3 ≤ x ∧ x ≤ 9
theorem ckd_nn {n : Nat} {b : Nat → Int} {dg p : Nat} (ho : OKt n b) : 0 ≤ tBy n b p := (ho.2 _).1
theorem ckd_m3 {n : Nat} {b : Nat → Int} {dg p : Nat} (ho : OKt n b) : ckd n b dg p = -3 ↔ tTg n b dg p = 2 := by
  have h := ckd_nn (p := p) (dg := dg) ho
  unfold ckd
  constructor
  · intro e
    split at e
    · omega
    · split at e
      · omega
      · split at e
        · assumption
        · split at e <;> omega
  · intro e; rw [e]; rfl
theorem ckd_m2 {n : Nat} {b : Nat → Int} {dg p : Nat} (ho : OKt n b) : ckd n b dg p = -2 ↔ tTg n b dg p = 3 := by
  have h := ckd_nn (p := p) (dg := dg) ho
  unfold ckd
  constructor
  · intro e
    split at e
    · omega
    · split at e
      · omega
      · split at e
        · omega
        · split at e
          · assumption
          · omega
  · intro e; rw [e]; rfl
theorem ckd_m1 {n : Nat} {b : Nat → Int} {dg p : Nat} (ho : OKt n b) : ckd n b dg p = -1 ↔ tTg n b dg p = 0 := by
  have h := ckd_nn (p := p) (dg := dg) ho
  unfold ckd
  constructor
  · intro e
    split at e
    · assumption
    · split at e
      · omega
      · split at e
        · omega
        · split at e <;> omega
  · intro e; rw [e]; rfl
theorem tTg_le {n : Nat} {b : Nat → Int} {dg p : Nat} : tTg n b dg p ≤ 4 := by
  unfold tTg; split
  · omega
  · split
    · split <;> omega
    · split
      · split <;> omega
      · omega
theorem ckd_by {n : Nat} {b : Nat → Int} {dg p : Nat} {x : Int} (hx : 0 ≤ x) : ckd n b dg p = x ↔ tTg n b dg p = 4 ∧ tBy n b p = x := by
  have h := tTg_le (n := n) (b := b) (dg := dg) (p := p)
  unfold ckd
  constructor
  · intro e
    split at e
    · omega
    · split at e
      · omega
      · split at e
        · omega
        · split at e
          · omega
          · exact ⟨by omega, e⟩
  · rintro ⟨e1, e2⟩; rw [e1]; exact e2
section RSS
variable {n : Nat} {b : Nat → Int} {dg : Nat} {σ : Ts} {M : Mm}
theorem zN_ok (ho : OKt n b) (h : zO n b dg σ) : zO n b dg (zN n b dg σ) := by
  cases σ with
  | inr e => exact h
  | inl q =>
    obtain ⟨h1, h2, h3⟩ := h
    have e1 := t_en (b := b) ho.1 h1
    have e2 := t_en (b := b) ho.1 e1.2.1
    have e3 := t_pl (n := n) (b := b) (p := tEn n b q.1) ho.1
    show tEn n b q.1 ≤ n ∧ tks n b dg (tEn n b q.1) q.2 ≤ tEn n b (tEn n b q.1) ∧ (tTg n b dg (tEn n b q.1) ≠ 0 → 1 ≤ tks n b dg (tEn n b q.1) q.2)
    refine ⟨e1.2.1, ?_, fun e => ?_⟩
    · unfold tks; split
      · omega
      · rename_i hc
        have := e2.2.2 (t_n0 hc)
        omega
    · unfold tks; rw [if_neg e]; omega
theorem zF_ok {k : Int} (hk : k = 1 ∨ k = 2 ∨ k = 3 ∨ k = 4) (h : zO n b dg σ) : zO n b dg (zF n b k σ) := by
  cases σ with
  | inr e => exact h
  | inl q => exact hk
theorem RS_fr {W : Nat → Nat → Prop} {M' : Mm} (h : RS n b dg σ M) (f : Fr W M M') (hw : ∀ c x, W c x → ¬ isP c x ∧ c ≠ 48 ∧ c ≠ 49) : RS n b dg σ M' := by
  obtain ⟨h1, h2, h3⟩ := h
  refine ⟨TB_fr h1 f (fun c x w => ⟨(hw c x w).1, fun e => (hw c x w).2.1 e.1, (hw c x w).2.2⟩), h2, ?_⟩
  have e : ∀ x, mg M' 48 x = mg M 48 x := fun x => f.1 48 x (fun w => (hw _ _ w).2.1 rfl)
  cases σ with
  | inl q => exact LX_fr h3 f (fun c x w e => (hw c x w).2.1 e.1)
  | inr q =>
    show mg M' 48 8 = q.1 ∧ mg M' 48 9 = q.2 ∧ mg M' 48 4 = -4
    rw [e 8, e 9, e 4]; exact h3
theorem RS_k (h : RS n b dg σ M) : mg M 48 4 = zK n b dg σ := by
  cases σ with
  | inl q => exact h.2.2.2.1
  | inr q => exact h.2.2.2.2
theorem r_adv (ho : OKt n b) (hdg : dg ≤ 4) (h : RS n b dg σ M) : wp (f_Tape_advance M 49) (fun M' => RS n b dg (zN n b dg σ) M' ∧ Fr WRd M M') := by
  obtain ⟨h1, h2, h3⟩ := h
  cases σ with
  | inr q =>
    have h2' : q.1 = 1 ∨ q.1 = 2 ∨ q.1 = 3 ∨ q.1 = 4 := h2
    have h3' : mg M 48 8 = q.1 ∧ mg M 48 9 = q.2 ∧ mg M 48 4 = -4 := h3
    unfold f_Tape_advance
    refine wE (fun e => ?_) (wS ⟨⟨h1, h2, h3⟩, Fr_rf⟩)
    rw [show cI 49 = 48 from rfl, h3'.1] at e; omega
  | inl q =>
    obtain ⟨g3, g4, g5, g6, g6', g7, g8, g9⟩ := h3
    have k := zN_ok ho (σ := .inl q) h2
    have k2 := (t_en (b := b) ho.1 h2.1).2.1
    have hn := ho.1
    have h22 := h2.2.1
    refine wM (b_advance h1 ho hdg k2 g3 g7 g8 g9 (by omega)) (fun M' hm => ⟨⟨hm.2.1, k, hm.2.2⟩, Fr_sub hm.1 (fun c x w => by unfold WLx at w; unfold WRd; omega)⟩)
theorem r_fail {k : Int} (hk : k = 1 ∨ k = 2 ∨ k = 3 ∨ k = 4) (h : RS n b dg σ M) : wp (f_Tape_fail M 49 k) (fun M' => RS n b dg (zF n b k σ) M' ∧ Fr WRd M M') := by
  obtain ⟨h1, h2, h3⟩ := h
  have hTB : ∀ M', Fr WRd M M' → TB n b dg M' := fun M' f => TB_fr h1 f (fun c x w => by unfold WRd at w; unfold isP; omega)
  unfold f_Tape_fail j_Tape_fail_20
  rw [show cI 49 = 48 from rfl]
  cases σ with
  | inr q =>
    have h2' : q.1 = 1 ∨ q.1 = 2 ∨ q.1 = 3 ∨ q.1 = 4 := h2
    have h3' : mg M 48 8 = q.1 ∧ mg M 48 9 = q.2 ∧ mg M 48 4 = -4 := h3
    have f : Fr WRd M (mp M 48 4 (-4)) := Fr_mp ⟨rfl, by omega⟩
    refine wI (by rw [h3'.1]; omega) (wL (wS ⟨⟨hTB _ f, h2, ?_⟩, f⟩))
    show mg (mp M 48 4 (-4)) 48 8 = q.1 ∧ mg (mp M 48 4 (-4)) 48 9 = q.2 ∧ mg (mp M 48 4 (-4)) 48 4 = -4
    rw [mg_mp_n (by omega), mg_mp_n (by omega), mg_mp_s]; exact ⟨h3'.1, h3'.2.1, rfl⟩
  | inl q =>
    obtain ⟨g3, g4, g5, g6, g6', g7, g8, g9⟩ := h3
    refine wE (by rw [g8]; decide) (wL ?_)
    rw [show mg (mp M 48 8 k) 48 5 = (tPl n b q.1 : Int) by rw [mg_mp_n (by omega)]; exact g5]
    have f : Fr WRd M (mp (mp (mp M 48 8 k) 48 9 (tPl n b q.1 : Int)) 48 4 (-4)) := Fr_wr (Fr_wr (Fr_mp ⟨rfl, by omega⟩) ⟨rfl, by omega⟩) ⟨rfl, by omega⟩
    refine wL (wL (wS ⟨⟨hTB _ f, hk, ?_⟩, f⟩))
    show mg (mp (mp (mp M 48 8 k) 48 9 (tPl n b q.1 : Int)) 48 4 (-4)) 48 8 = k ∧ mg (mp (mp (mp M 48 8 k) 48 9 (tPl n b q.1 : Int)) 48 4 (-4)) 48 9 = (tPl n b q.1 : Int) ∧ mg (mp (mp (mp M 48 8 k) 48 9 (tPl n b q.1 : Int)) 48 4 (-4)) 48 4 = -4
    refine ⟨?_, ?_, by rw [mg_mp_s]⟩
    · rw [mg_mp_n (by omega), mg_mp_n (by omega), mg_mp_s]
    · rw [mg_mp_n (by omega), mg_mp_s]
def zTake (n : Nat) (b : Nat → Int) (dg : Nat) (s : Int) (σ : Ts) : Ts := zN n b dg (if zK n b dg σ = s then σ else zF n b 1 σ)
theorem r_take (ho : OKt n b) (hdg : dg ≤ 4) {s : Int} (h : RS n b dg σ M) : wp (f_Tape_take M 49 s) (fun M' => RS n b dg (zTake n b dg s σ) M' ∧ Fr WRd M M') := by
  unfold f_Tape_take j_Tape_take_13 zTake
  rw [show cI 49 = 48 from rfl, RS_k h]
  refine wC (fun c => ?_) (fun c => ?_)
  · rw [if_pos c]
    exact wK (r_adv ho hdg h) (fun M' hm => wS hm)
  · rw [if_neg c]
    exact wK (r_fail (Or.inl rfl) h) (fun M1 h1 => wK (r_adv ho hdg h1.1) (fun M' hm => wS ⟨hm.1, Fr_tr h1.2 hm.2⟩))
theorem ls_eq {b : Nat → Int} {p len : Nat} {l : List Int} : lsB b p len = l ↔ len = l.length ∧ ∀ j, j < len → b (p + j) = l.getD j 0 := by
  constructor
  · rintro rfl
    refine ⟨(ls_len b p len).symm, fun j hj => ?_⟩
    unfold lsB
    rw [List.getD_eq_getElem?_getD, List.getElem?_map, List.getElem?_range hj]; rfl
  · rintro ⟨h1, h2⟩
    refine List.ext_getElem? (fun i => ?_)
    unfold lsB
    rw [List.getElem?_map]
    rcases Nat.lt_or_ge i len with hi | hi
    · have h3 := h2 i hi
      rw [List.getElem?_range hi, List.getElem?_eq_getElem (show i < l.length by omega)]
      rw [List.getD_eq_getElem?_getD, List.getElem?_eq_getElem (show i < l.length by omega)] at h3
      show some (b (p + i)) = _
      rw [h3]; rfl
    · rw [List.getElem?_eq_none (by rw [List.length_range]; exact hi), List.getElem?_eq_none (show l.length ≤ i by omega)]; rfl
theorem r_reads (ho : OKt n b) (h : RS n b dg σ M) {w : Nat} (hw : w < 9) : f_Tape_reads M 49 (w : Int) = some (if zW n b dg (txs w) σ = true then 1 else 0) := by
  refine w_eq ?_
  unfold f_Tape_reads
  rw [show cI 49 = 48 from rfl, RS_k h]
  obtain ⟨h1, h2, h3⟩ := h
  have hx := txs_ok w hw
  cases σ with
  | inr q => exact wI (by show (-4 : Int) ≠ -3; decide) (wS rfl)
  | inl q =>
    have hn := ho.1
    have he := t_en (b := b) hn h2.1
    refine wC (fun c => wS ?_) (fun c => ?_)
    · have : tTg n b dg q.1 ≠ 2 := fun e => c ((ckd_m3 ho).mpr e)
      rw [show zW n b dg (txs w) (.inl q) = false by show (decide (tTg n b dg q.1 = 2) && _) = false; rw [decide_eq_false this]; rfl]; rfl
    · have hT : tTg n b dg q.1 = 2 := (ckd_m3 ho).mp (by have c' : ¬ ckd n b dg q.1 ≠ -3 := c; omega)
      have hS : zW n b dg (txs w) (.inl q) = decide (tLs n b q.1 = txs w) := by show (decide (tTg n b dg q.1 = 2) && _) = _; rw [decide_eq_true hT]; rfl
      refine wI (by omega) ?_
      unfold f_String_length
      refine wX rfl ?_
      rw [show mg M 48 3 = (tEn n b q.1 : Int) from h3.1, show mg M 48 5 = (tPl n b q.1 : Int) from h3.2.2.1, Int.toNat_natCast, ← hx.1, w32_s (by omega) (by omega)]
      refine wC (fun c2 => ?_) (fun c2 => wS ?_)
      · have hl : tEn n b q.1 - tPl n b q.1 = (txs w).length := by omega
        refine wK (wp_loop (Q := fun t => (t = .inl 0 ∧ ¬ tLs n b q.1 = txs w) ∨ (t = .inr () ∧ tLs n b q.1 = txs w)) (fun j s => s = (j : Int) ∧ j ≤ (txs w).length ∧ ∀ i, i < j → b (tPl n b q.1 + i) = (txs w).getD i 0) (txs w).length (by omega) ⟨rfl, Nat.zero_le _, fun i hi => by omega⟩ ?_) (fun t ht => ?_)
        · rintro j s hj ⟨rfl, hjl, hall⟩
          unfold l_Tape_reads_29 f_String_length
          refine wI (by omega) (wX rfl ?_)
          rw [Int.toNat_natCast, ← hx.1]
          refine wC (fun c3 => wSr (Or.inr ⟨rfl, ?_⟩)) (fun c3 => ?_)
          · unfold tLs; rw [ls_eq]; exact ⟨hl, fun i hi => hall i (by omega)⟩
          · rw [show mg M (cI 49) 0 = 50 from p_48_0 h1.1, show cI 50 = 49 from rfl, n_49 h1.1, show mg M (cI 49) 5 = (tPl n b q.1 : Int) from h3.2.2.1, w32_s (by omega) (by omega)]
            unfold f_String_charAt
            rw [Int.toNat_natCast, ← hx.1, if_pos (show 0 ≤ (j : Int) ∧ (j : Int) < ((txs w).length : Int) by omega), Option.bind_some, Int.toNat_natCast, hx.2 j (by omega), show ((tPl n b q.1 : Int) + (j : Int)).toNat = tPl n b q.1 + j by omega, h1.2.1.2 _ (by omega)]
            refine wI (by decide) (wI (by omega) (wC (fun c4 => ?_) (fun c4 => wSr (Or.inl ⟨rfl, fun e => c4 ?_⟩))))
            · rw [w32_s (by omega) (by omega)]
              refine wL (wSl ⟨by omega, by omega, by omega, fun i hi => ?_⟩)
              by_cases e : i = j
              · rw [e]; exact c4
              · exact hall i (by omega)
            · unfold tLs at e; rw [ls_eq] at e
              exact e.2 j (by omega)
        · rw [hS]
          rcases ht with ⟨rfl, e⟩ | ⟨rfl, e⟩
          · rw [decide_eq_false e]; exact wS rfl
          · rw [decide_eq_true e]; exact wS rfl
      · have : ¬ tLs n b q.1 = txs w := fun e => by
          unfold tLs at e; rw [ls_eq] at e; omega
        rw [hS, decide_eq_false this]; rfl
theorem r_begin (ho : OKt n b) {d : Int} (hdg : dg ≤ 4) (hd : d = (dg : Int)) (hs : Sh M) (hb : CBt n b M) : wp (f_Tape_begin M 49 d) (fun M' => RS n b dg (.inl (0, tks n b dg 0 0)) M' ∧ Fr (fun c x => c = 48 ∧ 2 ≤ x ∧ x ≤ 9) M M') := by
  unfold f_Tape_begin
  rw [show cI 49 = 48 from rfl]
  refine wL (wL (wL (wL (wL ?_))))
  obtain ⟨m, em⟩ : ∃ m, m = mp (mp (mp (mp (mp M 48 2 d) 48 3 0) 48 7 0) 48 8 0) 48 9 (-1) := ⟨_, rfl⟩
  rw [← em]
  have f : Fr (fun c x => c = 48 ∧ 2 ≤ x ∧ x ≤ 9) M m := by
    rw [em]
    exact Fr_wr (Fr_wr (Fr_wr (Fr_wr (Fr_mp ⟨rfl, by omega⟩) ⟨rfl, by omega⟩) ⟨rfl, by omega⟩) ⟨rfl, by omega⟩) ⟨rfl, by omega⟩
  have e2 : mg m 48 2 = (dg : Int) := by rw [em, mg_mp_n (by omega), mg_mp_n (by omega), mg_mp_n (by omega), mg_mp_n (by omega), mg_mp_s, hd]
  have e3 : mg m 48 3 = ((0 : Nat) : Int) := by rw [em, mg_mp_n (by omega), mg_mp_n (by omega), mg_mp_n (by omega), mg_mp_s]; rfl
  have e7 : mg m 48 7 = ((0 : Nat) : Int) := by rw [em, mg_mp_n (by omega), mg_mp_n (by omega), mg_mp_s]; rfl
  have e8 : mg m 48 8 = 0 := by rw [em, mg_mp_n (by omega), mg_mp_s]
  have e9 : mg m 48 9 = -1 := by rw [em, mg_mp_s]
  clear em
  have hT : TB n b dg m := ⟨Sh_fr hs f (fun c x w => by unfold isP; omega), CBt_fr hb f (fun c x w => by omega), e2⟩
  refine wK (b_advance hT ho hdg (Nat.zero_le _) e3 e7 e8 e9 (by omega)) (fun M' hm => wS ⟨⟨hm.2.1, ?_, hm.2.2⟩, Fr_tr f (Fr_sub hm.1 (fun c x w => by unfold WLx at w; omega))⟩)
  show 0 ≤ n ∧ tks n b dg 0 0 ≤ tEn n b 0 ∧ (tTg n b dg 0 ≠ 0 → 1 ≤ tks n b dg 0 0)
  have := t_en (b := b) ho.1 (Nat.zero_le n)
  refine ⟨Nat.zero_le _, ?_, fun e => by unfold tks; rw [if_neg e]; omega⟩
  unfold tks; split
  · omega
  · rename_i hc
    have := this.2.2 (t_n0 hc); omega
def zEnd (n : Nat) (b : Nat → Int) (dg : Nat) (σ : Ts) : Ts := if zK n b dg σ = -1 then σ else zF n b 1 σ
theorem r_finish (h : RS n b dg σ M) : wp (f_Tape_finish M 49) (fun q => (q.1 = match zEnd n b dg σ with | .inl _ => 1 | .inr _ => 0) ∧ mg q.2 48 1 = 0 ∧ (match zEnd n b dg σ with | .inl y => mg q.2 48 7 = (y.2 : Int) ∧ mg q.2 48 8 = 0 ∧ mg q.2 48 9 = -1 | .inr e => mg q.2 48 8 = e.1 ∧ mg q.2 48 9 = e.2) ∧ Fr (fun c x => c = 48 ∧ (x = 1 ∨ 3 ≤ x ∧ x ≤ 9)) M q.2) := by
  have key : ∀ σ m, RS n b dg σ m → Fr WRd M m → wp (j_Tape_finish_13 m 49) (fun q => (q.1 = match σ with | .inl _ => 1 | .inr _ => 0) ∧ mg q.2 48 1 = 0 ∧ (match σ with | .inl y => mg q.2 48 7 = (y.2 : Int) ∧ mg q.2 48 8 = 0 ∧ mg q.2 48 9 = -1 | .inr e => mg q.2 48 8 = e.1 ∧ mg q.2 48 9 = e.2) ∧ Fr (fun c x => c = 48 ∧ (x = 1 ∨ 3 ≤ x ∧ x ≤ 9)) M q.2) := by
    intro σ m h f
    obtain ⟨h1, h2, h3⟩ := h
    have f' : Fr (fun c x => c = 48 ∧ (x = 1 ∨ 3 ≤ x ∧ x ≤ 9)) M (mp m 48 1 0) := Fr_wr (Fr_sub f (fun c x w => by unfold WRd at w; omega)) ⟨rfl, by omega⟩
    unfold j_Tape_finish_13
    rw [show cI 49 = 48 from rfl]
    refine wL ?_
    rw [show mg (mp m 48 1 0) 48 8 = mg m 48 8 from mg_mp_n (by omega)]
    cases σ with
    | inl q =>
      obtain ⟨g3, g4, g5, g6, g6', g7, g8, g9⟩ := h3
      refine wE (by rw [g8]; decide) (wS ⟨rfl, by show mg (mp m 48 1 0) 48 1 = 0; rw [mg_mp_s], ?_, f'⟩)
      show mg (mp m 48 1 0) 48 7 = (q.2 : Int) ∧ mg (mp m 48 1 0) 48 8 = 0 ∧ mg (mp m 48 1 0) 48 9 = -1
      rw [mg_mp_n (by omega), mg_mp_n (by omega), mg_mp_n (by omega)]; exact ⟨g7, g8, g9⟩
    | inr q =>
      have h2' : q.1 = 1 ∨ q.1 = 2 ∨ q.1 = 3 ∨ q.1 = 4 := h2
      have h3' : mg m 48 8 = q.1 ∧ mg m 48 9 = q.2 ∧ mg m 48 4 = -4 := h3
      refine wI (by rw [h3'.1]; omega) (wS ⟨rfl, by show mg (mp m 48 1 0) 48 1 = 0; rw [mg_mp_s], ?_, f'⟩)
      show mg (mp m 48 1 0) 48 8 = q.1 ∧ mg (mp m 48 1 0) 48 9 = q.2
      rw [mg_mp_n (by omega), mg_mp_n (by omega)]; exact ⟨h3'.1, h3'.2.1⟩
  unfold f_Tape_finish zEnd
  rw [show cI 49 = 48 from rfl, RS_k h]
  refine wC (fun c => ?_) (fun c => ?_)
  · rw [if_pos c]; exact key σ M h Fr_rf
  · rw [if_neg c]
    exact wK (r_fail (Or.inl rfl) h) (fun m hm => key _ m hm.1 hm.2)
end RSS
