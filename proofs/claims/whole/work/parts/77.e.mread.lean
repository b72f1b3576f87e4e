/-! the reference reads a PIECE -/
def RM (r : Bool) (n : Nat) (b : Nat → Int) (p : Nat) (M : Mm) : Prop := TM n b M ∧ p ≤ n ∧ LM r n b p M
def FM (n : Nat) (b : Nat → Int) (e : Int × Int) (M : Mm) : Prop := TM n b M ∧ mg M 79 35 = e.1 ∧ mg M 79 36 = e.2
def flM (n : Nat) (b : Nat → Int) (k : Int) (p : Nat) (M : Mm) : Mm := mp (mp M 79 35 k) 79 36 (tPl n b p : Int)
def ROt (r : Bool) (n : Nat) (b : Nat → Int) (σ : Ts) (q : Int × Mm) : Prop := match σ with
  | .inl p => q.1 = 1 ∧ RM r n b p.1 q.2
  | .inr e => q.1 = 0 ∧ FM n b e q.2
section MR
variable {r : Bool} {n : Nat} {b : Nat → Int} {p tk k : Nat} {M : Mm} {D : PcD}
theorem RM_fr {W : Nat → Nat → Prop} {M' : Mm} (h : RM r n b p M) (f : Fr W M M') (hw : ∀ c x, W c x → ¬ isP c x ∧ ¬ (c = 79 ∧ 29 ≤ x ∧ x ≤ 34) ∧ c ≠ 102) : RM r n b p M' := by
  obtain ⟨h1, h2, h3⟩ := h
  refine ⟨TM_fr h1 f (fun c x w => ⟨(hw c x w).1, fun e => (hw c x w).2.1 (by omega), (hw c x w).2.2⟩), h2, ?_⟩
  have e : ∀ x, 29 ≤ x → x ≤ 34 → mg M' 79 x = mg M 79 x := fun x a1 a2 => f.1 79 x (fun w => (hw _ _ w).2.1 ⟨rfl, a1, a2⟩)
  unfold LM at h3 ⊢
  rw [e 30 (by omega) (by omega), e 31 (by omega) (by omega), e 32 (by omega) (by omega), e 33 (by omega) (by omega), e 34 (by omega) (by omega)]
  exact h3
theorem n_next (ho : OKt n b) (h : RM r n b p M) {a : Int} (ha : a = mR r) : wp (f_Model_next M 80 a) (fun M' => RM r n b (tEn n b p) M' ∧ Fr WLm M M') := by
  have he := (t_en (b := b) ho.1 h.2.1).2.1
  rw [ha]
  exact wM (m_next h.1 ho he h.2.2.1) (fun M' hm => ⟨⟨TM_lm h.1 hm.1, he, hm.2⟩, hm.1⟩)
theorem n_fails (h : RM r n b p M) (w : Int) : f_Model_fails M 80 w = some (0, flM n b w p M) := by
  unfold f_Model_fails flM
  simp only [lt]
  rw [show cI 80 = 79 from rfl, show mg (mp M 79 35 w) 79 31 = (tPl n b p : Int) by rw [mg_mp_n (by omega)]; exact h.2.2.2.1]
def WFl (c x : Nat) : Prop := c = 79 ∧ (x = 35 ∨ x = 36)
theorem fl_fr {w : Int} : Fr WFl M (flM n b w p M) := Fr_wr (Fr_mp ⟨rfl, Or.inl rfl⟩) ⟨rfl, Or.inr rfl⟩
theorem fl_ok (h : TM n b M) {w : Int} : FM n b (w, (tPl n b p : Int)) (flM n b w p M) := ⟨TM_fr h fl_fr (fun c x w => by unfold WFl at w; unfold isP; omega), by unfold flM; rw [mg_mp_n (by omega), mg_mp_s], by unfold flM; rw [mg_mp_s]⟩
theorem mTk_2 : mTk false n b p = 2 ↔ tTg n b 2 p = 2 ∧ mW false (tLs n b p) = true := by
  have h4 := tTg_le (n := n) (b := b) (dg := 2) (p := p)
  unfold mTk mD
  simp only [Bool.false_eq_true, if_false]
  constructor
  · intro e
    split at e
    · omega
    · split at e
      · omega
      · split at e
        · rename_i h2
          split at e
          · rename_i h3; exact ⟨h2, h3⟩
          · omega
        · split at e
          · omega
          · split at e <;> omega
  · rintro ⟨e1, e2⟩; rw [e1, e2]; rfl
theorem mTk_3 : mTk false n b p = 3 ↔ tTg n b 2 p = 2 ∧ mW false (tLs n b p) = false := by
  have h4 := tTg_le (n := n) (b := b) (dg := 2) (p := p)
  unfold mTk mD
  simp only [Bool.false_eq_true, if_false]
  constructor
  · intro e
    split at e
    · omega
    · split at e
      · omega
      · split at e
        · rename_i h2
          split at e
          · omega
          · rename_i h3; exact ⟨h2, by revert h3; cases mW false (tLs n b p) <;> decide⟩
        · split at e
          · omega
          · split at e <;> omega
  · rintro ⟨e1, e2⟩; rw [e1, e2]; rfl
theorem mTk_4 : mTk r n b p = 4 ↔ tTg n b (mD r) p = 3 := by
  unfold mTk
  constructor
  · intro e
    split at e
    · omega
    · split at e
      · omega
      · split at e
        · split at e
          · omega
          · split at e <;> omega
        · split at e
          · assumption
          · split at e <;> omega
  · intro e1; rw [e1]; rfl
theorem mTk_5 : mTk r n b p = 5 ↔ tTg n b (mD r) p = 4 ∧ mSg r (tBy n b p) = true := by
  have h4 := tTg_le (n := n) (b := b) (dg := mD r) (p := p)
  unfold mTk
  constructor
  · intro e
    split at e
    · omega
    · split at e
      · omega
      · split at e
        · split at e
          · omega
          · split at e <;> omega
        · split at e
          · omega
          · split at e
            · rename_i h3; exact ⟨by omega, h3⟩
            · omega
  · rintro ⟨e1, e2⟩; rw [e1, e2]; rfl
theorem mTk_0 : mTk r n b p = 0 ↔ tTg n b (mD r) p = 0 := by
  unfold mTk
  constructor
  · intro e
    split at e
    · assumption
    · split at e
      · omega
      · split at e
        · split at e
          · omega
          · split at e <;> omega
        · split at e
          · omega
          · split at e <;> omega
  · intro e1; rw [e1]; rfl
theorem n_isWord (ho : OKt n b) (h : RM false n b p M) {w : Nat} (hw : w < 4) {a1 a2 a3 a4 a5 : Int} (ha : f_Model_word M 80 a1 a2 a3 a4 a5 = some (c8 (txs w))) : f_Model_isWord M 80 a1 a2 a3 a4 a5 = some (if zW n b 2 (txs w) (.inl (p, tk)) = true then 1 else 0) := by
  unfold f_Model_isWord
  rw [show cI 80 = 79 from rfl, show mg M 79 32 = mTk false n b p from h.2.2.2.2.1, ha, Option.bind_some]
  have hz : zW n b 2 (txs w) (.inl (p, tk)) = (decide (tTg n b 2 p = 2) && decide (tLs n b p = txs w)) := rfl
  rw [hz]
  by_cases c : mTk false n b p = 2
  · have c' := mTk_2.mp c
    have hO := (t_2 ho.1 c'.1).2.2.2.2
    rw [if_neg (fun e => e c), show mg M 79 34 = c8 (tLs n b p) from h.2.2.2.2.2.1 c'.1, decide_eq_true c'.1]
    by_cases c2 : tLs n b p = txs w
    · rw [if_neg (fun e => e (by rw [c2])), decide_eq_true c2]; rfl
    · rw [if_pos (fun e => c2 ((c8_eq hO w).mp e)), decide_eq_false c2]; rfl
  · rw [if_pos c]
    have : (decide (tTg n b 2 p = 2) && decide (tLs n b p = txs w)) = false := by
      by_cases c1 : tTg n b 2 p = 2
      · by_cases c2 : tLs n b p = txs w
        · refine absurd (mTk_2.mpr ⟨c1, ?_⟩) c
          rw [c2]
          have : ∀ w : Fin 4, mW false (txs w) = true := by decide
          exact this ⟨w, hw⟩
        · rw [decide_eq_false c2, Bool.and_false]
      · rw [decide_eq_false c1, Bool.false_and]
    rw [this]; rfl
theorem n_isSign (h : RM r n b p M) {s : Int} (hs : mSg r s = true) (hs0 : 0 ≤ s) : f_Model_isSign M 80 s = some (if zK n b (mD r) (.inl (p, tk)) = s then 1 else 0) := by
  unfold f_Model_isSign
  rw [show cI 80 = 79 from rfl, show mg M 79 32 = mTk r n b p from h.2.2.2.2.1]
  have hz : zK n b (mD r) (.inl (p, tk)) = ckd n b (mD r) p := rfl
  rw [hz]
  by_cases c : mTk r n b p = 5
  · have c' := mTk_5.mp c
    rw [if_neg (fun e => e c), show mg M 79 33 = tBy n b p from h.2.2.2.2.2.2.2 c'.1]
    by_cases c2 : tBy n b p = s
    · rw [if_neg (fun e => e c2), if_pos ((ckd_by hs0).mpr ⟨c'.1, c2⟩)]
    · rw [if_pos c2, if_neg (fun e => c2 ((ckd_by hs0).mp e).2)]
  · rw [if_pos c, if_neg (fun e => ?_)]
    have e' := (ckd_by hs0).mp e
    exact c (mTk_5.mpr ⟨e'.1, by rw [e'.2]; exact hs⟩)
theorem n_takes (h : RM r n b p M) {lo hi : Int} : f_Model_takes M 80 lo hi = some (if tTg n b (mD r) p = 3 then (if lo ≤ tVl n b p ∧ tVl n b p ≤ hi then (1, M) else (0, flM n b 3 p M)) else (0, flM n b 1 p M)) := by
  unfold f_Model_takes j_Model_takes_30
  rw [show cI 80 = 79 from rfl, show mg M 79 32 = mTk r n b p from h.2.2.2.2.1, n_fails h, n_fails h, Option.bind_some, Option.bind_some]
  by_cases c : tTg n b (mD r) p = 3
  · rw [if_pos (mTk_4.mpr c), if_pos c, show mg M 79 33 = tVl n b p from h.2.2.2.2.2.2.1 c]
    by_cases c1 : tVl n b p < lo
    · rw [if_pos c1, if_neg (show ¬ (lo ≤ tVl n b p ∧ tVl n b p ≤ hi) by omega), if_pos rfl]
    · rw [if_neg c1]
      by_cases c2 : tVl n b p ≤ hi
      · rw [if_pos c2, if_pos (show lo ≤ tVl n b p ∧ tVl n b p ≤ hi by omega)]
      · rw [if_neg c2, if_neg (show ¬ (lo ≤ tVl n b p ∧ tVl n b p ≤ hi) by omega), if_pos rfl]
  · rw [if_neg (fun e => c (mTk_4.mp e)), if_neg c]
/-- a number, as the two say it -/
theorem zNum_v (ho : OKt n b) {lo hi : Int} : zNum n b lo hi (.inl (p, tk)) = if tTg n b 2 p = 3 then (if lo ≤ tVl n b p ∧ tVl n b p ≤ hi then .inl (tEn n b p, tks n b 2 (tEn n b p) tk) else .inr (3, (tPl n b p : Int))) else .inr (1, (tPl n b p : Int)) := by
  unfold zNum
  have hz : zK n b 2 (.inl (p, tk)) = ckd n b 2 p := rfl
  rw [hz]
  by_cases c : tTg n b 2 p = 3
  · rw [if_pos ((ckd_m2 ho).mpr c), if_pos c]
    show zN n b 2 (if lo ≤ tVl n b p ∧ tVl n b p ≤ hi then _ else _) = _
    split <;> rfl
  · rw [if_neg (fun e => c ((ckd_m2 ho).mp e)), if_neg c]; rfl
theorem spIns_v (ho : OKt n b) : spIns n b (.inl (p, tk), D) = (if tTg n b 2 p = 3 then (if (0 ≤ tVl n b p ∧ tVl n b p ≤ 9) ∧ hasW D (tVl n b p) = false then .inl (tEn n b p, tks n b 2 (tEn n b p) tk) else .inr (3, (tPl n b p : Int))) else .inr (1, (tPl n b p : Int)), dIns D (tVl n b p).toNat) := by
  unfold spIns
  refine Prod.ext ?_ rfl
  show zNum n b 0 9 (if ckd n b 2 p = -2 ∧ hasW D (tVl n b p) = true then _ else _) = _
  by_cases c : tTg n b 2 p = 3
  · rw [if_pos c]
    cases hw : hasW D (tVl n b p) with
    | true =>
      rw [if_pos ⟨(ckd_m2 ho).mpr c, rfl⟩, if_neg (fun e => absurd e.2 (by decide))]
      show zNum n b 0 9 (.inr _) = _
      exact zNum_inr (fun h => h)
    | false =>
      rw [if_neg (fun e => absurd e.2 (by decide)), zNum_v ho, if_pos c]
      by_cases c2 : 0 ≤ tVl n b p ∧ tVl n b p ≤ 9
      · rw [if_pos c2, if_pos ⟨c2, rfl⟩]
      · rw [if_neg c2, if_neg (fun e => c2 e.1)]
  · rw [if_neg (fun e => c ((ckd_m2 ho).mp e.1)), if_neg c, zNum_v ho, if_neg c]
end MR
