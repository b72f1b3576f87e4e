/-! the reference's next token -/
noncomputable def v8W (b : Nat → Int) (p : Nat) : Nat → Int
  | 0 => 0
  | j + 1 => if j < 7 then lOr (lShl (v8W b p j) 8) (b (p + j)) else v8W b p j
noncomputable def vDW (b : Nat → Int) (p : Nat) (m : Nat) : Nat → Int
  | 0 => 0
  | j + 1 => if j < m then w32 (w32 (w32 (10 * vDW b p m j) + b (p + j)) - 48) else vDW b p m j
theorem v8W_eq {b : Nat → Int} {p : Nat} : ∀ j, j ≤ 6 → (∀ i, i < j → 97 ≤ b (p + i) ∧ b (p + i) ≤ 122) → v8W b p j = v8B b p j ∧ 0 ≤ v8B b p j ∧ v8B b p j < 256 ^ j
  | 0, _, _ => ⟨rfl, Int.le_refl 0, (by show (0 : Int) < 1; decide)⟩
  | j + 1, hj, hb => by
    obtain ⟨h1, h2, h3⟩ := v8W_eq j (by omega) (fun i hi => hb i (by omega))
    have hbj := hb j (by omega)
    have h5 : v8B b p j < 1099511627776 := by
      have : (256 : Int) ^ j ≤ 256 ^ 5 := by
        have := Nat.pow_le_pow_right (show 0 < 256 by decide) (show j ≤ 5 by omega)
        have h6 : ((256 ^ j : Nat) : Int) ≤ ((256 ^ 5 : Nat) : Int) := by omega
        rw [Int.natCast_pow, Int.natCast_pow] at h6; exact h6
      have e5 : (256 : Int) ^ 5 = 1099511627776 := by decide
      omega
    obtain ⟨x, hx⟩ : ∃ x : Nat, v8B b p j = (x : Int) := ⟨(v8B b p j).toNat, by omega⟩
    obtain ⟨y, hy⟩ : ∃ y : Nat, b (p + j) = (y : Int) := ⟨(b (p + j)).toNat, by omega⟩
    have e4 : v8B b p (j + 1) = v8B b p j * 256 + b (p + j) := rfl
    have e5 : v8W b p (j + 1) = if j < 7 then lOr (lShl (v8W b p j) 8) (b (p + j)) else v8W b p j := rfl
    have e6 : (256 : Int) ^ (j + 1) = 256 ^ j * 256 := Int.pow_succ 256 j
    refine ⟨?_, ?_, ?_⟩
    · rw [e5, if_pos (by omega), h1, hx, hy, lBy8 (by omega) (by omega), e4, hx, hy]; omega
    · rw [e4]; omega
    · rw [e4, e6]; omega
theorem vDW_eq {b : Nat → Int} {p m : Nat} (hm : m ≤ 4) : ∀ j, j ≤ m → (∀ i, i < j → 48 ≤ b (p + i) ∧ b (p + i) ≤ 57) → vDW b p m j = dvB b p j ∧ 0 ≤ dvB b p j ∧ dvB b p j < 10 ^ j
  | 0, _, _ => ⟨rfl, Int.le_refl 0, (by show (0 : Int) < 1; decide)⟩
  | j + 1, hj, hb => by
    obtain ⟨h1, h2, h3⟩ := vDW_eq hm j (by omega) (fun i hi => hb i (by omega))
    have hbj := hb j (by omega)
    have h5 : dvB b p j < 1000 := by
      have : (10 : Int) ^ j ≤ 10 ^ 3 := by
        have := Nat.pow_le_pow_right (show 0 < 10 by decide) (show j ≤ 3 by omega)
        have h6 : ((10 ^ j : Nat) : Int) ≤ ((10 ^ 3 : Nat) : Int) := by omega
        rw [Int.natCast_pow, Int.natCast_pow] at h6; exact h6
      have e5 : (10 : Int) ^ 3 = 1000 := by decide
      omega
    have e4 : dvB b p (j + 1) = dvB b p j * 10 + (b (p + j) - 48) := rfl
    have e5 : vDW b p m (j + 1) = if j < m then w32 (w32 (w32 (10 * vDW b p m j) + b (p + j)) - 48) else vDW b p m j := rfl
    have e6 : (10 : Int) ^ (j + 1) = 10 ^ j * 10 := Int.pow_succ 10 j
    refine ⟨?_, ?_, ?_⟩
    · rw [e5, if_pos (by omega), h1, w32_s (x := 10 * dvB b p j) (by omega) (by omega), w32_s (x := 10 * dvB b p j + b (p + j)) (by omega) (by omega), w32_s (by omega) (by omega), e4]; omega
    · rw [e4]; omega
    · rw [e4, e6]; omega
section MN
variable {n : Nat} {b : Nat → Int} {p : Nat} {M : Mm} {r : Bool}
theorem m_next0 {a1 : Int} (h : TM n b M) (ho : OKt n b) (hp : p ≤ n) (h30 : mg M 79 30 = (p : Int)) : wp (loopN (l_Model_next_0 80 a1) FU M) (fun M' => Fr (fun c x => c = 79 ∧ x = 30) M M' ∧ mg M' 79 30 = (tPl n b p : Int)) := by
  have hn := ho.1
  refine wp_loop (fun j m => Fr (fun c x => c = 79 ∧ x = 30) M m ∧ mg m 79 30 = ((p + j : Nat) : Int) ∧ p + j ≤ n ∧ sc n b isBl p = sc n b isBl (p + j)) n (by omega) ⟨Fr_rf, h30, hp, rfl⟩ ?_
  rintro j m hj ⟨hf, e3, hle, hsc⟩
  have h1 : TM n b m := TM_fr h hf (fun c x w => by unfold isP; omega)
  unfold l_Model_next_0
  rw [m_raw h1 hn e3, Option.bind_some, Option.bind_some]
  have stop : ¬ (p + j < n ∧ isBl (b (p + j)) = true) → Fr (fun c x => c = 79 ∧ x = 30) M m ∧ mg m 79 30 = (tPl n b p : Int) := fun hc => by
    have : sc n b isBl (p + j) = p + j := sc_no hc
    refine ⟨hf, ?_⟩
    rw [e3]; unfold tPl; rw [hsc, this]
  by_cases c : p + j < n
  · have go : isBl (b (p + j)) = true → wp (j_Model_next_18_0 m 80 a1) (Sum.elim (fun m' => j < n ∧ Fr (fun c x => c = 79 ∧ x = 30) M m' ∧ mg m' 79 30 = ((p + (j + 1) : Nat) : Int) ∧ p + (j + 1) ≤ n ∧ sc n b isBl p = sc n b isBl (p + (j + 1))) (fun M' => Fr (fun c x => c = 79 ∧ x = 30) M M' ∧ mg M' 79 30 = (tPl n b p : Int))) := fun hb => by
      unfold j_Model_next_18_0
      rw [show mg m (cI 80) 30 = ((p + j : Nat) : Int) from e3, w32_s (by omega) (by omega)]
      refine wL (wSl ⟨by omega, Fr_wr hf ⟨rfl, rfl⟩, ?_, by omega, ?_⟩)
      · show mg (mp m 79 30 _) 79 30 = _
        rw [mg_mp_s]; omega
      · rw [hsc, sc_yes hn c hb]; rfl
    rw [show rawB n b (p + j) = b (p + j) from if_pos c]
    refine wC (fun c1 => go ?_) (fun c1 => wC (fun c2 => wSr (stop (fun e => ?_))) (fun c2 => go ?_))
    · unfold isBl; rw [decide_eq_true c1]; rfl
    · have := e.2
      unfold isBl at this
      rw [Bool.or_eq_true, decide_eq_true_iff, decide_eq_true_iff] at this
      omega
    · unfold isBl; rw [decide_eq_true (show b (p + j) = 10 by omega)]; simp
  · rw [show rawB n b (p + j) = -1 from if_neg c]
    exact wE (by decide) (wI (by decide) (wSr (stop (fun e => c e.1))))
theorem m_next77 {a1 : Int} {p0 : Nat} (h : TM n b M) (ho : OKt n b) (hp : p0 ≤ n) (h30 : mg M 79 30 = (p0 : Int)) (h34 : mg M 79 34 = 0) : wp (loopN (l_Model_next_77 80 a1) FU (0, M)) (fun q => Fr (fun c x => c = 79 ∧ (x = 30 ∨ x = 34)) M q.2 ∧ mg q.2 79 30 = (sc n b isSm p0 : Int) ∧ mg q.2 79 34 = v8W b p0 (sc n b isSm p0 - p0) ∧ q.1 = ((sc n b isSm p0 - p0 : Nat) : Int)) := by
  have hn := ho.1
  refine wp_loop (fun j s => Fr (fun c x => c = 79 ∧ (x = 30 ∨ x = 34)) M s.2 ∧ mg s.2 79 30 = ((p0 + j : Nat) : Int) ∧ mg s.2 79 34 = v8W b p0 j ∧ p0 + j ≤ n ∧ sc n b isSm p0 = sc n b isSm (p0 + j) ∧ s.1 = (j : Int)) n (by omega) ⟨Fr_rf, h30, h34, hp, rfl, rfl⟩ ?_
  rintro j ⟨i, m⟩ hj ⟨hf, e3, e6, hle, hsc, rfl⟩
  have hf : Fr (fun c x => c = 79 ∧ (x = 30 ∨ x = 34)) M m := hf
  have e3 : mg m 79 30 = ((p0 + j : Nat) : Int) := e3
  have e6 : mg m 79 34 = v8W b p0 j := e6
  have h1 : TM n b m := TM_fr h hf (fun c x w => by unfold isP; omega)
  unfold l_Model_next_77
  simp only []
  rw [m_raw h1 hn e3, Option.bind_some, Option.bind_some, m_small, Option.bind_some]
  by_cases c : p0 + j < n ∧ isSm (b (p0 + j)) = true
  · rw [show rawB n b (p0 + j) = b (p0 + j) from if_pos c.1, c.2, if_pos rfl]
    refine wE (by decide) ?_
    have go : ∀ m2, Fr (fun c x => c = 79 ∧ (x = 30 ∨ x = 34)) M m2 → mg m2 79 30 = ((p0 + j : Nat) : Int) → mg m2 79 34 = v8W b p0 (j + 1) → wp (j_Model_next_111_77 m2 80 a1 (j : Int)) (Sum.elim (fun s' : Int × Mm => j < n ∧ Fr (fun c x => c = 79 ∧ (x = 30 ∨ x = 34)) M s'.2 ∧ mg s'.2 79 30 = ((p0 + (j + 1) : Nat) : Int) ∧ mg s'.2 79 34 = v8W b p0 (j + 1) ∧ p0 + (j + 1) ≤ n ∧ sc n b isSm p0 = sc n b isSm (p0 + (j + 1)) ∧ s'.1 = ((j + 1 : Nat) : Int)) (fun q : Int × Mm => Fr (fun c x => c = 79 ∧ (x = 30 ∨ x = 34)) M q.2 ∧ mg q.2 79 30 = (sc n b isSm p0 : Int) ∧ mg q.2 79 34 = v8W b p0 (sc n b isSm p0 - p0) ∧ q.1 = ((sc n b isSm p0 - p0 : Nat) : Int))) := fun m2 f2 k3 k6 => by
      unfold j_Model_next_111_77
      rw [show mg m2 (cI 80) 30 = ((p0 + j : Nat) : Int) from k3, w32_s (x := (j : Int) + 1) (by omega) (by omega), w32_s (by omega) (by omega)]
      refine wL (wL (wSl ⟨by omega, Fr_wr f2 ⟨rfl, Or.inl rfl⟩, ?_, ?_, by omega, ?_, by show (j : Int) + 1 = _; omega⟩))
      · show mg (mp m2 79 30 _) 79 30 = _
        rw [mg_mp_s]; omega
      · show mg (mp m2 79 30 _) 79 34 = _
        rw [mg_mp_n (by omega)]; exact k6
      · rw [hsc, sc_yes hn c.1 c.2]; rfl
    refine wC (fun c2 => go m hf e3 ?_) (fun c2 => wL (go _ (Fr_wr hf ⟨rfl, Or.inr rfl⟩) ?_ ?_))
    · rw [e6]; show _ = if j < 7 then _ else _
      rw [if_neg (by omega)]
    · show mg (mp m 79 34 _) 79 30 = _
      rw [mg_mp_n (by omega)]; exact e3
    · show mg (mp m 79 34 _) 79 34 = if j < 7 then _ else _
      rw [mg_mp_s, if_pos (by omega), show mg m (cI 80) 34 = v8W b p0 j from e6]
  · have hr : isSm (rawB n b (p0 + j)) = false := by
      unfold rawB
      by_cases c1 : p0 + j < n
      · rw [if_pos c1]
        cases hb : isSm (b (p0 + j)) with
        | false => rfl
        | true => exact absurd ⟨c1, hb⟩ c
      · rw [if_neg c1]; rfl
    rw [hr]
    have : sc n b isSm (p0 + j) = p0 + j := sc_no c
    refine wI (by decide) (wSr ⟨hf, ?_, ?_, ?_⟩)
    · rw [hsc, this]; exact e3
    · rw [hsc, this, show p0 + j - p0 = j by omega]; exact e6
    · rw [hsc, this, show p0 + j - p0 = j by omega]
theorem m_next194 {z : Nat} {p0 : Nat} (h : TM n b M) (ho : OKt n b) (hp : p0 ≤ n) (h30 : mg M 79 30 = (p0 : Int)) (h33 : mg M 79 33 = 0) : wp (loopN (l_Model_next_194 80 (z : Int)) FU (0, M)) (fun q => Fr (fun c x => c = 79 ∧ (x = 30 ∨ x = 33)) M q.2 ∧ mg q.2 79 30 = (sc n b isDg p0 : Int) ∧ mg q.2 79 33 = vDW b p0 z (sc n b isDg p0 - p0) ∧ q.1 = ((sc n b isDg p0 - p0 : Nat) : Int)) := by
  have hn := ho.1
  refine wp_loop (fun j s => Fr (fun c x => c = 79 ∧ (x = 30 ∨ x = 33)) M s.2 ∧ mg s.2 79 30 = ((p0 + j : Nat) : Int) ∧ mg s.2 79 33 = vDW b p0 z j ∧ p0 + j ≤ n ∧ sc n b isDg p0 = sc n b isDg (p0 + j) ∧ s.1 = (j : Int)) n (by omega) ⟨Fr_rf, h30, h33, hp, rfl, rfl⟩ ?_
  rintro j ⟨i, m⟩ hj ⟨hf, e3, e6, hle, hsc, rfl⟩
  have hf : Fr (fun c x => c = 79 ∧ (x = 30 ∨ x = 33)) M m := hf
  have e3 : mg m 79 30 = ((p0 + j : Nat) : Int) := e3
  have e6 : mg m 79 33 = vDW b p0 z j := e6
  have h1 : TM n b m := TM_fr h hf (fun c x w => by unfold isP; omega)
  unfold l_Model_next_194
  simp only []
  rw [m_raw h1 hn e3, Option.bind_some, Option.bind_some, m_digit, Option.bind_some]
  by_cases c : p0 + j < n ∧ isDg (b (p0 + j)) = true
  · rw [show rawB n b (p0 + j) = b (p0 + j) from if_pos c.1, c.2, if_pos rfl]
    refine wE (by decide) ?_
    have go : ∀ m2, Fr (fun c x => c = 79 ∧ (x = 30 ∨ x = 33)) M m2 → mg m2 79 30 = ((p0 + j : Nat) : Int) → mg m2 79 33 = vDW b p0 z (j + 1) → wp (j_Model_next_230_194 m2 80 (j : Int) (z : Int)) (Sum.elim (fun s' : Int × Mm => j < n ∧ Fr (fun c x => c = 79 ∧ (x = 30 ∨ x = 33)) M s'.2 ∧ mg s'.2 79 30 = ((p0 + (j + 1) : Nat) : Int) ∧ mg s'.2 79 33 = vDW b p0 z (j + 1) ∧ p0 + (j + 1) ≤ n ∧ sc n b isDg p0 = sc n b isDg (p0 + (j + 1)) ∧ s'.1 = ((j + 1 : Nat) : Int)) (fun q : Int × Mm => Fr (fun c x => c = 79 ∧ (x = 30 ∨ x = 33)) M q.2 ∧ mg q.2 79 30 = (sc n b isDg p0 : Int) ∧ mg q.2 79 33 = vDW b p0 z (sc n b isDg p0 - p0) ∧ q.1 = ((sc n b isDg p0 - p0 : Nat) : Int))) := fun m2 f2 k3 k6 => by
      unfold j_Model_next_230_194
      rw [show mg m2 (cI 80) 30 = ((p0 + j : Nat) : Int) from k3, w32_s (x := (j : Int) + 1) (by omega) (by omega), w32_s (by omega) (by omega)]
      refine wL (wL (wSl ⟨by omega, Fr_wr f2 ⟨rfl, Or.inl rfl⟩, ?_, ?_, by omega, ?_, by show (j : Int) + 1 = _; omega⟩))
      · show mg (mp m2 79 30 _) 79 30 = _
        rw [mg_mp_s]; omega
      · show mg (mp m2 79 30 _) 79 33 = _
        rw [mg_mp_n (by omega)]; exact k6
      · rw [hsc, sc_yes hn c.1 c.2]; rfl
    refine wC (fun c2 => go m hf e3 ?_) (fun c2 => wL (go _ (Fr_wr hf ⟨rfl, Or.inr rfl⟩) ?_ ?_))
    · rw [e6]; show _ = if j < z then _ else _
      rw [if_neg (by omega)]
    · show mg (mp m 79 33 _) 79 30 = _
      rw [mg_mp_n (by omega)]; exact e3
    · show mg (mp m 79 33 _) 79 33 = if j < z then _ else _
      rw [mg_mp_s, if_pos (by omega), show mg m (cI 80) 33 = vDW b p0 z j from e6]
  · have hr : isDg (rawB n b (p0 + j)) = false := by
      unfold rawB
      by_cases c1 : p0 + j < n
      · rw [if_pos c1]
        cases hb : isDg (b (p0 + j)) with
        | false => rfl
        | true => exact absurd ⟨c1, hb⟩ c
      · rw [if_neg c1]; rfl
    rw [hr]
    have : sc n b isDg (p0 + j) = p0 + j := sc_no c
    refine wI (by decide) (wSr ⟨hf, ?_, ?_, ?_⟩)
    · rw [hsc, this]; exact e3
    · rw [hsc, this, show p0 + j - p0 = j by omega]; exact e6
    · rw [hsc, this, show p0 + j - p0 = j by omega]

theorem LM_mk {M' : Mm} (h30 : mg M' 79 30 = (tEn n b p : Int)) (h31 : mg M' 79 31 = (tPl n b p : Int)) (h32 : mg M' 79 32 = mTk r n b p) (h34 : tTg n b (mD r) p = 2 → mg M' 79 34 = c8 (tLs n b p)) (h33 : tTg n b (mD r) p = 3 → mg M' 79 33 = tVl n b p) (h33' : tTg n b (mD r) p = 4 → mg M' 79 33 = tBy n b p) : LM r n b p M' := ⟨h30, h31, h32, h34, h33, h33'⟩
theorem m_next (h : TM n b M) (ho : OKt n b) (hp : p ≤ n) (h30 : mg M 79 30 = (p : Int)) : wp (f_Model_next M 80 (mR r)) (fun M' => Fr WLm M M' ∧ LM r n b p M') := by
  have hn := ho.1
  have hpn : tPl n b p ≤ n := t_pln hn hp
  unfold f_Model_next
  refine wK (m_next0 h ho hp h30) (fun m hm => ?_)
  obtain ⟨hf0, e30⟩ := hm
  have hf : Fr WLm M m := Fr_sub hf0 (fun c x w => by unfold WLm; omega)
  rw [show cI 80 = 79 from rfl, e30]
  refine wL (wL ?_)
  obtain ⟨m2, em2⟩ : ∃ m2, m2 = mp (mp m 79 31 (tPl n b p : Int)) 79 32 1 := ⟨_, rfl⟩
  rw [← em2]
  have hf2 : Fr WLm M m2 := by rw [em2]; exact Fr_wr (Fr_wr hf ⟨rfl, by omega⟩) ⟨rfl, by omega⟩
  have k30 : mg m2 79 30 = (tPl n b p : Int) := by rw [em2, mg_mp_n (by omega), mg_mp_n (by omega)]; exact e30
  have k31 : mg m2 79 31 = (tPl n b p : Int) := by rw [em2, mg_mp_n (by omega), mg_mp_s]
  have k32 : mg m2 79 32 = 1 := by rw [em2, mg_mp_s]
  clear em2
  have h2 : TM n b m2 := TM_lm h hf2
  rw [m_raw h2 hn k30, Option.bind_some]
  by_cases c : tPl n b p < n
  · rw [show rawB n b (tPl n b p) = b (tPl n b p) from if_pos c]
    obtain ⟨x, hx⟩ : ∃ x, b (tPl n b p) = x := ⟨_, rfl⟩
    have hxb := ho.2 (tPl n b p)
    rw [hx] at hxb ⊢
    refine wI (by omega) ?_
    rw [m_small, Option.bind_some]
    cases hs : isSm x with
    | false =>
      refine wI (by decide) ?_
      rw [m_digit, Option.bind_some]
      cases hd : isDg x with
      | false =>
        have hT : tTg n b (mD r) p = 4 := by unfold tTg; rw [if_neg (by omega), hx, hs, if_neg (by decide), hd, if_neg (by decide)]
        have hE : tEn n b p = tPl n b p + 1 := by unfold tEn; rw [if_neg (by omega), hx, hs, if_neg (by decide), hd, if_neg (by decide)]
        have hB : tBy n b p = x := hx
        have hK : mTk r n b p = if mSg r x = true then 5 else 1 := by unfold mTk; rw [hT, hB]; rfl
        refine wI (by decide) (wL ?_)
        rw [m_isSignOf, Option.bind_some]
        unfold j_Model_next_280
        rw [show cI 80 = 79 from rfl]
        cases hS : mSg r x with
        | false =>
          rw [hS, if_neg (by decide)] at hK
          refine wI (by decide) ?_
          rw [show mg (mp m2 79 33 x) 79 30 = (tPl n b p : Int) by rw [mg_mp_n (by omega)]; exact k30, w32_s (by omega) (by omega)]
          refine wL (wS ⟨Fr_wr (Fr_wr hf2 ⟨rfl, by omega⟩) ⟨rfl, by omega⟩, LM_mk ?_ ?_ ?_ ?_ ?_ ?_⟩)
          · rw [mg_mp_s, hE]; omega
          · rw [mg_mp_n (by omega), mg_mp_n (by omega), k31]
          · rw [mg_mp_n (by omega), mg_mp_n (by omega), k32, hK]
          · intro e; omega
          · intro e; omega
          · intro _; rw [mg_mp_n (by omega), mg_mp_s, hB]
        | true =>
          rw [hS, if_pos rfl] at hK
          refine wE (by decide) (wL ?_)
          rw [show mg (mp (mp m2 79 33 x) 79 32 5) 79 30 = (tPl n b p : Int) by rw [mg_mp_n (by omega), mg_mp_n (by omega)]; exact k30, w32_s (by omega) (by omega)]
          refine wL (wS ⟨Fr_wr (Fr_wr (Fr_wr hf2 ⟨rfl, by omega⟩) ⟨rfl, by omega⟩) ⟨rfl, by omega⟩, LM_mk ?_ ?_ ?_ ?_ ?_ ?_⟩)
          · rw [mg_mp_s, hE]; omega
          · rw [mg_mp_n (by omega), mg_mp_n (by omega), mg_mp_n (by omega), k31]
          · rw [mg_mp_n (by omega), mg_mp_s, hK]
          · intro e; omega
          · intro e; omega
          · intro _; rw [mg_mp_n (by omega), mg_mp_n (by omega), mg_mp_s, hB]
      | true =>
        refine wE (by decide) ?_
        have hE : tEn n b p = sc n b isDg (tPl n b p) := by unfold tEn; rw [if_neg (by omega), hx, hs, if_neg (by decide), hd, if_pos rfl]
        have hT : tTg n b (mD r) p = if sc n b isDg (tPl n b p) - tPl n b p ≤ mD r then 3 else 1 := by unfold tTg; rw [if_neg (by omega), hx, hs, if_neg (by decide), hd, if_pos rfl]
        have hge : tPl n b p ≤ sc n b isDg (tPl n b p) := sc_ge hn
        have key : ∀ z : Nat, z = mD r → wp (j_Model_next_187 m2 80 0 (z : Int)) (fun M' => Fr WLm M M' ∧ LM r n b p M') := fun z hz => by
          unfold j_Model_next_187
          rw [show cI 80 = 79 from rfl]
          have f3 : Fr WLm M (mp m2 79 33 0) := Fr_wr hf2 ⟨rfl, by omega⟩
          refine wL (wK (m_next194 (z := z) (TM_lm h f3) ho hpn (by rw [mg_mp_n (by omega)]; exact k30) (by rw [mg_mp_s])) (fun q hq => ?_))
          obtain ⟨f4, g30, g33, gq⟩ := hq
          have f5 : Fr WLm M q.2 := Fr_tr f3 (Fr_sub f4 (fun c x w => by unfold WLm; omega))
          have g31 : mg q.2 79 31 = (tPl n b p : Int) := by rw [f4.1 79 31 (by omega), mg_mp_n (by omega)]; exact k31
          have g32 : mg q.2 79 32 = 1 := by rw [f4.1 79 32 (by omega), mg_mp_n (by omega)]; exact k32
          rw [gq]
          refine wC (fun c3 => wS ⟨f5, LM_mk ?_ ?_ ?_ ?_ ?_ ?_⟩) (fun c3 => wL (wS ⟨Fr_wr f5 ⟨rfl, by omega⟩, LM_mk ?_ ?_ ?_ ?_ ?_ ?_⟩))
          · rw [g30, hE]
          · exact g31
          · rw [if_neg (by omega)] at hT
            rw [g32]; unfold mTk; rw [hT]; rfl
          · intro e; rw [if_neg (by omega)] at hT; omega
          · intro e; rw [if_neg (by omega)] at hT; omega
          · intro e; rw [if_neg (by omega)] at hT; omega
          · rw [mg_mp_n (by omega), g30, hE]
          · rw [mg_mp_n (by omega), g31]
          · rw [if_pos (by omega)] at hT
            rw [mg_mp_s]; unfold mTk; rw [hT]; rfl
          · intro e; rw [if_pos (by omega)] at hT; omega
          · intro _
            rw [mg_mp_n (by omega), g33]
            unfold tVl; rw [hE]
            have hz4 : z ≤ 4 := by rw [hz]; unfold mD; cases r <;> decide
            refine (vDW_eq hz4 _ (by omega) (fun i hi => ?_)).1
            have := (sc_all (n := n) (b := b) (P := isDg) hn (show tPl n b p ≤ tPl n b p + i by omega) (by omega)).2
            unfold isDg at this
            rw [Bool.and_eq_true, decide_eq_true_iff, decide_eq_true_iff] at this
            exact this
          · intro e; rw [if_pos (by omega)] at hT; omega
        cases r with
        | false => exact wI rfl (key 2 rfl)
        | true => exact wE (by decide) (key 4 rfl)
    | true =>
      refine wE (by decide) ?_
      have hE : tEn n b p = sc n b isSm (tPl n b p) := by unfold tEn; rw [if_neg (by omega), hx, hs, if_pos rfl]
      have hT : tTg n b (mD r) p = if sc n b isSm (tPl n b p) - tPl n b p ≤ 6 then 2 else 1 := by unfold tTg; rw [if_neg (by omega), hx, hs, if_pos rfl]
      have hge : tPl n b p ≤ sc n b isSm (tPl n b p) := sc_ge hn
      have f3 : Fr WLm M (mp m2 79 34 0) := Fr_wr hf2 ⟨rfl, by omega⟩
      refine wL (wK (m_next77 (TM_lm h f3) ho hpn (by rw [mg_mp_n (by omega)]; exact k30) (by rw [mg_mp_s])) (fun q hq => ?_))
      obtain ⟨f4, g30, g34, gq⟩ := hq
      have f5 : Fr WLm M q.2 := Fr_tr f3 (Fr_sub f4 (fun c x w => by unfold WLm; omega))
      have g31 : mg q.2 79 31 = (tPl n b p : Int) := by rw [f4.1 79 31 (by omega), mg_mp_n (by omega)]; exact k31
      have g32 : mg q.2 79 32 = 1 := by rw [f4.1 79 32 (by omega), mg_mp_n (by omega)]; exact k32
      rw [gq]
      unfold j_Model_next_150
      rw [show cI 80 = 79 from rfl]
      refine wC (fun c3 => wI c3 (wS ⟨f5, LM_mk ?_ ?_ ?_ ?_ ?_ ?_⟩)) (fun c3 => ?_)
      · rw [g30, hE]
      · exact g31
      · rw [if_neg (by omega)] at hT
        rw [g32]; unfold mTk; rw [hT]; rfl
      · intro e; rw [if_neg (by omega)] at hT; omega
      · intro e; rw [if_neg (by omega)] at hT; omega
      · intro e; rw [if_neg (by omega)] at hT; omega
      · rw [if_pos (by omega)] at hT
        have hL : mg q.2 79 34 = c8 (tLs n b p) := by
          rw [g34]
          unfold tLs; rw [hE, c8_ls]
          refine (v8W_eq _ (by omega) (fun i hi => ?_)).1
          have := (sc_all (n := n) (b := b) (P := isSm) hn (show tPl n b p ≤ tPl n b p + i by omega) (by omega)).2
          unfold isSm at this
          rw [Bool.and_eq_true, decide_eq_true_iff, decide_eq_true_iff] at this
          exact this
        have hO := (t_2 hn hT).2.2.2.2
        rw [m_isWordOf hO hL, Option.bind_some]
        cases hw : mW r (tLs n b p) with
        | false =>
          refine wI (by decide) (wE c3 ?_)
          cases r with
          | true =>
            refine wI (by decide) (wS ⟨f5, LM_mk (by rw [g30, hE]) g31 ?_ (fun _ => hL) (fun e => by omega) (fun e => by omega)⟩)
            rw [g32]; unfold mTk; rw [hT, hw]; rfl
          | false =>
            refine wE (by decide) (wL (wS ⟨Fr_wr f5 ⟨rfl, by omega⟩, LM_mk ?_ ?_ ?_ ?_ (fun e => by omega) (fun e => by omega)⟩))
            · rw [mg_mp_n (by omega), g30, hE]
            · rw [mg_mp_n (by omega), g31]
            · rw [mg_mp_s]; unfold mTk; rw [hT, hw]; rfl
            · intro _; rw [mg_mp_n (by omega), hL]
        | true =>
          refine wE (by decide) (wL (wS ⟨Fr_wr f5 ⟨rfl, by omega⟩, LM_mk ?_ ?_ ?_ ?_ (fun e => by omega) (fun e => by omega)⟩))
          · rw [mg_mp_n (by omega), g30, hE]
          · rw [mg_mp_n (by omega), g31]
          · rw [mg_mp_s]; unfold mTk; rw [hT, hw]; rfl
          · intro _; rw [mg_mp_n (by omega), hL]
  · have hT : tTg n b (mD r) p = 0 := by unfold tTg; rw [if_pos (by omega)]
    have hE : tEn n b p = tPl n b p := by unfold tEn; rw [if_pos (by omega)]
    rw [show rawB n b (tPl n b p) = -1 from if_neg c]
    refine wE (by decide) (wL (wS ⟨Fr_wr hf2 ⟨rfl, by omega⟩, LM_mk ?_ ?_ ?_ ?_ ?_ ?_⟩))
    · rw [mg_mp_n (by omega), k30, hE]
    · rw [mg_mp_n (by omega), k31]
    · rw [mg_mp_s]; unfold mTk; rw [hT]; rfl
    · intro e; omega
    · intro e; omega
    · intro e; omega
end MN
