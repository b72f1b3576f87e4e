/-! the class's tape: token by token -/
theorem bShl_n {a p : Nat} (hp : p < 32) (h : a * 2 ^ p < 2147483648) : bShl (a : Int) (p : Int) = ((a * 2 ^ p : Nat) : Int) := by
  rw [bShl_d, i32_nI, pk_shlN _ p (sh_k p hp) (by omega), nI_toInt]
  omega
def ckd (n : Nat) (b : Nat → Int) (dg p : Nat) : Int := if tTg n b dg p = 0 then -1 else if tTg n b dg p = 1 then -4 else if tTg n b dg p = 2 then -3 else if tTg n b dg p = 3 then -2 else tBy n b p
/-- the TAPE as the class's reader has it -/
def TB (n : Nat) (b : Nat → Int) (dg : Nat) (M : Mm) : Prop := Sh M ∧ CBt n b M ∧ mg M 48 2 = (dg : Int)
/-- the reader stands at the token of p; tk tokens so far -/
def LX (n : Nat) (b : Nat → Int) (dg p tk : Nat) (M : Mm) : Prop := mg M 48 3 = (tEn n b p : Int) ∧ mg M 48 4 = ckd n b dg p ∧ mg M 48 5 = (tPl n b p : Int) ∧ (tTg n b dg p = 2 → mg M 48 6 = c5 (tLs n b p)) ∧ (tTg n b dg p = 3 → mg M 48 6 = tVl n b p) ∧ mg M 48 7 = (tk : Int) ∧ mg M 48 8 = 0 ∧ mg M 48 9 = -1
def WLx (c x : Nat) : Prop := c = 48 ∧ 3 ≤ x ∧ x ≤ 7
theorem TB_fr {n : Nat} {b : Nat → Int} {dg : Nat} {W : Nat → Nat → Prop} {M M' : Mm} (h : TB n b dg M) (f : Fr W M M') (hw : ∀ c x, W c x → ¬ isP c x ∧ ¬ (c = 48 ∧ x ≤ 2) ∧ c ≠ 49) : TB n b dg M' := ⟨Sh_fr h.1 f (fun c x w => (hw c x w).1), CBt_fr h.2.1 f (fun c x w => ⟨fun e => (hw c x w).2.1 (by omega), (hw c x w).2.2⟩), (f.1 48 2 (fun w => (hw _ _ w).2.1 (by omega))).trans h.2.2⟩
theorem TB_lx {n : Nat} {b : Nat → Int} {dg : Nat} {M M' : Mm} (h : TB n b dg M) (f : Fr WLx M M') : TB n b dg M' := TB_fr h f (fun c x w => by unfold WLx at w; unfold isP; omega)
theorem LX_fr {n : Nat} {b : Nat → Int} {dg p tk : Nat} {W : Nat → Nat → Prop} {M M' : Mm} (h : LX n b dg p tk M) (f : Fr W M M') (hw : ∀ c x, W c x → ¬ (c = 48 ∧ 3 ≤ x ∧ x ≤ 9)) : LX n b dg p tk M' := by
  have e : ∀ x, 3 ≤ x → x ≤ 9 → mg M' 48 x = mg M 48 x := fun x a1 a2 => f.1 48 x (fun w => hw 48 x w ⟨rfl, a1, a2⟩)
  unfold LX at h ⊢
  rw [e 3 (by omega) (by omega), e 4 (by omega) (by omega), e 5 (by omega) (by omega), e 6 (by omega) (by omega), e 7 (by omega) (by omega), e 8 (by omega) (by omega), e 9 (by omega) (by omega)]
  exact h
noncomputable def vW5 (b : Nat → Int) (p : Nat) : Nat → Int
  | 0 => 0
  | j + 1 => bOr (bShl (vW5 b p j) 5) (bAnd (b (p + j)) 31)
noncomputable def vWd (b : Nat → Int) (p : Nat) : Nat → Int
  | 0 => 0
  | j + 1 => w32 (w32 (w32 (vWd b p j * 10) + b (p + j)) - 48)
theorem vW5_eq {b : Nat → Int} {p : Nat} : ∀ j, j ≤ 6 → (∀ i, i < j → 97 ≤ b (p + i) ∧ b (p + i) ≤ 122) → vW5 b p j = v5B b p j ∧ 0 ≤ v5B b p j ∧ v5B b p j < 32 ^ j
  | 0, _, _ => ⟨rfl, Int.le_refl 0, (by show (0 : Int) < 1; decide)⟩
  | j + 1, hj, hb => by
    obtain ⟨h1, h2, h3⟩ := vW5_eq j (by omega) (fun i hi => hb i (by omega))
    have hbj := hb j (by omega)
    have h5 : v5B b p j < 33554432 := by
      have : (32 : Int) ^ j ≤ 32 ^ 5 := by
        have := Nat.pow_le_pow_right (show 0 < 32 by decide) (show j ≤ 5 by omega)
        have h6 : ((32 ^ j : Nat) : Int) ≤ ((32 ^ 5 : Nat) : Int) := by omega
        rw [Int.natCast_pow, Int.natCast_pow] at h6; exact h6
      have e5 : (32 : Int) ^ 5 = 33554432 := by decide
      omega
    obtain ⟨x, hx⟩ : ∃ x : Nat, v5B b p j = (x : Int) := ⟨(v5B b p j).toNat, by omega⟩
    obtain ⟨y, hy⟩ : ∃ y : Nat, b (p + j) = (y : Int) := ⟨(b (p + j)).toNat, by omega⟩
    have e1 : bAnd (y : Int) 31 = ((y - 96 : Nat) : Int) := by
      have := bAnd_n (a := y) (b := 31) (by omega) (by omega)
      rw [show ((31 : Nat) : Int) = 31 from rfl] at this
      rw [this]
      have h7 : y &&& 31 = y % 32 := Nat.and_two_pow_sub_one_eq_mod y 5
      rw [h7]; omega
    have e2 : bShl (x : Int) 5 = ((x * 32 : Nat) : Int) := by
      have := bShl_n (a := x) (p := 5) (by omega) (by omega)
      rw [show ((5 : Nat) : Int) = 5 from rfl] at this
      rw [this]
    have e3 : bOr ((x * 32 : Nat) : Int) ((y - 96 : Nat) : Int) = ((x * 32 + (y - 96) : Nat) : Int) := by
      rw [bOr_n (by omega) (by omega)]
      have h8 := Nat.two_pow_add_eq_or_of_lt (i := 5) (show y - 96 < 2 ^ 5 by omega) x
      rw [show 2 ^ 5 * x = x * 32 by omega] at h8
      rw [← h8]
    have e4 : v5B b p (j + 1) = v5B b p j * 32 + (b (p + j) - 96) := rfl
    have e5 : vW5 b p (j + 1) = bOr (bShl (vW5 b p j) 5) (bAnd (b (p + j)) 31) := rfl
    have e6 : (32 : Int) ^ (j + 1) = 32 ^ j * 32 := Int.pow_succ 32 j
    refine ⟨?_, ?_, ?_⟩
    · rw [e5, h1, hx, hy, e1, e2, e3, e4, hx, hy]; omega
    · rw [e4]; omega
    · rw [e4, e6]; omega
theorem vWd_eq {b : Nat → Int} {p : Nat} : ∀ j, j ≤ 4 → (∀ i, i < j → 48 ≤ b (p + i) ∧ b (p + i) ≤ 57) → vWd b p j = dvB b p j ∧ 0 ≤ dvB b p j ∧ dvB b p j < 10 ^ j
  | 0, _, _ => ⟨rfl, Int.le_refl 0, (by show (0 : Int) < 1; decide)⟩
  | j + 1, hj, hb => by
    obtain ⟨h1, h2, h3⟩ := vWd_eq j (by omega) (fun i hi => hb i (by omega))
    have hbj := hb j (by omega)
    have h5 : dvB b p j < 1000 := by
      have : (10 : Int) ^ j ≤ 10 ^ 3 := by
        have := Nat.pow_le_pow_right (show 0 < 10 by decide) (show j ≤ 3 by omega)
        have h6 : ((10 ^ j : Nat) : Int) ≤ ((10 ^ 3 : Nat) : Int) := by omega
        rw [Int.natCast_pow, Int.natCast_pow] at h6; exact h6
      have e5 : (10 : Int) ^ 3 = 1000 := by decide
      omega
    have e4 : dvB b p (j + 1) = dvB b p j * 10 + (b (p + j) - 48) := rfl
    have e5 : vWd b p (j + 1) = w32 (w32 (w32 (vWd b p j * 10) + b (p + j)) - 48) := rfl
    have e6 : (10 : Int) ^ (j + 1) = 10 ^ j * 10 := Int.pow_succ 10 j
    refine ⟨?_, ?_, ?_⟩
    · rw [e5, h1, w32_s (x := dvB b p j * 10) (by omega) (by omega), w32_s (x := dvB b p j * 10 + b (p + j)) (by omega) (by omega), w32_s (by omega) (by omega), e4]; omega
    · rw [e4]; omega
    · rw [e4, e6]; omega
section TB2
variable {n : Nat} {b : Nat → Int} {dg p tk : Nat} {M : Mm}
theorem b_adv8 (h : TB n b dg M) (hn : n ≤ 800) (hp : p ≤ n) (h3 : mg M 48 3 = (p : Int)) : wp (loopN (l_Tape_advance_8 49) FU M) (fun M' => Fr (fun c x => c = 48 ∧ x = 3) M M' ∧ mg M' 48 3 = (tPl n b p : Int)) := by
  refine wp_loop (fun j m => Fr (fun c x => c = 48 ∧ x = 3) M m ∧ mg m 48 3 = ((p + j : Nat) : Int) ∧ p + j ≤ n ∧ sc n b isBl p = sc n b isBl (p + j)) n (by omega) ⟨Fr_rf, h3, hp, rfl⟩ ?_
  rintro j m hj ⟨hf, e3, hle, hsc⟩
  have h1 : TB n b dg m := TB_fr h hf (fun c x w => by unfold isP; omega)
  unfold l_Tape_advance_8
  rw [show mg m (cI 49) 1 = (n : Int) from h1.2.1.1, show mg m (cI 49) 3 = ((p + j : Nat) : Int) from e3]
  refine wC (fun c => wSr ⟨hf, ?_⟩) (fun c => ?_)
  · rw [e3]
    have : sc n b isBl (p + j) = p + j := sc_no (by omega)
    unfold tPl; rw [hsc, this]
  have hlt : p + j < n := by omega
  rw [show mg m (cI 49) 0 = 50 from p_48_0 h1.1, show cI 50 = 49 from rfl, n_49 h1.1, Int.toNat_natCast, h1.2.1.2 (p + j) hlt]
  have go : isBl (b (p + j)) = true → wp (j_Tape_advance_47_8 m 49) (Sum.elim (fun m' => j < n ∧ Fr (fun c x => c = 48 ∧ x = 3) M m' ∧ mg m' 48 3 = ((p + (j + 1) : Nat) : Int) ∧ p + (j + 1) ≤ n ∧ sc n b isBl p = sc n b isBl (p + (j + 1))) (fun M' => Fr (fun c x => c = 48 ∧ x = 3) M M' ∧ mg M' 48 3 = (tPl n b p : Int))) := fun hb => by
    unfold j_Tape_advance_47_8
    rw [show mg m (cI 49) 3 = ((p + j : Nat) : Int) from e3, w32_s (by omega) (by omega)]
    refine wL (wSl ⟨by omega, Fr_wr hf ⟨rfl, rfl⟩, ?_, by omega, ?_⟩)
    · show mg (mp m 48 3 _) 48 3 = _
      rw [mg_mp_s]; omega
    · rw [hsc, sc_yes hn hlt hb]; rfl
  refine wI (by decide) (wI (by omega) (wC (fun c1 => go ?_) (fun c1 => wC (fun c2 => wSr ⟨hf, ?_⟩) (fun c2 => go ?_))))
  · unfold isBl; rw [decide_eq_true c1]; rfl
  · rw [e3]
    have : sc n b isBl (p + j) = p + j := sc_no (fun e => by
      have := e.2
      unfold isBl at this
      rw [Bool.or_eq_true, decide_eq_true_iff, decide_eq_true_iff] at this
      omega)
    unfold tPl; rw [hsc, this]
  · unfold isBl; rw [decide_eq_true (show b (p + j) = 10 by omega)]; simp
theorem b_adv138 (h : TB n b dg M) (hn : n ≤ 800) {p0 : Nat} (hp : p0 ≤ n) (h3 : mg M 48 3 = (p0 : Int)) (h6 : mg M 48 6 = 0) : wp (loopN (l_Tape_advance_138 49) FU M) (fun M' => Fr (fun c x => c = 48 ∧ (x = 3 ∨ x = 6)) M M' ∧ mg M' 48 3 = (sc n b isSm p0 : Int) ∧ mg M' 48 6 = vW5 b p0 (sc n b isSm p0 - p0)) := by
  refine wp_loop (fun j m => Fr (fun c x => c = 48 ∧ (x = 3 ∨ x = 6)) M m ∧ mg m 48 3 = ((p0 + j : Nat) : Int) ∧ mg m 48 6 = vW5 b p0 j ∧ p0 + j ≤ n ∧ sc n b isSm p0 = sc n b isSm (p0 + j)) n (by omega) ⟨Fr_rf, h3, h6, hp, rfl⟩ ?_
  rintro j m hj ⟨hf, e3, e6, hle, hsc⟩
  have h1 : TB n b dg m := TB_fr h hf (fun c x w => by unfold isP; omega)
  have stop : ¬ (p0 + j < n ∧ isSm (b (p0 + j)) = true) → Fr (fun c x => c = 48 ∧ (x = 3 ∨ x = 6)) M m ∧ mg m 48 3 = (sc n b isSm p0 : Int) ∧ mg m 48 6 = vW5 b p0 (sc n b isSm p0 - p0) := fun hc => by
    have : sc n b isSm (p0 + j) = p0 + j := sc_no hc
    rw [hsc, this]
    exact ⟨hf, e3, by rw [e6]; congr 1; omega⟩
  unfold l_Tape_advance_138
  rw [show mg m (cI 49) 1 = (n : Int) from h1.2.1.1, show mg m (cI 49) 3 = ((p0 + j : Nat) : Int) from e3]
  refine wC (fun c => wSr (stop (by omega))) (fun c => ?_)
  have hlt : p0 + j < n := by omega
  rw [show mg m (cI 49) 0 = 50 from p_48_0 h1.1, show cI 50 = 49 from rfl, n_49 h1.1, Int.toNat_natCast, h1.2.1.2 (p0 + j) hlt]
  refine wI (by decide) (wI (by omega) (wC (fun c1 => wSr (stop (fun e => ?_))) (fun c1 => wC (fun c2 => wSr (stop (fun e => ?_))) (fun c2 => ?_))))
  · have := e.2
    unfold isSm at this
    rw [Bool.and_eq_true, decide_eq_true_iff, decide_eq_true_iff] at this
    omega
  · have := e.2
    unfold isSm at this
    rw [Bool.and_eq_true, decide_eq_true_iff, decide_eq_true_iff] at this
    omega
  · have hb : isSm (b (p0 + j)) = true := by unfold isSm; rw [decide_eq_true (show 97 ≤ b (p0 + j) by omega), decide_eq_true (show b (p0 + j) ≤ 122 by omega)]; rfl
    rw [show mg m (cI 49) 6 = vW5 b p0 j from e6, show cI 49 = 48 from rfl]
    refine wL ?_
    rw [show mg (mp m 48 6 (bOr (bShl (vW5 b p0 j) 5) (bAnd (b (p0 + j)) 31))) 48 3 = ((p0 + j : Nat) : Int) by rw [mg_mp_n (by omega)]; exact e3, w32_s (by omega) (by omega)]
    refine wL (wSl ⟨by omega, Fr_wr (Fr_wr hf ⟨rfl, Or.inr rfl⟩) ⟨rfl, Or.inl rfl⟩, ?_, ?_, by omega, ?_⟩)
    · rw [mg_mp_s]; omega
    · rw [mg_mp_n (by omega), mg_mp_s]; rfl
    · rw [hsc, sc_yes hn hlt hb]; rfl
theorem b_adv259 (h : TB n b dg M) (hn : n ≤ 800) {p0 : Nat} (hp : p0 ≤ n) (h3 : mg M 48 3 = (p0 : Int)) (h6 : mg M 48 6 = 0) : wp (loopN (l_Tape_advance_259 49) FU M) (fun M' => Fr (fun c x => c = 48 ∧ (x = 3 ∨ x = 6)) M M' ∧ mg M' 48 3 = (sc n b isDg p0 : Int) ∧ mg M' 48 6 = vWd b p0 (sc n b isDg p0 - p0)) := by
  refine wp_loop (fun j m => Fr (fun c x => c = 48 ∧ (x = 3 ∨ x = 6)) M m ∧ mg m 48 3 = ((p0 + j : Nat) : Int) ∧ mg m 48 6 = vWd b p0 j ∧ p0 + j ≤ n ∧ sc n b isDg p0 = sc n b isDg (p0 + j)) n (by omega) ⟨Fr_rf, h3, h6, hp, rfl⟩ ?_
  rintro j m hj ⟨hf, e3, e6, hle, hsc⟩
  have h1 : TB n b dg m := TB_fr h hf (fun c x w => by unfold isP; omega)
  have stop : ¬ (p0 + j < n ∧ isDg (b (p0 + j)) = true) → Fr (fun c x => c = 48 ∧ (x = 3 ∨ x = 6)) M m ∧ mg m 48 3 = (sc n b isDg p0 : Int) ∧ mg m 48 6 = vWd b p0 (sc n b isDg p0 - p0) := fun hc => by
    have : sc n b isDg (p0 + j) = p0 + j := sc_no hc
    rw [hsc, this]
    exact ⟨hf, e3, by rw [e6]; congr 1; omega⟩
  unfold l_Tape_advance_259
  rw [show mg m (cI 49) 1 = (n : Int) from h1.2.1.1, show mg m (cI 49) 3 = ((p0 + j : Nat) : Int) from e3]
  refine wC (fun c => wSr (stop (by omega))) (fun c => ?_)
  have hlt : p0 + j < n := by omega
  rw [show mg m (cI 49) 0 = 50 from p_48_0 h1.1, show cI 50 = 49 from rfl, n_49 h1.1, Int.toNat_natCast, h1.2.1.2 (p0 + j) hlt]
  refine wI (by decide) (wI (by omega) (wC (fun c1 => wSr (stop (fun e => ?_))) (fun c1 => wC (fun c2 => wSr (stop (fun e => ?_))) (fun c2 => ?_))))
  · have := e.2
    unfold isDg at this
    rw [Bool.and_eq_true, decide_eq_true_iff, decide_eq_true_iff] at this
    omega
  · have := e.2
    unfold isDg at this
    rw [Bool.and_eq_true, decide_eq_true_iff, decide_eq_true_iff] at this
    omega
  · have hb : isDg (b (p0 + j)) = true := by unfold isDg; rw [decide_eq_true (show 48 ≤ b (p0 + j) by omega), decide_eq_true (show b (p0 + j) ≤ 57 by omega)]; rfl
    rw [show mg m (cI 49) 6 = vWd b p0 j from e6, show cI 49 = 48 from rfl]
    refine wL ?_
    rw [show mg (mp m 48 6 (w32 (w32 (w32 (vWd b p0 j * 10) + b (p0 + j)) - 48))) 48 3 = ((p0 + j : Nat) : Int) by rw [mg_mp_n (by omega)]; exact e3, w32_s (x := ((p0 + j : Nat) : Int) + 1) (by omega) (by omega)]
    refine wL (wSl ⟨by omega, Fr_wr (Fr_wr hf ⟨rfl, Or.inr rfl⟩) ⟨rfl, Or.inl rfl⟩, ?_, ?_, by omega, ?_⟩)
    · rw [mg_mp_s]; omega
    · rw [mg_mp_n (by omega), mg_mp_s]; rfl
    · rw [hsc, sc_yes hn hlt hb]; rfl
end TB2
