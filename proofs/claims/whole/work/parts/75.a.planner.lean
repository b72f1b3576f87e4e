/-! the class's planner: what it reads -/
def FAR : Int := 9223372036854775807
/-- q choices, their numbers, minutes, lips, keys; where the row of the best lies -/
def PQ (q bc : Nat) (num : Nat → Nat) (mi li ke : Nat → Int) (M : Mm) : Prop := Sh M ∧ mg M 72 7 = (q : Int) ∧ mg M 72 8 = (bc : Int) + 1 ∧ (bc = 78 ∨ 109 ≤ bc) ∧ 2 ^ q * q ≤ ml M bc ∧ ∀ c, c < q → mg M 74 c = (num c : Int) ∧ mg M 75 c = mi c ∧ mg M 76 c = li c ∧ mg M 77 c = ke c
/-- the choices' data are in range -/
def QO (q : Nat) (num : Nat → Nat) (mi li ke : Nat → Int) : Prop := q ≤ 10 ∧ ∀ c, c < q → num c < 10 ∧ (1 ≤ mi c ∧ mi c ≤ 60) ∧ (0 ≤ li c ∧ li c ≤ 9) ∧ (0 ≤ ke c ∧ ke c ≤ 11)
theorem imin_far {x : Int} (h : x ≤ FAR) : imin x FAR = x := by unfold imin FAR at *; split <;> omega
/-- the least of some, FAR without one -/
def cmM (f : Nat → Int) : Nat → Int
  | 0 => FAR
  | c + 1 => imin (cmM f c) (f c)
theorem cmM_le (f : Nat → Int) : ∀ n, cmM f n ≤ FAR ∧ ∀ c, c < n → cmM f n ≤ f c
  | 0 => ⟨Int.le_refl _, fun c h => absurd h (Nat.not_lt_zero c)⟩
  | n + 1 => by
    obtain ⟨h1, h2⟩ := cmM_le f n
    show imin (cmM f n) (f n) ≤ FAR ∧ ∀ c, c < n + 1 → imin (cmM f n) (f n) ≤ f c
    unfold imin
    split
    · refine ⟨by omega, fun c hc => ?_⟩
      by_cases e : c = n
      · subst e; exact Int.le_refl _
      · have := h2 c (by omega); omega
    · refine ⟨h1, fun c hc => ?_⟩
      by_cases e : c = n
      · subst e; omega
      · exact h2 c (by omega)
theorem cmM_at (f : Nat → Int) : ∀ n, cmM f n ≠ FAR → ∃ c, c < n ∧ f c = cmM f n
  | 0, h => absurd rfl h
  | n + 1, h => by
    have e : cmM f (n + 1) = imin (cmM f n) (f n) := rfl
    rw [e] at h ⊢
    unfold imin at h ⊢
    split
    · exact ⟨n, by omega, rfl⟩
    · rename_i hc
      rw [if_neg hc] at h
      obtain ⟨c, c1, c2⟩ := cmM_at f n h
      exact ⟨c, by omega, c2⟩
/-- a set without one of it -/
def wo (s l : Nat) : Nat := s ^^^ (s &&& 2 ^ l)
theorem wo_tb (s l p : Nat) : (wo s l).testBit p = (s.testBit p && !decide (l = p)) := tb_not
theorem wo_lt {s l : Nat} (h : s.testBit l = true) : wo s l < s := by
  have h1 : wo s l ||| 2 ^ l = s := Nat.eq_of_testBit_eq (fun i => by
    rw [tb_or, wo_tb]
    by_cases e : l = i
    · subst e; rw [h]; simp
    · simp [e])
  have h2 : (wo s l).testBit l = false := by rw [wo_tb]; simp
  have := or_gt h2
  rw [h1] at this; exact this
theorem wo_or {s l : Nat} (h : s.testBit l = true) : wo s l ||| 2 ^ l = s := Nat.eq_of_testBit_eq (fun i => by
  rw [tb_or, wo_tb]
  by_cases e : l = i
  · subst e; rw [h]; simp
  · simp [e])
theorem or_wo {s l : Nat} (h : s.testBit l = false) : wo (s ||| 2 ^ l) l = s := Nat.eq_of_testBit_eq (fun i => by
  rw [wo_tb, tb_or]
  by_cases e : l = i
  · subst e; rw [h]; simp
  · simp [e])
def rdB (q bc : Nat) (M : Mm) (s l : Nat) : Int := mg M bc (s * q + l)
/-- a choice behind a set's row -/
def cmF (num : Nat → Nat) (li ke : Nat → Int) (MO : Int) (Bt : Nat → Nat → Int) (rest last c : Nat) : Int := if rest.testBit c && decide (li c + li last ≤ MO) && decide (Bt rest c ≠ FAR) then Bt rest c + kgp ke c last * 10000000000 + (num last : Int) * dq (pcn rest) else FAR
def BV (q : Nat) (num : Nat → Nat) (mi li ke : Nat → Int) (MO WH : Int) (Bt : Nat → Nat → Int) (s l : Nat) : Int := if mS mi q s ≤ WH ∧ s.testBit l = true then (if wo s l = 0 then (num l : Int) * dq (pcn (wo s l)) else cmM (cmF num li ke MO Bt (wo s l) l) q) else FAR
theorem tb_or_dec (s l p : Nat) : (s ||| 2 ^ l).testBit p = (s.testBit p || decide (p = l)) := by rw [tb_or, show decide (l = p) = decide (p = l) from decide_eq_decide.mpr ⟨Eq.symm, Eq.symm⟩]
section PLA
variable {q bc : Nat} {num : Nat → Nat} {mi li ke : Nat → Int} {M : Mm} {MO WH : Int}
theorem q_mul (hq : q ≤ 10) {s l : Nat} (hs : s < 2 ^ q) (hl : l < q) : s * q + l < 2 ^ q * q ∧ s * q + l < 10240 := by
  have h1 : 2 ^ q ≤ 1024 := pow_m hq
  have h2 : (s + 1) * q ≤ 2 ^ q * q := Nat.mul_le_mul_right q (by omega)
  have h3 : 2 ^ q * q ≤ 1024 * 10 := Nat.mul_le_mul h1 hq
  rw [Nat.add_mul] at h2
  omega
theorem b_minutesOf (h : PQ q bc num mi li ke M) (ho : QO q num mi li ke) {s : Nat} (hs : s < 1024) : f_Planner_minutesOf M 73 (s : Int) = some (mS mi q s) := by
  obtain ⟨hsh, h7, _, _, _, hr⟩ := h
  obtain ⟨hq, hd⟩ := ho
  unfold f_Planner_minutesOf
  refine xb (loop_for (fun j => (mS mi j s, (j : Int))) q (t := mS mi q s) (by omega) rfl (fun j hj => ?_) ?_) rfl
  · have e1 : w32 ((j : Int) + 1) = ((j + 1 : Nat) : Int) := by rw [w32_s (by omega) (by omega)]; omega
    have hb := mS_b (mi := mi) (N := j) (fun k hk => by have := (hd k (by omega)).2.1; omega) s
    have hb2 := (hd j hj).2.1
    have e2 : w32 (mS mi j s + mi j) = mS mi j s + mi j := w32_s (by omega) (by omega)
    unfold l_Planner_minutesOf_4
    simp only [lt, e1]
    rw [show mg M (cI 73) 7 = (q : Int) from h7, if_neg (by omega), bit_n (show s < 2147483648 by omega) (show j < 32 by omega), show mg M (cI 73) 4 = 76 from p_72_4 hsh, show cI 76 = 75 from rfl, n_75 hsh, Int.toNat_natCast, (hr j hj).2.1, e2]
    have e3 : mS mi (j + 1) s = mS mi j s + (if s.testBit j then mi j else 0) := rfl
    rw [e3]
    cases s.testBit j with
    | false => rw [if_pos (by rfl)]; simp
    | true => rw [if_neg (by decide), if_pos (by decide), if_pos (by omega)]; rfl
  · unfold l_Planner_minutesOf_4
    simp only []
    rw [show mg M (cI 73) 7 = (q : Int) from h7, if_pos (by omega)]
theorem b_keyGap (h : PQ q bc num mi li ke M) (ho : QO q num mi li ke) {a b : Nat} (ha : a < q) (hb : b < q) : f_Planner_keyGap M 73 (a : Int) (b : Int) = some (kgp ke a b) := by
  obtain ⟨hsh, h7, _, _, _, hr⟩ := h
  obtain ⟨hq, hd⟩ := ho
  have k1 := (hd a ha).2.2.2
  have k2 := (hd b hb).2.2.2
  unfold f_Planner_keyGap
  rw [show mg M (cI 73) 6 = 78 from p_72_6 hsh, show cI 78 = 77 from rfl, n_77 hsh, Int.toNat_natCast, Int.toNat_natCast, (hr a ha).2.2.2, (hr b hb).2.2.2, if_pos (by decide), if_pos (by omega), if_pos (by omega), w32_s (x := ke a - ke b) (by omega) (by omega)]
  simp only [lt]
  congr 1
  unfold kgp iabs imin
  by_cases c : ke b ≤ ke a
  · rw [if_pos (show 0 ≤ ke a - ke b by omega), w32_s (x := 12 - (ke a - ke b)) (by omega) (by omega), if_pos c]
    by_cases c2 : ke a - ke b ≤ 6
    · rw [if_pos c2, if_neg (by omega)]
    · rw [if_neg c2, if_pos (by omega)]
  · rw [if_neg (show ¬ 0 ≤ ke a - ke b by omega), w32_s (x := 0 - (ke a - ke b)) (by omega) (by omega), w32_s (x := 12 - (0 - (ke a - ke b))) (by omega) (by omega), if_neg c]
    by_cases c2 : ke b - ke a ≤ 6
    · rw [if_pos c2, if_neg (by omega)]; omega
    · rw [if_neg c2, if_pos (by omega)]; omega
/-- what the row of the best may hold -/
def BtB (q : Nat) (Bt : Nat → Nat → Int) (S : Nat) : Prop := ∀ s l, 1 ≤ s → s < S → l < q → Bt s l = FAR ∨ (0 ≤ Bt s l ∧ Bt s l ≤ 100000000000 * (pcn s : Int))
theorem pcn_14 (x : Nat) : pcn x ≤ 14 := cnt_le _ _
theorem b_bestEnding (h : PQ q bc num mi li ke M) (ho : QO q num mi li ke) {s l : Nat} (hs : s < 2 ^ q) (hl : l < q) (hsl : s.testBit l = true) (hB : BtB q (rdB q bc M) s) : f_Planner_bestEndingWith M 73 (s : Int) (l : Int) MO = some (if wo s l = 0 then (num l : Int) * dq (pcn (wo s l)) else cmM (cmF num li ke MO (rdB q bc M) (wo s l) l) q) := by
  obtain ⟨hq, hd⟩ := ho
  have hqm := pow_m hq
  have hP := h
  obtain ⟨hsh, h7, h8, hbc, hlen, hr⟩ := h
  have h2l : (2 ^ l : Nat) < 2 ^ q := two_lt hl
  have hwl := wo_lt hsl
  have hp10 : pcn (wo s l) < 10 := by
    have := pcn_10 (show s < 1024 by omega)
    have h3 : pcn s = pcn (wo s l) + 1 := by
      have h4 : (wo s l).testBit l = false := by rw [wo_tb]; simp
      have h5 := cnt_ad (g := (wo s l).testBit) (show l < 14 by omega) h4
      unfold pcn
      rw [← h5]
      exact cnt_cg 14 (fun p _ => by
        rw [← tb_or_dec (wo s l) l p, wo_or hsl])
    omega
  have hdp := dq_p (pcn (wo s l)) hp10
  have hnum := (hd l hl).1
  have hdig : 0 ≤ (num l : Int) * dq (pcn (wo s l)) ∧ (num l : Int) * dq (pcn (wo s l)) ≤ 9000000000 := by
    have h1 : (num l : Int) * dq (pcn (wo s l)) ≤ 9 * dq (pcn (wo s l)) := Int.mul_le_mul_of_nonneg_right (by omega) (by omega)
    have h2 : 0 ≤ (num l : Int) * dq (pcn (wo s l)) := Int.mul_nonneg (by omega) (by omega)
    omega
  unfold f_Planner_bestEndingWith
  simp only [lt]
  rw [bShl_1 l (by omega), bNot_n (show s < 2147483648 by omega) (show 2 ^ l < 2147483648 by omega), show s ^^^ (s &&& 2 ^ l) = wo s l from rfl, show mg M (cI 73) 3 = 75 from p_72_3 hsh, show cI 75 = 74 from rfl, n_74 hsh, if_pos (by decide), if_pos (by omega), b_bitCount M (show wo s l < 16384 by omega), Option.bind_some, if_pos (by omega), Int.toNat_natCast, Int.toNat_natCast, (hr l hl).1, show dg2.getD (pcn (wo s l)) 0 = dq (pcn (wo s l)) from rfl, w64_s (x := (num l : Int) * dq (pcn (wo s l))) (by omega) (by omega)]
  by_cases c0 : wo s l = 0
  · rw [if_neg (by omega), if_pos c0]
  rw [if_pos (by omega), if_neg c0]
  refine xb (loop_for (fun j => (cmM (cmF num li ke MO (rdB q bc M) (wo s l) l) j, (j : Int))) q (t := cmM (cmF num li ke MO (rdB q bc M) (wo s l) l) q) (by omega) rfl (fun j hj => ?_) ?_) rfl
  · have e1 : w32 ((j : Int) + 1) = ((j + 1 : Nat) : Int) := by rw [w32_s (by omega) (by omega)]; omega
    have hle := (cmM_le (cmF num li ke MO (rdB q bc M) (wo s l) l) j).1
    have st1 : cmM (cmF num li ke MO (rdB q bc M) (wo s l) l) (j + 1) = imin (cmM (cmF num li ke MO (rdB q bc M) (wo s l) l) j) (cmF num li ke MO (rdB q bc M) (wo s l) l j) := rfl
    have b1 := (hd j hj).2.2.1
    have b2 := (hd l hl).2.2.1
    have w1 : w32 (li j + li l) = li j + li l := w32_s (by omega) (by omega)
    have hmul := q_mul hq (show wo s l < 2 ^ q by omega) hj
    have w2 : w32 ((wo s l : Int) * (q : Int)) = ((wo s l * q : Nat) : Int) := by rw [← Int.natCast_mul, w32_s (by omega) (by omega)]
    have w3 : w32 (((wo s l * q : Nat) : Int) + (j : Int)) = ((wo s l * q + j : Nat) : Int) := by rw [← Int.natCast_add, w32_s (by omega) (by omega)]
    unfold l_Planner_bestEndingWith_44
    simp only [lt, e1]
    rw [show mg M (cI 73) 7 = (q : Int) from h7, if_neg (by omega), bit_n (show wo s l < 2147483648 by omega) (show j < 32 by omega), show mg M (cI 73) 5 = 77 from p_72_5 hsh, show cI 77 = 76 from rfl, n_76 hsh, Int.toNat_natCast, Int.toNat_natCast, (hr j hj).2.2.1, (hr l hl).2.2.1, w1, show mg M (cI 73) 8 = (bc : Int) + 1 from h8, cI_s, w2, w3, Int.toNat_natCast, show mg M bc (wo s l * q + j) = rdB q bc M (wo s l) j from rfl]
    cases eb : (wo s l).testBit j with
    | false =>
      have e2 : cmF num li ke MO (rdB q bc M) (wo s l) l j = FAR := by unfold cmF; rw [eb]; rfl
      rw [if_pos (by rfl), st1, e2, imin_far hle]
    | true =>
      rw [if_neg (by decide), if_pos (by decide), if_pos (by omega), if_pos (by omega)]
      by_cases c1 : li j + li l ≤ MO
      · rw [if_pos c1, if_pos (by omega), if_pos (by omega)]
        by_cases c2 : rdB q bc M (wo s l) j = FAR
        · have e2 : cmF num li ke MO (rdB q bc M) (wo s l) l j = FAR := by
            unfold cmF; rw [if_neg]; simp [c2]
          rw [if_pos (show rdB q bc M (wo s l) j = 9223372036854775807 from c2), st1, e2, imin_far hle]
        · have hbb := (hB (wo s l) j (by omega) hwl hj).resolve_left c2
          have hp14 := pcn_14 (wo s l)
          have hkg := kgp_b (m := q) (KE := ke) (fun k hk => (hd k hk).2.2.2) hj hl
          have e2 : cmF num li ke MO (rdB q bc M) (wo s l) l j = rdB q bc M (wo s l) j + kgp ke j l * 10000000000 + (num l : Int) * dq (pcn (wo s l)) := by
            unfold cmF; rw [eb, decide_eq_true c1, decide_eq_true c2]; rfl
          rw [if_neg (show ¬ rdB q bc M (wo s l) j = 9223372036854775807 from c2), b_keyGap hP ⟨hq, hd⟩ hj hl, Option.bind_some, w64_s (x := kgp ke j l * 10000000000) (by omega) (by omega), w64_s (x := rdB q bc M (wo s l) j + kgp ke j l * 10000000000) (by omega) (by omega), w64_s (x := rdB q bc M (wo s l) j + kgp ke j l * 10000000000 + (num l : Int) * dq (pcn (wo s l))) (by omega) (by omega), st1, e2]
      · have e2 : cmF num li ke MO (rdB q bc M) (wo s l) l j = FAR := by
          unfold cmF; rw [if_neg]; simp [c1]
        rw [if_neg c1, st1, e2, imin_far hle]
  · unfold l_Planner_bestEndingWith_44
    simp only []
    rw [show mg M (cI 73) 7 = (q : Int) from h7, if_pos (by omega)]
end PLA
