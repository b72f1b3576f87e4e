/-! the reference's tokens -/
theorem l64_n {a : Nat} (h : a < 18446744073709551616) : (Int64.ofInt (a : Int)).toBitVec.toNat = a := by
  show (BitVec.ofInt 64 (a : Int)).toNat = a
  rw [BitVec.toNat_ofInt]; omega
theorem int_of_bv64 {x : Int64} {n : Nat} (h : x.toBitVec.toNat = n) (hn : n < 9223372036854775808) : x.toInt = (n : Int) := by
  show x.toBitVec.toInt = (n : Int)
  rw [BitVec.toInt_eq_toNat_of_lt (by omega), h]
theorem sh8 : ((Int32.ofInt 8).toInt64 &&& 63) = 8 := by decide +kernel
theorem lBy8 {x y : Nat} (hx : x < 281474976710656) (hy : y < 256) : lOr (lShl (x : Int) 8) (y : Int) = ((x * 256 + y : Nat) : Int) := by
  rw [lOr_d, lShl_d, sh8, Int64.ofInt_toInt]
  refine int_of_bv64 ?_ (by omega)
  rw [Int64.toBitVec_or, BitVec.toNat_or, Int64.toBitVec_shiftLeft, l64_n (show y < _ by omega)]
  have e1 : ((8 : Int64).toBitVec.smod 64) = 8#64 := by decide +kernel
  rw [e1, BitVec.shiftLeft_eq', BitVec.toNat_shiftLeft, l64_n (show x < _ by omega), Nat.shiftLeft_eq]
  have e2 : x * 2 ^ (8#64).toNat % 2 ^ 64 = 2 ^ 8 * x := by
    rw [show (8#64).toNat = 8 from rfl]; omega
  rw [e2, ← Nat.two_pow_add_eq_or_of_lt (show y < 2 ^ 8 by omega)]
  omega
theorem m_word2 {M : Mm} {z : Int} {a b : Nat} (ha : 0 < a ∧ a < 256) (hb : 0 < b ∧ b < 256) : f_Model_word M z (a : Int) (b : Int) 0 0 0 = some ((a * 256 + b : Nat) : Int) := by
  unfold f_Model_word j_Model_word_11 j_Model_word_25 j_Model_word_39 j_Model_word_55
  simp only [lt]
  rw [if_neg (show ¬ (a : Int) ≤ 0 by omega), if_neg (show ¬ (b : Int) ≤ 0 by omega), lBy8 (by omega) hb.2]; rfl
theorem m_word3 {M : Mm} {z : Int} {a b c : Nat} (ha : 0 < a ∧ a < 256) (hb : 0 < b ∧ b < 256) (hc : 0 < c ∧ c < 256) : f_Model_word M z (a : Int) (b : Int) (c : Int) 0 0 = some (((a * 256 + b) * 256 + c : Nat) : Int) := by
  unfold f_Model_word j_Model_word_11 j_Model_word_25 j_Model_word_39 j_Model_word_55
  simp only [lt]
  rw [if_neg (show ¬ (a : Int) ≤ 0 by omega), if_neg (show ¬ (b : Int) ≤ 0 by omega), lBy8 (by omega) hb.2, if_neg (show ¬ (c : Int) ≤ 0 by omega), lBy8 (by omega) hc.2]; rfl
theorem m_word4 {M : Mm} {z : Int} {a b c d : Nat} (ha : 0 < a ∧ a < 256) (hb : 0 < b ∧ b < 256) (hc : 0 < c ∧ c < 256) (hd : 0 < d ∧ d < 256) : f_Model_word M z (a : Int) (b : Int) (c : Int) (d : Int) 0 = some ((((a * 256 + b) * 256 + c) * 256 + d : Nat) : Int) := by
  unfold f_Model_word j_Model_word_11 j_Model_word_25 j_Model_word_39 j_Model_word_55
  simp only [lt]
  rw [if_neg (show ¬ (a : Int) ≤ 0 by omega), if_neg (show ¬ (b : Int) ≤ 0 by omega), lBy8 (by omega) hb.2, if_neg (show ¬ (c : Int) ≤ 0 by omega), lBy8 (by omega) hc.2, if_neg (show ¬ (d : Int) ≤ 0 by omega), lBy8 (by omega) hd.2]; rfl
theorem m_word5 {M : Mm} {z : Int} {a b c d e : Nat} (ha : 0 < a ∧ a < 256) (hb : 0 < b ∧ b < 256) (hc : 0 < c ∧ c < 256) (hd : 0 < d ∧ d < 256) (he : 0 < e ∧ e < 256) : f_Model_word M z (a : Int) (b : Int) (c : Int) (d : Int) (e : Int) = some (((((a * 256 + b) * 256 + c) * 256 + d) * 256 + e : Nat) : Int) := by
  unfold f_Model_word j_Model_word_11 j_Model_word_25 j_Model_word_39 j_Model_word_55
  simp only [lt]
  rw [if_neg (show ¬ (a : Int) ≤ 0 by omega), if_neg (show ¬ (b : Int) ≤ 0 by omega), lBy8 (by omega) hb.2, if_neg (show ¬ (c : Int) ≤ 0 by omega), lBy8 (by omega) hc.2, if_neg (show ¬ (d : Int) ≤ 0 by omega), lBy8 (by omega) hd.2, if_neg (show ¬ (e : Int) ≤ 0 by omega), lBy8 (by omega) he.2]
section MW
variable {M : Mm} {z : Int}
theorem m_w0 : f_Model_word M z 112 105 101 99 101 = some (c8 (txs 0)) := (m_word5 (a := 112) (b := 105) (c := 101) (d := 99) (e := 101) (by decide) (by decide) (by decide) (by decide) (by decide)).trans (by decide)
theorem m_w1 : f_Model_word M z 109 117 115 116 0 = some (c8 (txs 1)) := (m_word4 (a := 109) (b := 117) (c := 115) (d := 116) (by decide) (by decide) (by decide) (by decide)).trans (by decide)
theorem m_w2 : f_Model_word M z 109 97 121 0 0 = some (c8 (txs 2)) := (m_word3 (a := 109) (b := 97) (c := 121) (by decide) (by decide) (by decide)).trans (by decide)
theorem m_w3 : f_Model_word M z 111 114 0 0 0 = some (c8 (txs 3)) := (m_word2 (a := 111) (b := 114) (by decide) (by decide)).trans (by decide)
theorem m_w4 : f_Model_word M z 97 103 101 0 0 = some (c8 (txs 4)) := (m_word3 (a := 97) (b := 103) (c := 101) (by decide) (by decide) (by decide)).trans (by decide)
theorem m_w5 : f_Model_word M z 100 97 121 115 0 = some (c8 (txs 5)) := (m_word4 (a := 100) (b := 97) (c := 121) (d := 115) (by decide) (by decide) (by decide) (by decide)).trans (by decide)
theorem m_w6 : f_Model_word M z 112 97 115 116 0 = some (c8 (txs 6)) := (m_word4 (a := 112) (b := 97) (c := 115) (d := 116) (by decide) (by decide) (by decide) (by decide)).trans (by decide)
theorem m_w7 : f_Model_word M z 111 117 116 0 0 = some (c8 (txs 7)) := (m_word3 (a := 111) (b := 117) (c := 116) (by decide) (by decide) (by decide)).trans (by decide)
theorem m_w8 : f_Model_word M z 100 97 121 0 0 = some (c8 (txs 8)) := (m_word3 (a := 100) (b := 97) (c := 121) (by decide) (by decide) (by decide)).trans (by decide)
end MW
def mW (r : Bool) (l : List Int) : Bool := if r then decide (l = txs 4 ∨ l = txs 5 ∨ l = txs 6 ∨ l = txs 7 ∨ l = txs 8) else decide (l = txs 0 ∨ l = txs 1 ∨ l = txs 2 ∨ l = txs 3)
def mSg (r : Bool) (x : Int) : Bool := if r then decide (x = 124 ∨ x = 38 ∨ x = 33 ∨ x = 40 ∨ x = 41 ∨ x = 60 ∨ x = 61 ∨ x = 62 ∨ x = 43 ∨ x = 45) else decide (x = 58 ∨ x = 44 ∨ x = 59)
def mD (r : Bool) : Nat := if r then 4 else 2
def mR (r : Bool) : Int := if r then 1 else 0
/-- the reference's kind of token -/
def mTk (r : Bool) (n : Nat) (b : Nat → Int) (p : Nat) : Int := if tTg n b (mD r) p = 0 then 0 else if tTg n b (mD r) p = 1 then 1 else if tTg n b (mD r) p = 2 then (if mW r (tLs n b p) then 2 else if r then 1 else 3) else if tTg n b (mD r) p = 3 then 4 else if mSg r (tBy n b p) then 5 else 1
def TM (n : Nat) (b : Nat → Int) (M : Mm) : Prop := Sh M ∧ CMt n b M
def LM (r : Bool) (n : Nat) (b : Nat → Int) (p : Nat) (M : Mm) : Prop := mg M 79 30 = (tEn n b p : Int) ∧ mg M 79 31 = (tPl n b p : Int) ∧ mg M 79 32 = mTk r n b p ∧ (tTg n b (mD r) p = 2 → mg M 79 34 = c8 (tLs n b p)) ∧ (tTg n b (mD r) p = 3 → mg M 79 33 = tVl n b p) ∧ (tTg n b (mD r) p = 4 → mg M 79 33 = tBy n b p)
def WLm (c x : Nat) : Prop := c = 79 ∧ 30 ≤ x ∧ x ≤ 34
theorem TM_fr {n : Nat} {b : Nat → Int} {W : Nat → Nat → Prop} {M M' : Mm} (h : TM n b M) (f : Fr W M M') (hw : ∀ c x, W c x → ¬ isP c x ∧ ¬ (c = 79 ∧ x = 29) ∧ c ≠ 102) : TM n b M' := ⟨Sh_fr h.1 f (fun c x w => (hw c x w).1), CMt_fr h.2 f (fun c x w => (hw c x w).2)⟩
theorem TM_lm {n : Nat} {b : Nat → Int} {M M' : Mm} (h : TM n b M) (f : Fr WLm M M') : TM n b M' := TM_fr h f (fun c x w => by unfold WLm at w; unfold isP; omega)
theorem okn_txs (w : Nat) : OKn (txs w) := by
  rcases Nat.lt_or_ge w 9 with h | h
  · have : ∀ w : Fin 9, OKn (txs w) := by unfold OKn; decide
    exact this ⟨w, h⟩
  · have : txs w = [] := by unfold txs; rw [List.getD_eq_getElem?_getD, List.getElem?_eq_none (by exact h)]; rfl
    rw [this]; exact ⟨Nat.zero_le _, fun x hx => by cases hx⟩
theorem c8_eq {l : List Int} (h : OKn l) (w : Nat) : c8 l = c8 (txs w) ↔ l = txs w := ⟨fun e => c8_inj h.2 (okn_txs w).2 e, fun e => by rw [e]⟩
theorem m_isWordOf {M : Mm} {l : List Int} {r : Bool} (h : OKn l) (hl : mg M 79 34 = c8 l) : f_Model_isWordOf M 80 (mR r) = some (if mW r l = true then 1 else 0) := by
  unfold f_Model_isWordOf
  rw [show cI 80 = 79 from rfl, hl, m_w0, m_w1, m_w2, m_w3, m_w4, m_w5, m_w6, m_w7, m_w8]
  simp only [Option.bind_some, c8_eq h, ne_eq]
  cases r with
  | false =>
    rw [if_pos (show mR false = 0 from rfl)]
    unfold mW
    by_cases c0 : l = txs 0
    · rw [if_pos c0]; simp [c0]
    rw [if_neg c0]
    by_cases c1 : l = txs 1
    · rw [if_pos c1]; simp [c1]
    rw [if_neg c1]
    by_cases c2 : l = txs 2
    · rw [if_pos c2]; simp [c2]
    rw [if_neg c2]
    by_cases c3 : l = txs 3
    · rw [if_neg (fun e => e c3)]; simp [c3]
    · rw [if_pos c3]; simp [c0, c1, c2, c3]
  | true =>
    rw [if_neg (show ¬ mR true = 0 by decide)]
    unfold mW
    by_cases c0 : l = txs 4
    · rw [if_pos c0]; simp [c0]
    rw [if_neg c0]
    by_cases c1 : l = txs 5
    · rw [if_pos c1]; simp [c1]
    rw [if_neg c1]
    by_cases c2 : l = txs 6
    · rw [if_pos c2]; simp [c2]
    rw [if_neg c2]
    by_cases c3 : l = txs 7
    · rw [if_pos c3]; simp [c3]
    rw [if_neg c3]
    by_cases c4 : l = txs 8
    · rw [if_neg (fun e => e c4)]; simp [c4]
    · rw [if_pos c4]; simp [c0, c1, c2, c3, c4]
theorem m_isSignOf {M : Mm} {x : Int} {r : Bool} : f_Model_isSignOf M 80 x (mR r) = some (if mSg r x = true then 1 else 0) := by
  unfold f_Model_isSignOf mSg
  cases r with
  | false =>
    rw [if_pos (show mR false = 0 from rfl)]
    by_cases c0 : x = 58
    · rw [if_pos c0]; simp [c0]
    rw [if_neg c0]
    by_cases c1 : x = 44
    · rw [if_pos c1]; simp [c1]
    rw [if_neg c1]
    by_cases c2 : x = 59
    · rw [if_neg (fun e => e c2)]; simp [c2]
    · rw [if_pos c2]; simp [c0, c1, c2]
  | true =>
    rw [if_neg (show ¬ mR true = 0 by decide)]
    by_cases c0 : x = 124
    · rw [if_pos c0]; simp [c0]
    rw [if_neg c0]
    by_cases c1 : x = 38
    · rw [if_pos c1]; simp [c1]
    rw [if_neg c1]
    by_cases c2 : x = 33
    · rw [if_pos c2]; simp [c2]
    rw [if_neg c2]
    by_cases c3 : x = 40
    · rw [if_pos c3]; simp [c3]
    rw [if_neg c3]
    by_cases c4 : x = 41
    · rw [if_pos c4]; simp [c4]
    rw [if_neg c4]
    by_cases c5' : x = 60
    · rw [if_pos c5']; simp [c5']
    rw [if_neg c5']
    by_cases c6 : x = 61
    · rw [if_pos c6]; simp [c6]
    rw [if_neg c6]
    by_cases c7 : x = 62
    · rw [if_pos c7]; simp [c7]
    rw [if_neg c7]
    by_cases c8' : x = 43
    · rw [if_pos c8']; simp [c8']
    rw [if_neg c8']
    by_cases c9 : x = 45
    · rw [if_neg (fun e => e c9)]; simp [c9]
    · rw [if_pos c9]; simp [c0, c1, c2, c3, c4, c5', c6, c7, c8', c9]
theorem m_small {M : Mm} {x : Int} : f_Model_isSmall M 80 x = some (if isSm x = true then 1 else 0) := by
  unfold f_Model_isSmall
  by_cases c1 : x < 97
  · rw [if_pos c1, isSm_f (by omega)]; rfl
  rw [if_neg c1]
  by_cases c2 : 122 < x
  · rw [if_pos c2, isSm_f (by omega)]; rfl
  rw [if_neg c2, isSm_t (by omega) (by omega)]; rfl
theorem m_digit {M : Mm} {x : Int} : f_Model_isDigit M 80 x = some (if isDg x = true then 1 else 0) := by
  unfold f_Model_isDigit
  by_cases c1 : x < 48
  · rw [if_pos c1, isDg_f (by omega)]; rfl
  rw [if_neg c1]
  by_cases c2 : 57 < x
  · rw [if_pos c2, isDg_f (by omega)]; rfl
  rw [if_neg c2, isDg_t (by omega) (by omega)]; rfl
def rawB (n : Nat) (b : Nat → Int) (p : Nat) : Int := if p < n then b p else -1
theorem m_raw {n : Nat} {b : Nat → Int} {p : Nat} {M : Mm} (h : TM n b M) (hn : n ≤ 800) (h30 : mg M 79 30 = (p : Int)) : f_Model_raw M 80 = some (rawB n b p) := by
  unfold f_Model_raw rawB
  rw [show cI 80 = 79 from rfl, h.2.1, h30, p_79_28 h.1, show cI 103 = 102 from rfl, n_102 h.1, Int.toNat_natCast]
  by_cases c : p < n
  · rw [if_neg (by omega), if_pos (by decide), if_pos (by omega), if_pos c, h.2.2 p c]
  · rw [if_pos (by omega), if_neg c]
