/-! quotients -/
theorem iDiv_n {a b : Int} (ha : 0 ≤ a) (ha2 : a < 2147483648) (hb : 0 < b) (hb2 : b < 2147483648) : iDiv a b = a / b := by
  have oa : ok32 a := ⟨by omega, ha2⟩
  have ob : ok32 b := ⟨by omega, hb2⟩
  rw [iDiv_d, Int32.toInt_div_of_ne_right _ _ (fun e => ?_), i32_c oa, i32_c ob, Int.tdiv_eq_ediv_of_nonneg ha]
  have e2 : (Int32.ofInt b).toInt = -1 := by rw [e]; decide
  rw [i32_c ob] at e2; omega
theorem iRem_n {a b : Int} (ha : 0 ≤ a) (ha2 : a < 2147483648) (hb : 0 < b) (hb2 : b < 2147483648) : iRem a b = a % b := by
  have hq : 0 ≤ a / b := Int.ediv_nonneg ha (by omega)
  have hq2 : a / b ≤ a := Int.ediv_le_self b ha
  have e1 : Int32.ofInt a / Int32.ofInt b = Int32.ofInt (a / b) := by
    apply Int32.toInt_inj.mp
    have := iDiv_n ha ha2 hb hb2
    rw [iDiv_d] at this
    rw [this, i32_c ⟨by omega, by omega⟩]
  have h3 : a - a / b * b = a % b := by rw [Int.emod_def, Int.mul_comm]
  have h4 := Int.emod_nonneg a (show b ≠ 0 by omega)
  have h5 := Int.emod_lt_of_pos a hb
  rw [iRem_d, e1, ← Int32.ofInt_mul, ← Int32.ofInt_sub, h3, i32_c ⟨by omega, by omega⟩]
theorem lDiv_n {a b : Int} (ha : 0 ≤ a) (ha2 : a < 9223372036854775808) (hb : 0 < b) (hb2 : b < 9223372036854775808) : lDiv a b = a / b := by
  have oa : ok64 a := ⟨by omega, ha2⟩
  have ob : ok64 b := ⟨by omega, hb2⟩
  rw [lDiv_d, Int64.toInt_div_of_ne_right _ _ (fun e => ?_), i64_c oa, i64_c ob, Int.tdiv_eq_ediv_of_nonneg ha]
  have e2 : (Int64.ofInt b).toInt = -1 := by rw [e]; decide
  rw [i64_c ob] at e2; omega
theorem lRem_n {a b : Int} (ha : 0 ≤ a) (ha2 : a < 9223372036854775808) (hb : 0 < b) (hb2 : b < 9223372036854775808) : lRem a b = a % b := by
  have hq : 0 ≤ a / b := Int.ediv_nonneg ha (by omega)
  have hq2 : a / b ≤ a := Int.ediv_le_self b ha
  have e1 : Int64.ofInt a / Int64.ofInt b = Int64.ofInt (a / b) := by
    apply Int64.toInt_inj.mp
    have := lDiv_n ha ha2 hb hb2
    rw [lDiv_d] at this
    rw [this, i64_c ⟨by omega, by omega⟩]
  have h3 : a - a / b * b = a % b := by rw [Int.emod_def, Int.mul_comm]
  have h4 := Int.emod_nonneg a (show b ≠ 0 by omega)
  have h5 := Int.emod_lt_of_pos a hb
  rw [lRem_d, e1, ← Int64.ofInt_mul, ← Int64.ofInt_sub, h3, i64_c ⟨by omega, by omega⟩]
section PI
variable {n m k : Nat} {ag jo pa : Nat → Int} {co : Nat → Nat → Int} {he : Nat → Bool} {lb : Nat → PcD} {ch : Nat → Nat → Int} {d : PcD} {M : Mm}
theorem q_hasPart (hb : PB k d M) (x : Int) : f_Piece_hasPart M (pr k) x = some (if 0 ≤ x ∧ x < (pPt d : Int) then 1 else 0) := by
  unfold f_Piece_hasPart
  rw [cI_pr, hb.2.2.2.2.1]
  by_cases c1 : x < 0
  · rw [if_pos c1, if_neg (by omega)]
  · by_cases c2 : (pPt d : Int) ≤ x
    · rw [if_neg c1, if_pos c2, if_neg (by omega)]
    · rw [if_neg c1, if_neg c2, if_pos (by omega)]
/-- what piece() tells of a piece -/
def pieceA (d : PcD) (x : Int) : Int :=
  if x = 0 then pMi d else if x = 1 then pLi d else if x = 2 then pKe d else if x = 3 then (pPt d : Int) else if x = 4 then (pMu d : Int) else if 10 ≤ x ∧ x - 10 < (pPt d : Int) then (pMy d (x - 10).toNat : Int) else if x < 100 ∨ (pPt d : Int) ≤ (x - 100) / 10 ∨ (pMy d ((x - 100) / 10).toNat : Int) ≤ (x - 100) % 10 then -1 else (pWh d ((x - 100) / 10).toNat ((x - 100) % 10).toNat : Int)
theorem b_detail (hs : Sh M) (hk : k < 10) (hb : PB k d M) (ho : OKd d) {x : Int} (hx : ok32 x) : f_Piece_detail M (pr k) x = some (pieceA d x) := by
  unfold ok32 at hx
  have h10 := ho.2.2.2.2.1
  unfold f_Piece_detail pieceA
  rw [cI_pr, hb.2.1, hb.2.2.1, hb.2.2.2.1, hb.2.2.2.2.1, hb.2.2.2.2.2.1]
  by_cases c0 : x = 0
  · rw [if_pos c0, if_pos c0]
  rw [if_neg c0, if_neg c0]
  by_cases c1 : x = 1
  · rw [if_pos c1, if_pos c1]
  rw [if_neg c1, if_neg c1]
  by_cases c2 : x = 2
  · rw [if_pos c2, if_pos c2]
  rw [if_neg c2, if_neg c2]
  by_cases c3 : x = 3
  · rw [if_pos c3, if_pos c3]
  rw [if_neg c3, if_neg c3]
  by_cases c4 : x = 4
  · rw [if_pos c4, if_pos c4]
  rw [if_neg c4, if_neg c4]
  have tail : (¬ (10 ≤ x ∧ x - 10 < (pPt d : Int))) → j_Piece_partDetail_27 M (pr k) x = some (if x < 100 ∨ (pPt d : Int) ≤ (x - 100) / 10 ∨ (pMy d ((x - 100) / 10).toNat : Int) ≤ (x - 100) % 10 then -1 else (pWh d ((x - 100) / 10).toNat ((x - 100) % 10).toNat : Int)) := by
    intro _
    unfold j_Piece_partDetail_27
    by_cases c5 : x < 100
    · rw [if_pos c5, if_pos (Or.inl c5)]
    rw [if_neg c5, w32_s (by omega) (by omega), iDiv_n (by omega) (by omega) (by omega) (by omega), iRem_n (by omega) (by omega) (by omega) (by omega), q_hasPart hb, Option.bind_some]
    generalize hq : (x - 100) / 10 = q at *
    generalize hr : (x - 100) % 10 = r at *
    by_cases c6 : (pPt d : Int) ≤ q
    · rw [if_neg (show ¬ (0 ≤ q ∧ q < (pPt d : Int)) by omega), if_pos (Or.inr (Or.inl c6))]; rfl
    · obtain ⟨q', rfl, hq'⟩ := nat_of (n := pPt d) (a := q) (by omega) (by omega)
      obtain ⟨r', rfl, hr'⟩ := nat_of (n := 10) (a := r) (by omega) (by omega)
      rw [if_pos (show 0 ≤ (q' : Int) ∧ (q' : Int) < (pPt d : Int) by omega), if_pos (by decide)]
      simp only [lt]
      rw [cI_pr, p_pc0 hs hk, cI_s, n_pc0 hs hk, if_pos (by omega), if_pos (by omega), Int.toNat_natCast, Int.toNat_natCast, (hb.2.2.2.2.2.2 q' hq').1]
      by_cases c7 : (pMy d q' : Int) ≤ (r' : Int)
      · rw [if_pos c7, if_pos (Or.inr (Or.inr c7))]
      · rw [if_neg c7, if_neg (by omega), q_instrument hs hk hb ho hq' (by omega)]; rfl
  unfold f_Piece_partDetail
  by_cases c5 : x < 10
  · rw [if_pos c5, if_neg (show ¬ (10 ≤ x ∧ x - 10 < (pPt d : Int)) by omega), tail (by omega)]; rfl
  · rw [if_neg c5, w32_s (by omega) (by omega), q_hasPart hb, Option.bind_some]
    by_cases c6 : x - 10 < (pPt d : Int)
    · rw [if_pos (show 10 ≤ x ∧ x - 10 < (pPt d : Int) by omega), if_pos (show 0 ≤ x - 10 ∧ x - 10 < (pPt d : Int) by omega), if_neg (by decide), cI_pr, p_pc0 hs hk, cI_s, n_pc0 hs hk, if_pos (by omega), if_pos (by omega), (hb.2.2.2.2.2.2 (x - 10).toNat (by omega)).1]; rfl
    · rw [if_neg (show ¬ (10 ≤ x ∧ x - 10 < (pPt d : Int)) by omega), if_neg (show ¬ (0 ≤ x - 10 ∧ x - 10 < (pPt d : Int)) by omega), if_pos rfl, tail (by omega)]; rfl
theorem b_piece (hs : Sh M) (h : CBl m lb ch M) (hm : m ≤ 10) (ho : ∀ k, k < m → OKd (lb k)) (y : Int) {x : Int} (hx : ok32 x) : f_Band_piece M 1 y x = some (if 0 ≤ y ∧ y < (m : Int) then pieceA (lb y.toNat) x else -1) := by
  unfold f_Band_piece
  rw [show mg M (cI 1) 1 = 7 from p_0_1 hs, q_find hs h hm, if_pos (by decide), Option.bind_some]
  by_cases c : 0 ≤ y ∧ y < (m : Int)
  · obtain ⟨k, rfl, hk⟩ := nat_of c.1 c.2
    rw [if_pos c, if_pos c, Int.toNat_natCast, if_pos (pr_nz k), b_detail hs (by omega) (h.2 k hk).1 (ho k hk) hx]; rfl
  · rw [if_neg c, if_neg c]; rfl
theorem m_piece_in (hs : Sh M) (hk : k < 10) (hb : PM k d M) (ho : OKd d) (h7 : mg M 79 7 = (m : Int)) (hkm : k < m) {x : Int} (hx : ok32 x) : f_Model_piece M 80 (k : Int) x = some (pieceA d x, mp M 79 0 0) := by
  unfold ok32 at hx
  have h10 := ho.2.2.2.2.1
  have hs' : Sh (mp M 79 0 0) := Sh_mp hs (by unfold isP; omega)
  have hb' : PM k d (mp M 79 0 0) := PM_fr hb (Fr_mp (W := fun c k => c = 79 ∧ k = 0) ⟨rfl, rfl⟩) (fun c k e => by omega)
  have h7' : mg (mp M 79 0 0) 79 7 = (m : Int) := by simp [mg_mp, h7]
  have e2 : w32 (10 * (k : Int)) = 10 * (k : Int) := w32_s (by omega) (by omega)
  unfold f_Model_piece pieceA
  simp only [lt, show cI 80 = 79 from rfl]
  generalize hM' : mp M 79 0 0 = M' at *
  simp only [m_isPiece h7', if_pos (show 0 ≤ (k : Int) ∧ (k : Int) < (m : Int) by omega), Option.bind_some, p_79_9 hs', p_79_10 hs', p_79_11 hs', p_79_12 hs', p_79_13 hs', p_79_14 hs', show cI 87 = 86 from rfl, show cI 88 = 87 from rfl, show cI 89 = 88 from rfl, show cI 90 = 89 from rfl, show cI 91 = 90 from rfl, show cI 92 = 91 from rfl, n_86 hs', n_87 hs', n_88 hs', n_89 hs', n_90 hs', n_91 hs', Int.toNat_natCast, hb'.2.1, hb'.2.2.1, hb'.2.2.2.1, hb'.2.2.2.2.1, hb'.2.2.2.2.2.1, e2, if_pos (show (0 : Int) ≤ (k : Int) ∧ (k : Int) < ((10 : Nat) : Int) by omega)]
  rw [if_pos (by decide)]
  by_cases c0 : x = 0
  · rw [if_neg (by omega), if_pos (by decide), if_pos c0]
  rw [if_pos c0, if_neg c0]
  by_cases c1 : x = 1
  · rw [if_neg (by omega), if_pos (by decide), if_pos c1]
  rw [if_pos c1, if_neg c1]
  by_cases c2 : x = 2
  · rw [if_neg (by omega), if_pos (by decide), if_pos c2]
  rw [if_pos c2, if_neg c2]
  by_cases c3 : x = 3
  · rw [if_neg (by omega), if_pos (by decide), if_pos c3]
  rw [if_pos c3, if_neg c3]
  by_cases c4 : x = 4
  · rw [if_neg (by omega), if_pos (by decide), if_pos c4]
  rw [if_pos c4, if_neg c4]
  have tail : j_Model_piece_108 M' 80 (k : Int) x = some (if x < 100 ∨ (pPt d : Int) ≤ (x - 100) / 10 ∨ (pMy d ((x - 100) / 10).toNat : Int) ≤ (x - 100) % 10 then -1 else (pWh d ((x - 100) / 10).toNat ((x - 100) % 10).toNat : Int), M') := by
    unfold j_Model_piece_108
    simp only [lt, show cI 80 = 79 from rfl]
    by_cases c5 : x < 100
    · rw [if_pos c5, if_pos (Or.inl c5)]
    rw [if_neg c5, w32_s (x := x - 100) (by omega) (by omega), iDiv_n (by omega) (by omega) (by omega) (by omega), iRem_n (by omega) (by omega) (by omega) (by omega)]
    generalize hq : (x - 100) / 10 = q at *
    generalize hr : (x - 100) % 10 = r at *
    rw [p_79_12 hs', if_pos (by decide), show cI 90 = 89 from rfl, n_89 hs', if_pos (by omega), Int.toNat_natCast, hb'.2.2.2.2.1]
    by_cases c6 : (pPt d : Int) ≤ q
    · rw [if_pos c6, if_pos (Or.inr (Or.inl c6))]
    · obtain ⟨q', rfl, hq'⟩ := nat_of (n := pPt d) (a := q) (by omega) (by omega)
      obtain ⟨r', rfl, hr'⟩ := nat_of (n := 10) (a := r) (by omega) (by omega)
      have e3 : w32 (10 * (k : Int) + (q' : Int)) = 10 * (k : Int) + (q' : Int) := w32_s (by omega) (by omega)
      have e4 : w32 (40 * (k : Int)) = 40 * (k : Int) := w32_s (by omega) (by omega)
      have e5 : w32 (4 * (q' : Int)) = 4 * (q' : Int) := w32_s (by omega) (by omega)
      have e6 : w32 (40 * (k : Int) + 4 * (q' : Int)) = 40 * (k : Int) + 4 * (q' : Int) := w32_s (by omega) (by omega)
      have e7 : w32 (40 * (k : Int) + 4 * (q' : Int) + (r' : Int)) = 40 * (k : Int) + 4 * (q' : Int) + (r' : Int) := w32_s (by omega) (by omega)
      have t1 : (10 * (k : Int) + (q' : Int)).toNat = 10 * k + q' := by omega
      have t2 : (40 * (k : Int) + 4 * (q' : Int) + (r' : Int)).toNat = 40 * k + 4 * q' + r' := by omega
      rw [if_neg c6, p_79_14 hs', if_pos (by decide), show cI 92 = 91 from rfl, n_91 hs', e2, e3, if_pos (by omega), t1, (hb'.2.2.2.2.2.2 q' hq').1, Int.toNat_natCast, Int.toNat_natCast]
      by_cases c7 : (pMy d q' : Int) ≤ (r' : Int)
      · rw [if_neg (by omega), if_pos (Or.inr (Or.inr c7))]
      · have h4 := (ho.2.2.2.2.2.2 q' hq').1
        rw [if_pos (by omega), p_79_15 hs', if_pos (by decide), show cI 93 = 92 from rfl, n_92 hs', e4, e5, e6, e7, if_pos (by omega), t2, (hb'.2.2.2.2.2.2 q' hq').2 r' (by omega), if_neg (by omega)]
  by_cases c5 : x < 10
  · rw [if_pos c5, if_neg (show ¬ (10 ≤ x ∧ x - 10 < (pPt d : Int)) by omega), tail]
  · rw [if_neg c5, if_pos (by decide), w32_s (x := x - 10) (by omega) (by omega)]
    by_cases c6 : x - 10 < (pPt d : Int)
    · have e3 : w32 (10 * (k : Int) + x) = 10 * (k : Int) + x := w32_s (by omega) (by omega)
      have e4 : w32 (10 * (k : Int) + x - 10) = 10 * (k : Int) + x - 10 := w32_s (by omega) (by omega)
      have t1 : (10 * (k : Int) + x - 10).toNat = 10 * k + (x - 10).toNat := by omega
      rw [if_pos (show 10 ≤ x ∧ x - 10 < (pPt d : Int) by omega), if_neg (by omega), if_pos (by decide), e3, e4, if_pos (by omega), t1, (hb'.2.2.2.2.2.2 (x - 10).toNat (by omega)).1]
    · rw [if_neg (show ¬ (10 ≤ x ∧ x - 10 < (pPt d : Int)) by omega), if_pos (by omega), tail]
theorem m_piece (hs : Sh M) (h : CMl m lb ch M) (hm : m ≤ 10) (ho : ∀ k, k < m → OKd (lb k)) (y : Int) {x : Int} (hx : ok32 x) : f_Model_piece M 80 y x = some (if 0 ≤ y ∧ y < (m : Int) then pieceA (lb y.toNat) x else -1, mp M 79 0 0) := by
  by_cases c : 0 ≤ y ∧ y < (m : Int)
  · obtain ⟨k, rfl, hk⟩ := nat_of c.1 c.2
    rw [if_pos c, Int.toNat_natCast]
    exact m_piece_in hs (by omega) (h.2 k hk).1 (ho k hk) h.1 hk hx
  · have h7' : mg (mp M 79 0 0) 79 7 = (m : Int) := by simp [mg_mp, h.1]
    unfold f_Model_piece
    simp only [lt, show cI 80 = 79 from rfl, m_isPiece h7', if_neg c, Option.bind_some]
    rfl
end PI
