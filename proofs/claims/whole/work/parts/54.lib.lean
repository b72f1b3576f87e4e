/-! THE LIBRARY: a PIECE's NAME, MINUTES, LIPS, KEY, how many PARTS, the MUST ones, how many INSTRUMENTS each, which -/
abbrev PcD : Type := List Int × Int × Int × Int × Nat × Nat × (Nat → Nat) × (Nat → Nat → Nat)
def pNm (d : PcD) : List Int := d.1
def pMi (d : PcD) : Int := d.2.1
def pLi (d : PcD) : Int := d.2.2.1
def pKe (d : PcD) : Int := d.2.2.2.1
def pPt (d : PcD) : Nat := d.2.2.2.2.1
def pMu (d : PcD) : Nat := d.2.2.2.2.2.1
def pMy (d : PcD) (i : Nat) : Nat := d.2.2.2.2.2.2.1 i
def pWh (d : PcD) (i j : Nat) : Nat := d.2.2.2.2.2.2.2 i j
def c5 (l : List Int) : Int := l.foldl (fun a b => a * 32 + (b - 96)) 0
def c8 (l : List Int) : Int := l.foldl (fun a b => a * 256 + b) 0
def OKn (l : List Int) : Prop := l.length ≤ 6 ∧ ∀ b ∈ l, 97 ≤ b ∧ b ≤ 122
def OKd (d : PcD) : Prop := OKn (pNm d) ∧ (1 ≤ pMi d ∧ pMi d ≤ 60) ∧ (0 ≤ pLi d ∧ pLi d ≤ 9) ∧ (0 ≤ pKe d ∧ pKe d ≤ 11) ∧ pPt d ≤ 10 ∧ pMu d < 2 ^ pPt d ∧ ∀ i, i < pPt d → pMy d i ≤ 4 ∧ ∀ j, j < pMy d i → pWh d i j < 10
def OKl (n m : Nat) (lb : Nat → PcD) (ch : Nat → Nat → Int) : Prop := m ≤ 10 ∧ ∀ k, k < m → OKd (lb k) ∧ ∀ i, i < pPt (lb k) → -1 ≤ ch k i ∧ ch k i < (n : Int)
def PB (k : Nat) (d : PcD) (M : Mm) : Prop := mg M (8 + 4 * k) 3 = c5 (pNm d) ∧ mg M (8 + 4 * k) 4 = pMi d ∧ mg M (8 + 4 * k) 5 = pLi d ∧ mg M (8 + 4 * k) 6 = pKe d ∧ mg M (8 + 4 * k) 7 = (pPt d : Int) ∧ mg M (8 + 4 * k) 8 = (pMu d : Int) ∧ ∀ i, i < pPt d → mg M (9 + 4 * k) i = (pMy d i : Int) ∧ ∀ j, j < pMy d i → mg M (10 + 4 * k) (4 * i + j) = (pWh d i j : Int)
def PM (k : Nat) (d : PcD) (M : Mm) : Prop := mg M 85 k = c8 (pNm d) ∧ mg M 86 k = pMi d ∧ mg M 87 k = pLi d ∧ mg M 88 k = pKe d ∧ mg M 89 k = (pPt d : Int) ∧ mg M 90 k = (pMu d : Int) ∧ ∀ i, i < pPt d → mg M 91 (10 * k + i) = (pMy d i : Int) ∧ ∀ j, j < pMy d i → mg M 92 (40 * k + 4 * i + j) = (pWh d i j : Int)
def CBl (m : Nat) (lb : Nat → PcD) (ch : Nat → Nat → Int) (M : Mm) : Prop := mg M 6 1 = (m : Int) ∧ ∀ k, k < m → PB k (lb k) M ∧ ∀ i, i < pPt (lb k) → mg M (11 + 4 * k) i = ch k i
def CMl (m : Nat) (lb : Nat → PcD) (ch : Nat → Nat → Int) (M : Mm) : Prop := mg M 79 7 = (m : Int) ∧ ∀ k, k < m → PM k (lb k) M ∧ ∀ i, i < pPt (lb k) → mg M 93 (10 * k + i) = ch k i + 1
theorem PB_fr {k : Nat} {d : PcD} {W : Nat → Nat → Prop} {M M' : Mm} (h : PB k d M) (f : Fr W M M') (hw : ∀ c x, W c x → ¬ (8 + 4 * k ≤ c ∧ c ≤ 10 + 4 * k)) : PB k d M' := by
  have e : ∀ c x, 8 + 4 * k ≤ c ∧ c ≤ 10 + 4 * k → mg M' c x = mg M c x := fun c x hc => f.1 c x (fun w => hw c x w hc)
  unfold PB at h ⊢
  simp only [e (8 + 4 * k) _ (by omega), e (9 + 4 * k) _ (by omega), e (10 + 4 * k) _ (by omega)]
  exact h
theorem PM_fr {k : Nat} {d : PcD} {W : Nat → Nat → Prop} {M M' : Mm} (h : PM k d M) (f : Fr W M M') (hw : ∀ c x, W c x → ¬ (85 ≤ c ∧ c ≤ 92)) : PM k d M' := by
  have e : ∀ c x, 85 ≤ c ∧ c ≤ 92 → mg M' c x = mg M c x := fun c x hc => f.1 c x (fun w => hw c x w hc)
  unfold PM at h ⊢
  simp only [e 85 _ (by omega), e 86 _ (by omega), e 87 _ (by omega), e 88 _ (by omega), e 89 _ (by omega), e 90 _ (by omega), e 91 _ (by omega), e 92 _ (by omega)]
  exact h
theorem CBl_fr {n m : Nat} {lb : Nat → PcD} {ch : Nat → Nat → Int} {W : Nat → Nat → Prop} {M M' : Mm} (hm : m ≤ 10) (h : CBl m lb ch M) (f : Fr W M M') (hw : ∀ c x, W c x → ¬ (c = 6 ∧ x = 1) ∧ ¬ (8 ≤ c ∧ c ≤ 47)) : CBl m lb ch M' := by
  refine ⟨(f.1 6 1 (fun w => (hw _ _ w).1 ⟨rfl, rfl⟩)).trans h.1, fun k hk => ⟨PB_fr (h.2 k hk).1 f (fun c x w => by have := (hw c x w).2; omega), fun i hi => (f.1 _ _ (fun w => (hw _ _ w).2 (by omega))).trans ((h.2 k hk).2 i hi)⟩⟩
theorem CMl_fr {m : Nat} {lb : Nat → PcD} {ch : Nat → Nat → Int} {W : Nat → Nat → Prop} {M M' : Mm} (h : CMl m lb ch M) (f : Fr W M M') (hw : ∀ c x, W c x → ¬ (c = 79 ∧ x = 7) ∧ ¬ (85 ≤ c ∧ c ≤ 93)) : CMl m lb ch M' := by
  refine ⟨(f.1 79 7 (fun w => (hw _ _ w).1 ⟨rfl, rfl⟩)).trans h.1, fun k hk => ⟨PM_fr (h.2 k hk).1 f (fun c x w => by have := (hw c x w).2; omega), fun i hi => (f.1 _ _ (fun w => (hw _ _ w).2 (by omega))).trans ((h.2 k hk).2 i hi)⟩⟩
/-- the COST of a PART for a PLAYER -/
def pcA (f : Nat → Int) : Nat → Int
  | 0 => -1
  | j + 1 => if f j = -1 then pcA f j else if pcA f j = -1 then f j else if pcA f j ≤ f j then pcA f j else f j
def pcst (co : Nat → Nat → Int) (d : PcD) (i p : Nat) : Int := pcA (fun j => co p (pWh d i j)) (pMy d i)
theorem pcA_b {f : Nat → Int} (h : ∀ j, -1 ≤ f j ∧ f j ≤ 9) : ∀ j, -1 ≤ pcA f j ∧ pcA f j ≤ 9
  | 0 => by unfold pcA; omega
  | j + 1 => by
    have h1 := pcA_b h j
    have h2 := h j
    unfold pcA; split
    · exact h1
    · split
      · exact h2
      · split <;> assumption
theorem pcst_b {co : Nat → Nat → Int} (h : ∀ p i, -1 ≤ co p i ∧ co p i ≤ 9) (d : PcD) (i p : Nat) : -1 ≤ pcst co d i p ∧ pcst co d i p ≤ 9 := pcA_b (fun j => h p _) _
/-- the reference of piece k's object -/
def pr (k : Nat) : Int := ((8 + 4 * k : Nat) : Int) + 1
theorem cI_pr (k : Nat) : cI (pr k) = 8 + 4 * k := cI_s _
theorem pr_nz (k : Nat) : pr k ≠ 0 := by unfold pr; omega
section LI
variable {n m k : Nat} {ag jo pa : Nat → Int} {co : Nat → Nat → Int} {he : Nat → Bool} {lb : Nat → PcD} {ch : Nat → Nat → Int} {d : PcD} {M : Mm}
theorem q_instrument (hs : Sh M) (hk : k < 10) (hb : PB k d M) (ho : OKd d) {i j : Nat} (hi : i < pPt d) (hj : j < pMy d i) : f_Piece_instrument M (pr k) (i : Int) (j : Int) = some (pWh d i j : Int) := by
  have h10 := ho.2.2.2.2.1
  have h4 := (ho.2.2.2.2.2.2 i hi).1
  unfold f_Piece_instrument
  rw [cI_pr, p_pc1 hs hk, cI_s, n_pc1 hs hk, w32_s (x := (i : Int) * 4) (by omega) (by omega), w32_s (by omega) (by omega), if_pos (by omega), if_pos (by omega), show ((i : Int) * 4 + (j : Int)).toNat = 4 * i + j by omega, (hb.2.2.2.2.2.2 i hi).2 j hj]
theorem q_partCost (hs : Sh M) (hp : CBp n ag jo pa co he M) (hk : k < 10) (hb : PB k d M) (ho : OKd d) {i p : Nat} (hi : i < pPt d) (hp14 : p < 14) : f_Players_partCost M 2 (p : Int) (pr k) (i : Int) = some (pcst co d i p) := by
  have h10 := ho.2.2.2.2.1
  have h4 := (ho.2.2.2.2.2.2 i hi).1
  unfold f_Players_partCost
  refine xb (loop_for (fun j => (pcA (fun j => co p (pWh d i j)) j, (j : Int))) (pMy d i) (t := pcst co d i p) (by omega) rfl (fun j hj => ?_) ?_) rfl
  · have e1 : w32 ((j : Int) + 1) = ((j + 1 : Nat) : Int) := by rw [w32_s (by omega) (by omega)]; omega
    have hwh := (ho.2.2.2.2.2.2 i hi).2 j hj
    unfold l_Players_partCost_6
    simp only [lt, e1]
    rw [cI_pr, p_pc0 hs hk, cI_s, n_pc0 hs hk, if_pos (by omega), if_pos (by omega), Int.toNat_natCast, (hb.2.2.2.2.2.2 i hi).1, if_neg (by omega), q_instrument hs hk hb ho hi hj, Option.bind_some, q_cost hs hp hp14 hwh, Option.bind_some]
    by_cases c1 : co p (pWh d i j) = -1
    · rw [if_pos c1]; simp only [pcA]; rw [if_pos c1]
    · rw [if_neg c1]
      by_cases c2 : pcA (fun j => co p (pWh d i j)) j = -1
      · rw [if_pos c2]; simp only [pcA]; rw [if_neg c1, if_pos c2]
      · rw [if_neg c2]
        by_cases c3 : pcA (fun j => co p (pWh d i j)) j ≤ co p (pWh d i j)
        · rw [if_pos c3]; simp only [pcA]; rw [if_neg c1, if_neg c2, if_pos c3]
        · rw [if_neg c3]; simp only [pcA]; rw [if_neg c1, if_neg c2, if_neg c3]
  · unfold l_Players_partCost_6
    simp only [lt]
    rw [cI_pr, p_pc0 hs hk, cI_s, n_pc0 hs hk, if_pos (by omega), if_pos (by omega), Int.toNat_natCast, (hb.2.2.2.2.2.2 i hi).1, if_pos (by omega)]
    rfl
theorem m_costOf (hs : Sh M) (hp : CMp n ag jo pa co he M) (hc : ∀ p i, -1 ≤ co p i ∧ co p i ≤ 9) (hk : k < 10) (hb : PM k d M) (ho : OKd d) {i p : Nat} (hi : i < pPt d) (hp14 : p < 14) : f_Model_costOf M 80 (k : Int) (i : Int) (p : Int) = some (pcst co d i p) := by
  have h10 := ho.2.2.2.2.1
  have h4 := (ho.2.2.2.2.2.2 i hi).1
  unfold f_Model_costOf
  refine xb (loop_for (fun j => (pcA (fun j => co p (pWh d i j)) j, (j : Int))) (pMy d i) (t := pcst co d i p) (by omega) rfl (fun j hj => ?_) ?_) rfl
  · have e1 : w32 ((j : Int) + 1) = ((j + 1 : Nat) : Int) := by rw [w32_s (by omega) (by omega)]; omega
    have hwh := (ho.2.2.2.2.2.2 i hi).2 j hj
    have hcc := hc p (pWh d i j)
    have e2 : w32 (10 * (k : Int)) = 10 * (k : Int) := w32_s (by omega) (by omega)
    have e3 : w32 (10 * (k : Int) + (i : Int)) = 10 * (k : Int) + (i : Int) := w32_s (by omega) (by omega)
    have e4 : w32 (40 * (k : Int)) = 40 * (k : Int) := w32_s (by omega) (by omega)
    have e5 : w32 (4 * (i : Int)) = 4 * (i : Int) := w32_s (by omega) (by omega)
    have e6 : w32 (40 * (k : Int) + 4 * (i : Int)) = 40 * (k : Int) + 4 * (i : Int) := w32_s (by omega) (by omega)
    have e7 : w32 (40 * (k : Int) + 4 * (i : Int) + (j : Int)) = 40 * (k : Int) + 4 * (i : Int) + (j : Int) := w32_s (by omega) (by omega)
    have e8 : w32 (10 * (p : Int)) = 10 * (p : Int) := w32_s (by omega) (by omega)
    have e9 : w32 (10 * (p : Int) + (pWh d i j : Int)) = 10 * (p : Int) + (pWh d i j : Int) := w32_s (by omega) (by omega)
    have t1 : (10 * (k : Int) + (i : Int)).toNat = 10 * k + i := by omega
    have t2 : (40 * (k : Int) + 4 * (i : Int) + (j : Int)).toNat = 40 * k + 4 * i + j := by omega
    have t3 : (10 * (p : Int) + (pWh d i j : Int)).toNat = 10 * p + pWh d i j := by omega
    have eA : w32 (co p (pWh d i j) + 1 - 1) = co p (pWh d i j) := by rw [w32_s (by omega) (by omega)]; omega
    unfold l_Model_costOf_6
    simp only [lt, e1, show cI 80 = 79 from rfl, p_79_14 hs, p_79_15 hs, p_79_6 hs, show cI 92 = 91 from rfl, show cI 93 = 92 from rfl, show cI 85 = 84 from rfl, n_91 hs, n_92 hs, n_84 hs, e2, e3, e4, e5, e6, e7, t1, t2, (hb.2.2.2.2.2.2 i hi).1, (hb.2.2.2.2.2.2 i hi).2 j hj, e8, e9, t3, hp.2.2.2.1 p _ hp14 hwh, eA]
    rw [if_pos (by decide), if_pos (by omega), if_neg (by omega), if_pos (by decide), if_pos (by omega), if_pos (by decide), if_pos (by omega)]
    by_cases c1 : co p (pWh d i j) = -1
    · rw [if_pos (by omega)]; simp only [pcA]; rw [if_pos c1]
    · rw [if_neg (by omega)]
      by_cases c2 : pcA (fun j => co p (pWh d i j)) j = -1
      · rw [if_pos c2]; simp only [pcA]; rw [if_neg c1, if_pos c2]
      · rw [if_neg c2]
        by_cases c3 : pcA (fun j => co p (pWh d i j)) j ≤ co p (pWh d i j)
        · rw [if_pos c3]; simp only [pcA]; rw [if_neg c1, if_neg c2, if_pos c3]
        · rw [if_neg c3]; simp only [pcA]; rw [if_neg c1, if_neg c2, if_neg c3]
  · have e2 : w32 (10 * (k : Int)) = 10 * (k : Int) := w32_s (by omega) (by omega)
    have e3 : w32 (10 * (k : Int) + (i : Int)) = 10 * (k : Int) + (i : Int) := w32_s (by omega) (by omega)
    have t1 : (10 * (k : Int) + (i : Int)).toNat = 10 * k + i := by omega
    unfold l_Model_costOf_6
    simp only [show cI 80 = 79 from rfl, p_79_14 hs, show cI 92 = 91 from rfl, n_91 hs, e2, e3, t1, (hb.2.2.2.2.2.2 i hi).1]
    rw [if_pos (by decide), if_pos (by omega), if_pos (by omega)]
    rfl
theorem q_find (hs : Sh M) (h : CBl m lb ch M) (hm : m ≤ 10) (x : Int) : f_Library_find M 7 x = some (if 0 ≤ x ∧ x < (m : Int) then pr x.toNat else 0) := by
  unfold f_Library_find
  rw [show mg M (cI 7) 1 = (m : Int) from h.1, show mg M (cI 7) 0 = 8 from p_6_0 hs, show cI 8 = 7 from rfl, n_7 hs]
  by_cases c1 : x < 0
  · rw [if_pos c1, if_neg (by omega)]
  · by_cases c2 : (m : Int) ≤ x
    · rw [if_neg c1, if_pos c2, if_neg (by omega)]
    · obtain ⟨k, rfl, hk⟩ := nat_of (n := 10) (a := x) (by omega) (by omega)
      rw [if_neg c1, if_neg c2, if_pos (by decide), if_pos (by omega), if_pos (by omega), Int.toNat_natCast, p_7 hs hk]
      rfl
theorem m_isPiece (h : mg M 79 7 = (m : Int)) (x : Int) : f_Model_isPiece M 80 x = some (if 0 ≤ x ∧ x < (m : Int) then 1 else 0) := by
  unfold f_Model_isPiece
  rw [show mg M (cI 80) 7 = (m : Int) from h]
  by_cases c1 : x < 0
  · rw [if_pos c1, if_neg (by omega)]
  · by_cases c2 : (m : Int) ≤ x
    · rw [if_neg c1, if_pos c2, if_neg (by omega)]
    · rw [if_neg c1, if_neg c2, if_pos (by omega)]
theorem mu_lt (ho : OKd d) : pMu d < 1024 := Nat.lt_of_lt_of_le ho.2.2.2.2.2.1 (Nat.le_trans (Nat.pow_le_pow_right (by decide) ho.2.2.2.2.1) (by decide))
theorem q_isMust (hb : PB k d M) (ho : OKd d) {i : Nat} (hi : i < 32) : f_Piece_isMust M (pr k) (i : Int) = some (if (pMu d).testBit i then 1 else 0) := by
  have := mu_lt ho
  unfold f_Piece_isMust
  rw [cI_pr, hb.2.2.2.2.2.1, bit_n (by omega) hi]
  cases (pMu d).testBit i <;> rfl
theorem m_isMust (hs : Sh M) (hk : k < 10) (hb : PM k d M) (ho : OKd d) {i : Nat} (hi : i < 32) : f_Model_isMust M 80 (k : Int) (i : Int) = some (if (pMu d).testBit i then 1 else 0) := by
  have := mu_lt ho
  unfold f_Model_isMust
  rw [show mg M (cI 80) 13 = 91 from p_79_13 hs, show cI 91 = 90 from rfl, n_90 hs, if_pos (by decide), if_pos (by omega), Int.toNat_natCast, hb.2.2.2.2.2.1, bit_n (by omega) hi]
  cases (pMu d).testBit i <;> rfl
end LI
