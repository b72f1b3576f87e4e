/-! the reference's seatings -/
def mbP (co : Nat → Nat → Int) (he : Nat → Bool) (d : PcD) (i p : Nat) : Bool := if p = 14 then !(pMu d).testBit i else abl co he d i p
def ctS (co : Nat → Nat → Int) (d : PcD) (i p : Nat) : Int := if p = 14 then 1000 else imax 0 (pcst co d i p)
def ctA (c : Nat → Int) (i p : Nat) : Int := if c i = (if p = 14 then -1 else (p : Int)) then 0 else 1
def ctF (an : Bool) (co : Nat → Nat → Int) (d : PcD) (c : Nat → Int) (i p : Nat) : Int := if an then ctA c i p else ctS co d i p
def anI (an : Bool) : Int := if an then 1 else 0
theorem ctF_b {co : Nat → Nat → Int} (hco : ∀ p i, -1 ≤ co p i ∧ co p i ≤ 9) (an : Bool) (d : PcD) (c : Nat → Int) (i p : Nat) : 0 ≤ ctF an co d c i p ∧ ctF an co d c i p ≤ 1000 := by
  have h := imax_b (pcst_b hco d i p)
  unfold ctF ctA ctS
  split
  · split <;> omega
  · split <;> omega
def W94 (c _x : Nat) : Prop := c = 94
theorem sh_W94 {M M' : Mm} (hs : Sh M) (hf : Fr W94 M M') : Sh M' := Sh_fr hs hf (fun c k e => by unfold W94 at e; unfold isP; omega)
theorem stp_lt {n s p : Nat} (hs : s < 2 ^ n) (hp : p < 14 → p < n) : stp s p < 2 ^ n := by
  unfold stp; split
  · rename_i h
    exact Nat.or_lt_two_pow hs (two_lt (hp h))
  · exact hs
section FI
variable {n m k : Nat} {ag jo pa : Nat → Int} {co : Nat → Nat → Int} {he : Nat → Bool} {d : PcD} {c : Nat → Int} {M : Mm} {an : Bool}
/-- what the reference's seat() and again() read -/
def RdM (n k : Nat) (ag jo pa : Nat → Int) (co : Nat → Nat → Int) (he : Nat → Bool) (d : PcD) (i : Nat) (ci : Int) (M : Mm) : Prop := Sh M ∧ CMp n ag jo pa co he M ∧ PM k d M ∧ mg M 93 (10 * k + i) = ci + 1
theorem m_mayBe (hs : Sh M) (hp : CMp n ag jo pa co he M) (hok : OKp n pa co he) (hk : k < 10) (hb : PM k d M) (ho : OKd d) {i p : Nat} (hi : i < pPt d) (hp15 : p < 15) : f_Model_mayBe M 80 (k : Int) (i : Int) (p : Int) = some (if mbP co he d i p then 1 else 0) := by
  obtain ⟨hn, _, hco, hh⟩ := hok
  have hpt := ho.2.2.2.2.1
  unfold f_Model_mayBe mbP
  by_cases c0 : p = 14
  · subst c0
    rw [if_neg (by decide), if_pos rfl, m_isMust hs hk hb ho (by omega), Option.bind_some]
    cases (pMu d).testBit i <;> rfl
  · rw [if_pos (by omega), if_neg c0, show mg M (cI 80) 1 = (n : Int) from hp.1]
    by_cases c1 : (n : Int) ≤ (p : Int)
    · rw [if_pos c1, abl_hi hh (by omega)]; rfl
    · rw [if_neg c1, show mg M (cI 80) 5 = 84 from p_79_5 hs, if_pos (by decide), show cI 84 = 83 from rfl, n_83 hs, if_pos (by omega), Int.toNat_natCast, hp.2.2.2.2 p (by omega)]
      unfold abl
      cases e : he p with
      | false => rfl
      | true =>
        rw [if_neg (by decide), m_costOf hs hp hco hk hb ho hi (by omega), Option.bind_some]
        by_cases c2 : pcst co d i p = -1
        · rw [if_pos c2, c2]; rfl
        · rw [if_neg c2]; simp [c2]
theorem m_counts (hs : Sh M) (hp : CMp n ag jo pa co he M) (hco : ∀ p i, -1 ≤ co p i ∧ co p i ≤ 9) (hk : k < 10) (hb : PM k d M) (ho : OKd d) {i p : Nat} (hi : i < pPt d) (hp15 : p < 15) (hc : mg M 93 (10 * k + i) = c i + 1) (hcan : an = false → p < 14 → pcst co d i p ≠ -1) : f_Model_counts M 80 (k : Int) (i : Int) (p : Int) (anI an) = some (ctF an co d c i p) := by
  have hpt := ho.2.2.2.2.1
  unfold f_Model_counts ctF
  cases an with
  | false =>
    have h5 := pcst_b hco d i p
    simp only [anI, Bool.false_eq_true, if_false, if_true]
    unfold ctS
    by_cases c0 : p = 14
    · subst c0; rfl
    · rw [if_pos (by omega), if_neg c0, m_costOf hs hp hco hk hb ho hi (by omega), Option.bind_some]
      have := hcan rfl (by omega)
      congr 1
      unfold imax; split <;> omega
  | true =>
    have e4 : w32 (10 * (k : Int)) = 10 * (k : Int) := w32_s (by omega) (by omega)
    have e5 : w32 (10 * (k : Int) + (i : Int)) = 10 * (k : Int) + (i : Int) := w32_s (by omega) (by omega)
    have t1 : (10 * (k : Int) + (i : Int)).toNat = 10 * k + i := by omega
    have e6 : w32 ((p : Int) + 1) = (p : Int) + 1 := w32_s (by omega) (by omega)
    simp only [anI, if_true]
    unfold ctA j_Model_counts_29
    rw [if_neg (by decide), show mg M (cI 80) 16 = 94 from p_79_16 hs, if_pos (by decide), show cI 94 = 93 from rfl, n_93 hs, e4, e5, if_pos (by omega), t1, hc, e6]
    by_cases c0 : p = 14
    · subst c0
      rw [if_neg (by decide), if_pos rfl]
      by_cases c1 : c i = -1
      · rw [if_neg (by omega), if_pos c1]
      · rw [if_pos (by omega), if_neg c1]
    · rw [if_pos (by omega), if_neg c0]
      by_cases c1 : c i = (p : Int)
      · rw [if_neg (by omega), if_pos c1]
      · rw [if_pos (by omega), if_neg c1]
/-- the rows of the least from part i on -/
def Bst (n : Nat) (an : Bool) (co : Nat → Nat → Int) (he : Nat → Bool) (d : PcD) (c : Nat → Int) (i0 : Nat) (M : Mm) : Prop := ∀ i r, i0 ≤ i → i + r = pPt d → ∀ s, s < 2 ^ n → mg M 94 (16384 * i + s) = dpD (mbP co he d) (ctF an co d c) r i s
theorem n_pow (hn : n ≤ 14) : 2 ^ n ≤ 16384 := Nat.le_trans (Nat.pow_le_pow_right (by decide) hn) (by decide)
theorem mb_lt (hok : OKp n pa co he) {i p : Nat} (hp : p < 14) (h : mbP co he d i p = true) : p < n := by
  unfold mbP at h
  rw [if_neg (by omega)] at h
  exact abl_lt hok.1 hok.2.2.2 h
theorem mb_can {i p : Nat} (hp : p < 14) (h : mbP co he d i p = true) : pcst co d i p ≠ -1 := by
  unfold mbP at h
  rw [if_neg (by omega)] at h
  unfold abl at h
  rw [Bool.and_eq_true, decide_eq_true_iff] at h
  exact h.2
theorem m_finds72 (hs : Sh M) (hp : CMp n ag jo pa co he M) (hok : OKp n pa co he) (hk : k < 10) (hb : PM k d M) (ho : OKd d) {i r s : Nat} (hi : i + r + 1 = pPt d) (hs2 : s < 2 ^ n) (hc : mg M 93 (10 * k + i) = c i + 1) (hB : Bst n an co he d c (i + 1) M) (z4 : Int) : loopN (l_Model_finds_72 M 80 (k : Int) (anI an) z4 (i : Int) (s : Int)) FU (1000000, 0) = some (dpD (mbP co he d) (ctF an co d c) (r + 1) i s) := by
  have hn := hok.1
  have hco := hok.2.2.1
  have hpt := ho.2.2.2.2.1
  have hnp := n_pow hn
  have hct := fun i p => ctF_b (co := co) hco an d c i p
  refine loop_for (fun p => (dpM (dpF (mbP co he d) (ctF an co d c) (dpD (mbP co he d) (ctF an co d c) r) i s) p, (p : Int))) 15 (by decide) rfl (fun p hp15 => ?_) ?_
  · have e1 : w32 ((p : Int) + 1) = ((p + 1 : Nat) : Int) := by rw [w32_s (by omega) (by omega)]; omega
    have hle := (dpM_le (dpF (mbP co he d) (ctF an co d c) (dpD (mbP co he d) (ctF an co d c) r) i s) p).1
    have hsk : ∀ x, dpF (mbP co he d) (ctF an co d c) (dpD (mbP co he d) (ctF an co d c) r) i s p = x → dpM (dpF (mbP co he d) (ctF an co d c) (dpD (mbP co he d) (ctF an co d c) r) i s) (p + 1) = if x < dpM (dpF (mbP co he d) (ctF an co d c) (dpD (mbP co he d) (ctF an co d c) r) i s) p then x else dpM (dpF (mbP co he d) (ctF an co d c) (dpD (mbP co he d) (ctF an co d c) r) i s) p := fun x e => by rw [← e]; rfl
    generalize hL : dpM (dpF (mbP co he d) (ctF an co d c) (dpD (mbP co he d) (ctF an co d c) r) i s) p = L at *
    have skip : dpF (mbP co he d) (ctF an co d c) (dpD (mbP co he d) (ctF an co d c) r) i s p = 1000000 → (some (.inl (L, ((p + 1 : Nat) : Int))) : Option ((Int × Int) ⊕ Int)) = some (.inl (dpM (dpF (mbP co he d) (ctF an co d c) (dpD (mbP co he d) (ctF an co d c) r) i s) (p + 1), ((p + 1 : Nat) : Int))) := fun e => by
      rw [hsk _ e, if_neg (by omega)]
    unfold l_Model_finds_72
    simp only [lt, e1]
    rw [if_neg (by omega), m_mayBe hs hp hok hk hb ho (show i < pPt d by omega) hp15, Option.bind_some]
    cases em : mbP co he d i p with
    | false =>
      rw [if_pos (by rfl)]
      refine skip ?_
      unfold dpF okp; rw [em]; rfl
    | true =>
      rw [if_neg (by decide)]
      have tail : okp (mbP co he d) i s p = true → ∀ y : Nat, y = stp s p → j_Model_finds_143_72 M 80 (k : Int) (anI an) z4 (i : Int) (s : Int) L (p : Int) (y : Int) (w32 (16384 * w32 ((i : Int) + 1))) (mg M (cI 80) 17) = some (.inl (dpM (dpF (mbP co he d) (ctF an co d c) (dpD (mbP co he d) (ctF an co d c) r) i s) (p + 1), ((p + 1 : Nat) : Int))) := by
        intro hokp y hy
        subst hy
        have hlt : stp s p < 2 ^ n := stp_lt hs2 (fun h => mb_lt hok h em)
        have hv := hB (i + 1) r (Nat.le_refl _) (by omega) (stp s p) hlt
        have hvb := dp_bd (mb := mbP co he d) hct r (i + 1) (stp s p)
        have hcb := hct i p
        have w1 : w32 ((i : Int) + 1) = (i : Int) + 1 := w32_s (by omega) (by omega)
        have w2 : w32 (16384 * ((i : Int) + 1)) = 16384 * ((i : Int) + 1) := w32_s (by omega) (by omega)
        have w3 : w32 (16384 * ((i : Int) + 1) + (stp s p : Int)) = 16384 * ((i : Int) + 1) + (stp s p : Int) := w32_s (by omega) (by omega)
        have t1 : (16384 * ((i : Int) + 1) + (stp s p : Int)).toNat = 16384 * (i + 1) + stp s p := by omega
        unfold j_Model_finds_143_72
        simp only [lt, e1]
        rw [show mg M (cI 80) 17 = 95 from p_79_17 hs, show cI 95 = 94 from rfl, n_94 hs, w1, w2, w3, t1, hv, if_pos (by decide), if_pos (by omega)]
        by_cases c1 : 1000000 ≤ dpD (mbP co he d) (ctF an co d c) r (i + 1) (stp s p)
        · rw [if_pos c1]
          refine skip ?_
          unfold dpF; rw [decide_eq_false (by omega)]; simp
        · have hF : dpF (mbP co he d) (ctF an co d c) (dpD (mbP co he d) (ctF an co d c) r) i s p = dpD (mbP co he d) (ctF an co d c) r (i + 1) (stp s p) + ctF an co d c i p := by
            unfold dpF; rw [hokp, decide_eq_true (by omega)]; rfl
          have w4 : w32 (dpD (mbP co he d) (ctF an co d c) r (i + 1) (stp s p) + ctF an co d c i p) = dpD (mbP co he d) (ctF an co d c) r (i + 1) (stp s p) + ctF an co d c i p := w32_s (by omega) (by omega)
          rw [if_neg c1, m_counts hs hp hco hk hb ho (show i < pPt d by omega) hp15 hc (fun _ h => mb_can h em), Option.bind_some, Option.bind_some, w4, hsk _ hF]
          by_cases c2 : L ≤ dpD (mbP co he d) (ctF an co d c) r (i + 1) (stp s p) + ctF an co d c i p
          · rw [if_pos c2, if_neg (by omega)]
          · rw [if_neg c2, if_pos (by omega)]
      by_cases c14 : 14 ≤ p
      · rw [if_pos (by omega)]
        unfold j_Model_finds_112_72
        rw [if_pos (by omega)]
        exact tail (by unfold okp; rw [em, decide_eq_true c14]; rfl) s (by unfold stp; rw [if_neg (by omega)])
      · rw [if_neg (by omega), bit_n (show s < 2147483648 by omega) (show p < 32 by omega)]
        have h2p : (2 ^ p : Nat) < 16384 := Nat.lt_of_lt_of_le (two_lt (show p < 14 by omega)) (by decide)
        cases eb : s.testBit p with
        | true =>
          rw [if_neg (by decide)]
          refine skip ?_
          unfold dpF okp; rw [em, eb, decide_eq_false c14]; rfl
        | false =>
          rw [if_pos (by decide)]
          unfold j_Model_finds_112_72
          rw [if_neg (by omega), bShl_1 p (by omega), bOr_n (by omega) (by omega)]
          exact tail (by unfold okp; rw [em, eb]; simp) _ (by unfold stp; rw [if_pos (by omega)])
  · unfold l_Model_finds_72
    simp only []
    rw [if_pos (by decide)]
    rfl
theorem m_finds (hs : Sh M) (hp : CMp n ag jo pa co he M) (hok : OKp n pa co he) (hk : k < 10) (hb : PM k d M) (ho : OKd d) (hc : ∀ i, i < pPt d → mg M 93 (10 * k + i) = c i + 1) : wp (f_Model_finds M 80 (k : Int) (anI an)) (fun M' => Fr W94 M M' ∧ Bst n an co he d c 0 M') := by
  have hn := hok.1
  have hpt := ho.2.2.2.2.1
  have hnp := n_pow hn
  have rd : ∀ M', Fr W94 M M' → Sh M' ∧ CMp n ag jo pa co he M' ∧ PM k d M' ∧ ∀ i, i < pPt d → mg M' 93 (10 * k + i) = c i + 1 := fun M' hf => ⟨sh_W94 hs hf, CMp_fr hp hf (fun c x e => by unfold W94 at e; omega), PM_fr hb hf (fun c x e => by unfold W94 at e; omega), fun i hi => (hf.1 _ _ (by unfold W94; omega)).trans (hc i hi)⟩
  unfold f_Model_finds
  rw [show mg M (cI 80) 12 = 90 from p_79_12 hs, show cI 90 = 89 from rfl, n_89 hs, Int.toNat_natCast, hb.2.2.2.2.1, show mg M (cI 80) 1 = (n : Int) from hp.1, bShl_1 n (by omega)]
  refine wI (by decide) (wI (by omega) (wL (wL ?_)))
  -- the last row
  refine wK (wp_loop (fun j s => s.1 = (j : Int) ∧ Fr W94 M s.2 ∧ ∀ x, x < j → mg s.2 94 (16384 * pPt d + x) = 0) (2 ^ n) (Q := fun t => Fr W94 M t ∧ ∀ x, x < 2 ^ n → mg t 94 (16384 * pPt d + x) = 0) (by omega) ⟨rfl, Fr_rf, fun x hx => absurd hx (Nat.not_lt_zero _)⟩ ?_) ?_
  · intro j s hj hI
    obtain ⟨i, M1⟩ := s
    obtain ⟨e, hf, hx⟩ := hI
    simp only at e hf hx
    subst e
    have s1 := (rd M1 hf).1
    unfold l_Model_finds_18
    simp only []
    refine wC (fun h => wSr ⟨hf, fun x hx' => hx x (by omega)⟩) (fun h => ?_)
    have w1 : w32 (16384 * (pPt d : Int)) = 16384 * (pPt d : Int) := w32_s (by omega) (by omega)
    have w2 : w32 (16384 * (pPt d : Int) + (j : Int)) = 16384 * (pPt d : Int) + (j : Int) := w32_s (by omega) (by omega)
    have t1 : (16384 * (pPt d : Int) + (j : Int)).toNat = 16384 * pPt d + j := by omega
    rw [show mg M1 (cI 80) 17 = 95 from p_79_17 s1, show cI 95 = 94 from rfl, n_94 s1, w1, w2, t1]
    refine wI (by decide) (wI (by omega) (wL (wL (wSl ⟨by omega, by rw [w32_s (by omega) (by omega)]; rfl, Fr_wr hf rfl, fun x hx' => ?_⟩))))
    rw [mg_mp]
    by_cases e : x = j
    · rw [if_pos ⟨rfl, by omega⟩]
    · rw [if_neg (by omega)]; exact hx x (by omega)
  intro M1 hM1
  obtain ⟨f1, h1⟩ := hM1
  have hct := fun i p => ctF_b (co := co) hok.2.2.1 an d c i p
  refine wL (wK (wp_loop (fun j s => s.1 = (pPt d : Int) - 1 - (j : Int) ∧ Fr W94 M s.2 ∧ Bst n an co he d c (pPt d - j) s.2) (pPt d) (Q := fun t => Fr W94 M t ∧ Bst n an co he d c 0 t) (by omega) ⟨?_, f1, ?_⟩ ?_) (fun t ht => wS ht))
  · rw [w32_s (by omega) (by omega)]; simp
  · intro i r h2 h3 s hs2
    have e1 : i = pPt d := by omega
    have e2 : r = 0 := by omega
    subst e1 e2
    rw [h1 s hs2]; rfl
  intro j s hj hI
  obtain ⟨i, M2⟩ := s
  obtain ⟨e, hf, hB⟩ := hI
  simp only at e hf hB
  subst e
  unfold l_Model_finds_50
  simp only []
  refine wC (fun h => wSr ⟨hf, ?_⟩) (fun h => ?_)
  · rw [show (0 : Nat) = pPt d - j by omega]; exact hB
  obtain ⟨i, hi⟩ : ∃ i, i + j + 1 = pPt d := ⟨pPt d - (j + 1), by omega⟩
  rw [show (pPt d : Int) - 1 - (j : Int) = (i : Int) by omega]
  rw [show pPt d - j = i + 1 by omega] at hB
  refine wK (wp_loop (fun x s => s.1 = (x : Int) ∧ Fr W94 M s.2 ∧ Bst n an co he d c (i + 1) s.2 ∧ ∀ y, y < x → mg s.2 94 (16384 * i + y) = dpD (mbP co he d) (ctF an co d c) (j + 1) i y) (2 ^ n) (Q := fun t => Fr W94 M t ∧ Bst n an co he d c i t) (by omega) ⟨rfl, hf, hB, fun y hy => absurd hy (Nat.not_lt_zero _)⟩ ?_) ?_
  · intro x s hx hI
    obtain ⟨z, M3⟩ := s
    obtain ⟨e, hf3, hB3, hy⟩ := hI
    simp only at e hf3 hB3 hy
    subst e
    obtain ⟨s3, p3, b3, c3⟩ := rd M3 hf3
    unfold l_Model_finds_58
    simp only []
    refine wC (fun h => wSr ⟨hf3, ?_⟩) (fun h => ?_)
    · intro i' r h2 h3 s hs2
      by_cases e : i' = i
      · subst e
        have : r = j + 1 := by omega
        subst this
        exact hy s (by omega)
      · exact hB3 i' r (by omega) h3 s hs2
    have hx' : x < 2 ^ n := by omega
    refine wX (m_finds72 s3 p3 hok hk b3 ho (r := j) (by omega) hx' (c3 i (by omega)) hB3 _) ?_
    have w1 : w32 (16384 * (i : Int)) = 16384 * (i : Int) := w32_s (by omega) (by omega)
    have w2 : w32 (16384 * (i : Int) + (x : Int)) = 16384 * (i : Int) + (x : Int) := w32_s (by omega) (by omega)
    have t1 : (16384 * (i : Int) + (x : Int)).toNat = 16384 * i + x := by omega
    rw [show mg M3 (cI 80) 17 = 95 from p_79_17 s3, show cI 95 = 94 from rfl, n_94 s3, w1, w2, t1]
    refine wI (by decide) (wI (by omega) (wL (wL (wSl ⟨by omega, by rw [w32_s (by omega) (by omega)]; rfl, Fr_wr hf3 rfl, ?_, fun y hy' => ?_⟩))))
    · intro i' r h2 h3 s hs2
      rw [mg_mp, if_neg (by omega)]
      exact hB3 i' r h2 h3 s hs2
    · rw [mg_mp]
      by_cases e : y = x
      · rw [if_pos ⟨rfl, by omega⟩, e]
      · rw [if_neg (by omega)]; exact hy y (by omega)
  · intro M3 hM3
    refine wL (wSl ⟨by omega, ?_, hM3.1, ?_⟩)
    · rw [w32_s (by omega) (by omega)]; simp only; omega
    · rw [show pPt d - (j + 1) = i by omega]; exact hM3.2
end FI
