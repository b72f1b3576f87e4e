theorem sA_tb (a : Nat → Nat) (p : Nat) : ∀ i, (sA a i).testBit p = true ↔ ∃ j, j < i ∧ a j = p ∧ p < 14
  | 0 => by
    show (0 : Nat).testBit p = true ↔ _
    rw [Nat.zero_testBit]
    exact ⟨fun h => absurd h (by decide), fun ⟨j, hj, _⟩ => absurd hj (Nat.not_lt_zero j)⟩
  | i + 1 => by
    have h := sA_tb a p i
    show (stp (sA a i) (a i)).testBit p = true ↔ _
    unfold stp
    split
    · rename_i h14
      rw [tb_or, Bool.or_eq_true, h, decide_eq_true_iff]
      constructor
      · rintro (⟨j, h1, h2, h3⟩ | h1)
        · exact ⟨j, by omega, h2, h3⟩
        · exact ⟨i, by omega, h1, by omega⟩
      · rintro ⟨j, h1, h2, h3⟩
        by_cases e : j = i
        · subst e; exact Or.inr h2
        · exact Or.inl ⟨j, by omega, h2, h3⟩
    · rename_i h14
      rw [h]
      constructor
      · rintro ⟨j, h1, h2, h3⟩; exact ⟨j, by omega, h2, h3⟩
      · rintro ⟨j, h1, h2, h3⟩
        refine ⟨j, ?_, h2, h3⟩
        by_cases e : j = i
        · subst e; omega
        · omega
theorem sA_lt {n : Nat} {a : Nat → Nat} : ∀ i, (∀ j, j < i → a j < 14 → a j < n) → sA a i < 2 ^ n
  | 0, _ => pow_1 n
  | i + 1, h => stp_lt (sA_lt i (fun j hj => h j (by omega))) (h i (by omega))
/-- who sits, as chairs have it -/
def chN (g : Nat → Nat) (i : Nat) : Int := if g i = 14 then -1 else (g i : Int)
def WSe (k : Nat) (c x : Nat) : Prop := c = 94 ∨ (c = 93 ∧ 10 * k ≤ x ∧ x < 10 * k + 10)
theorem sh_WSe {k : Nat} {M M' : Mm} (hs : Sh M) (hf : Fr (WSe k) M M') : Sh M' := Sh_fr hs hf (fun c x e => by unfold WSe at e; unfold isP; omega)
section SE
variable {n m k : Nat} {ag jo pa : Nat → Int} {co : Nat → Nat → Int} {he : Nat → Bool} {d : PcD} {c : Nat → Int} {M : Mm} {an : Bool}
theorem vd_match (hok : OKp n pa co he) (hm : MatchB co he d) : ∃ b, Vd (pPt d) (mbP co he d) b := by
  obtain ⟨g, g1, g2⟩ := hm
  refine ⟨fun i => if (pMu d).testBit i then g i else 14, fun i hi => ?_⟩
  cases e : (pMu d).testBit i with
  | false =>
    simp only [e, Bool.false_eq_true, if_false]
    refine ⟨by omega, ?_⟩
    unfold okp mbP
    simp [e]
  | true =>
    simp only [e, if_true]
    have ha := g1 i hi e
    have hlt := abl_lt hok.1 hok.2.2.2 ha
    have hn := hok.1
    refine ⟨by omega, ?_⟩
    unfold okp mbP
    rw [if_neg (by omega), ha]
    have hf : (sA (fun i => if (pMu d).testBit i then g i else 14) i).testBit (g i) = false := by
      cases e2 : (sA (fun i => if (pMu d).testBit i then g i else 14) i).testBit (g i) with
      | false => rfl
      | true =>
        obtain ⟨j, h1, h2, h3⟩ := (sA_tb _ _ _).mp e2
        split at h2
        · rename_i hj
          have := g2 j i (by omega) hi hj e h2
          omega
        · omega
    rw [hf]; simp
theorem m_fits (hs : Sh M) (hp : CMp n ag jo pa co he M) (hok : OKp n pa co he) (hk : k < 10) (hb : PM k d M) (ho : OKd d) {i r s p : Nat} (hi : i + r + 1 = pPt d) (hs2 : s < 2 ^ n) (hp15 : p < 15) (hc : mg M 93 (10 * k + i) = c i + 1) (hB : Bst n an co he d c 0 M) : wp (f_Model_fits M 80 (k : Int) (i : Int) (p : Int) (s : Int) (anI an)) (fun x => (x = 1 ∧ fitP (mbP co he d) (ctF an co d c) r i s p) ∨ (x = 0 ∧ ¬ fitP (mbP co he d) (ctF an co d c) r i s p)) := by
  have hn := hok.1
  have hco := hok.2.2.1
  have hpt := ho.2.2.2.2.1
  have hnp := n_pow hn
  have hct := fun i p => ctF_b (co := co) hco an d c i p
  unfold f_Model_fits
  refine wX (m_mayBe hs hp hok hk hb ho (show i < pPt d by omega) hp15) ?_
  cases em : mbP co he d i p with
  | false =>
    refine wI (by rfl) (wS (Or.inr ⟨rfl, fun h => ?_⟩))
    have := h.1
    unfold okp at this; rw [em] at this; cases this
  | true =>
    refine wE (by decide) ?_
    have tail : okp (mbP co he d) i s p = true → ∀ y : Nat, y = stp s p → wp (j_Model_fits_56 M 80 (k : Int) (i : Int) (p : Int) (s : Int) (anI an) (y : Int) (w32 (16384 * w32 ((i : Int) + 1))) (mg M (cI 80) 17)) (fun x => (x = 1 ∧ fitP (mbP co he d) (ctF an co d c) r i s p) ∨ (x = 0 ∧ ¬ fitP (mbP co he d) (ctF an co d c) r i s p)) := by
      intro hokp y hy
      subst hy
      have hlt : stp s p < 2 ^ n := stp_lt hs2 (fun h => mb_lt hok h em)
      have hv := hB (i + 1) r (Nat.zero_le _) (by omega) (stp s p) hlt
      have hv0 := hB i (r + 1) (Nat.zero_le _) (by omega) s hs2
      have hvb := dp_bd (mb := mbP co he d) hct r (i + 1) (stp s p)
      have hcb := hct i p
      have w1 : w32 ((i : Int) + 1) = (i : Int) + 1 := w32_s (by omega) (by omega)
      have w2 : w32 (16384 * ((i : Int) + 1)) = 16384 * ((i : Int) + 1) := w32_s (by omega) (by omega)
      have w3 : w32 (16384 * ((i : Int) + 1) + (stp s p : Int)) = 16384 * ((i : Int) + 1) + (stp s p : Int) := w32_s (by omega) (by omega)
      have t1 : (16384 * ((i : Int) + 1) + (stp s p : Int)).toNat = 16384 * (i + 1) + stp s p := by omega
      have w5 : w32 (16384 * (i : Int)) = 16384 * (i : Int) := w32_s (by omega) (by omega)
      have w6 : w32 (16384 * (i : Int) + (s : Int)) = 16384 * (i : Int) + (s : Int) := w32_s (by omega) (by omega)
      have t2 : (16384 * (i : Int) + (s : Int)).toNat = 16384 * i + s := by omega
      unfold j_Model_fits_56
      rw [show mg M (cI 80) 17 = 95 from p_79_17 hs, show cI 95 = 94 from rfl, n_94 hs, w1, w2, w3, t1, hv, w5, w6, t2, hv0]
      refine wI (by decide) (wI (by omega) (wL (wC (fun c1 => wS (Or.inr ⟨rfl, fun h => ?_⟩)) (fun c1 => ?_))))
      · have := h.2.1; omega
      have w4 : w32 (dpD (mbP co he d) (ctF an co d c) r (i + 1) (stp s p) + ctF an co d c i p) = dpD (mbP co he d) (ctF an co d c) r (i + 1) (stp s p) + ctF an co d c i p := w32_s (by omega) (by omega)
      refine wX (m_counts hs hp hco hk hb ho (show i < pPt d by omega) hp15 hc (fun _ h => mb_can h em)) ?_
      rw [w4]
      refine wI (by decide) (wI (by omega) (wC (fun c2 => wS (Or.inr ⟨rfl, fun h => c2 h.2.2⟩)) (fun c2 => wS (Or.inl ⟨rfl, hokp, by omega, by omega⟩))))
    by_cases c14 : 14 ≤ p
    · refine wI (by omega) ?_
      unfold j_Model_fits_28
      refine wI (by omega) ?_
      exact tail (by unfold okp; rw [em, decide_eq_true c14]; rfl) s (by unfold stp; rw [if_neg (by omega)])
    · refine wE (by omega) ?_
      rw [bit_n (show s < 2147483648 by omega) (show p < 32 by omega)]
      have h2p : (2 ^ p : Nat) < 16384 := Nat.lt_of_lt_of_le (two_lt (show p < 14 by omega)) (by decide)
      cases eb : s.testBit p with
      | true =>
        refine wE (by decide) (wS (Or.inr ⟨rfl, fun h => ?_⟩))
        have := h.1
        unfold okp at this; rw [em, eb, decide_eq_false c14] at this; cases this
      | false =>
        refine wI (by decide) ?_
        unfold j_Model_fits_28
        rw [bShl_1 p (by omega), bOr_n (by omega) (by omega)]
        refine wE (by omega) ?_
        exact tail (by unfold okp; rw [em, eb]; simp) _ (by unfold stp; rw [if_pos (by omega)])
theorem m_seats_t (hs : Sh M) (hp : CMp n ag jo pa co he M) (hok : OKp n pa co he) (hm7 : mg M 79 7 = (m : Int)) (hkm : k < m) (hk : k < 10) (hb : PM k d M) (ho : OKd d) (hc : ∀ i, i < pPt d → mg M 93 (10 * k + i) = c i + 1) (hlk : lk co he d = 0) (hmt : MatchB co he d) : wp (f_Model_seats M 80 (k : Int) (anI an)) (fun q => ∃ g : Nat → Nat, (∀ i, g i < 15) ∧ GR (pPt d) (mbP co he d) (ctF an co d c) g ∧ q.1 = (if an then sumN (fun i => ctA c i (g i)) (pPt d) else sCnt (chN g) (pPt d)) ∧ (∀ i, i < pPt d → mg q.2 93 (10 * k + i) = chN g i + 1) ∧ Fr (WSe k) M q.2) := by
  have hn := hok.1
  have hco := hok.2.2.1
  have hpt := ho.2.2.2.2.1
  have hnp := n_pow hn
  have hct := fun i p => ctF_b (co := co) hco an d c i p
  obtain ⟨b0, hv0⟩ := vd_match hok hmt
  unfold f_Model_seats
  refine wX (m_isPiece hm7 _) ?_
  rw [if_pos (show 0 ≤ (k : Int) ∧ (k : Int) < (m : Int) by omega)]
  refine wE (by decide) (wX (m_lacking hs hp hok hk hb ho) ?_)
  rw [hlk]
  refine wI (by rfl) (wK (m_finds (an := an) hs hp hok hk hb ho hc) (fun M1 ⟨f1, hB⟩ => ?_))
  have rd : ∀ M', Fr (WSe k) M M' → Sh M' ∧ CMp n ag jo pa co he M' ∧ PM k d M' := fun M' hf => ⟨sh_WSe hs hf, CMp_fr hp hf (fun c x e => by unfold WSe at e; omega), PM_fr hb hf (fun c x e => by unfold WSe at e; omega)⟩
  have f1' : Fr (WSe k) M M1 := Fr_sub f1 (fun c x e => Or.inl e)
  have hd0 : dpD (mbP co he d) (ctF an co d c) (pPt d) 0 0 < 1000000 := by
    have := vd_le hpt hct hv0 (pPt d) 0 (by omega)
    have h2 : dpD (mbP co he d) (ctF an co d c) (pPt d) 0 0 ≤ _ := this.1
    omega
  refine wK (wp_loop (fun j s => ∃ g : Nat → Nat, (∀ i, g i < 15) ∧ (∀ i r, i < j → i + r + 1 = pPt d → fitP (mbP co he d) (ctF an co d c) r i (sA g i) (g i) ∧ ∀ q, q < g i → ¬ fitP (mbP co he d) (ctF an co d c) r i (sA g i) q) ∧ s.1 = (sA g j : Int) ∧ s.2.1 = sCnt (chN g) j ∧ s.2.2.1 = sumN (fun i => ctA c i (g i)) j ∧ s.2.2.2.1 = (j : Int) ∧ Fr (WSe k) M s.2.2.2.2 ∧ Bst n an co he d c 0 s.2.2.2.2 ∧ (∀ i, i < pPt d → mg s.2.2.2.2 93 (10 * k + i) = (if i < j then chN g i else c i) + 1) ∧ ∀ r, j + r = pPt d → dpD (mbP co he d) (ctF an co d c) r j (sA g j) < 1000000) (pPt d) (Q := fun t => ∃ g : Nat → Nat, (∀ i, g i < 15) ∧ GR (pPt d) (mbP co he d) (ctF an co d c) g ∧ t.1 = sCnt (chN g) (pPt d) ∧ t.2.1 = sumN (fun i => ctA c i (g i)) (pPt d) ∧ (∀ i, i < pPt d → mg t.2.2 93 (10 * k + i) = chN g i + 1) ∧ Fr (WSe k) M t.2.2) (by omega) ⟨fun _ => 0, fun i => (by decide : 0 < 15), fun i r hi => absurd hi (Nat.not_lt_zero _), rfl, rfl, rfl, rfl, f1', hB, fun i hi => ?_, fun r hr => ?_⟩ ?_) ?_
  · rw [if_neg (by omega)]
    exact (f1.1 93 _ (by unfold W94; omega)).trans (hc i hi)
  · have : r = pPt d := by omega
    subst this; exact hd0
  · intro j s hj hI
    obtain ⟨set, so, un, x, M2⟩ := s
    obtain ⟨g, g15, hg, e1, e2, e3, e4, hf, hB2, hch, hdp⟩ := hI
    simp only at e1 e2 e3 e4 hf hB2 hch
    subst e1 e2 e3 e4
    obtain ⟨s2, p2, b2⟩ := rd M2 hf
    unfold l_Model_seats_35
    simp only []
    rw [show mg M2 (cI 80) 12 = 90 from p_79_12 s2, show cI 90 = 89 from rfl, n_89 s2, Int.toNat_natCast, b2.2.2.2.2.1]
    refine wI (by decide) (wI (by omega) (wC (fun h => wSr ⟨g, g15, fun i r hir => ⟨g15 i, hg i r (by omega) hir⟩, ?_⟩) (fun h => ?_)))
    · have : j = pPt d := by omega
      subst this
      refine ⟨rfl, rfl, fun i hi => ?_, hf⟩
      rw [hch i hi, if_pos hi]
    have hj' : j < pPt d := by omega
    obtain ⟨r, hr⟩ : ∃ r, j + r + 1 = pPt d := ⟨pPt d - (j + 1), by omega⟩
    have hmbg : ∀ i, i < j → g i < 14 → g i < n := fun i hi h14 => by
      have h5 := (hg i (pPt d - (i + 1)) hi (by omega)).1.1
      unfold okp at h5
      rw [Bool.and_eq_true] at h5
      exact mb_lt hok h14 h5.1
    have hsl : sA g j < 2 ^ n := sA_lt j hmbg
    have hcj : mg M2 93 (10 * k + j) = c j + 1 := by rw [hch j hj', if_neg (by omega)]
    obtain ⟨p0, hp0, hfit0⟩ := dp_fit r j (sA g j) hct (hdp (r + 1) (by omega))
    refine wK (wp_loop (fun p s => s = (p : Int) ∧ ∀ q, q < p → ¬ fitP (mbP co he d) (ctF an co d c) r j (sA g j) q) 14 (Q := fun t => ∃ p : Nat, t = (p : Int) ∧ p < 15 ∧ fitP (mbP co he d) (ctF an co d c) r j (sA g j) p ∧ ∀ q, q < p → ¬ fitP (mbP co he d) (ctF an co d c) r j (sA g j) q) (by decide) ⟨rfl, fun q hq => absurd hq (Nat.not_lt_zero _)⟩ ?_) ?_
    · rintro p s hp14 ⟨rfl, hq⟩
      unfold l_Model_seats_49
      refine wK (m_fits s2 p2 hok hk b2 ho hr hsl (show p < 15 by omega) hcj hB2) (fun x hx => ?_)
      rcases hx with ⟨rfl, hx⟩ | ⟨rfl, hx⟩
      · exact wI (by decide) (wSr ⟨p, rfl, by omega, hx, hq⟩)
      · refine wE (by decide) (wL (wSl ⟨?_, by rw [w32_s (by omega) (by omega)]; rfl, fun q hq' => ?_⟩))
        · rcases Nat.lt_or_ge p 14 with h9 | h9
          · exact h9
          · have : p0 = p ∨ p0 < p := by omega
            rcases this with rfl | h8
            · exact absurd hfit0 hx
            · exact absurd hfit0 (hq p0 h8)
        · by_cases e : q = p
          · subst e; exact hx
          · exact hq q (by omega)
    rintro t ⟨p, rfl, hp15, hfit, hfirst⟩
    have hcA : f_Model_counts M2 80 (k : Int) (j : Int) (p : Int) 1 = some (ctA c j p) := m_counts (an := true) s2 p2 hco hk b2 ho hj' hp15 hcj (fun e => by cases e)
    refine wX hcA (wL ?_)
    have hsb := sum_bd (f := fun i => ctA c i (g i)) (a := 0) (b := 1) j (fun i _ => by unfold ctA; split <;> omega)
    have hcb : 0 ≤ ctA c j p ∧ ctA c j p ≤ 1 := by unfold ctA; split <;> omega
    have hcn := sCnt_b (chN g) j
    have w1 : w32 (sumN (fun i => ctA c i (g i)) j + ctA c j p) = sumN (fun i => ctA c i (g i)) j + ctA c j p := w32_s (by omega) (by omega)
    have w2 : w32 (10 * (k : Int)) = 10 * (k : Int) := w32_s (by omega) (by omega)
    have w3 : w32 (10 * (k : Int) + (j : Int)) = 10 * (k : Int) + (j : Int) := w32_s (by omega) (by omega)
    have w4 : w32 ((j : Int) + 1) = ((j + 1 : Nat) : Int) := by rw [w32_s (by omega) (by omega)]; omega
    have w5 : w32 ((p : Int) + 1) = (p : Int) + 1 := w32_s (by omega) (by omega)
    have w6 : w32 (sCnt (chN g) j + 1) = sCnt (chN g) j + 1 := w32_s (by omega) (by omega)
    have t1 : (10 * (k : Int) + (j : Int)).toNat = 10 * k + j := by omega
    -- the new choices
    have ug : ∀ i, i < j → up g j p i = g i := fun i hi => up_n (by omega)
    have usA : ∀ i, i ≤ j → sA (up g j p) i = sA g i := fun i hi => sA_cg i (fun z hz => ug z (by omega))
    have uc : ∀ i, i < j → chN (up g j p) i = chN g i := fun i hi => by unfold chN; rw [ug i hi]
    have ucj : chN (up g j p) j = if p = 14 then -1 else (p : Int) := by unfold chN; rw [up_s]
    have usC : sCnt (chN (up g j p)) (j + 1) = if p = 14 then sCnt (chN g) j else sCnt (chN g) j + 1 := by
      have h1 : ∀ z, z ≤ j → sCnt (chN (up g j p)) z = sCnt (chN g) z := by
        intro z
        induction z with
        | zero => intro _; rfl
        | succ z ih =>
          intro hz
          have h2 := ih (by omega)
          have h3 := uc z (by omega)
          show (if _ then _ else _) = (if _ then _ else _)
          rw [h2, h3]
      show (if chN (up g j p) j < 0 then sCnt (chN (up g j p)) j else sCnt (chN (up g j p)) j + 1) = _
      rw [h1 j (Nat.le_refl _), ucj]
      by_cases e : p = 14
      · rw [if_pos e, if_pos e, if_pos (by omega)]
      · rw [if_neg e, if_neg e, if_neg (by omega)]
    have usU : sumN (fun i => ctA c i (up g j p i)) (j + 1) = sumN (fun i => ctA c i (g i)) j + ctA c j p := by
      show sumN (fun i => ctA c i (up g j p i)) j + ctA c j (up g j p j) = _
      rw [up_s, sum_cg j (fun i hi => by rw [ug i hi])]
    have usS : sA (up g j p) (j + 1) = stp (sA g j) p := by
      show stp (sA (up g j p) j) (up g j p j) = _
      rw [usA j (Nat.le_refl _), up_s]
    have fin : ∀ (M3 : Mm), M3 = mp M2 93 (10 * k + j) (chN (up g j p) j + 1) → ∃ g' : Nat → Nat, (∀ i, g' i < 15) ∧ (∀ i r, i < j + 1 → i + r + 1 = pPt d → fitP (mbP co he d) (ctF an co d c) r i (sA g' i) (g' i) ∧ ∀ q, q < g' i → ¬ fitP (mbP co he d) (ctF an co d c) r i (sA g' i) q) ∧ (stp (sA g j) p : Int) = (sA g' (j + 1) : Int) ∧ (if p = 14 then sCnt (chN g) j else sCnt (chN g) j + 1) = sCnt (chN g') (j + 1) ∧ sumN (fun i => ctA c i (g i)) j + ctA c j p = sumN (fun i => ctA c i (g' i)) (j + 1) ∧ ((j + 1 : Nat) : Int) = ((j + 1 : Nat) : Int) ∧ Fr (WSe k) M M3 ∧ Bst n an co he d c 0 M3 ∧ (∀ i, i < pPt d → mg M3 93 (10 * k + i) = (if i < j + 1 then chN g' i else c i) + 1) ∧ ∀ r, j + 1 + r = pPt d → dpD (mbP co he d) (ctF an co d c) r (j + 1) (sA g' (j + 1)) < 1000000 := by
      intro M3 hM3
      refine ⟨up g j p, fun i => ?_, fun i r' hi hir => ?_, by rw [usS], usC.symm, usU.symm, rfl, ?_, ?_, fun i hi => ?_, fun r' hr' => ?_⟩
      · unfold up; split
        · exact hp15
        · exact g15 i
      · by_cases e : i = j
        · subst e
          have : r' = r := by omega
          subst this
          rw [usA i (Nat.le_refl _), up_s]
          exact ⟨hfit, hfirst⟩
        · rw [usA i (by omega), ug i (by omega)]
          exact hg i r' (by omega) hir
      · rw [hM3]; exact Fr_wr hf (Or.inr ⟨rfl, by omega, by omega⟩)
      · rw [hM3]
        intro i' r' h2 h3 s' hs'
        rw [mg_mp_n (by omega)]
        exact hB2 i' r' h2 h3 s' hs'
      · rw [hM3, mg_mp]
        by_cases e : i = j
        · subst e
          rw [if_pos ⟨rfl, rfl⟩, if_pos (by omega)]
        · rw [if_neg (by omega), hch i hi]
          by_cases e2 : i < j
          · rw [if_pos e2, if_pos (by omega), uc i e2]
          · rw [if_neg e2, if_neg (by omega)]
      · have : r' = r := by omega
        subst this
        rw [usS]; exact hfit.2.1
    by_cases c14 : p = 14
    · refine wE (by omega) ?_
      unfold j_Model_seats_113_35
      rw [show mg M2 (cI 80) 16 = 94 from p_79_16 s2, show cI 94 = 93 from rfl, n_93 s2, w2, w3, t1, w1]
      refine wI (by decide) (wI (by omega) (wL (wI (by omega) (wL ?_))))
      rw [w4]
      have hst : stp (sA g j) p = sA g j := by unfold stp; rw [if_neg (by omega)]
      have h9 := fin (mp M2 93 (10 * k + j) 0) (by rw [ucj, if_pos c14]; rfl)
      rw [hst, if_pos c14] at h9
      exact wSl ⟨hj', h9⟩
    · refine wI (by omega) ?_
      unfold j_Model_seats_113_35
      rw [show mg M2 (cI 80) 16 = 94 from p_79_16 s2, show cI 94 = 93 from rfl, n_93 s2, w2, w3, t1, w1, w5]
      refine wI (by decide) (wI (by omega) (wL (wE (by omega) ?_)))
      have h2p : (2 ^ p : Nat) < 16384 := Nat.lt_of_lt_of_le (two_lt (show p < 14 by omega)) (by decide)
      rw [bShl_1 p (by omega), bOr_n (by omega) (by omega), w6, w4]
      refine wL (wL (wL ?_))
      have hst : stp (sA g j) p = sA g j ||| 2 ^ p := by unfold stp; rw [if_pos (by omega)]
      have h9 := fin (mp M2 93 (10 * k + j) ((p : Int) + 1)) (by rw [ucj, if_neg c14])
      rw [hst, if_neg c14] at h9
      exact wSl ⟨hj', h9⟩
  · rintro t ⟨g, g15, hgr, t1, t2, t3, t4⟩
    cases an with
    | false =>
      refine wI (by rfl) (wS ⟨g, g15, hgr, ?_, t3, t4⟩)
      rw [t1]; rfl
    | true =>
      refine wE (by decide) (wS ⟨g, g15, hgr, ?_, t3, t4⟩)
      rw [t2]; rfl
end SE
