/-! chair, sit, seating -/
theorem dem (P : Prop) : ¬ P ∨ P := (Classical.em P).symm
def sSum (co : Nat → Nat → Int) (d : PcD) (c : Nat → Int) : Nat → Int
  | 0 => 0
  | i + 1 => if c i < 0 then sSum co d c i else sSum co d c i + imax 0 (pcst co d i (c i).toNat)
def sCnt (c : Nat → Int) : Nat → Int
  | 0 => 0
  | i + 1 => if c i < 0 then sCnt c i else sCnt c i + 1
def sAwy (he : Nat → Bool) (c : Nat → Int) : Nat → Int
  | 0 => 0
  | i + 1 => if c i < 0 then sAwy he c i else if he (c i).toNat then sAwy he c i else sAwy he c i + 1
theorem imax_b {x : Int} (h : -1 ≤ x ∧ x ≤ 9) : 0 ≤ imax 0 x ∧ imax 0 x ≤ 9 := by unfold imax; split <;> omega
theorem sSum_b {co : Nat → Nat → Int} (h : ∀ p i, -1 ≤ co p i ∧ co p i ≤ 9) (d : PcD) (c : Nat → Int) : ∀ i, 0 ≤ sSum co d c i ∧ sSum co d c i ≤ 9 * (i : Int)
  | 0 => by unfold sSum; omega
  | i + 1 => by
    have h1 := sSum_b h d c i
    have h2 := imax_b (pcst_b h d i (c i).toNat)
    unfold sSum; split <;> omega
theorem sCnt_b (c : Nat → Int) : ∀ i, 0 ≤ sCnt c i ∧ sCnt c i ≤ (i : Int)
  | 0 => by unfold sCnt; omega
  | i + 1 => by
    have h1 := sCnt_b c i
    unfold sCnt; split <;> omega
theorem sAwy_b (he : Nat → Bool) (c : Nat → Int) : ∀ i, 0 ≤ sAwy he c i ∧ sAwy he c i ≤ (i : Int)
  | 0 => by unfold sAwy; omega
  | i + 1 => by
    have h1 := sAwy_b he c i
    unfold sAwy; split
    · omega
    · split <;> omega
section SI
variable {n m k : Nat} {ag jo pa : Nat → Int} {co : Nat → Nat → Int} {he : Nat → Bool} {lb : Nat → PcD} {ch : Nat → Nat → Int} {c : Nat → Int} {d : PcD} {M : Mm}
theorem q_chair (hs : Sh M) (hk : k < 10) : mg M (cI (pr k)) 2 = ((11 + 4 * k : Nat) : Int) + 1 := by rw [cI_pr]; exact p_pc2 hs hk
theorem b_seated (hs : Sh M) (hk : k < 10) (hb : PB k d M) (hpt : pPt d ≤ 10) (hc : ∀ i, i < pPt d → mg M (11 + 4 * k) i = c i) (hlo : ∀ i, i < pPt d → -1 ≤ c i) : f_Piece_seated M (pr k) = some (sCnt c (pPt d)) := by
  unfold f_Piece_seated
  refine xb (loop_for (fun j => (sCnt c j, (j : Int))) (pPt d) (t := sCnt c (pPt d)) (by omega) rfl (fun j hj => ?_) ?_) rfl
  · have e1 : w32 ((j : Int) + 1) = ((j + 1 : Nat) : Int) := by rw [w32_s (by omega) (by omega)]; omega
    have h1 := sCnt_b c j
    have e2 : w32 (sCnt c j + 1) = sCnt c j + 1 := w32_s (by omega) (by omega)
    have h2 := hlo j hj
    unfold l_Piece_seated_4
    simp only [lt, e1, e2]
    rw [q_chair hs hk, cI_s, n_pc2 hs hk, cI_pr, hb.2.2.2.2.1, if_neg (by omega), if_pos (by omega), if_pos (by omega), Int.toNat_natCast, hc j hj]
    by_cases c1 : c j = -1
    · rw [if_pos c1]; simp only [sCnt]; rw [if_pos (by omega)]
    · rw [if_neg c1]; simp only [sCnt]; rw [if_neg (by omega)]
  · unfold l_Piece_seated_4
    simp only [lt]
    rw [cI_pr, hb.2.2.2.2.1, if_pos (by omega)]
theorem b_seatingCost (hs : Sh M) (hp : CBp n ag jo pa co he M) (hco : ∀ p i, -1 ≤ co p i ∧ co p i ≤ 9) (hn : n ≤ 14) (hk : k < 10) (hb : PB k d M) (ho : OKd d) (hc : ∀ i, i < pPt d → mg M (11 + 4 * k) i = c i) (hlo : ∀ i, i < pPt d → -1 ≤ c i ∧ c i < (n : Int)) : f_Players_seatingCost M 2 (pr k) = some (sSum co d c (pPt d)) := by
  have hpt := ho.2.2.2.2.1
  unfold f_Players_seatingCost
  refine xb (loop_for (fun j => (sSum co d c j, (j : Int))) (pPt d) (t := sSum co d c (pPt d)) (by omega) rfl (fun j hj => ?_) ?_) rfl
  · have e1 : w32 ((j : Int) + 1) = ((j + 1 : Nat) : Int) := by rw [w32_s (by omega) (by omega)]; omega
    have h1 := sSum_b hco d c j
    have h2 := hlo j hj
    unfold l_Players_seatingCost_4
    simp only [lt, e1]
    rw [q_chair hs hk, cI_s, n_pc2 hs hk, cI_pr, hb.2.2.2.2.1, if_neg (by omega), if_pos (by omega), if_pos (by omega), Int.toNat_natCast, hc j hj, q_has_n hp.1, Option.bind_some]
    by_cases c1 : c j < 0
    · rw [if_neg (show ¬ (0 ≤ c j ∧ c j < (n : Int)) by omega), if_pos rfl]; simp only [sSum]; rw [if_pos c1]
    · obtain ⟨p, ep, hpn⟩ := nat_of (n := n) (a := c j) (by omega) (by omega)
      have h3 := imax_b (pcst_b hco d j p)
      have e2 : w32 (sSum co d c j + imax 0 (pcst co d j p)) = sSum co d c j + imax 0 (pcst co d j p) := w32_s (by omega) (by omega)
      simp only [sSum]
      rw [ep, if_pos (show 0 ≤ (p : Int) ∧ (p : Int) < (n : Int) by omega), if_neg (by decide), q_partCost hs hp hk hb ho hj (by omega), Option.bind_some, e2, if_neg (by omega), Int.toNat_natCast]
  · unfold l_Players_seatingCost_4
    simp only [lt]
    rw [cI_pr, hb.2.2.2.2.1, if_pos (by omega)]
theorem b_away (hs : Sh M) (hp : CBp n ag jo pa co he M) (hn : n ≤ 14) (hk : k < 10) (hb : PB k d M) (hpt : pPt d ≤ 10) (hc : ∀ i, i < pPt d → mg M (11 + 4 * k) i = c i) (hlo : ∀ i, i < pPt d → -1 ≤ c i ∧ c i < (n : Int)) : f_Players_seatedButAway M 2 (pr k) = some (sAwy he c (pPt d)) := by
  unfold f_Players_seatedButAway
  refine xb (loop_for (fun j => (sAwy he c j, (j : Int))) (pPt d) (t := sAwy he c (pPt d)) (by omega) rfl (fun j hj => ?_) ?_) rfl
  · have e1 : w32 ((j : Int) + 1) = ((j + 1 : Nat) : Int) := by rw [w32_s (by omega) (by omega)]; omega
    have h1 := sAwy_b he c j
    have h2 := hlo j hj
    have e2 : w32 (sAwy he c j + 1) = sAwy he c j + 1 := w32_s (by omega) (by omega)
    unfold l_Players_seatedButAway_4
    simp only [lt, e1, e2]
    rw [q_chair hs hk, cI_s, n_pc2 hs hk, cI_pr, hb.2.2.2.2.1, if_neg (by omega), if_pos (by omega), if_pos (by omega), Int.toNat_natCast, hc j hj, q_has_n hp.1, Option.bind_some]
    by_cases c1 : c j < 0
    · rw [if_neg (show ¬ (0 ≤ c j ∧ c j < (n : Int)) by omega), if_pos rfl]; simp only [sAwy]; rw [if_pos c1]
    · obtain ⟨p, ep, hpn⟩ := nat_of (n := n) (a := c j) (by omega) (by omega)
      simp only [sAwy]
      rw [ep, if_pos (show 0 ≤ (p : Int) ∧ (p : Int) < (n : Int) by omega), if_neg (by decide), q_pres hp (by omega), Option.bind_some, if_neg (show ¬ (p : Int) < 0 by omega), Int.toNat_natCast]
      cases he p <;> rfl
  · unfold l_Players_seatedButAway_4
    simp only [lt]
    rw [cI_pr, hb.2.2.2.2.1, if_pos (by omega)]
theorem m_seat_loop (hs : Sh M) (hp : CMp n ag jo pa co he M) (hco : ∀ p i, -1 ≤ co p i ∧ co p i ≤ 9) (hn : n ≤ 14) (hk : k < 10) (hb : PM k d M) (ho : OKd d) (hc : ∀ i, i < pPt d → mg M 93 (10 * k + i) = c i + 1) (hlo : ∀ i, i < pPt d → -1 ≤ c i ∧ c i < (n : Int)) (x : Int) : loopN (l_Model_seating_35 M 80 (k : Int) x) FU (0, 0, 0, 0) = some (sSum co d c (pPt d), sCnt c (pPt d), sAwy he c (pPt d)) := by
  have hpt := ho.2.2.2.2.1
  refine loop_for (fun j => (sSum co d c j, sCnt c j, sAwy he c j, (j : Int))) (pPt d) (by omega) rfl (fun j hj => ?_) ?_
  · have e1 : w32 ((j : Int) + 1) = ((j + 1 : Nat) : Int) := by rw [w32_s (by omega) (by omega)]; omega
    have h1 := sSum_b hco d c j
    have h2 := hlo j hj
    have h3 := sCnt_b c j
    have h4 := sAwy_b he c j
    have e2 : w32 (sAwy he c j + 1) = sAwy he c j + 1 := w32_s (by omega) (by omega)
    have e3 : w32 (sCnt c j + 1) = sCnt c j + 1 := w32_s (by omega) (by omega)
    have e4 : w32 (10 * (k : Int)) = 10 * (k : Int) := w32_s (by omega) (by omega)
    have e5 : w32 (10 * (k : Int) + (j : Int)) = 10 * (k : Int) + (j : Int) := w32_s (by omega) (by omega)
    have t1 : (10 * (k : Int) + (j : Int)).toNat = 10 * k + j := by omega
    have e6 : w32 (c j + 1 - 1) = c j := by rw [w32_s (by omega) (by omega)]; omega
    unfold l_Model_seating_35
    simp only [lt, e1, show cI 80 = 79 from rfl, p_79_12 hs, p_79_16 hs, show cI 90 = 89 from rfl, show cI 94 = 93 from rfl, n_89 hs, n_93 hs, e4, e5, t1, Int.toNat_natCast, hb.2.2.2.2.1, hc j hj, e6]
    rw [if_pos (by decide), if_pos (by omega), if_neg (by omega), if_pos (by decide), if_pos (by omega)]
    by_cases c1 : c j < 0
    · rw [if_neg (by omega)]; simp only [sSum, sCnt, sAwy]; rw [if_pos c1, if_pos c1, if_pos c1]
    · obtain ⟨p, ep, hpn⟩ := nat_of (n := n) (a := c j) (by omega) (by omega)
      have h5 := pcst_b hco d j p
      have h6 := imax_b h5
      simp only [sSum, sCnt, sAwy]
      rw [ep, if_pos (by omega), m_costOf hs hp hco hk hb ho hj (by omega), Option.bind_some, if_neg (show ¬ (p : Int) < 0 by omega), if_neg (show ¬ (p : Int) < 0 by omega), if_neg (show ¬ (p : Int) < 0 by omega), Int.toNat_natCast]
      have e7 : w32 (sSum co d c j + imax 0 (pcst co d j p)) = sSum co d c j + imax 0 (pcst co d j p) := w32_s (by omega) (by omega)
      have tail : ∀ y, y = imax 0 (pcst co d j p) → j_Model_seating_94_35 M 80 (k : Int) x (sCnt c j) (sAwy he c j) (j : Int) (p : Int) y (sSum co d c j) = some (Sum.inl (sSum co d c j + imax 0 (pcst co d j p), sCnt c j + 1, if he p = true then sAwy he c j else sAwy he c j + 1, ((j + 1 : Nat) : Int))) := by
        intro y ey
        subst ey
        unfold j_Model_seating_94_35
        simp only [lt, e1, e2, e3, e7, show cI 80 = 79 from rfl, p_79_5 hs, show cI 84 = 83 from rfl, n_83 hs, Int.toNat_natCast, hp.2.2.2.2 p (by omega)]
        rw [if_pos (by decide), if_pos (by omega)]
        cases he p <;> rfl
      by_cases c2 : pcst co d j p = -1
      · rw [if_neg (by omega), tail 0 (by rw [c2]; rfl)]
      · rw [if_pos c2, tail (pcst co d j p) (by unfold imax; split <;> omega)]
  · unfold l_Model_seating_35
    simp only [show cI 80 = 79 from rfl, p_79_12 hs, show cI 90 = 89 from rfl, n_89 hs, Int.toNat_natCast, hb.2.2.2.2.1]
    rw [if_pos (by decide), if_pos (by omega), if_pos (by omega)]
def seatA (co : Nat → Nat → Int) (he : Nat → Bool) (d : PcD) (c : Nat → Int) (x : Int) : Int := if x = 0 then sSum co d c (pPt d) else if x = 1 then sCnt c (pPt d) else if x = 2 then sAwy he c (pPt d) else -1
theorem b_seating (hs : Sh M) (hp : CBp n ag jo pa co he M) (hco : ∀ p i, -1 ≤ co p i ∧ co p i ≤ 9) (hn : n ≤ 14) (h : CBl m lb ch M) (ho : OKl n m lb ch) (y x : Int) : f_Band_seating M 1 y x = some (if 0 ≤ y ∧ y < (m : Int) then seatA co he (lb y.toNat) (ch y.toNat) x else -1) := by
  have hm := ho.1
  unfold f_Band_seating
  rw [show mg M (cI 1) 1 = 7 from p_0_1 hs, q_find hs h hm, if_pos (by decide), Option.bind_some, show mg M (cI 1) 0 = 2 from p_0_0 hs]
  by_cases c : 0 ≤ y ∧ y < (m : Int)
  · obtain ⟨k, rfl, hk⟩ := nat_of c.1 c.2
    obtain ⟨hb, hc⟩ := h.2 k hk
    obtain ⟨o1, o2⟩ := ho.2 k hk
    rw [if_pos c, if_pos c, Int.toNat_natCast, if_pos (pr_nz k)]
    unfold seatA
    by_cases c0 : x = 0
    · rw [if_pos c0, if_pos c0, if_pos (by decide), b_seatingCost hs hp hco hn (by omega) hb o1 hc o2]; rfl
    · rw [if_neg c0, if_neg c0]
      by_cases c1 : x = 1
      · rw [if_pos c1, if_pos c1, b_seated hs (by omega) hb o1.2.2.2.2.1 hc (fun i hi => (o2 i hi).1)]; rfl
      · rw [if_neg c1, if_neg c1]
        by_cases c2 : x = 2
        · rw [if_pos c2, if_pos c2, if_pos (by decide), b_away hs hp hn (by omega) hb o1.2.2.2.2.1 hc o2]; rfl
        · rw [if_neg c2, if_neg c2]
  · rw [if_neg c, if_neg c]; rfl
theorem m_seating (hs : Sh M) (hp : CMp n ag jo pa co he M) (hco : ∀ p i, -1 ≤ co p i ∧ co p i ≤ 9) (hn : n ≤ 14) (h : CMl m lb ch M) (ho : OKl n m lb ch) (y x : Int) : f_Model_seating M 80 y x = some (if 0 ≤ y ∧ y < (m : Int) then seatA co he (lb y.toNat) (ch y.toNat) x else -1, mp M 79 0 0) := by
  have hm := ho.1
  have f0 : Fr (fun c k => c = 79 ∧ k = 0) M (mp M 79 0 0) := Fr_mp ⟨rfl, rfl⟩
  have hs' : Sh (mp M 79 0 0) := Sh_mp hs (by unfold isP; omega)
  have hp' : CMp n ag jo pa co he (mp M 79 0 0) := CMp_fr hp f0 (fun c k e => by omega)
  have h' : CMl m lb ch (mp M 79 0 0) := CMl_fr h f0 (fun c k e => by omega)
  unfold f_Model_seating
  simp only [lt, show cI 80 = 79 from rfl, m_isPiece h'.1, Option.bind_some]
  by_cases c : 0 ≤ y ∧ y < (m : Int)
  · obtain ⟨k, rfl, hk⟩ := nat_of c.1 c.2
    obtain ⟨hb, hc⟩ := h'.2 k hk
    obtain ⟨o1, o2⟩ := ho.2 k hk
    rw [if_pos c, if_pos c, Int.toNat_natCast, if_neg (by decide)]
    unfold seatA
    by_cases c0 : x < 0
    · rw [if_pos c0, if_neg (by omega), if_neg (by omega), if_neg (by omega)]
    · rw [if_neg c0]
      by_cases c1 : x ≤ 2
      · rw [if_pos c1, m_seat_loop hs' hp' hco hn (by omega) hb o1 hc o2, Option.bind_some]
        by_cases c2 : x = 0
        · rw [if_neg (by omega), if_pos c2]
        · rw [if_pos c2, if_neg c2]
          by_cases c3 : x = 1
          · rw [if_neg (by omega), if_pos c3]
          · rw [if_pos c3, if_neg c3, if_pos (by omega)]
      · rw [if_neg c1, if_neg (by omega), if_neg (by omega), if_neg (by omega)]
  · rw [if_neg c, if_neg c, if_pos rfl]
theorem b_chair (hs : Sh M) (h : CBl m lb ch M) (ho : OKl n m lb ch) (y x : Int) : f_Band_chair M 1 y x = some (if (0 ≤ y ∧ y < (m : Int)) ∧ (0 ≤ x ∧ x < (pPt (lb y.toNat) : Int)) then ch y.toNat x.toNat else -1) := by
  have hm := ho.1
  unfold f_Band_chair
  rw [show mg M (cI 1) 1 = 7 from p_0_1 hs, q_find hs h hm, if_pos (by decide), Option.bind_some]
  by_cases c : 0 ≤ y ∧ y < (m : Int)
  · obtain ⟨k, rfl, hk⟩ := nat_of c.1 c.2
    obtain ⟨hb, hc⟩ := h.2 k hk
    obtain ⟨o1, o2⟩ := ho.2 k hk
    have hpt := o1.2.2.2.2.1
    rw [if_pos c, Int.toNat_natCast, if_neg (pr_nz k), q_hasPart hb, Option.bind_some, q_chair hs (by omega), cI_s, n_pc2 hs (by omega)]
    by_cases c2 : 0 ≤ x ∧ x < (pPt (lb k) : Int)
    · obtain ⟨i, rfl, hi⟩ := nat_of c2.1 c2.2
      rw [if_pos c2, if_pos (by decide), if_pos (by omega), if_pos (by omega), if_pos ⟨c, c2⟩, Int.toNat_natCast, hc i hi]
    · rw [if_neg c2, if_neg (by decide), if_neg (fun e => c2 e.2)]
  · rw [if_neg c, if_pos rfl, if_neg (fun e => c e.1)]
theorem m_isPart (hs : Sh M) (h : CMl m lb ch M) (hm : m ≤ 10) (y x : Int) : f_Model_isPart M 80 y x = some (if (0 ≤ y ∧ y < (m : Int)) ∧ (0 ≤ x ∧ x < (pPt (lb y.toNat) : Int)) then 1 else 0) := by
  unfold f_Model_isPart
  rw [m_isPiece h.1, Option.bind_some]
  by_cases c : 0 ≤ y ∧ y < (m : Int)
  · obtain ⟨k, rfl, hk⟩ := nat_of c.1 c.2
    rw [if_pos c, if_neg (by decide), show mg M (cI 80) 12 = 90 from p_79_12 hs, show cI 90 = 89 from rfl, n_89 hs, Int.toNat_natCast, (h.2 k hk).1.2.2.2.2.1]
    by_cases c1 : x < 0
    · rw [if_pos c1, if_neg (by omega)]
    · rw [if_neg c1, if_pos (by decide), if_pos (by omega)]
      by_cases c2 : (pPt (lb k) : Int) ≤ x
      · rw [if_pos c2, if_neg (by omega)]
      · rw [if_neg c2, if_pos (by omega)]
  · rw [if_neg c, if_pos rfl, if_neg (fun e => c e.1)]
theorem m_chair (hs : Sh M) (h : CMl m lb ch M) (ho : OKl n m lb ch) (hn : n ≤ 14) (y x : Int) : f_Model_chair M 80 y x = some (if (0 ≤ y ∧ y < (m : Int)) ∧ (0 ≤ x ∧ x < (pPt (lb y.toNat) : Int)) then ch y.toNat x.toNat else -1, mp M 79 0 0) := by
  have hm := ho.1
  have f0 : Fr (fun c k => c = 79 ∧ k = 0) M (mp M 79 0 0) := Fr_mp ⟨rfl, rfl⟩
  have hs' : Sh (mp M 79 0 0) := Sh_mp hs (by unfold isP; omega)
  have h' : CMl m lb ch (mp M 79 0 0) := CMl_fr h f0 (fun c k e => by omega)
  unfold f_Model_chair
  simp only [lt, show cI 80 = 79 from rfl, m_isPart hs' h' hm, Option.bind_some]
  by_cases c : (0 ≤ y ∧ y < (m : Int)) ∧ (0 ≤ x ∧ x < (pPt (lb y.toNat) : Int))
  · rw [if_pos c, if_pos c]
    obtain ⟨c1, c2⟩ := c
    obtain ⟨k, rfl, hk⟩ := nat_of c1.1 c1.2
    obtain ⟨i, rfl, hi⟩ := nat_of c2.1 c2.2
    rw [Int.toNat_natCast] at hi
    obtain ⟨hb, hc⟩ := h'.2 k hk
    obtain ⟨o1, o2⟩ := ho.2 k hk
    have hpt := o1.2.2.2.2.1
    have h2 := o2 i hi
    have e4 : w32 (10 * (k : Int)) = 10 * (k : Int) := w32_s (by omega) (by omega)
    have e5 : w32 (10 * (k : Int) + (i : Int)) = 10 * (k : Int) + (i : Int) := w32_s (by omega) (by omega)
    have t1 : (10 * (k : Int) + (i : Int)).toNat = 10 * k + i := by omega
    have e6 : w32 (ch k i + 1 - 1) = ch k i := by rw [w32_s (by omega) (by omega)]; omega
    rw [if_neg (by decide), p_79_16 hs', if_pos (by decide), show cI 94 = 93 from rfl, n_93 hs', e4, e5, if_pos (by omega), t1, hc i hi, e6, Int.toNat_natCast, Int.toNat_natCast]
  · rw [if_neg c, if_neg c, if_pos rfl]
/-! sit -/
theorem b_else (hs : Sh M) (hk : k < 10) (hb : PB k d M) (hpt : pPt d ≤ 10) (hc : ∀ i, i < pPt d → mg M (11 + 4 * k) i = c i) (p : Int) (i : Nat) : wp (f_Piece_seatsElsewhere M (pr k) p (i : Int)) (fun r => (r = 1 ∧ ∃ q, q < pPt d ∧ q ≠ i ∧ c q = p) ∨ (r = 0 ∧ ∀ q, q < pPt d → q ≠ i → c q ≠ p)) := by
  unfold f_Piece_seatsElsewhere
  refine wK (wp_loop (fun j s => s = (j : Int) ∧ ∀ q, q < j → q ≠ i → c q ≠ p) (pPt d) (Q := fun t => (t = .inl 1 ∧ ∃ q, q < pPt d ∧ q ≠ i ∧ c q = p) ∨ (t = .inr () ∧ ∀ q, q < pPt d → q ≠ i → c q ≠ p)) (by omega) ⟨rfl, fun q hq => absurd hq (Nat.not_lt_zero _)⟩ ?_) ?_
  · intro j s hj hI
    obtain ⟨rfl, hq⟩ := hI
    have e1 : w32 ((j : Int) + 1) = ((j + 1 : Nat) : Int) := by rw [w32_s (by omega) (by omega)]; omega
    unfold l_Piece_seatsElsewhere_2
    simp only [lt, e1]
    rw [q_chair hs hk, cI_s, n_pc2 hs hk, cI_pr, hb.2.2.2.2.1, Int.toNat_natCast]
    refine wC (fun hc1 => wSr (Or.inr ⟨rfl, fun q hq' => hq q (by omega)⟩)) (fun hc1 => ?_)
    have hj' : j < pPt d := by omega
    refine wC (fun hc2 => wSl ⟨hj', rfl, fun q hq' hne => hq q (by omega) hne⟩) (fun hc2 => ?_)
    refine wI (by omega) (wI (by omega) ?_)
    rw [hc j hj']
    refine wC (fun hc3 => wSl ⟨hj', rfl, fun q hq' hne => ?_⟩) (fun hc3 => wSr (Or.inl ⟨rfl, j, hj', by omega, by omega⟩))
    by_cases e : q = j
    · rw [e]; exact hc3
    · exact hq q (by omega) hne
  · intro t ht
    rcases ht with ⟨rfl, h⟩ | ⟨rfl, h⟩
    · exact wS (Or.inl ⟨rfl, h⟩)
    · exact wS (Or.inr ⟨rfl, h⟩)
/-- what sit() asks for -/
def cSit (n m : Nat) (co : Nat → Nat → Int) (lb : Nat → PcD) (ch : Nat → Nat → Int) (y x p : Int) : Prop := ((0 ≤ y ∧ y < (m : Int)) ∧ (0 ≤ x ∧ x < (pPt (lb y.toNat) : Int))) ∧ (p = -1 ∨ ((0 ≤ p ∧ p < (n : Int)) ∧ pcst co (lb y.toNat) x.toNat p.toNat ≠ -1 ∧ ∀ q, q < pPt (lb y.toNat) → q ≠ x.toNat → ch y.toNat q ≠ p))
def WSi (c _x : Nat) : Prop := ∃ k, k < 10 ∧ c = 11 + 4 * k
theorem CBl_sit (h : CBl m lb ch M) (hm : m ≤ 10) (hk : k < m) (i : Nat) (p : Int) : CBl m lb (up2 ch k i p) (mp M (11 + 4 * k) i p) := by
  refine ⟨by rw [mg_mp_n (by omega)]; exact h.1, fun k' hk' => ⟨PB_fr (h.2 k' hk').1 (Fr_mp (W := fun c x => c = 11 + 4 * k ∧ x = i) ⟨rfl, rfl⟩) (fun c x e => by omega), fun i' hi' => ?_⟩⟩
  rw [mg_mp]; unfold up2
  by_cases e : k' = k ∧ i' = i
  · rw [if_pos (by omega), if_pos e]
  · rw [if_neg (by omega), if_neg e]; exact (h.2 k' hk').2 i' hi'
theorem CMl_sit (h : CMl m lb ch M) (ho : OKl n m lb ch) (hk : k < m) {i : Nat} (hi : i < pPt (lb k)) (p : Int) : CMl m lb (up2 ch k i p) (mp M 93 (10 * k + i) (p + 1)) := by
  refine ⟨by rw [mg_mp_n (by omega)]; exact h.1, fun k' hk' => ⟨PM_fr (h.2 k' hk').1 (Fr_mp (W := fun c x => c = 93 ∧ x = 10 * k + i) ⟨rfl, rfl⟩) (fun c x e => by omega), fun i' hi' => ?_⟩⟩
  have o1 := (ho.2 k hk).1.2.2.2.2.1
  have o2 := (ho.2 k' hk').1.2.2.2.2.1
  rw [mg_mp]; unfold up2
  by_cases e : k' = k ∧ i' = i
  · rw [if_pos (by omega), if_pos e]
  · rw [if_neg (by omega), if_neg e]; exact (h.2 k' hk').2 i' hi'
theorem OKl_sit (ho : OKl n m lb ch) {i : Nat} {p : Int} (hp : -1 ≤ p ∧ p < (n : Int)) : OKl n m lb (up2 ch k i p) := by
  refine ⟨ho.1, fun k' hk' => ⟨(ho.2 k' hk').1, fun i' hi' => ?_⟩⟩
  unfold up2
  split
  · exact hp
  · exact (ho.2 k' hk').2 i' hi'
theorem b_sit_t (hs : Sh M) (hp : CBp n ag jo pa co he M) (hn : n ≤ 14) (h : CBl m lb ch M) (ho : OKl n m lb ch) {y x p : Int} (hc : cSit n m co lb ch y x p) : wp (f_Band_sit M 1 y x p) (fun q => q.1 = 1 ∧ CBl m lb (up2 ch y.toNat x.toNat p) q.2 ∧ Fr WSi M q.2) := by
  obtain ⟨⟨c1, c2⟩, c3⟩ := hc
  obtain ⟨k, rfl, hk⟩ := nat_of c1.1 c1.2
  obtain ⟨i, rfl, hi⟩ := nat_of c2.1 c2.2
  rw [Int.toNat_natCast] at hi c2 c3 ⊢
  rw [Int.toNat_natCast] at c3 ⊢
  have hm := ho.1
  obtain ⟨hb, hcc⟩ := h.2 k hk
  obtain ⟨o1, o2⟩ := ho.2 k hk
  have hpt := o1.2.2.2.2.1
  have tail : wp (j_Band_sit_69 M (i : Int) p (pr k)) (fun q => q.1 = 1 ∧ CBl m lb (up2 ch k i p) q.2 ∧ Fr WSi M q.2) := by
    unfold j_Band_sit_69
    rw [q_chair hs (by omega), cI_s, n_pc2 hs (by omega), Int.toNat_natCast]
    exact wI (by omega) (wI (by omega) (wL (wS ⟨rfl, CBl_sit h hm hk i p, Fr_mp ⟨k, by omega, rfl⟩⟩)))
  unfold f_Band_sit
  rw [show mg M (cI 1) 1 = 7 from p_0_1 hs, q_find hs h hm, if_pos c1, Int.toNat_natCast, show mg M (cI 1) 0 = 2 from p_0_0 hs]
  refine wI (by decide) (wX rfl (wE (pr_nz k) (wX (q_hasPart hb _) ?_)))
  rw [if_pos c2]
  refine wI (by decide) (wC (fun _ => tail) (fun hne => ?_))
  rcases c3 with c3 | ⟨c3, c4, c5⟩
  · exact absurd c3 hne
  obtain ⟨p', rfl, hp'⟩ := nat_of c3.1 c3.2
  refine wI (by decide) (wX (q_has_n hp.1 _) ?_)
  rw [if_pos c3]
  refine wE (by decide) (wX (q_partCost hs hp (by omega) hb o1 hi (by omega)) (wE c4 (wK (b_else hs (by omega) hb hpt hcc _ i) (fun r hr => ?_))))
  rcases hr with ⟨_, q, q1, q2, q3⟩ | ⟨rfl, _⟩
  · exact absurd q3 (c5 q q1 q2)
  · exact wI rfl tail
theorem b_sit_f (hs : Sh M) (hp : CBp n ag jo pa co he M) (hn : n ≤ 14) (h : CBl m lb ch M) (ho : OKl n m lb ch) {y x p : Int} (hc : ¬ cSit n m co lb ch y x p) : f_Band_sit M 1 y x p = some (0, M) := by
  have hm := ho.1
  refine w_eq ?_
  unfold f_Band_sit
  rw [show mg M (cI 1) 1 = 7 from p_0_1 hs, q_find hs h hm, show mg M (cI 1) 0 = 2 from p_0_0 hs]
  refine wI (by decide) (wX rfl ?_)
  rcases dem (0 ≤ y ∧ y < (m : Int)) with c1 | c1
  · rw [if_neg c1]; exact wI rfl (wS rfl)
  obtain ⟨k, rfl, hk⟩ := nat_of c1.1 c1.2
  obtain ⟨hb, hcc⟩ := h.2 k hk
  obtain ⟨o1, o2⟩ := ho.2 k hk
  have hpt := o1.2.2.2.2.1
  rw [if_pos c1, Int.toNat_natCast]
  refine wE (pr_nz k) (wX (q_hasPart hb _) ?_)
  rcases dem (0 ≤ x ∧ x < (pPt (lb k) : Int)) with c2 | c2
  · rw [if_neg c2]; exact wE (by decide) (wS rfl)
  rw [if_pos c2]
  obtain ⟨i, rfl, hi⟩ := nat_of c2.1 c2.2
  have hc' : ¬ (p = -1 ∨ ((0 ≤ p ∧ p < (n : Int)) ∧ pcst co (lb k) i p.toNat ≠ -1 ∧ ∀ q, q < pPt (lb k) → q ≠ i → ch k q ≠ p)) := fun e => hc ⟨⟨c1, c2⟩, e⟩
  refine wI (by decide) (wE (fun e => hc' (Or.inl e)) (wI (by decide) (wX (q_has_n hp.1 _) ?_)))
  rcases dem (0 ≤ p ∧ p < (n : Int)) with c3 | c3
  · rw [if_neg c3]; exact wI rfl (wS rfl)
  rw [if_pos c3]
  obtain ⟨p', rfl, hp'⟩ := nat_of c3.1 c3.2
  refine wE (by decide) (wX (q_partCost hs hp (by omega) hb o1 hi (by omega)) (wC (fun _ => wS rfl) (fun c4 => wK (b_else hs (by omega) hb hpt hcc _ i) (fun r hr => ?_))))
  rcases hr with ⟨rfl, _⟩ | ⟨_, h5⟩
  · exact wE (by decide) (wS rfl)
  · exact absurd (Or.inr ⟨c3, c4, h5⟩) hc'
theorem m_else (hs : Sh M) (hk : k < 10) (hb : PM k d M) (hpt : pPt d ≤ 10) (hc : ∀ i, i < pPt d → mg M 93 (10 * k + i) = c i + 1) {p : Int} (hp : 0 ≤ p ∧ p < 14) (i : Nat) : wp (loopN (l_Model_sit_45 M 80 (k : Int) (i : Int) p) FU 0) (fun r => (r = .inl (0, M) ∧ ∃ q, q < pPt d ∧ q ≠ i ∧ c q = p) ∨ (r = .inr () ∧ ∀ q, q < pPt d → q ≠ i → c q ≠ p)) := by
  refine wp_loop (fun j s => s = (j : Int) ∧ ∀ q, q < j → q ≠ i → c q ≠ p) (pPt d) (by omega) ⟨rfl, fun q hq => absurd hq (Nat.not_lt_zero _)⟩ ?_
  intro j s hj hI
  obtain ⟨rfl, hq⟩ := hI
  have e1 : w32 ((j : Int) + 1) = ((j + 1 : Nat) : Int) := by rw [w32_s (by omega) (by omega)]; omega
  have e2 : w32 (p + 1) = p + 1 := w32_s (by omega) (by omega)
  have e4 : w32 (10 * (k : Int)) = 10 * (k : Int) := w32_s (by omega) (by omega)
  have e5 : w32 (10 * (k : Int) + (j : Int)) = 10 * (k : Int) + (j : Int) := w32_s (by omega) (by omega)
  have t1 : (10 * (k : Int) + (j : Int)).toNat = 10 * k + j := by omega
  unfold l_Model_sit_45
  simp only [lt, e1, e2, e4, e5, t1, show cI 80 = 79 from rfl, p_79_12 hs, p_79_16 hs, show cI 90 = 89 from rfl, show cI 94 = 93 from rfl, n_89 hs, n_93 hs, Int.toNat_natCast, hb.2.2.2.2.1]
  refine wI (by decide) (wI (by omega) (wC (fun hc1 => wSr (Or.inr ⟨rfl, fun q hq' => hq q (by omega)⟩)) (fun hc1 => ?_)))
  have hj' : j < pPt d := by omega
  refine wC (fun hc2 => wSl ⟨hj', rfl, fun q hq' hne => hq q (by omega) hne⟩) (fun hc2 => ?_)
  refine wI (by decide) (wI (by omega) ?_)
  rw [hc j hj']
  refine wC (fun hc3 => wSl ⟨hj', rfl, fun q hq' hne => ?_⟩) (fun hc3 => wSr (Or.inl ⟨rfl, j, hj', by omega, by omega⟩))
  by_cases e : q = j
  · rw [e]; omega
  · exact hq q (by omega) hne
def WMs (c x : Nat) : Prop := (c = 79 ∧ x = 0) ∨ c = 93
theorem m_sit_t (hs : Sh M) (hp : CMp n ag jo pa co he M) (hco : ∀ p i, -1 ≤ co p i ∧ co p i ≤ 9) (hn : n ≤ 14) (h : CMl m lb ch M) (ho : OKl n m lb ch) {y x p : Int} (hc : cSit n m co lb ch y x p) : wp (f_Model_sit M 80 y x p) (fun q => q.1 = 1 ∧ CMl m lb (up2 ch y.toNat x.toNat p) q.2 ∧ Fr WMs M q.2) := by
  have f0 : Fr (fun c k => c = 79 ∧ k = 0) M (mp M 79 0 0) := Fr_mp ⟨rfl, rfl⟩
  have hs' : Sh (mp M 79 0 0) := Sh_mp hs (by unfold isP; omega)
  have hp' : CMp n ag jo pa co he (mp M 79 0 0) := CMp_fr hp f0 (fun c k e => by omega)
  have h' : CMl m lb ch (mp M 79 0 0) := CMl_fr h f0 (fun c k e => by omega)
  have f1 : Fr WMs M (mp M 79 0 0) := Fr_sub f0 (fun c k e => Or.inl e)
  have hm := ho.1
  unfold f_Model_sit
  refine wL ?_
  rw [show cI 80 = 79 from rfl]
  refine wX (m_isPart hs' h' hm y x) ?_
  rw [if_pos hc.1]
  obtain ⟨⟨c1, c2⟩, c3⟩ := hc
  obtain ⟨k, rfl, hk⟩ := nat_of c1.1 c1.2
  obtain ⟨i, rfl, hi⟩ := nat_of c2.1 c2.2
  rw [Int.toNat_natCast] at hi c2 c3 ⊢
  rw [Int.toNat_natCast] at c3 ⊢
  obtain ⟨hb, hcc⟩ := h'.2 k hk
  obtain ⟨o1, o2⟩ := ho.2 k hk
  have hpt := o1.2.2.2.2.1
  have e4 : w32 (10 * (k : Int)) = 10 * (k : Int) := w32_s (by omega) (by omega)
  have e5 : w32 (10 * (k : Int) + (i : Int)) = 10 * (k : Int) + (i : Int) := w32_s (by omega) (by omega)
  have t1 : (10 * (k : Int) + (i : Int)).toNat = 10 * k + i := by omega
  have hpb : -1 ≤ p ∧ p < 14 := by rcases c3 with c3 | c3 <;> omega
  have e2 : w32 (p + 1) = p + 1 := w32_s (by omega) (by omega)
  have tail : wp (j_Model_sit_88 (mp M 79 0 0) 80 (k : Int) (i : Int) p) (fun q => q.1 = 1 ∧ CMl m lb (up2 ch k i p) q.2 ∧ Fr WMs M q.2) := by
    unfold j_Model_sit_88
    rw [show mg (mp M 79 0 0) (cI 80) 16 = 94 from p_79_16 hs', show cI 94 = 93 from rfl, n_93 hs', e4, e5, t1, e2]
    exact wI (by decide) (wI (by omega) (wL (wS ⟨rfl, CMl_sit h' ho hk hi p, Fr_wr f1 (Or.inr rfl)⟩)))
  refine wI (by decide) (wC (fun _ => tail) (fun hne => ?_))
  rcases c3 with c3 | ⟨c3, c4, c5⟩
  · exact absurd c3 hne
  obtain ⟨p', rfl, hp''⟩ := nat_of c3.1 c3.2
  refine wX (m_has_n hp'.1 _) ?_
  rw [if_pos c3]
  refine wE (by decide) (wX (m_costOf hs' hp' hco (by omega) hb o1 hi (by omega)) (wI c4 (wK (m_else hs' (by omega) hb hpt hcc (by omega) i) (fun r hr => ?_))))
  rcases hr with ⟨_, q, q1, q2, q3⟩ | ⟨rfl, _⟩
  · exact absurd q3 (c5 q q1 q2)
  · exact tail
theorem m_sit_f (hs : Sh M) (hp : CMp n ag jo pa co he M) (hco : ∀ p i, -1 ≤ co p i ∧ co p i ≤ 9) (hn : n ≤ 14) (h : CMl m lb ch M) (ho : OKl n m lb ch) {y x p : Int} (hc : ¬ cSit n m co lb ch y x p) : f_Model_sit M 80 y x p = some (0, mp M 79 0 0) := by
  have f0 : Fr (fun c k => c = 79 ∧ k = 0) M (mp M 79 0 0) := Fr_mp ⟨rfl, rfl⟩
  have hs' : Sh (mp M 79 0 0) := Sh_mp hs (by unfold isP; omega)
  have hp' : CMp n ag jo pa co he (mp M 79 0 0) := CMp_fr hp f0 (fun c k e => by omega)
  have h' : CMl m lb ch (mp M 79 0 0) := CMl_fr h f0 (fun c k e => by omega)
  have hm := ho.1
  refine w_eq ?_
  unfold f_Model_sit
  refine wL ?_
  rw [show cI 80 = 79 from rfl]
  refine wX (m_isPart hs' h' hm y x) ?_
  rcases dem ((0 ≤ y ∧ y < (m : Int)) ∧ (0 ≤ x ∧ x < (pPt (lb y.toNat) : Int))) with c0 | c0
  · rw [if_neg c0]; exact wE (by decide) (wS rfl)
  rw [if_pos c0]
  obtain ⟨c1, c2⟩ := c0
  obtain ⟨k, rfl, hk⟩ := nat_of c1.1 c1.2
  obtain ⟨i, rfl, hi⟩ := nat_of c2.1 c2.2
  rw [Int.toNat_natCast] at hi
  obtain ⟨hb, hcc⟩ := h'.2 k hk
  obtain ⟨o1, o2⟩ := ho.2 k hk
  have hpt := o1.2.2.2.2.1
  have hc' : ¬ (p = -1 ∨ ((0 ≤ p ∧ p < (n : Int)) ∧ pcst co (lb k) i p.toNat ≠ -1 ∧ ∀ q, q < pPt (lb k) → q ≠ i → ch k q ≠ p)) := fun e => hc ⟨⟨c1, c2⟩, e⟩
  refine wI (by decide) (wE (fun e => hc' (Or.inl e)) (wX (m_has_n hp'.1 _) ?_))
  rcases dem (0 ≤ p ∧ p < (n : Int)) with c3 | c3
  · rw [if_neg c3]; exact wI rfl (wS rfl)
  rw [if_pos c3]
  obtain ⟨p', rfl, hp''⟩ := nat_of c3.1 c3.2
  refine wE (by decide) (wX (m_costOf hs' hp' hco (by omega) hb o1 hi (by omega)) (wC (fun c4 => ?_) (fun _ => wS rfl)))
  refine wK (m_else hs' (by omega) hb hpt hcc (by omega) i) (fun r hr => ?_)
  rcases hr with ⟨rfl, _⟩ | ⟨_, h5⟩
  · exact wS rfl
  · exact absurd (Or.inr ⟨c3, c4, h5⟩) hc'
end SI
