/-! playable, lacks, count -/
def plC (co : Nat → Nat → Int) (he : Nat → Bool) (lb : Nat → PcD) : Nat → Nat
  | 0 => 0
  | k + 1 => if lk co he (lb k) = 0 then plC co he lb k + 1 else plC co he lb k
theorem plC_le (co : Nat → Nat → Int) (he : Nat → Bool) (lb : Nat → PcD) : ∀ k, plC co he lb k ≤ k
  | 0 => Nat.le_refl 0
  | k + 1 => by have := plC_le co he lb k; unfold plC; split <;> omega
def cntA (n m w : Nat) (gl : Int) (co : Nat → Nat → Int) (he : Nat → Bool) (lb : Nat → PcD) (x : Int) : Int := if x = 0 then (n : Int) else if x = 1 then (cnt he n : Int) else if x = 2 then (m : Int) else if x = 3 then (plC co he lb m : Int) else if x = 4 then (w : Int) else if x = 5 then gl else -1
section CO
variable {n m w k : Nat} {gl : Int} {ag jo pa : Nat → Int} {co : Nat → Nat → Int} {he : Nat → Bool} {lb : Nat → PcD} {ch : Nat → Nat → Int} {d : PcD} {M : Mm}
theorem b_playable (hs : Sh M) (hp : CBp n ag jo pa co he M) (hok : OKp n pa co he) (h : CBl m lb ch M) (ho : OKl n m lb ch) (y : Int) : wp (f_Band_playable M 1 y) (fun q => q.1 = (if 0 ≤ y ∧ y < (m : Int) then if lk co he (lb y.toNat) = 0 then 1 else 0 else -1) ∧ Fr WCo M q.2) := by
  have hm := ho.1
  unfold f_Band_playable
  rw [show mg M (cI 1) 1 = 7 from p_0_1 hs, q_find hs h hm, show mg M (cI 1) 5 = 62 from p_0_5 hs, show mg M (cI 1) 0 = 2 from p_0_0 hs]
  refine wI (by decide) (wX rfl ?_)
  by_cases c : 0 ≤ y ∧ y < (m : Int)
  · obtain ⟨k, rfl, hk⟩ := nat_of c.1 c.2
    rw [if_pos c, if_pos c, Int.toNat_natCast]
    refine wI (pr_nz k) (wI (by decide) (wI (by decide) (wK (b_coversMust hs hp hok (by omega) (h.2 k hk).1 (ho.2 k hk).1) (fun q hq => ?_))))
    obtain ⟨e, _, hf⟩ := hq
    rw [e]
    by_cases c2 : lk co he (lb k) = 0
    · rw [if_pos c2]; exact wE (by decide) (wS ⟨rfl, hf⟩)
    · rw [if_neg c2]; exact wI rfl (wS ⟨rfl, hf⟩)
  · rw [if_neg c, if_neg c]
    exact wE (by decide) (wS ⟨rfl, Fr_rf⟩)
theorem b_lacks (hs : Sh M) (hp : CBp n ag jo pa co he M) (hok : OKp n pa co he) (h : CBl m lb ch M) (ho : OKl n m lb ch) (h0 : mg M 64 0 = 0) (y : Int) : wp (f_Band_lacks M 1 y) (fun q => q.1 = (if 0 ≤ y ∧ y < (m : Int) then (lk co he (lb y.toNat) : Int) else -1) ∧ Fr WLk M q.2 ∧ mg q.2 64 0 = 0) := by
  have hm := ho.1
  unfold f_Band_lacks
  rw [show mg M (cI 1) 1 = 7 from p_0_1 hs, q_find hs h hm, show mg M (cI 1) 5 = 62 from p_0_5 hs, show mg M (cI 1) 0 = 2 from p_0_0 hs]
  refine wI (by decide) (wX rfl ?_)
  by_cases c : 0 ≤ y ∧ y < (m : Int)
  · obtain ⟨k, rfl, hk⟩ := nat_of c.1 c.2
    rw [if_pos c, if_pos c, Int.toNat_natCast]
    exact wI (pr_nz k) (wI (by decide) (wI (by decide) (wK (b_leastLack hs hp hok (by omega) (h.2 k hk).1 (ho.2 k hk).1 h0) (fun q hq => wS hq))))
  · rw [if_neg c, if_neg c]
    exact wE (by decide) (wS ⟨rfl, Fr_rf, h0⟩)
theorem m_playable (hs : Sh M) (hp : CMp n ag jo pa co he M) (hok : OKp n pa co he) (h : CMl m lb ch M) (ho : OKl n m lb ch) (y : Int) : f_Model_playable M 80 y = some (if 0 ≤ y ∧ y < (m : Int) then if lk co he (lb y.toNat) = 0 then 1 else 0 else -1, mp M 79 0 0) := by
  have hm := ho.1
  have f0 : Fr (fun c k => c = 79 ∧ k = 0) M (mp M 79 0 0) := Fr_mp ⟨rfl, rfl⟩
  have hs' : Sh (mp M 79 0 0) := Sh_mp hs (by unfold isP; omega)
  have hp' : CMp n ag jo pa co he (mp M 79 0 0) := CMp_fr hp f0 (fun c k e => by omega)
  have h' : CMl m lb ch (mp M 79 0 0) := CMl_fr h f0 (fun c k e => by omega)
  unfold f_Model_playable
  simp only [lt, show cI 80 = 79 from rfl, m_isPiece h'.1, Option.bind_some]
  by_cases c : 0 ≤ y ∧ y < (m : Int)
  · obtain ⟨k, rfl, hk⟩ := nat_of c.1 c.2
    rw [if_pos c, if_pos c, if_pos (by decide), m_lacking hs' hp' hok (by omega) (h'.2 k hk).1 (ho.2 k hk).1, Option.bind_some, Int.toNat_natCast]
    by_cases c2 : lk co he (lb k) = 0
    · rw [if_neg (by omega), if_pos c2]
    · rw [if_pos (by omega), if_neg c2]
  · rw [if_neg c, if_neg c, if_neg (by decide)]
theorem m_lacks (hs : Sh M) (hp : CMp n ag jo pa co he M) (hok : OKp n pa co he) (h : CMl m lb ch M) (ho : OKl n m lb ch) (y : Int) : f_Model_lacks M 80 y = some (if 0 ≤ y ∧ y < (m : Int) then (lk co he (lb y.toNat) : Int) else -1, mp M 79 0 0) := by
  have hm := ho.1
  have f0 : Fr (fun c k => c = 79 ∧ k = 0) M (mp M 79 0 0) := Fr_mp ⟨rfl, rfl⟩
  have hs' : Sh (mp M 79 0 0) := Sh_mp hs (by unfold isP; omega)
  have hp' : CMp n ag jo pa co he (mp M 79 0 0) := CMp_fr hp f0 (fun c k e => by omega)
  have h' : CMl m lb ch (mp M 79 0 0) := CMl_fr h f0 (fun c k e => by omega)
  unfold f_Model_lacks
  simp only [lt, show cI 80 = 79 from rfl, m_isPiece h'.1, Option.bind_some]
  by_cases c : 0 ≤ y ∧ y < (m : Int)
  · obtain ⟨k, rfl, hk⟩ := nat_of c.1 c.2
    rw [if_pos c, if_pos c, if_neg (by decide), m_lacking hs' hp' hok (by omega) (h'.2 k hk).1 (ho.2 k hk).1, Option.bind_some, Int.toNat_natCast]
  · rw [if_neg c, if_neg c, if_pos rfl]
theorem b_pieces (hs : Sh M) (hp : CBp n ag jo pa co he M) (hok : OKp n pa co he) (h : CBl m lb ch M) (ho : OKl n m lb ch) : wp (f_Band_playablePieces M 1) (fun q => q.1 = (plC co he lb m : Int) ∧ Fr WCo M q.2) := by
  have hm := ho.1
  unfold f_Band_playablePieces
  refine wK (wp_loop (fun j s => s.1 = (plC co he lb j : Int) ∧ s.2.1 = (j : Int) ∧ Fr WCo M s.2.2) m (Q := fun t => t.1 = (plC co he lb m : Int) ∧ Fr WCo M t.2) (by omega) ⟨rfl, rfl, Fr_rf⟩ ?_) (fun t ht => wS ht)
  intro j s hj hI
  obtain ⟨v, i, M1⟩ := s
  obtain ⟨e1, e2, hf⟩ := hI
  simp only at e1 e2 hf
  subst e1 e2
  have s1 : Sh M1 := sh_WCo hs hf
  have p1 : CBp n ag jo pa co he M1 := CBp_fr hp hf (fun c x e => by unfold WCo at e; omega)
  have l1 : CBl m lb ch M1 := CBl_fr (n := n) hm h hf (fun c x e => by unfold WCo at e; omega)
  have hle := plC_le co he lb j
  have ej : w32 ((j : Int) + 1) = ((j + 1 : Nat) : Int) := by rw [w32_s (by omega) (by omega)]; omega
  have ev : w32 ((plC co he lb j : Int) + 1) = ((plC co he lb j + 1 : Nat) : Int) := by rw [w32_s (by omega) (by omega)]; omega
  unfold l_Band_playablePieces_4
  simp only []
  rw [show mg M1 (cI 1) 1 = 7 from p_0_1 s1, show mg M1 (cI 7) 1 = (m : Int) from l1.1, q_find s1 l1 hm, show mg M1 (cI 1) 5 = 62 from p_0_5 s1, show mg M1 (cI 1) 0 = 2 from p_0_0 s1]
  refine wI (by decide) (wC (fun hc => wSr ?_) (fun hc => ?_))
  · have : j = m := by omega
    subst this; exact ⟨rfl, hf⟩
  have hj' : j < m := by omega
  rw [if_pos (show 0 ≤ (j : Int) ∧ (j : Int) < (m : Int) by omega), Int.toNat_natCast]
  refine wX rfl (wE (pr_nz j) (wI (by decide) (wI (by decide) (wK (b_coversMust s1 p1 hok (by omega) (l1.2 j hj').1 (ho.2 j hj').1) (fun q hq => ?_)))))
  obtain ⟨e, _, hf2⟩ := hq
  rw [e]
  by_cases c2 : lk co he (lb j) = 0
  · rw [if_pos c2]
    refine wE (by decide) (wL (wL (wSl ⟨hj', ?_, ej, Fr_tr hf hf2⟩)))
    rw [show plC co he lb (j + 1) = plC co he lb j + 1 from if_pos c2]; exact ev
  · rw [if_neg c2]
    refine wI rfl (wL (wSl ⟨hj', ?_, ej, Fr_tr hf hf2⟩))
    rw [show plC co he lb (j + 1) = plC co he lb j from if_neg c2]
theorem b_count (hs : Sh M) (hp : CBp n ag jo pa co he M) (hok : OKp n pa co he) (h : CBl m lb ch M) (ho : OKl n m lb ch) (hw : mg M 55 5 = (w : Int)) (hg : mg M 72 1 = gl) (x : Int) : wp (f_Band_count M 1 x) (fun q => q.1 = cntA n m w gl co he lb x ∧ Fr WCo M q.2) := by
  unfold f_Band_count cntA
  rw [show mg M (cI 1) 0 = 2 from p_0_0 hs, show mg M (cI 2) 4 = (n : Int) from hp.1, show mg M (cI 1) 1 = 7 from p_0_1 hs, show mg M (cI 7) 1 = (m : Int) from h.1, show mg M (cI 1) 4 = 56 from p_0_4 hs, show mg M (cI 56) 5 = (w : Int) from hw, show mg M (cI 1) 7 = 73 from p_0_7 hs, show mg M (cI 73) 1 = gl from hg]
  by_cases c0 : x = 0
  · rw [if_pos c0, if_pos c0]; exact (wI (by decide) (wS ⟨rfl, Fr_rf⟩))
  rw [if_neg c0, if_neg c0]
  by_cases c1 : x = 1
  · rw [if_pos c1, if_pos c1]
    obtain ⟨b, e, hb, ht⟩ := hp.2.2.2.2
    rw [show mg M (cI 2) 5 = (b : Int) from e]
    refine wI (by decide) (wX (b_bitCount M hb) (wS ⟨?_, Fr_rf⟩))
    have e1 : pcn b = cnt he 14 := cnt_cg 14 (fun p _ => ht p)
    have e2 : cnt he 14 = cnt he n := cnt_ext 14 hok.1 hok.2.2.2
    rw [e1, e2]
  rw [if_neg c1, if_neg c1]
  by_cases c2 : x = 2
  · rw [if_pos c2, if_pos c2]; exact (wI (by decide) (wS ⟨rfl, Fr_rf⟩))
  rw [if_neg c2, if_neg c2]
  by_cases c3 : x = 3
  · rw [if_pos c3, if_pos c3]
    exact wK (b_pieces hs hp hok h ho) (fun q hq => wS hq)
  rw [if_neg c3, if_neg c3]
  by_cases c4 : x = 4
  · rw [if_pos c4, if_pos c4]; exact (wI (by decide) (wS ⟨rfl, Fr_rf⟩))
  rw [if_neg c4, if_neg c4]
  by_cases c5 : x = 5
  · rw [if_pos c5, if_pos c5]; exact (wI (by decide) (wS ⟨rfl, Fr_rf⟩))
  rw [if_neg c5, if_neg c5]
  exact wS ⟨rfl, Fr_rf⟩
theorem m_pieces (hs : Sh M) (hp : CMp n ag jo pa co he M) (hok : OKp n pa co he) (h : CMl m lb ch M) (ho : OKl n m lb ch) : loopN (l_Model_count_69 M 80) FU (0, 0) = some (plC co he lb m : Int) := by
  have hm := ho.1
  refine loop_for (fun j => ((plC co he lb j : Int), (j : Int))) m (by omega) rfl (fun j hj => ?_) ?_
  · have hle := plC_le co he lb j
    have ej : w32 ((j : Int) + 1) = ((j + 1 : Nat) : Int) := by rw [w32_s (by omega) (by omega)]; omega
    have ev : w32 ((plC co he lb j : Int) + 1) = ((plC co he lb j + 1 : Nat) : Int) := by rw [w32_s (by omega) (by omega)]; omega
    unfold l_Model_count_69
    simp only [lt, ej, ev]
    rw [show mg M (cI 80) 7 = (m : Int) from h.1, if_neg (by omega), m_lacking hs hp hok (by omega) (h.2 j hj).1 (ho.2 j hj).1, Option.bind_some]
    by_cases c2 : lk co he (lb j) = 0
    · rw [if_neg (by omega)]; simp only [plC]; rw [if_pos c2]
    · rw [if_pos (by omega)]; simp only [plC]; rw [if_neg c2]
  · unfold l_Model_count_69
    simp only []
    rw [show mg M (cI 80) 7 = (m : Int) from h.1, if_pos (by omega)]
theorem m_here (hs : Sh M) (hp : CMp n ag jo pa co he M) (hn : n ≤ 14) : loopN (l_Model_count_23 M 80) FU (0, 0) = some (cnt he n : Int) := by
  refine loop_for (fun j => ((cnt he j : Int), (j : Int))) n (by omega) rfl (fun j hj => ?_) ?_
  · have hle := cnt_le he j
    have ej : w32 ((j : Int) + 1) = ((j + 1 : Nat) : Int) := by rw [w32_s (by omega) (by omega)]; omega
    have ev : w32 ((cnt he j : Int) + 1) = ((cnt he j + 1 : Nat) : Int) := by rw [w32_s (by omega) (by omega)]; omega
    unfold l_Model_count_23
    simp only [lt, ej, ev]
    rw [show mg M (cI 80) 1 = (n : Int) from hp.1, if_neg (by omega), show mg M (cI 80) 5 = 84 from p_79_5 hs, if_pos (by decide), show cI 84 = 83 from rfl, n_83 hs, if_pos (by omega), Int.toNat_natCast, hp.2.2.2.2 j (by omega)]
    simp only [cnt]
    cases he j <;> rfl
  · unfold l_Model_count_23
    simp only []
    rw [show mg M (cI 80) 1 = (n : Int) from hp.1, if_pos (by omega)]
theorem m_count (hs : Sh M) (hp : CMp n ag jo pa co he M) (hok : OKp n pa co he) (h : CMl m lb ch M) (ho : OKl n m lb ch) (hw : mg M 79 24 = (w : Int)) (hg : mg M 79 18 = gl) (x : Int) : f_Model_count M 80 x = some (cntA n m w gl co he lb x, mp M 79 0 0) := by
  have f0 : Fr (fun c k => c = 79 ∧ k = 0) M (mp M 79 0 0) := Fr_mp ⟨rfl, rfl⟩
  have hs' : Sh (mp M 79 0 0) := Sh_mp hs (by unfold isP; omega)
  have hp' : CMp n ag jo pa co he (mp M 79 0 0) := CMp_fr hp f0 (fun c k e => by omega)
  have h' : CMl m lb ch (mp M 79 0 0) := CMl_fr h f0 (fun c k e => by omega)
  have hw' : mg (mp M 79 0 0) 79 24 = (w : Int) := by rw [mg_mp_n (by omega)]; exact hw
  have hg' : mg (mp M 79 0 0) 79 18 = gl := by rw [mg_mp_n (by omega)]; exact hg
  unfold f_Model_count cntA
  simp only [lt, show cI 80 = 79 from rfl, hp'.1, h'.1, hw', hg', m_pieces hs' hp' hok h' ho, m_here hs' hp' hok.1, Option.bind_some]
  by_cases c0 : x = 0
  · rw [if_pos c0, if_neg (by omega)]
  rw [if_neg c0, if_pos c0]
  by_cases c1 : x = 1
  · rw [if_pos c1, if_neg (by omega)]
  rw [if_neg c1, if_pos c1]
  by_cases c2 : x = 2
  · rw [if_pos c2, if_neg (by omega)]
  rw [if_neg c2, if_pos c2]
  by_cases c3 : x = 3
  · rw [if_pos c3, if_neg (by omega)]
  rw [if_neg c3, if_pos c3]
  by_cases c4 : x = 4
  · rw [if_pos c4, if_neg (by omega)]
  rw [if_neg c4, if_pos c4]
  by_cases c5 : x = 5
  · rw [if_pos c5, if_neg (by omega)]
  rw [if_neg c5, if_pos c5]
end CO
