/-! seat and again -/
def chU (ch : Nat → Nat → Int) (k : Nat) (f : Nat → Int) : Nat → Nat → Int := fun k' i => if k' = k then f i else ch k' i
def Z71 (M : Mm) : Prop := ∀ c, c ≤ 24 → 0 ≤ mg M 71 c
def WSt (k c x : Nat) : Prop := (c = 65 ∧ x = 6) ∨ (66 ≤ c ∧ c ≤ 71) ∨ (c = 11 + 4 * k ∧ x < 10)
/-- a SEATING that no other is lighter than -/
def Lgt (an : Bool) (co : Nat → Nat → Int) (he : Nat → Bool) (d : PcD) (c : Nat → Int) (a : Nat → Nat) : Prop := (∀ i, a i < 15) ∧ Vd (pPt d) (mbP co he d) a ∧ ∀ b, Vd (pPt d) (mbP co he d) b → sumN (fun i => kF an co d c i (a i) * 576650390625 + (a i : Int) * dgt i) (pPt d) ≤ sumN (fun i => kF an co d c i (b i) * 576650390625 + (b i : Int) * dgt i) (pPt d)
section ST
variable {n m k : Nat} {ag jo pa : Nat → Int} {co : Nat → Nat → Int} {he : Nat → Bool} {lb : Nat → PcD} {ch : Nat → Nat → Int} {d : PcD} {c : Nat → Int} {M : Mm} {an : Bool}
theorem b_seater (hs : Sh M) (hp : CBp n ag jo pa co he M) (hok : OKp n pa co he) (hk : k < 10) (hb : PB k d M) (ho : OKd d) (hc : ∀ i, i < pPt d → mg M (11 + 4 * k) i = c i) (hmt : MatchB co he d) (hz : Z71 M) {M1 : Mm} (f1 : Fr W66 M M1) (hrw : RwO n an co he d c (pPt d) M1) : wp ((f_Seater_match M1 66 (mg M1 (cI (pr k)) 7) (mg M1 (cI 2) 4)).bind (fun p14 => f_Seater_takeChairs p14 66 (pr k) (mg p14 (cI 2) 4))) (fun q => ∃ a, Lgt an co he d c a ∧ q.1 = sumN (fun i => ctA c i (a i)) (pPt d) ∧ (∀ i, i < pPt d → mg q.2 (11 + 4 * k) i = chN a i) ∧ Fr (WSt k) M q.2 ∧ Z71 q.2) := by
  have hn := hok.1
  have hco := hok.2.2.1
  have hpt := ho.2.2.2.2.1
  have s1 := sh_W66 hs f1
  have p1 : CBp n ag jo pa co he M1 := CBp_fr hp f1 (fun c x e => by unfold W66 at e; omega)
  have b1 : PB k d M1 := PB_fr hb f1 (fun c x e => by unfold W66 at e; omega)
  have c1 : ∀ i, i < pPt d → mg M1 (11 + 4 * k) i = c i := fun i hi => (f1.1 _ _ (by unfold W66; omega)).trans (hc i hi)
  rw [show mg M1 (cI (pr k)) 7 = (pPt d : Int) by rw [cI_pr]; exact b1.2.2.2.2.1, show mg M1 (cI 2) 4 = (n : Int) from p1.1]
  have hWf : ∀ i, i < pPt d → ∀ z, 1 ≤ z → z ≤ n + pPt d → mg M1 66 ((i + 1 - 1) * 24 + (z - 1)) = WF an co he d c i (cpl n z) := fun i hi z z1 z2 => by
    rw [show i + 1 - 1 = i by omega]; exact hrw i hi z z1 z2
  refine wK (b_match (C := n + pPt d) (W := fun r z => mg M1 66 ((r - 1) * 24 + (z - 1))) s1 rfl hn hpt (fun z hz' => by rw [f1.1 71 z (by unfold W66; omega)]; exact hz z hz') (fun r z _ _ _ _ => rfl) (fun r z a1 a2 a3 a4 => ?_)) (fun M2 hM2 => ?_)
  · obtain ⟨i, rfl⟩ : ∃ i, r = i + 1 := ⟨r - 1, by omega⟩
    rw [hWf i (by omega) z a3 a4]
    have := WF_b (c := c) hco an he d (show i < 10 by omega) (show cpl n z < 15 by unfold cpl; split <;> omega)
    omega
  obtain ⟨u, v, sl, ro, cf, hm2, hmi, f2⟩ := hM2
  obtain ⟨col, hcol⟩ := mat_col hmi
  have s2 := sh_WHu s1 f2
  have p2 : CBp n ag jo pa co he M2 := CBp_fr p1 f2 (fun c x e => by unfold WHu at e; omega)
  have b2 : PB k d M2 := PB_fr b1 f2 (fun c x e => by unfold WHu at e; omega)
  have c2 : ∀ i, i < pPt d → mg M2 (11 + 4 * k) i = c i := fun i hi => (f2.1 _ _ (by unfold WHu; omega)).trans (c1 i hi)
  obtain ⟨hv, hopt⟩ := col_best hok ho hmt rfl hWf hmi hcol
  rw [show mg M2 (cI 2) 4 = (n : Int) from p2.1]
  refine wM (b_take s2 hk b2 hpt hn rfl hm2 hmi hcol c2) (fun q hq => ?_)
  obtain ⟨q1, q2, q3⟩ := hq
  refine ⟨fun i => cpl n (col i), ⟨fun i => (by show cpl n (col i) < 15; unfold cpl; split <;> omega), hv, hopt⟩, q1, q2, Fr_tr (Fr_tr (Fr_sub f1 (fun c x e => by unfold W66 at e; unfold WSt; omega)) (Fr_sub f2 (fun c x e => by unfold WHu at e; unfold WSt; omega))) (Fr_sub q3 (fun c x e => by unfold WTk at e; unfold WSt; omega)), fun z hz' => ?_⟩
  rw [q3.1 71 z (by unfold WTk; omega), hm2.2.2.2.2.2.2 z hz']
  omega
theorem bind_id {α : Type} (x : Option α) : x.bind (fun a => some a) = x := by cases x <;> rfl
theorem b_seatAnew (hs : Sh M) (hp : CBp n ag jo pa co he M) (hok : OKp n pa co he) (hk : k < 10) (hb : PB k d M) (ho : OKd d) (hc : ∀ i, i < pPt d → mg M (11 + 4 * k) i = c i) (hmt : MatchB co he d) (hz : Z71 M) : wp (f_Seater_seatAnew M 66 (pr k) 2) (fun M' => ∃ a, Lgt false co he d c a ∧ (∀ i, i < pPt d → mg M' (11 + 4 * k) i = chN a i) ∧ Fr (WSt k) M M' ∧ Z71 M') := by
  unfold f_Seater_seatAnew
  refine wK (b_layS (c := c) hs hp hok hk hb ho) (fun M1 ⟨f1, hrw⟩ => ?_)
  have h := b_seater hs hp hok hk hb ho hc hmt hz f1 hrw
  obtain ⟨q, hq, a, h1, h2, h3, h4, h5⟩ := h
  obtain ⟨M2, e1, e2⟩ := bx hq
  rw [e1]
  show wp ((f_Seater_takeChairs M2 66 (pr k) (mg M2 (cI 2) 4)).bind (fun p15 => some p15.2)) _
  rw [e2]
  exact wS ⟨a, h1, h3, h4, h5⟩
theorem b_again0 (hs : Sh M) (hp : CBp n ag jo pa co he M) (hok : OKp n pa co he) (hk : k < 10) (hb : PB k d M) (ho : OKd d) (hc : ∀ i, i < pPt d → mg M (11 + 4 * k) i = c i) (hmt : MatchB co he d) (hz : Z71 M) : wp (f_Seater_seatWithFewestChanges M 66 (pr k) 2) (fun q => ∃ a, Lgt true co he d c a ∧ q.1 = sumN (fun i => ctA c i (a i)) (pPt d) ∧ (∀ i, i < pPt d → mg q.2 (11 + 4 * k) i = chN a i) ∧ Fr (WSt k) M q.2 ∧ Z71 q.2) := by
  unfold f_Seater_seatWithFewestChanges
  refine wK (b_layA (c := c) hs hp hok hk hb ho hc) (fun M1 ⟨f1, hrw⟩ => ?_)
  have h := b_seater hs hp hok hk hb ho hc hmt hz f1 hrw
  obtain ⟨q, hq, a, h1, h2, h3, h4, h5⟩ := h
  obtain ⟨M2, e1, e2⟩ := bx hq
  rw [e1]
  show wp ((f_Seater_takeChairs M2 66 (pr k) (mg M2 (cI 2) 4)).bind (fun p15 => some (p15.1, p15.2))) _
  rw [e2]
  exact wS ⟨a, h1, h2, h3, h4, h5⟩
theorem sCnt_cg {f g : Nat → Int} : ∀ j, (∀ i, i < j → f i = g i) → sCnt f j = sCnt g j
  | 0, _ => rfl
  | j + 1, h => by
    have h1 := sCnt_cg j (fun i hi => h i (by omega))
    show (if f j < 0 then sCnt f j else sCnt f j + 1) = (if g j < 0 then sCnt g j else sCnt g j + 1)
    rw [h1, h j (by omega)]
theorem chN_lo (g : Nat → Nat) (i : Nat) : -1 ≤ chN g i := by unfold chN; split <;> omega
def WBs (c x : Nat) : Prop := (c = 61 ∧ x = 3) ∨ c = 62 ∨ c = 63 ∨ (c = 65 ∧ x = 6) ∨ (66 ≤ c ∧ c ≤ 71) ∨ (∃ k, k < 10 ∧ c = 11 + 4 * k)
theorem CBl_seat (h : CBl m lb ch M) (hm : m ≤ 10) (hk : k < m) {M' : Mm} (hf : Fr (WSt k) M M') {f : Nat → Int} (hc : ∀ i, i < pPt (lb k) → mg M' (11 + 4 * k) i = f i) : CBl m lb (chU ch k f) M' := by
  refine ⟨(hf.1 6 1 (by unfold WSt; omega)).trans h.1, fun k' hk' => ⟨PB_fr (h.2 k' hk').1 hf (fun c x e => by unfold WSt at e; omega), fun i hi => ?_⟩⟩
  unfold chU
  by_cases e : k' = k
  · subst e; rw [if_pos rfl]; exact hc i hi
  · rw [if_neg e, hf.1 _ _ (by unfold WSt; omega)]; exact (h.2 k' hk').2 i hi
theorem CMl_seat (h : CMl m lb ch M) (ho : OKl n m lb ch) (hk : k < m) {M' : Mm} (hf : Fr (WSe k) M M') {f : Nat → Int} (hc : ∀ i, i < pPt (lb k) → mg M' 93 (10 * k + i) = f i + 1) : CMl m lb (chU ch k f) M' := by
  refine ⟨(hf.1 79 7 (by unfold WSe; omega)).trans h.1, fun k' hk' => ⟨PM_fr (h.2 k' hk').1 hf (fun c x e => by unfold WSe at e; omega), fun i hi => ?_⟩⟩
  have hpt := (ho.2 k' hk').1.2.2.2.2.1
  unfold chU
  by_cases e : k' = k
  · subst e; rw [if_pos rfl]; exact hc i hi
  · rw [if_neg e, hf.1 _ _ (by unfold WSe; omega)]; exact (h.2 k' hk').2 i hi
theorem b_seat_t (hs : Sh M) (hp : CBp n ag jo pa co he M) (hok : OKp n pa co he) (h : CBl m lb ch M) (ho : OKl n m lb ch) (hz : Z71 M) (hk : k < m) (hlk : lk co he (lb k) = 0) : wp (f_Band_seat M 1 (k : Int)) (fun q => ∃ a, Lgt false co he (lb k) (ch k) a ∧ MatchB co he (lb k) ∧ q.1 = sCnt (chN a) (pPt (lb k)) ∧ CBl m lb (chU ch k (chN a)) q.2 ∧ Fr WBs M q.2 ∧ Z71 q.2) := by
  have hm := ho.1
  have hod := (ho.2 k hk).1
  have hpt := hod.2.2.2.2.1
  unfold f_Band_seat
  rw [show mg M (cI 1) 1 = 7 from p_0_1 hs, q_find hs h hm, show mg M (cI 1) 5 = 62 from p_0_5 hs, show mg M (cI 1) 0 = 2 from p_0_0 hs, if_pos (show 0 ≤ (k : Int) ∧ (k : Int) < (m : Int) by omega), Int.toNat_natCast]
  refine wI (by decide) (wX rfl (wE (pr_nz k) (wI (by decide) (wI (by decide) (wK (b_coversMust hs hp hok (by omega) (h.2 k hk).1 hod) (fun q hq => ?_))))))
  obtain ⟨e, hmt, f1⟩ := hq
  rw [e, if_pos hlk]
  have hmt := hmt hlk
  have s1 := sh_WCo hs f1
  have p1 : CBp n ag jo pa co he q.2 := CBp_fr hp f1 (fun c x e => by unfold WCo at e; omega)
  have l1 : CBl m lb ch q.2 := CBl_fr (n := n) hm h f1 (fun c x e => by unfold WCo at e; omega)
  have z1 : Z71 q.2 := fun z hz' => by rw [f1.1 71 z (by unfold WCo; omega)]; exact hz z hz'
  rw [show mg q.2 (cI 1) 6 = 66 from p_0_6 s1, show mg q.2 (cI 1) 0 = 2 from p_0_0 s1]
  refine wI (by decide) (wI (by decide) (wI (by decide) (wK (b_seatAnew s1 p1 hok (by omega) (l1.2 k hk).1 hod (l1.2 k hk).2 hmt z1) (fun M2 hM2 => ?_))))
  obtain ⟨a, a1, a2, a3, a4⟩ := hM2
  have s2 : Sh M2 := Sh_fr s1 a3 (fun c x e => by unfold WSt at e; unfold isP; omega)
  have l2 := CBl_seat l1 hm hk a3 a2
  have hb2 : PB k (lb k) M2 := (l2.2 k hk).1
  refine wX (b_seated s2 (by omega) hb2 hpt a2 (fun i _ => chN_lo a i)) (wS ⟨a, a1, hmt, rfl, l2, Fr_tr (Fr_sub f1 (fun c x e => by unfold WCo at e; unfold WBs; omega)) (Fr_sub a3 (fun c x e => ?_)), a4⟩)
  unfold WSt at e; unfold WBs
  rcases e with e | e | e
  · exact Or.inr (Or.inr (Or.inr (Or.inl e)))
  · exact Or.inr (Or.inr (Or.inr (Or.inr (Or.inl e))))
  · exact Or.inr (Or.inr (Or.inr (Or.inr (Or.inr ⟨k, by omega, e.1⟩))))
theorem b_again_t (hs : Sh M) (hp : CBp n ag jo pa co he M) (hok : OKp n pa co he) (h : CBl m lb ch M) (ho : OKl n m lb ch) (hz : Z71 M) (hk : k < m) (hlk : lk co he (lb k) = 0) : wp (f_Band_again M 1 (k : Int)) (fun q => ∃ a, Lgt true co he (lb k) (ch k) a ∧ MatchB co he (lb k) ∧ q.1 = sumN (fun i => ctA (ch k) i (a i)) (pPt (lb k)) ∧ CBl m lb (chU ch k (chN a)) q.2 ∧ Fr WBs M q.2 ∧ Z71 q.2) := by
  have hm := ho.1
  have hod := (ho.2 k hk).1
  have hpt := hod.2.2.2.2.1
  unfold f_Band_again
  rw [show mg M (cI 1) 1 = 7 from p_0_1 hs, q_find hs h hm, show mg M (cI 1) 5 = 62 from p_0_5 hs, show mg M (cI 1) 0 = 2 from p_0_0 hs, if_pos (show 0 ≤ (k : Int) ∧ (k : Int) < (m : Int) by omega), Int.toNat_natCast]
  refine wI (by decide) (wX rfl (wE (pr_nz k) (wI (by decide) (wI (by decide) (wK (b_coversMust hs hp hok (by omega) (h.2 k hk).1 hod) (fun q hq => ?_))))))
  obtain ⟨e, hmt, f1⟩ := hq
  rw [e, if_pos hlk]
  have hmt := hmt hlk
  have s1 := sh_WCo hs f1
  have p1 : CBp n ag jo pa co he q.2 := CBp_fr hp f1 (fun c x e => by unfold WCo at e; omega)
  have l1 : CBl m lb ch q.2 := CBl_fr (n := n) hm h f1 (fun c x e => by unfold WCo at e; omega)
  have z1 : Z71 q.2 := fun z hz' => by rw [f1.1 71 z (by unfold WCo; omega)]; exact hz z hz'
  rw [show mg q.2 (cI 1) 6 = 66 from p_0_6 s1, show mg q.2 (cI 1) 0 = 2 from p_0_0 s1]
  refine wI (by decide) (wI (by decide) (wI (by decide) (wK (b_again0 s1 p1 hok (by omega) (l1.2 k hk).1 hod (l1.2 k hk).2 hmt z1) (fun r hr => ?_))))
  obtain ⟨a, a1, a0, a2, a3, a4⟩ := hr
  have l2 := CBl_seat l1 hm hk a3 a2
  refine wS ⟨a, a1, hmt, a0, l2, Fr_tr (Fr_sub f1 (fun c x e => by unfold WCo at e; unfold WBs; omega)) (Fr_sub a3 (fun c x e => ?_)), a4⟩
  unfold WSt at e; unfold WBs
  rcases e with e | e | e
  · exact Or.inr (Or.inr (Or.inr (Or.inl e)))
  · exact Or.inr (Or.inr (Or.inr (Or.inr (Or.inl e))))
  · exact Or.inr (Or.inr (Or.inr (Or.inr (Or.inr ⟨k, by omega, e.1⟩))))
theorem b_seat_f (hs : Sh M) (hp : CBp n ag jo pa co he M) (hok : OKp n pa co he) (h : CBl m lb ch M) (ho : OKl n m lb ch) {y : Int} (hc : ¬ ((0 ≤ y ∧ y < (m : Int)) ∧ lk co he (lb y.toNat) = 0)) : wp (f_Band_seat M 1 y) (fun q => q.1 = -1 ∧ Fr WCo M q.2) := by
  have hm := ho.1
  unfold f_Band_seat
  rw [show mg M (cI 1) 1 = 7 from p_0_1 hs, q_find hs h hm, show mg M (cI 1) 5 = 62 from p_0_5 hs, show mg M (cI 1) 0 = 2 from p_0_0 hs]
  refine wI (by decide) (wX rfl ?_)
  by_cases c1 : 0 ≤ y ∧ y < (m : Int)
  · obtain ⟨k, rfl, hk⟩ := nat_of c1.1 c1.2
    rw [if_pos c1, Int.toNat_natCast]
    have hlk : lk co he (lb k) ≠ 0 := fun e => hc ⟨c1, e⟩
    refine wE (pr_nz k) (wI (by decide) (wI (by decide) (wK (b_coversMust hs hp hok (by omega) (h.2 k hk).1 (ho.2 k hk).1) (fun q hq => ?_))))
    obtain ⟨e, _, f1⟩ := hq
    rw [e, if_neg hlk]
    exact wE (by decide) (wS ⟨rfl, f1⟩)
  · rw [if_neg c1]; exact wI rfl (wS ⟨rfl, Fr_rf⟩)
theorem b_again_f (hs : Sh M) (hp : CBp n ag jo pa co he M) (hok : OKp n pa co he) (h : CBl m lb ch M) (ho : OKl n m lb ch) {y : Int} (hc : ¬ ((0 ≤ y ∧ y < (m : Int)) ∧ lk co he (lb y.toNat) = 0)) : wp (f_Band_again M 1 y) (fun q => q.1 = -1 ∧ Fr WCo M q.2) := by
  have hm := ho.1
  unfold f_Band_again
  rw [show mg M (cI 1) 1 = 7 from p_0_1 hs, q_find hs h hm, show mg M (cI 1) 5 = 62 from p_0_5 hs, show mg M (cI 1) 0 = 2 from p_0_0 hs]
  refine wI (by decide) (wX rfl ?_)
  by_cases c1 : 0 ≤ y ∧ y < (m : Int)
  · obtain ⟨k, rfl, hk⟩ := nat_of c1.1 c1.2
    rw [if_pos c1, Int.toNat_natCast]
    have hlk : lk co he (lb k) ≠ 0 := fun e => hc ⟨c1, e⟩
    refine wE (pr_nz k) (wI (by decide) (wI (by decide) (wK (b_coversMust hs hp hok (by omega) (h.2 k hk).1 (ho.2 k hk).1) (fun q hq => ?_))))
    obtain ⟨e, _, f1⟩ := hq
    rw [e, if_neg hlk]
    exact wE (by decide) (wS ⟨rfl, f1⟩)
  · rw [if_neg c1]; exact wI rfl (wS ⟨rfl, Fr_rf⟩)
def WMz (c x : Nat) : Prop := (c = 79 ∧ x = 0) ∨ c = 93 ∨ c = 94
theorem m_seatX_t (hs : Sh M) (hp : CMp n ag jo pa co he M) (hok : OKp n pa co he) (h : CMl m lb ch M) (ho : OKl n m lb ch) (hk : k < m) (hlk : lk co he (lb k) = 0) (hmt : MatchB co he (lb k)) (an : Bool) : wp (f_Model_seats (mp M 79 0 0) 80 (k : Int) (anI an)) (fun q => ∃ g, (∀ i, g i < 15) ∧ GR (pPt (lb k)) (mbP co he (lb k)) (ctF an co (lb k) (ch k)) g ∧ q.1 = (if an then sumN (fun i => ctA (ch k) i (g i)) (pPt (lb k)) else sCnt (chN g) (pPt (lb k))) ∧ CMl m lb (chU ch k (chN g)) q.2 ∧ Fr WMz M q.2) := by
  have hm := ho.1
  have f0 : Fr (fun c k => c = 79 ∧ k = 0) M (mp M 79 0 0) := Fr_mp ⟨rfl, rfl⟩
  have hs' : Sh (mp M 79 0 0) := Sh_mp hs (by unfold isP; omega)
  have hp' : CMp n ag jo pa co he (mp M 79 0 0) := CMp_fr hp f0 (fun c k e => by omega)
  have h' : CMl m lb ch (mp M 79 0 0) := CMl_fr h f0 (fun c k e => by omega)
  refine wM (m_seats_t (an := an) hs' hp' hok h'.1 hk (by omega) (h'.2 k hk).1 (ho.2 k hk).1 (h'.2 k hk).2 hlk hmt) (fun q hq => ?_)
  obtain ⟨g, g1, g2, g3, g4, g5⟩ := hq
  exact ⟨g, g1, g2, g3, CMl_seat h' ho hk g5 g4, Fr_tr (Fr_sub f0 (fun c x e => Or.inl e)) (Fr_sub g5 (fun c x e => by unfold WSe at e; unfold WMz; omega))⟩
theorem m_seatX_f (hs : Sh M) (hp : CMp n ag jo pa co he M) (hok : OKp n pa co he) (h : CMl m lb ch M) (ho : OKl n m lb ch) {y : Int} (hc : ¬ ((0 ≤ y ∧ y < (m : Int)) ∧ lk co he (lb y.toNat) = 0)) (x : Int) : f_Model_seats (mp M 79 0 0) 80 y x = some (-1, mp M 79 0 0) := by
  have hm := ho.1
  have f0 : Fr (fun c k => c = 79 ∧ k = 0) M (mp M 79 0 0) := Fr_mp ⟨rfl, rfl⟩
  have hs' : Sh (mp M 79 0 0) := Sh_mp hs (by unfold isP; omega)
  have hp' : CMp n ag jo pa co he (mp M 79 0 0) := CMp_fr hp f0 (fun c k e => by omega)
  have h' : CMl m lb ch (mp M 79 0 0) := CMl_fr h f0 (fun c k e => by omega)
  unfold f_Model_seats
  rw [m_isPiece h'.1, Option.bind_some]
  by_cases c1 : 0 ≤ y ∧ y < (m : Int)
  · obtain ⟨k, rfl, hk⟩ := nat_of c1.1 c1.2
    have hlk : lk co he (lb k) ≠ 0 := fun e => hc ⟨c1, e⟩
    rw [if_pos c1, if_neg (by decide), m_lacking hs' hp' hok (by omega) (h'.2 k hk).1 (ho.2 k hk).1, Option.bind_some, if_neg (by omega)]
  · rw [if_neg c1, if_pos rfl]
theorem m_seat_eq (M : Mm) (y : Int) : f_Model_seat M 80 y = f_Model_seats (mp M 79 0 0) 80 y 0 := by
  unfold f_Model_seat
  show (f_Model_seats (mp M 79 0 0) 80 y 0).bind (fun p => some (p.1, p.2)) = _
  cases f_Model_seats (mp M 79 0 0) 80 y 0 <;> rfl
theorem m_again_eq (M : Mm) (y : Int) : f_Model_again M 80 y = f_Model_seats (mp M 79 0 0) 80 y 1 := by
  unfold f_Model_again
  show (f_Model_seats (mp M 79 0 0) 80 y 1).bind (fun p => some (p.1, p.2)) = _
  cases f_Model_seats (mp M 79 0 0) 80 y 1 <;> rfl
/-- class and reference choose alike -/
theorem seat_same (hok : OKp n pa co he) (ho : OKd d) {a g : Nat → Nat} (ha : Lgt an co he d c a) (hg15 : ∀ i, g i < 15) (hg : GR (pPt d) (mbP co he d) (ctF an co d c) g) : ∀ i, i < pPt d → a i = g i := by
  have hco := hok.2.2.1
  have hpt := ho.2.2.2.2.1
  obtain ⟨a1, a2, a3⟩ := ha
  have hct := fun i p => ctF_b (co := co) hco an d c i p
  cases an with
  | true =>
    have e : ∀ b : Nat → Nat, sumN (fun i => kF true co d c i (b i)) (pPt d) = sumN (fun i => ctF true co d c i (b i)) (pPt d) := fun b => sum_cg _ (fun i _ => rfl)
    exact best_eq hpt hct hg a2 a1 hg15 (a3 g (gr_vd hg)) (fun h => by rw [e, e] at h; exact h) (fun h => by rw [e, e]; exact h)
  | false =>
    have e1 : ∀ b : Nat → Nat, sumN (fun i => kF false co d c i (b i)) (pPt d) = sumN (fun i => (if b i = 14 then 1 else 0) * 100) (pPt d) + sumN (fun i => if b i = 14 then 0 else imax 0 (pcst co d i (b i))) (pPt d) := fun b => by
      rw [← sum_add]
      refine sum_cg _ (fun i _ => ?_)
      show (if b i = 14 then (100 : Int) else imax 0 (pcst co d i (b i))) = _
      by_cases e : b i = 14
      · simp only [if_pos e]; omega
      · simp only [if_neg e]; omega
    have e2 : ∀ b : Nat → Nat, sumN (fun i => ctF false co d c i (b i)) (pPt d) = sumN (fun i => (if b i = 14 then 1 else 0) * 1000) (pPt d) + sumN (fun i => if b i = 14 then 0 else imax 0 (pcst co d i (b i))) (pPt d) := fun b => by
      rw [← sum_add]
      refine sum_cg _ (fun i _ => ?_)
      show (if b i = 14 then (1000 : Int) else imax 0 (pcst co d i (b i))) = _
      by_cases e : b i = 14
      · simp only [if_pos e]; omega
      · simp only [if_neg e]; omega
    have bd : ∀ b : Nat → Nat, 0 ≤ sumN (fun i => if b i = 14 then 0 else imax 0 (pcst co d i (b i))) (pPt d) ∧ sumN (fun i => if b i = 14 then 0 else imax 0 (pcst co d i (b i))) (pPt d) ≤ 90 := fun b => by
      have := sum_bd (f := fun i => if b i = 14 then 0 else imax 0 (pcst co d i (b i))) (a := 0) (b := 9) (pPt d) (fun i _ => by
        have := imax_b (pcst_b hco d i (b i))
        split <;> omega)
      omega
    have ba := bd a
    have bg := bd g
    refine best_eq (k := kF false co d c) hpt hct hg a2 a1 hg15 (a3 g (gr_vd hg)) (fun h => ?_) (fun h => ?_)
    · rw [e1, e1, sum_mul, sum_mul] at h
      rw [e2, e2, sum_mul, sum_mul]
      omega
    · rw [e2, e2, sum_mul, sum_mul] at h
      rw [e1, e1, sum_mul, sum_mul]
      omega
end ST
