/-! the class's weights -/
def kF (an : Bool) (co : Nat → Nat → Int) (d : PcD) (c : Nat → Int) (i p : Nat) : Int := if an then ctA c i p else if p = 14 then 100 else imax 0 (pcst co d i p)
def WF (an : Bool) (co : Nat → Nat → Int) (he : Nat → Bool) (d : PcD) (c : Nat → Int) (i p : Nat) : Int := if mbP co he d i p then kF an co d c i p * 576650390625 + (p : Int) * dgt i else 5766503906250000
theorem kF_b {co : Nat → Nat → Int} (hco : ∀ p i, -1 ≤ co p i ∧ co p i ≤ 9) (an : Bool) (d : PcD) (c : Nat → Int) (i p : Nat) : 0 ≤ kF an co d c i p ∧ kF an co d c i p ≤ 100 := by
  have h := imax_b (pcst_b hco d i p)
  unfold kF ctA
  split
  · split <;> omega
  · split <;> omega
def W66 (c _x : Nat) : Prop := c = 66
theorem sh_W66 {M M' : Mm} (hs : Sh M) (hf : Fr W66 M M') : Sh M' := Sh_fr hs hf (fun c k e => by unfold W66 at e; unfold isP; omega)
theorem dg_m {i p : Nat} (hi : i < 10) (hp : p < 15) : 0 ≤ (p : Int) * dgt i ∧ (p : Int) * dgt i ≤ 538207031250 := by
  have h1 := dg_p i hi
  have h2 : (p : Int) * dgt i ≤ 14 * dgt i := Int.mul_le_mul_of_nonneg_right (by omega) (by omega)
  have h3 : 0 ≤ (p : Int) * dgt i := Int.mul_nonneg (by omega) (by omega)
  omega
theorem WF_b {co : Nat → Nat → Int} (hco : ∀ p i, -1 ≤ co p i ∧ co p i ≤ 9) (an : Bool) (he : Nat → Bool) (d : PcD) (c : Nat → Int) {i p : Nat} (hi : i < 10) (hp : p < 15) : 0 ≤ WF an co he d c i p ∧ WF an co he d c i p ≤ 5766503906250000 ∧ (mbP co he d i p = true → WF an co he d c i p ≤ 58241689453125) := by
  have h1 := kF_b hco an d c i p
  have h2 := dg_m hi hp
  unfold WF
  split
  · omega
  · rename_i h; exact ⟨by omega, by omega, fun e => absurd e h⟩
section WE
variable {n k : Nat} {ag jo pa : Nat → Int} {co : Nat → Nat → Int} {he : Nat → Bool} {d : PcD} {c : Nat → Int} {M : Mm} {an : Bool}
theorem b_weigh (hs : Sh M) {i col : Nat} (hi : i < 10) (hc : col < 24) (x : Int) : f_Seater_weigh M 66 (i : Int) (col : Int) x = some (mp M 66 (i * 24 + col) x) := by
  unfold f_Seater_weigh
  rw [w32_s (x := (i : Int) * 24) (by omega) (by omega), w32_s (x := (i : Int) * 24 + (col : Int)) (by omega) (by omega), show mg M (cI 66) 0 = 67 from p_65_0 hs, show cI 67 = 66 from rfl, n_66 hs, if_pos (by decide), if_pos (by omega), show ((i : Int) * 24 + (col : Int)).toNat = i * 24 + col by omega]
  rfl
/-- one part's row: its players -/
theorem b_rowS (hs : Sh M) (hp : CBp n ag jo pa co he M) (hok : OKp n pa co he) (hk : k < 10) (hb : PB k d M) (ho : OKd d) {i : Nat} (hi : i < pPt d) : wp (loopN (l_Seater_seatAnew_13 66 (pr k) 2 (i : Int)) FU (0, M)) (fun M' => Fr W66 M M' ∧ (∀ p, p < n → mg M' 66 (i * 24 + p) = WF false co he d c i p) ∧ ∀ x, x < i * 24 → mg M' 66 x = mg M 66 x) := by
  obtain ⟨hn, _, hco, hh⟩ := hok
  have hpt := ho.2.2.2.2.1
  refine wp_loop (fun j s => s.1 = (j : Int) ∧ Fr W66 M s.2 ∧ (∀ p, p < j → mg s.2 66 (i * 24 + p) = WF false co he d c i p) ∧ ∀ x, x < i * 24 → mg s.2 66 x = mg M 66 x) n (by omega) ⟨rfl, Fr_rf, fun p hp => absurd hp (Nat.not_lt_zero _), fun _ _ => rfl⟩ ?_
  rintro j ⟨si, M1⟩ hj ⟨e, hf, hx, hlo⟩
  simp only at e hf hx hlo
  subst e
  have s1 := sh_W66 hs hf
  have p1 : CBp n ag jo pa co he M1 := CBp_fr hp hf (fun c x e => by unfold W66 at e; omega)
  have b1 : PB k d M1 := PB_fr hb hf (fun c x e => by unfold W66 at e; omega)
  unfold l_Seater_seatAnew_13
  simp only []
  rw [show mg M1 (cI 2) 4 = (n : Int) from p1.1]
  refine wC (fun hc => wSr ⟨hf, fun p hp => hx p (by omega), hlo⟩) (fun hc => ?_)
  have hj' : j < n := by omega
  have put : ∀ x, x = WF false co he d c i j → wp (j_Seater_seatAnew_78_13 M1 66 (pr k) 2 (i : Int) (j : Int) x (j : Int) (i : Int) 66) (Sum.elim (fun s' => j < n ∧ s'.1 = ((j + 1 : Nat) : Int) ∧ Fr W66 M s'.2 ∧ (∀ p, p < j + 1 → mg s'.2 66 (i * 24 + p) = WF false co he d c i p) ∧ ∀ x, x < i * 24 → mg s'.2 66 x = mg M 66 x) (fun M' => Fr W66 M M' ∧ (∀ p, p < n → mg M' 66 (i * 24 + p) = WF false co he d c i p) ∧ ∀ x, x < i * 24 → mg M' 66 x = mg M 66 x)) := by
    rintro x rfl
    unfold j_Seater_seatAnew_78_13
    refine wX (b_weigh s1 (by omega) (by omega) _) (wL (wSl ⟨hj', by rw [w32_s (by omega) (by omega)]; rfl, Fr_wr hf rfl, fun p hp => ?_, fun x hx' => ?_⟩))
    · rw [mg_mp]
      by_cases e : p = j
      · rw [if_pos ⟨rfl, by omega⟩, e]
      · rw [if_neg (by omega)]; exact hx p (by omega)
    · rw [mg_mp, if_neg (by omega)]; exact hlo x hx'
  have em : mbP co he d i j = abl co he d i j := by unfold mbP; rw [if_neg (by omega)]
  refine wX (q_pres p1 (by omega)) ?_
  cases eh : he j with
  | false =>
    refine wI (by rfl) ?_
    unfold j_Seater_seatAnew_43_13
    refine wE (by decide) (put _ ?_)
    unfold WF; rw [em]; unfold abl; rw [eh]; rfl
  | true =>
    refine wE (by decide) (wX (q_partCost s1 p1 hk b1 ho hi (by omega)) ?_)
    unfold j_Seater_seatAnew_43_13
    have hb1 := pcst_b hco d i j
    refine wC (fun hc2 => wI (by omega) (put _ ?_)) (fun hc2 => put _ ?_)
    · have hab : abl co he d i j = true := by unfold abl; rw [eh]; simp [hc2]
      have hd := dg_m (show i < 10 by omega) (show j < 15 by omega)
      have hmx : imax 0 (pcst co d i j) = pcst co d i j := by unfold imax; split <;> omega
      unfold WF kF
      rw [em, hab, if_pos rfl, if_neg (by decide), if_neg (by omega), hmx, Int.toNat_natCast, show dg1.getD i 0 = dgt i from rfl, w64_s (x := pcst co d i j * 576650390625) (by omega) (by omega), w64_s (x := (j : Int) * dgt i) (by omega) (by omega), w64_s (by omega) (by omega)]
    · have : pcst co d i j = -1 := by omega
      unfold WF; rw [em]; unfold abl; rw [eh, this]; rfl
theorem b_rowA (hs : Sh M) (hp : CBp n ag jo pa co he M) (hok : OKp n pa co he) (hk : k < 10) (hb : PB k d M) (ho : OKd d) (hch : ∀ i, i < pPt d → mg M (11 + 4 * k) i = c i) {i : Nat} (hi : i < pPt d) : wp (loopN (l_Seater_seatWithFewestChanges_13 66 (pr k) 2 (i : Int)) FU (0, M)) (fun M' => Fr W66 M M' ∧ (∀ p, p < n → mg M' 66 (i * 24 + p) = WF true co he d c i p) ∧ ∀ x, x < i * 24 → mg M' 66 x = mg M 66 x) := by
  obtain ⟨hn, _, hco, hh⟩ := hok
  have hpt := ho.2.2.2.2.1
  refine wp_loop (fun j s => s.1 = (j : Int) ∧ Fr W66 M s.2 ∧ (∀ p, p < j → mg s.2 66 (i * 24 + p) = WF true co he d c i p) ∧ ∀ x, x < i * 24 → mg s.2 66 x = mg M 66 x) n (by omega) ⟨rfl, Fr_rf, fun p hp => absurd hp (Nat.not_lt_zero _), fun _ _ => rfl⟩ ?_
  rintro j ⟨si, M1⟩ hj ⟨e, hf, hx, hlo⟩
  simp only at e hf hx hlo
  subst e
  have s1 := sh_W66 hs hf
  have p1 : CBp n ag jo pa co he M1 := CBp_fr hp hf (fun c x e => by unfold W66 at e; omega)
  have b1 : PB k d M1 := PB_fr hb hf (fun c x e => by unfold W66 at e; omega)
  have c1 : mg M1 (11 + 4 * k) i = c i := (hf.1 _ _ (by unfold W66; omega)).trans (hch i hi)
  unfold l_Seater_seatWithFewestChanges_13
  simp only []
  rw [show mg M1 (cI 2) 4 = (n : Int) from p1.1]
  refine wC (fun hc => wSr ⟨hf, fun p hp => hx p (by omega), hlo⟩) (fun hc => ?_)
  have hj' : j < n := by omega
  have put : ∀ x, x = WF true co he d c i j → wp (j_Seater_seatWithFewestChanges_97_13 M1 66 (pr k) 2 (i : Int) (j : Int) x (j : Int) (i : Int) 66) (Sum.elim (fun s' => j < n ∧ s'.1 = ((j + 1 : Nat) : Int) ∧ Fr W66 M s'.2 ∧ (∀ p, p < j + 1 → mg s'.2 66 (i * 24 + p) = WF true co he d c i p) ∧ ∀ x, x < i * 24 → mg s'.2 66 x = mg M 66 x) (fun M' => Fr W66 M M' ∧ (∀ p, p < n → mg M' 66 (i * 24 + p) = WF true co he d c i p) ∧ ∀ x, x < i * 24 → mg M' 66 x = mg M 66 x)) := by
    rintro x rfl
    unfold j_Seater_seatWithFewestChanges_97_13
    refine wX (b_weigh s1 (by omega) (by omega) _) (wL (wSl ⟨hj', by rw [w32_s (by omega) (by omega)]; rfl, Fr_wr hf rfl, fun p hp => ?_, fun x hx' => ?_⟩))
    · rw [mg_mp]
      by_cases e : p = j
      · rw [if_pos ⟨rfl, by omega⟩, e]
      · rw [if_neg (by omega)]; exact hx p (by omega)
    · rw [mg_mp, if_neg (by omega)]; exact hlo x hx'
  have em : mbP co he d i j = abl co he d i j := by unfold mbP; rw [if_neg (by omega)]
  have no : abl co he d i j = false → wp (j_Seater_seatWithFewestChanges_47_13 M1 66 (pr k) 2 (i : Int) (j : Int)) (Sum.elim (fun s' => j < n ∧ s'.1 = ((j + 1 : Nat) : Int) ∧ Fr W66 M s'.2 ∧ (∀ p, p < j + 1 → mg s'.2 66 (i * 24 + p) = WF true co he d c i p) ∧ ∀ x, x < i * 24 → mg s'.2 66 x = mg M 66 x) (fun M' => Fr W66 M M' ∧ (∀ p, p < n → mg M' 66 (i * 24 + p) = WF true co he d c i p) ∧ ∀ x, x < i * 24 → mg M' 66 x = mg M 66 x)) := by
    intro hab
    have e9 : (5766503906250000 : Int) = WF true co he d c i j := by unfold WF; rw [em, hab]; rfl
    unfold j_Seater_seatWithFewestChanges_47_13 j_Seater_seatWithFewestChanges_48_13 j_Seater_seatWithFewestChanges_68_13
    rw [q_chair s1 hk, cI_s, n_pc2 s1 hk, Int.toNat_natCast, c1]
    exact wI (by omega) (wI (by omega) (wC (fun _ => wI rfl (put _ e9)) (fun _ => wI rfl (put _ e9))))
  refine wX (q_pres p1 (by omega)) ?_
  cases eh : he j with
  | false => exact wI (by rfl) (no (by unfold abl; rw [eh]; rfl))
  | true =>
    refine wE (by decide) (wX (q_partCost s1 p1 hk b1 ho hi (by omega)) (wC (fun hc2 => no (by unfold abl; rw [eh, hc2]; rfl)) (fun hc2 => ?_)))
    have hab : abl co he d i j = true := by unfold abl; rw [eh]; simp [hc2]
    have hd := dg_m (show i < 10 by omega) (show j < 15 by omega)
    unfold j_Seater_seatWithFewestChanges_48_13 j_Seater_seatWithFewestChanges_68_13
    rw [q_chair s1 hk, cI_s, n_pc2 s1 hk, Int.toNat_natCast, c1, show dg1.getD i 0 = dgt i from rfl, w64_s (x := (j : Int) * dgt i) (by omega) (by omega)]
    refine wI (by omega) (wI (by omega) (wC (fun hc3 => wE (by decide) (wI (by omega) (put _ ?_))) (fun hc3 => wE (by decide) (wI (by omega) (put _ ?_)))))
    · unfold WF kF ctA
      rw [em, hab, if_pos rfl, if_pos rfl, if_neg (show ¬ j = 14 by omega), if_neg hc3, w64_s (by omega) (by omega)]; omega
    · have hc4 : c i = (j : Int) := by omega
      unfold WF kF ctA
      rw [em, hab, if_pos rfl, if_pos rfl, if_neg (show ¬ j = 14 by omega), if_pos hc4, w64_s (by omega) (by omega)]; omega
theorem b_weighEmpty (hs : Sh M) (hp : CBp n ag jo pa co he M) (hok : OKp n pa co he) (hk : k < 10) (hb : PB k d M) (ho : OKd d) {i : Nat} (hi : i < pPt d) : wp (f_Seater_weighEmpty M 66 (pr k) 2 (i : Int) (kF an co d c i 14 * 576650390625)) (fun M' => Fr W66 M M' ∧ (∀ q, q < pPt d → mg M' 66 (i * 24 + (n + q)) = WF an co he d c i 14) ∧ ∀ x, x < i * 24 + n → mg M' 66 x = mg M 66 x) := by
  obtain ⟨hn, _, hco, hh⟩ := hok
  have hpt := ho.2.2.2.2.1
  have em : mbP co he d i 14 = !(pMu d).testBit i := by unfold mbP; rw [if_pos rfl]
  have lp : ∀ x, x = WF an co he d c i 14 → wp (j_Seater_weighEmpty_26 M 66 (pr k) 2 (i : Int) x) (fun M' => Fr W66 M M' ∧ (∀ q, q < pPt d → mg M' 66 (i * 24 + (n + q)) = WF an co he d c i 14) ∧ ∀ x, x < i * 24 + n → mg M' 66 x = mg M 66 x) := by
    rintro x rfl
    unfold j_Seater_weighEmpty_26
    refine wB (wM (wp_loop (fun j s => s.1 = (j : Int) ∧ Fr W66 M s.2 ∧ (∀ q, q < j → mg s.2 66 (i * 24 + (n + q)) = WF an co he d c i 14) ∧ ∀ x, x < i * 24 + n → mg s.2 66 x = mg M 66 x) (pPt d) (by omega) ⟨rfl, Fr_rf, fun p hp => absurd hp (Nat.not_lt_zero _), fun _ _ => rfl⟩ ?_) (fun t ht => wS ht))
    rintro j ⟨si, M1⟩ hj ⟨e, hf, hx, hlo⟩
    simp only at e hf hx hlo
    subst e
    have s1 := sh_W66 hs hf
    have p1 : CBp n ag jo pa co he M1 := CBp_fr hp hf (fun c x e => by unfold W66 at e; omega)
    have b1 : PB k d M1 := PB_fr hb hf (fun c x e => by unfold W66 at e; omega)
    unfold l_Seater_weighEmpty_31
    simp only []
    rw [show mg M1 (cI (pr k)) 7 = (pPt d : Int) by rw [cI_pr]; exact b1.2.2.2.2.1, show mg M1 (cI 2) 4 = (n : Int) from p1.1]
    refine wC (fun hc => wSr ⟨hf, fun q hq => hx q (by omega), hlo⟩) (fun hc => ?_)
    rw [w32_s (by omega) (by omega), show (n : Int) + (j : Int) = ((n + j : Nat) : Int) by omega]
    refine wX (b_weigh s1 (by omega) (by omega) _) (wL (wSl ⟨by omega, by rw [w32_s (by omega) (by omega)]; rfl, Fr_wr hf rfl, fun q hq => ?_, fun x hx' => ?_⟩))
    · rw [mg_mp]
      by_cases e : q = j
      · rw [if_pos ⟨rfl, by omega⟩]
      · rw [if_neg (by omega)]; exact hx q (by omega)
    · rw [mg_mp, if_neg (by omega)]; exact hlo x hx'
  unfold f_Seater_weighEmpty
  refine wX (q_isMust hb ho (show i < 32 by omega)) ?_
  cases emu : (pMu d).testBit i with
  | true =>
    refine wE (by decide) (lp _ ?_)
    unfold WF; rw [em, emu]; rfl
  | false =>
    have hd := dg_m (show i < 10 by omega) (show 14 < 15 by omega)
    have hkb := kF_b hco an d c i 14
    refine wI (by rfl) (wI (by omega) (lp _ ?_))
    unfold WF
    rw [em, emu, Int.toNat_natCast, show dg1.getD i 0 = dgt i from rfl]
    rw [show ((14 : Nat) : Int) = 14 from rfl] at hd ⊢
    rw [w64_s (x := 14 * dgt i) (by omega) (by omega), w64_s (by omega) (by omega)]
    rfl
/-- all rows laid -/
def RwO (n : Nat) (an : Bool) (co : Nat → Nat → Int) (he : Nat → Bool) (d : PcD) (c : Nat → Int) (i0 : Nat) (M : Mm) : Prop := ∀ i, i < i0 → ∀ z, 1 ≤ z → z ≤ n + pPt d → mg M 66 (i * 24 + (z - 1)) = WF an co he d c i (if z ≤ n then z - 1 else 14)
theorem rw_step (hn : n ≤ 14) (hpt : pPt d ≤ 10) {i : Nat} {M1 M2 M3 : Mm} (h : RwO n an co he d c i M1) (h1 : ∀ p, p < n → mg M2 66 (i * 24 + p) = WF an co he d c i p) (h2 : ∀ x, x < i * 24 → mg M2 66 x = mg M1 66 x) (h3 : ∀ q, q < pPt d → mg M3 66 (i * 24 + (n + q)) = WF an co he d c i 14) (h4 : ∀ x, x < i * 24 + n → mg M3 66 x = mg M2 66 x) : RwO n an co he d c (i + 1) M3 := by
  intro i' hi' z z1 z2
  by_cases e : i' = i
  · subst e
    by_cases ez : z ≤ n
    · rw [if_pos ez, h4 _ (by omega), h1 (z - 1) (by omega)]
    · rw [if_neg ez, show i' * 24 + (z - 1) = i' * 24 + (n + (z - 1 - n)) by omega, h3 (z - 1 - n) (by omega)]
  · have : i' * 24 + (z - 1) < i * 24 := by omega
    rw [h4 _ (by omega), h2 _ this]
    exact h i' (by omega) z z1 z2
theorem b_layS (hs : Sh M) (hp : CBp n ag jo pa co he M) (hok : OKp n pa co he) (hk : k < 10) (hb : PB k d M) (ho : OKd d) : wp (loopN (l_Seater_seatAnew_2 66 (pr k) 2) FU (0, M)) (fun M' => Fr W66 M M' ∧ RwO n false co he d c (pPt d) M') := by
  have hpt := ho.2.2.2.2.1
  refine wp_loop (fun j s => s.1 = (j : Int) ∧ Fr W66 M s.2 ∧ RwO n false co he d c j s.2) (pPt d) (by omega) ⟨rfl, Fr_rf, fun i hi => absurd hi (Nat.not_lt_zero _)⟩ ?_
  rintro j ⟨si, M1⟩ hj ⟨e, hf, hx⟩
  simp only at e hf hx
  subst e
  have s1 := sh_W66 hs hf
  have p1 : CBp n ag jo pa co he M1 := CBp_fr hp hf (fun c x e => by unfold W66 at e; omega)
  have b1 : PB k d M1 := PB_fr hb hf (fun c x e => by unfold W66 at e; omega)
  unfold l_Seater_seatAnew_2
  simp only []
  rw [show mg M1 (cI (pr k)) 7 = (pPt d : Int) by rw [cI_pr]; exact b1.2.2.2.2.1]
  refine wC (fun hc => wSr ?_) (fun hc => ?_)
  · have : j = pPt d := by omega
    subst this; exact ⟨hf, hx⟩
  have hj' : j < pPt d := by omega
  refine wK (b_rowS (c := c) s1 p1 hok hk b1 ho hj') (fun M2 ⟨f2, r1, r2⟩ => ?_)
  have s2 := sh_W66 s1 f2
  have p2 : CBp n ag jo pa co he M2 := CBp_fr p1 f2 (fun c x e => by unfold W66 at e; omega)
  have b2 : PB k d M2 := PB_fr b1 f2 (fun c x e => by unfold W66 at e; omega)
  have hE := b_weighEmpty (an := false) (c := c) s2 p2 hok hk b2 ho hj'
  rw [show kF false co d c j 14 * 576650390625 = 57665039062500 by unfold kF; rw [if_neg (by decide), if_pos rfl]; decide] at hE
  refine wK hE (fun M3 ⟨f3, r3, r4⟩ => ?_)
  exact wL (wSl ⟨hj', by rw [w32_s (by omega) (by omega)]; rfl, Fr_tr hf (Fr_tr f2 f3), rw_step hok.1 hpt hx r1 r2 r3 r4⟩)
theorem b_layA (hs : Sh M) (hp : CBp n ag jo pa co he M) (hok : OKp n pa co he) (hk : k < 10) (hb : PB k d M) (ho : OKd d) (hch : ∀ i, i < pPt d → mg M (11 + 4 * k) i = c i) : wp (loopN (l_Seater_seatWithFewestChanges_2 66 (pr k) 2) FU (0, M)) (fun M' => Fr W66 M M' ∧ RwO n true co he d c (pPt d) M') := by
  have hpt := ho.2.2.2.2.1
  refine wp_loop (fun j s => s.1 = (j : Int) ∧ Fr W66 M s.2 ∧ RwO n true co he d c j s.2) (pPt d) (by omega) ⟨rfl, Fr_rf, fun i hi => absurd hi (Nat.not_lt_zero _)⟩ ?_
  rintro j ⟨si, M1⟩ hj ⟨e, hf, hx⟩
  simp only at e hf hx
  subst e
  have s1 := sh_W66 hs hf
  have p1 : CBp n ag jo pa co he M1 := CBp_fr hp hf (fun c x e => by unfold W66 at e; omega)
  have b1 : PB k d M1 := PB_fr hb hf (fun c x e => by unfold W66 at e; omega)
  have c1 : ∀ i, i < pPt d → mg M1 (11 + 4 * k) i = c i := fun i hi => (hf.1 _ _ (by unfold W66; omega)).trans (hch i hi)
  unfold l_Seater_seatWithFewestChanges_2
  simp only []
  rw [show mg M1 (cI (pr k)) 7 = (pPt d : Int) by rw [cI_pr]; exact b1.2.2.2.2.1]
  refine wC (fun hc => wSr ?_) (fun hc => ?_)
  · have : j = pPt d := by omega
    subst this; exact ⟨hf, hx⟩
  have hj' : j < pPt d := by omega
  refine wK (b_rowA s1 p1 hok hk b1 ho c1 hj') (fun M2 ⟨f2, r1, r2⟩ => ?_)
  have s2 := sh_W66 s1 f2
  have p2 : CBp n ag jo pa co he M2 := CBp_fr p1 f2 (fun c x e => by unfold W66 at e; omega)
  have b2 : PB k d M2 := PB_fr b1 f2 (fun c x e => by unfold W66 at e; omega)
  have c2 : mg M2 (11 + 4 * k) j = c j := (f2.1 _ _ (by unfold W66; omega)).trans (c1 j hj')
  have hE := b_weighEmpty (an := true) (c := c) s2 p2 hok hk b2 ho hj'
  rw [q_chair s2 hk, cI_s, n_pc2 s2 hk, Int.toNat_natCast, c2]
  refine wI (by omega) (wI (by omega) (wC (fun hc2 => ?_) (fun hc2 => ?_)))
  · unfold j_Seater_seatWithFewestChanges_127_2
    have ek : kF true co d c j 14 * 576650390625 = 576650390625 := by unfold kF ctA; rw [if_pos rfl, if_pos rfl, if_neg hc2]; decide
    rw [ek] at hE
    refine wK hE (fun M3 ⟨f3, r3, r4⟩ => ?_)
    exact wL (wSl ⟨hj', by rw [w32_s (by omega) (by omega)]; rfl, Fr_tr hf (Fr_tr f2 f3), rw_step hok.1 hpt hx r1 r2 r3 r4⟩)
  · unfold j_Seater_seatWithFewestChanges_127_2
    have hc3 : c j = -1 := by omega
    have ek : kF true co d c j 14 * 576650390625 = 0 := by unfold kF ctA; rw [if_pos rfl, if_pos rfl, if_pos hc3]; decide
    rw [ek] at hE
    refine wK hE (fun M3 ⟨f3, r3, r4⟩ => ?_)
    exact wL (wSl ⟨hj', by rw [w32_s (by omega) (by omega)]; rfl, Fr_tr hf (Fr_tr f2 f3), rw_step hok.1 hpt hx r1 r2 r3 r4⟩)
end WE
