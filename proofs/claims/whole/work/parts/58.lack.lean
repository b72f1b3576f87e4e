/-! who can, and LACKS -/
def abl (co : Nat → Nat → Int) (he : Nat → Bool) (d : PcD) (i p : Nat) : Bool := he p && decide (pcst co d i p ≠ -1)
def nbS (co : Nat → Nat → Int) (he : Nat → Bool) (d : PcD) (X p : Nat) : Bool := exB (fun i => X.testBit i && abl co he d i p) (pPt d)
def nbr (co : Nat → Nat → Int) (he : Nat → Bool) (d : PcD) (X : Nat) : Nat := cnt (nbS co he d X) 14
def lackB (co : Nat → Nat → Int) (he : Nat → Bool) (d : PcD) (X : Nat) : Bool := decide (X ^^^ (X &&& pMu d) = 0) && decide (nbr co he d X < pcn X)
def lkF (co : Nat → Nat → Int) (he : Nat → Bool) (d : PcD) : Nat → Nat
  | 0 => 0
  | s + 1 => if lackB co he d (s + 1) && (decide (lkF co he d s = 0) || decide (pcn (s + 1) < pcn (lkF co he d s))) then s + 1 else lkF co he d s
def lk (co : Nat → Nat → Int) (he : Nat → Bool) (d : PcD) : Nat := lkF co he d (2 ^ pPt d - 1)
theorem lkF_le (co : Nat → Nat → Int) (he : Nat → Bool) (d : PcD) : ∀ s, lkF co he d s ≤ s
  | 0 => Nat.le_refl 0
  | s + 1 => by have := lkF_le co he d s; unfold lkF; split <;> omega
theorem lkF_0 (co : Nat → Nat → Int) (he : Nat → Bool) (d : PcD) : ∀ s, lkF co he d s = 0 ↔ ∀ X, 1 ≤ X → X ≤ s → lackB co he d X = false
  | 0 => ⟨fun _ X h1 h2 => by omega, fun _ => rfl⟩
  | s + 1 => by
    have h := lkF_0 co he d s
    unfold lkF
    constructor
    · intro e X h1 h2
      split at e
      · omega
      · rename_i hc
        have h3 := h.mp e
        by_cases eX : X = s + 1
        · subst eX
          rw [e] at hc
          simpa using hc
        · exact h3 X h1 (by omega)
    · intro hX
      rw [h.mpr (fun X h1 h2 => hX X h1 (by omega)), hX (s + 1) (by omega) (by omega)]; simp
theorem nbS_hi {co : Nat → Nat → Int} {he : Nat → Bool} {d : PcD} {n : Nat} (hh : ∀ p, n ≤ p → he p = false) (X : Nat) {p : Nat} (hp : n ≤ p) : nbS co he d X p = false := by
  cases e : nbS co he d X p with
  | false => rfl
  | true =>
    obtain ⟨i, _, h2⟩ := (exB_iff _).mp e
    unfold abl at h2
    rw [hh p hp] at h2
    simp at h2
section LK
variable {n m k : Nat} {ag jo pa : Nat → Int} {co : Nat → Nat → Int} {he : Nat → Bool} {d : PcD} {M : Mm}
theorem pt_pow (ho : OKd d) : 2 ^ pPt d ≤ 1024 := Nat.le_trans (Nat.pow_le_pow_right (by decide) ho.2.2.2.2.1) (by decide)
theorem pow_1 (x : Nat) : 1 ≤ 2 ^ x := Nat.one_le_two_pow
theorem m_lack53 (hs : Sh M) (hp : CMp n ag jo pa co he M) (hco : ∀ p i, -1 ≤ co p i ∧ co p i ≤ 9) (hn : n ≤ 14) (hk : k < 10) (hb : PM k d M) (ho : OKd d) {X p : Nat} (hX : X < 1024) (hpn : p < n) (z2 z4 : Int) : loopN (l_Model_lacking_53 M 80 (k : Int) z2 (X : Int) z4 (p : Int)) FU (0, 0) = some (if nbS co he d X p then 1 else 0) := by
  have hpt := ho.2.2.2.2.1
  refine w_eq (wp_loop (fun j s => s = ((if exB (fun i => X.testBit i && abl co he d i p) j then 1 else 0), (j : Int))) (pPt d) (by omega) rfl ?_)
  rintro j s hj rfl
  have e1 : w32 ((j : Int) + 1) = ((j + 1 : Nat) : Int) := by rw [w32_s (by omega) (by omega)]; omega
  unfold l_Model_lacking_53
  simp only [lt, e1, show cI 80 = 79 from rfl, p_79_12 hs, p_79_5 hs, show cI 90 = 89 from rfl, show cI 84 = 83 from rfl, n_89 hs, n_83 hs, Int.toNat_natCast, hb.2.2.2.2.1, hp.2.2.2.2 p (by omega), bit_n (show X < 2147483648 by omega) (show j < 32 by omega)]
  refine wI (by decide) (wI (by omega) (wC (fun hc => ?_) (fun hc => ?_)))
  · have : j = pPt d := by omega
    subst this
    exact wSr rfl
  have hj' : j < pPt d := by omega
  cases e : exB (fun i => X.testBit i && abl co he d i p) j with
  | true =>
    have e2 : nbS co he d X p = true := by
      obtain ⟨i, h1, h2⟩ := (exB_iff _).mp e
      exact (exB_iff _).mpr ⟨i, by omega, h2⟩
    rw [e2]
    exact wI (by decide) (wSr rfl)
  | false =>
    refine wE (by decide) ?_
    have st : ∀ b : Bool, (X.testBit j && abl co he d j p) = b → exB (fun i => X.testBit i && abl co he d i p) (j + 1) = b := fun b hb => by
      unfold exB; rw [e, hb]; simp
    cases e2 : X.testBit j with
    | false =>
      refine wI (by decide) (wSl ⟨hj', ?_⟩)
      rw [st false (by rw [e2]; rfl)]; rfl
    | true =>
      refine wE (by decide) (wI (by decide) (wI (by omega) ?_))
      cases e3 : he p with
      | false =>
        refine wI (by decide) (wSl ⟨hj', ?_⟩)
        rw [st false (by rw [e2]; unfold abl; rw [e3]; rfl)]; rfl
      | true =>
        refine wE (by decide) (wX (m_costOf hs hp hco hk hb ho hj' (by omega)) (wC (fun hc2 => wSl ⟨hj', ?_⟩) (fun hc2 => wSl ⟨hj', ?_⟩)))
        · rw [st false (by rw [e2]; unfold abl; rw [e3, hc2]; rfl)]; rfl
        · rw [st true (by rw [e2]; unfold abl; rw [e3]; simp [hc2])]; rfl
theorem m_lack38 (hs : Sh M) (hp : CMp n ag jo pa co he M) (hco : ∀ p i, -1 ≤ co p i ∧ co p i ≤ 9) (hn : n ≤ 14) (hk : k < 10) (hb : PM k d M) (ho : OKd d) {X : Nat} (hX : X < 1024) (z2 : Int) : loopN (l_Model_lacking_38 M 80 (k : Int) z2 (X : Int)) FU (0, 0) = some (cnt (nbS co he d X) n : Int) := by
  refine loop_for (fun j => ((cnt (nbS co he d X) j : Int), (j : Int))) n (by omega) rfl (fun j hj => ?_) ?_
  · have e1 : w32 ((j : Int) + 1) = ((j + 1 : Nat) : Int) := by rw [w32_s (by omega) (by omega)]; omega
    have h1 := cnt_le (nbS co he d X) j
    have e2 : w32 ((cnt (nbS co he d X) j : Int) + 1) = ((cnt (nbS co he d X) j + 1 : Nat) : Int) := by rw [w32_s (by omega) (by omega)]; omega
    unfold l_Model_lacking_38
    simp only []
    rw [show mg M (cI 80) 1 = (n : Int) from hp.1, if_neg (by omega), m_lack53 hs hp hco hn hk hb ho hX hj, Option.bind_some]
    unfold j_Model_lacking_115_38
    simp only [lt, e1, e2, cnt]
    cases nbS co he d X j <;> rfl
  · unfold l_Model_lacking_38
    simp only []
    rw [show mg M (cI 80) 1 = (n : Int) from hp.1, if_pos (by omega)]
theorem nbr_n (hn : n ≤ 14) (hh : ∀ p, n ≤ p → he p = false) (X : Nat) : cnt (nbS co he d X) n = nbr co he d X := (cnt_ext 14 hn (fun p hp => nbS_hi hh X hp)).symm
theorem m_lacking (hs : Sh M) (hp : CMp n ag jo pa co he M) (hok : OKp n pa co he) (hk : k < 10) (hb : PM k d M) (ho : OKd d) : f_Model_lacking M 80 (k : Int) = some (lk co he d : Int) := by
  obtain ⟨hn, _, hco, hh⟩ := hok
  have hpt := ho.2.2.2.2.1
  have hpw := pt_pow ho
  have hmu := mu_lt ho
  have hp1 := pow_1 (pPt d)
  have hsh : bShl 1 (pPt d : Int) = ((2 ^ pPt d : Nat) : Int) := bShl_1 _ (by omega)
  unfold f_Model_lacking
  refine xb (loop_for (fun j => ((lkF co he d j : Int), ((j + 1 : Nat) : Int))) (2 ^ pPt d - 1) (t := (lk co he d : Int)) (by omega) rfl (fun j hj => ?_) ?_) rfl
  · have hl := lkF_le co he d j
    have e1 : w32 (((j + 1 : Nat) : Int) + 1) = ((j + 1 + 1 : Nat) : Int) := by rw [w32_s (by omega) (by omega)]; omega
    unfold l_Model_lacking_4
    simp only [lt, e1, show cI 80 = 79 from rfl, p_79_12 hs, p_79_13 hs, show cI 90 = 89 from rfl, show cI 91 = 90 from rfl, n_89 hs, n_90 hs, Int.toNat_natCast, hb.2.2.2.2.1, hb.2.2.2.2.2.1, hsh, bNot_n (show j + 1 < 2147483648 by omega) (show pMu d < 2147483648 by omega), m_ones M (show j + 1 < 1024 by omega), m_ones M (show lkF co he d j < 1024 by omega), m_lack38 hs hp hco hn hk hb ho (show j + 1 < 1024 by omega), nbr_n hn hh, Option.bind_some]
    rw [if_pos (by decide), if_pos (by omega), if_neg (by omega), if_pos (by decide), if_pos (by omega)]
    have key : ∀ y, lkF co he d (j + 1) = y → some (Sum.inl ((y : Int), ((j + 1 + 1 : Nat) : Int))) = (some (Sum.inl ((lkF co he d (j + 1) : Int), ((j + 1 + 1 : Nat) : Int))) : Option ((Int × Int) ⊕ Int)) := fun y e => by rw [e]
    by_cases c1 : (j + 1) ^^^ ((j + 1) &&& pMu d) = 0
    · rw [if_pos (by omega)]
      by_cases c2 : nbr co he d (j + 1) < pcn (j + 1)
      · rw [if_neg (by omega)]
        have hL : lackB co he d (j + 1) = true := by unfold lackB; simp [c1, c2]
        by_cases c3 : lkF co he d j = 0
        · rw [if_pos (by omega)]
          exact key (j + 1) (by unfold lkF; rw [hL, c3]; simp)
        · rw [if_neg (by omega)]
          by_cases c4 : pcn (lkF co he d j) ≤ pcn (j + 1)
          · rw [if_pos (by omega)]
            exact key (lkF co he d j) (by
              show (if _ then _ else _) = _
              rw [if_neg]
              rw [hL]; simp [c3]; omega)
          · rw [if_neg (by omega)]
            exact key (j + 1) (by
              show (if _ then _ else _) = _
              rw [if_pos]
              rw [hL]; simp; omega)
      · rw [if_pos (by omega)]
        exact key (lkF co he d j) (by
          show (if _ then _ else _) = _
          rw [if_neg]
          unfold lackB; simp [c2])
    · rw [if_neg (by omega)]
      exact key (lkF co he d j) (by
        show (if _ then _ else _) = _
        rw [if_neg]
        unfold lackB; simp [c1])
  · unfold l_Model_lacking_4
    simp only [show cI 80 = 79 from rfl, p_79_12 hs, show cI 90 = 89 from rfl, n_89 hs, Int.toNat_natCast, hb.2.2.2.2.1, hsh]
    rw [if_pos (by decide), if_pos (by omega), if_pos (by omega)]
    rfl
/-! the class: who can, part by part -/
theorem abl_hi (hh : ∀ p, n ≤ p → he p = false) {i p : Nat} (hp : n ≤ p) : abl co he d i p = false := by unfold abl; rw [hh p hp]; rfl
theorem msk_abl (hh : ∀ p, n ≤ p → he p = false) (i q : Nat) : (msk (abl co he d i) n).testBit q = abl co he d i q := by
  rw [msk_tb]
  by_cases h : q < n
  · simp [h]
  · rw [abl_hi hh (by omega)]; simp
theorem msk_n (hn : n ≤ 14) (f : Nat → Bool) : msk f n < 16384 := Nat.lt_of_lt_of_le (msk_lt f n) (Nat.le_trans (Nat.pow_le_pow_right (by decide) hn) (by decide))
theorem b_presentFor (hs : Sh M) (hp : CBp n ag jo pa co he M) (hn : n ≤ 14) (hk : k < 10) (hb : PB k d M) (ho : OKd d) {i : Nat} (hi : i < pPt d) : f_Players_presentFor M 2 (pr k) (i : Int) = some (msk (abl co he d i) n : Int) := by
  unfold f_Players_presentFor
  refine xb (loop_for (fun j => ((msk (abl co he d i) j : Int), (j : Int))) n (t := (msk (abl co he d i) n : Int)) (by omega) rfl (fun j hj => ?_) ?_) rfl
  · have e1 : w32 ((j : Int) + 1) = ((j + 1 : Nat) : Int) := by rw [w32_s (by omega) (by omega)]; omega
    have hm := msk_n (show j ≤ 14 by omega) (abl co he d i)
    have hp2 : (2 ^ j : Nat) < 16384 := Nat.lt_of_lt_of_le (two_lt (show j < 14 by omega)) (by decide)
    have e2 : bOr (msk (abl co he d i) j : Int) (bShl 1 (j : Int)) = ((msk (abl co he d i) j ||| 2 ^ j : Nat) : Int) := by
      rw [bShl_1 j (by omega), bOr_n (by omega) (by omega)]
    unfold l_Players_presentFor_5
    simp only [lt, e1, e2]
    rw [show mg M (cI 2) 4 = (n : Int) from hp.1, if_neg (by omega), q_pres hp (by omega), Option.bind_some]
    cases e3 : he j with
    | false =>
      rw [if_pos (by rfl)]
      have : msk (abl co he d i) (j + 1) = msk (abl co he d i) j := by
        show (if _ then _ else _) = _
        rw [if_neg]; unfold abl; rw [e3]; simp
      rw [this]
    | true =>
      rw [if_neg (by decide), q_partCost hs hp hk hb ho hi (by omega), Option.bind_some]
      by_cases c : pcst co d i j = -1
      · rw [if_pos c]
        have : msk (abl co he d i) (j + 1) = msk (abl co he d i) j := by
          show (if _ then _ else _) = _
          rw [if_neg]; unfold abl; rw [e3, c]; simp
        rw [this]
      · rw [if_neg c]
        have : msk (abl co he d i) (j + 1) = msk (abl co he d i) j ||| 2 ^ j := by
          show (if _ then _ else _) = _
          rw [if_pos]; unfold abl; rw [e3]; simp [c]
        rw [this]
  · unfold l_Players_presentFor_5
    simp only []
    rw [show mg M (cI 2) 4 = (n : Int) from hp.1, if_pos (by omega)]
/-- those who can play a MUST PART, as a number -/
def aB (n : Nat) (co : Nat → Nat → Int) (he : Nat → Bool) (d : PcD) (i : Nat) : Nat := if (pMu d).testBit i then msk (abl co he d i) n else 0
theorem aB_lt (hn : n ≤ 14) (i : Nat) : aB n co he d i < 16384 := by
  unfold aB; split
  · exact msk_n hn _
  · omega
def WAb (c _x : Nat) : Prop := c = 62
theorem sh_WAb {M M' : Mm} (hs : Sh M) (hf : Fr WAb M M') : Sh M' := Sh_fr hs hf (fun c k e => by unfold WAb at e; unfold isP; omega)
theorem b_findAble (hs : Sh M) (hp : CBp n ag jo pa co he M) (hn : n ≤ 14) (hk : k < 10) (hb : PB k d M) (ho : OKd d) : wp (f_Cover_findAble M 62 (pr k) 2) (fun M' => Fr WAb M M' ∧ ∀ i, i < pPt d → mg M' 62 i = (aB n co he d i : Int)) := by
  have hpt := ho.2.2.2.2.1
  unfold f_Cover_findAble
  refine wB (wM (wp_loop (fun j s => s.1 = (j : Int) ∧ Fr WAb M s.2 ∧ ∀ i, i < j → mg s.2 62 i = (aB n co he d i : Int)) (pPt d) (by omega) ⟨rfl, Fr_rf, fun i hi => absurd hi (Nat.not_lt_zero _)⟩ ?_) (fun t ht => wS ht))
  intro j s hj hI
  obtain ⟨i, m⟩ := s
  obtain ⟨hi, hf, hkk⟩ := hI
  simp only at hi hf hkk; subst hi
  have hsm : Sh m := sh_WAb hs hf
  have hbm : PB k d m := PB_fr hb hf (fun c x e => by unfold WAb at e; omega)
  have hpm : CBp n ag jo pa co he m := CBp_fr hp hf (fun c x e => by unfold WAb at e; omega)
  have e1 : w32 ((j : Int) + 1) = ((j + 1 : Nat) : Int) := by rw [w32_s (by omega) (by omega)]; omega
  unfold l_Cover_findAble_2
  simp only []
  rw [show mg m (cI (pr k)) 7 = (pPt d : Int) by rw [cI_pr]; exact hbm.2.2.2.2.1]
  refine wC (fun hc => wSr ⟨hf, fun i hi => hkk i (by omega)⟩) (fun hc => ?_)
  have hj' : j < pPt d := by omega
  have tail : ∀ y : Nat, y = aB n co he d j → wp (j_Cover_findAble_33_2 m 62 (pr k) 2 (j : Int) (y : Int) (j : Int) (mg m (cI 62) 0)) (Sum.elim (fun s' => j < pPt d ∧ s'.1 = ((j + 1 : Nat) : Int) ∧ Fr WAb M s'.2 ∧ ∀ i, i < j + 1 → mg s'.2 62 i = (aB n co he d i : Int)) (fun t => Fr WAb M t ∧ ∀ i, i < pPt d → mg t 62 i = (aB n co he d i : Int))) := by
    rintro y rfl
    unfold j_Cover_findAble_33_2
    rw [show mg m (cI 62) 0 = 63 from p_61_0 hsm, show cI 63 = 62 from rfl, n_62 hsm, Int.toNat_natCast]
    refine wI (by decide) (wI (by omega) (wL (wL (wSl ⟨hj', e1, Fr_wr hf rfl, fun i hi => ?_⟩))))
    rw [mg_mp]
    by_cases e : i = j
    · rw [if_pos ⟨rfl, e⟩, e]
    · rw [if_neg (by omega)]; exact hkk i (by omega)
  refine wX (q_isMust hbm ho (show j < 32 by omega)) ?_
  cases e : (pMu d).testBit j with
  | false => exact wI (by decide) (tail 0 (by unfold aB; rw [e]; rfl))
  | true => exact wE (by decide) (wX (b_presentFor hsm hpm hn hk hbm ho hj') (tail _ (by unfold aB; rw [e]; rfl)))
end LK
