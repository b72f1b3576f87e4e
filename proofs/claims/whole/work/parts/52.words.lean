/-! rows filled -/
theorem w_fillI (M : Mm) (r v : Int) (hl : ml M (cI r) < 1000000) : wp (f_Arrays_fillI M r v) (fun M' => Fr (fun c _ => c = cI r) M M' ∧ ∀ k, k < ml M (cI r) → mg M' (cI r) k = v) := by
  unfold f_Arrays_fillI
  refine wL (wB (wM (wp_loop (fun j s => s.1 = (j : Int) ∧ Fr (fun c _ => c = cI r) M s.2 ∧ ∀ k, k < j → mg s.2 (cI r) k = v) (ml M (cI r)) hl ⟨rfl, Fr_rf, fun k hk => absurd hk (Nat.not_lt_zero _)⟩ ?_) (fun m hm => wS hm)))
  intro j s hj hI
  obtain ⟨i, m⟩ := s
  obtain ⟨hi, hf, hk⟩ := hI
  simp only at hi hf hk; subst hi
  have hlm : ml m (cI r) = ml M (cI r) := hf.2.1 _
  unfold l_Arrays_fillI_5
  refine wC (fun hc => wS ⟨hf, fun k hk' => hk k (by omega)⟩) (fun hc => ?_)
  refine wI ⟨by omega, by simp only [hlm]; omega⟩ (wL (wL (wS ⟨by omega, ?_, Fr_wr hf rfl, fun k hk' => ?_⟩)))
  · exact w32_s (by omega) (by omega)
  · rw [mg_mp]
    by_cases e : k = j
    · rw [if_pos ⟨rfl, by omega⟩]
    · rw [if_neg (by omega)]; exact hk k (by omega)
theorem w_fillL (M : Mm) (r v : Int) (hl : ml M (cI r) < 1000000) : wp (f_Arrays_fillL M r v) (fun M' => Fr (fun c _ => c = cI r) M M' ∧ ∀ k, k < ml M (cI r) → mg M' (cI r) k = v) := by
  unfold f_Arrays_fillL
  refine wL (wB (wM (wp_loop (fun j s => s.1 = (j : Int) ∧ Fr (fun c _ => c = cI r) M s.2 ∧ ∀ k, k < j → mg s.2 (cI r) k = v) (ml M (cI r)) hl ⟨rfl, Fr_rf, fun k hk => absurd hk (Nat.not_lt_zero _)⟩ ?_) (fun m hm => wS hm)))
  intro j s hj hI
  obtain ⟨i, m⟩ := s
  obtain ⟨hi, hf, hk⟩ := hI
  simp only at hi hf hk; subst hi
  have hlm : ml m (cI r) = ml M (cI r) := hf.2.1 _
  unfold l_Arrays_fillL_6
  refine wC (fun hc => wS ⟨hf, fun k hk' => hk k (by omega)⟩) (fun hc => ?_)
  refine wI ⟨by omega, by simp only [hlm]; omega⟩ (wL (wL (wS ⟨by omega, ?_, Fr_wr hf rfl, fun k hk' => ?_⟩)))
  · exact w32_s (by omega) (by omega)
  · rw [mg_mp]
    by_cases e : k = j
    · rw [if_pos ⟨rfl, by omega⟩]
    · rw [if_neg (by omega)]; exact hk k (by omega)
/-! WORDS: how many, COPY, DAY, where -/
def OKw (w : Nat) (wc : Nat → Int) : Prop := w ≤ 200 ∧ ∀ j, j < w → 0 ≤ wc j ∧ wc j < 30
def CBw (w : Nat) (wc wd wt : Nat → Int) (M : Mm) : Prop := mg M 55 5 = (w : Int) ∧ ∀ j, j < w → mg M 56 j = wc j ∧ mg M 57 j = wd j ∧ mg M 58 j = wt j
def CMw (w : Nat) (wc wd wt : Nat → Int) (M : Mm) : Prop := mg M 79 24 = (w : Int) ∧ ∀ j, j < w → mg M 99 j = wc j ∧ mg M 100 j = wd j ∧ mg M 101 j = wt j
theorem CBw_fr {w : Nat} {wc wd wt : Nat → Int} {W : Nat → Nat → Prop} {M M' : Mm} (h : CBw w wc wd wt M) (f : Fr W M M') (hw : ∀ c k, W c k → ¬ (55 ≤ c ∧ c ≤ 58)) : CBw w wc wd wt M' := by
  have e : ∀ c k, 55 ≤ c ∧ c ≤ 58 → mg M' c k = mg M c k := fun c k hc => f.1 c k (fun w => hw c k w hc)
  unfold CBw at h ⊢
  simp only [e 55 _ (by omega), e 56 _ (by omega), e 57 _ (by omega), e 58 _ (by omega)]
  exact h
theorem CMw_fr {w : Nat} {wc wd wt : Nat → Int} {W : Nat → Nat → Prop} {M M' : Mm} (h : CMw w wc wd wt M) (f : Fr W M M') (hw : ∀ c k, W c k → ¬ (c = 79 ∧ k = 24) ∧ ¬ (99 ≤ c ∧ c ≤ 101)) : CMw w wc wd wt M' := by
  have e : ∀ c k, 99 ≤ c ∧ c ≤ 101 → mg M' c k = mg M c k := fun c k hc => f.1 c k (fun w => (hw c k w).2 hc)
  have e1 : mg M' 79 24 = mg M 79 24 := f.1 79 24 (fun w => (hw 79 24 w).1 ⟨rfl, rfl⟩)
  unfold CMw at h ⊢
  simp only [e1, e 99 _ (by omega), e 100 _ (by omega), e 101 _ (by omega)]
  exact h
/-- the latest day and place of a copy by the first words -/
def whl (wc wd wt : Nat → Int) (c day : Int) : Nat → Int × Int
  | 0 => (-1, -1)
  | j + 1 => if wc j = c ∧ wd j ≤ day ∧ (whl wc wd wt c day j).1 ≤ wd j then (wd j, wt j) else whl wc wd wt c day j
/-- how many copies are there -/
def cps (wc wd wt : Nat → Int) (t day : Int) (n : Nat) : Nat → Int
  | 0 => 0
  | j + 1 => if (whl wc wd wt (j : Int) day n).2 = t then cps wc wd wt t day n j + 1 else cps wc wd wt t day n j
theorem cps_b (wc wd wt : Nat → Int) (t day : Int) (n : Nat) : ∀ j, 0 ≤ cps wc wd wt t day n j ∧ cps wc wd wt t day n j ≤ (j : Int)
  | 0 => by unfold cps; omega
  | j + 1 => by
    have := cps_b wc wd wt t day n j
    unfold cps; split <;> omega
section WO
variable {w : Nat} {wc wd wt : Nat → Int} {M : Mm}
def WLo (c _k : Nat) : Prop := c = 59 ∨ c = 60
theorem b_settle (hs : Sh M) (h : CBw w wc wd wt M) (ho : OKw w wc) (day : Int) {n : Nat} (hn : n ≤ w) : wp (f_Loans_settle M 56 day (n : Int)) (fun M' => Fr WLo M M' ∧ ∀ c : Nat, c < 30 → mg M' 59 c = (whl wc wd wt (c : Int) day n).1 ∧ mg M' 60 c = (whl wc wd wt (c : Int) day n).2) := by
  have l59 := n_59 hs
  have l60 := n_60 hs
  unfold f_Loans_settle
  rw [show mg M (cI 56) 3 = 60 from p_55_3 hs]
  refine wI (by decide) (wK (w_fillI M 60 (-1) (by rw [show cI 60 = 59 from rfl, l59]; decide)) (fun M1 ⟨f1, k1⟩ => ?_))
  rw [show cI 60 = 59 from rfl] at f1 k1
  rw [l59] at k1
  have f1 : Fr WLo M M1 := Fr_sub f1 (fun c k e => Or.inl e)
  have hs1 : Sh M1 := Sh_fr hs f1 (fun c k e => by unfold WLo at e; unfold isP; omega)
  rw [show mg M1 (cI 56) 4 = 61 from p_55_4 hs1]
  refine wI (by decide) (wK (w_fillI M1 61 (-1) (by rw [show cI 61 = 60 from rfl, n_60 hs1]; decide)) (fun M2 ⟨f2, k2⟩ => ?_))
  rw [show cI 61 = 60 from rfl] at f2 k2
  rw [n_60 hs1] at k2
  have k3 : ∀ k, k < 30 → mg M2 59 k = -1 := fun k hk => (f2.1 59 k (fun e => by simp at e)).trans (k1 k hk)
  have f2 : Fr WLo M M2 := Fr_tr f1 (Fr_sub f2 (fun c k e => Or.inr e))
  refine wB (wM (wp_loop (fun j s => s.1 = (j : Int) ∧ Fr WLo M s.2 ∧ ∀ c : Nat, c < 30 → mg s.2 59 c = (whl wc wd wt (c : Int) day j).1 ∧ mg s.2 60 c = (whl wc wd wt (c : Int) day j).2) n (by have := ho.1; omega) ⟨rfl, f2, fun c hc => ⟨k3 c hc, k2 c hc⟩⟩ ?_) (fun m hm => wS hm))
  intro j s hj hI
  obtain ⟨i, m⟩ := s
  obtain ⟨hi, hf, hk⟩ := hI
  simp only at hi hf hk; subst hi
  have hsm : Sh m := Sh_fr hs hf (fun c k e => by unfold WLo at e; unfold isP; omega)
  have hm : CBw w wc wd wt m := CBw_fr h hf (fun c k e => by unfold WLo at e; omega)
  have how := ho.1
  unfold l_Loans_settle_18
  refine wC (fun hc => wS ?_) (fun hc => ?_)
  · have : j = n := by omega
    subst this; exact ⟨hf, hk⟩
  have hjn : j < n := by omega
  obtain ⟨w1, w2, w3⟩ := hm.2 j (by omega)
  obtain ⟨o1, o2⟩ := ho.2 j (by omega)
  obtain ⟨cc, ecc, hcc⟩ := nat_of (n := 30) o1 o2
  obtain ⟨kd, kp⟩ := hk cc hcc
  have e1 : w32 ((j : Int) + 1) = ((j + 1 : Nat) : Int) := by rw [w32_s (by omega) (by omega)]; omega
  have g1 : (j : Int) < 200 := by omega
  have g2 : ¬ (w : Int) ≤ (j : Int) := by omega
  have g3 : (cc : Int) < 30 := by omega
  by_cases c1 : day < wd j
  · refine eq_l (((j + 1 : Nat) : Int), m) ?_ ⟨hjn, rfl, hf, fun c hc' => ?_⟩
    · simp only [cI, lt]
      simp [p_55_0 hsm, p_55_1 hsm, n_56 hsm, n_57 hsm, hm.1, w1, w2, w3, g1, g2, c1, e1, show mg m 55 5 = (w : Int) from hm.1]
    · have e : ¬ (wc j = (c : Int) ∧ wd j ≤ day ∧ (whl wc wd wt (c : Int) day j).1 ≤ wd j) := fun e => by omega
      unfold whl; rw [if_neg e]; exact hk c hc'
  by_cases c2 : wd j < (whl wc wd wt (cc : Int) day j).1
  · refine eq_l (((j + 1 : Nat) : Int), m) ?_ ⟨hjn, rfl, hf, fun c hc' => ?_⟩
    · simp only [cI, lt]
      simp [p_55_0 hsm, p_55_1 hsm, p_55_3 hsm, n_56 hsm, n_57 hsm, n_59 hsm, hm.1, w1, w2, w3, ecc, kd, g1, g2, g3, c1, c2, e1]
    · have e : ¬ (wc j = (c : Int) ∧ wd j ≤ day ∧ (whl wc wd wt (c : Int) day j).1 ≤ wd j) := by
        rintro ⟨e1, e2, e3⟩
        have : c = cc := by omega
        subst this; omega
      unfold whl; rw [if_neg e]; exact hk c hc'
  · refine eq_l (((j + 1 : Nat) : Int), mp (mp m 59 cc (wd j)) 60 cc (wt j)) ?_ ⟨hjn, rfl, Fr_wr (Fr_wr hf (Or.inl rfl)) (Or.inr rfl), fun c hc' => ?_⟩
    · simp only [cI, lt]
      simp [p_55_0 hsm, p_55_1 hsm, p_55_2 hsm, p_55_3 hsm, p_55_4 hsm, n_56 hsm, n_57 hsm, n_58 hsm, n_59 hsm, n_60 hsm, hm.1, w1, w2, w3, ecc, kd, g1, g2, g3, c1, c2, e1, mg_mp, ml_mp]
    · simp only [mg_mp]
      by_cases e : c = cc
      · subst e
        have t1 : wd j ≤ day := by omega
        have t2 : (whl wc wd wt (c : Int) day j).1 ≤ wd j := by omega
        simp [whl, ecc, t1, t2]
      · have e' : ¬ (wc j = (c : Int) ∧ wd j ≤ day ∧ (whl wc wd wt (c : Int) day j).1 ≤ wd j) := fun e' => e (by omega)
        unfold whl; rw [if_neg e']; simp [e]; exact hk c hc'
theorem b_placeOf (hs : Sh M) (h : CBw w wc wd wt M) (ho : OKw w wc) (day : Int) {c n : Nat} (hc : c < 30) (hn : n ≤ w) : wp (f_Loans_placeOf M 56 (c : Int) day (n : Int)) (fun q => q.1 = (whl wc wd wt (c : Int) day n).2 ∧ Fr WLo M q.2) := by
  unfold f_Loans_placeOf
  refine wK (b_settle hs h ho day hn) (fun m ⟨hf, hk⟩ => ?_)
  have hsm : Sh m := Sh_fr hs hf (fun c k e => by unfold WLo at e; unfold isP; omega)
  rw [show mg m (cI 56) 4 = 61 from p_55_4 hsm, show ml m (cI 61) = 30 from n_60 hsm]
  exact wI (by decide) (wI ⟨by omega, by omega⟩ (wS ⟨(hk c hc).2, hf⟩))
theorem b_copiesAt (hs : Sh M) (h : CBw w wc wd wt M) (ho : OKw w wc) (t day : Int) {n : Nat} (hn : n ≤ w) : wp (f_Loans_copiesAt M 56 t day (n : Int)) (fun q => q.1 = cps wc wd wt t day n 30 ∧ Fr WLo M q.2) := by
  unfold f_Loans_copiesAt
  refine wK (b_settle hs h ho day hn) (fun m ⟨hf, hk⟩ => ?_)
  have hsm : Sh m := Sh_fr hs hf (fun c k e => by unfold WLo at e; unfold isP; omega)
  refine wX (a := cps wc wd wt t day n 30) (loop_for (fun j => (cps wc wd wt t day n j, (j : Int))) 30 (by decide) rfl (fun j hj => ?_) ?_) (wS ⟨rfl, hf⟩)
  · have hb := cps_b wc wd wt t day n j
    have e1 : w32 ((j : Int) + 1) = ((j + 1 : Nat) : Int) := by rw [w32_s (by omega) (by omega)]; omega
    have e2 : w32 (cps wc wd wt t day n j + 1) = cps wc wd wt t day n j + 1 := w32_s (by omega) (by omega)
    have g1 : ¬ (30 : Int) ≤ j := by omega
    have g2 : (j : Int) < 30 := by omega
    unfold l_Loans_copiesAt_12
    by_cases c1 : (whl wc wd wt (j : Int) day n).2 = t
    · simp [cI, lt, p_55_4 hsm, n_60 hsm, g1, g2, (hk j hj).2, c1, e1, e2, cps]
    · simp [cI, lt, p_55_4 hsm, n_60 hsm, g1, g2, (hk j hj).2, c1, e1, e2, cps]
  · unfold l_Loans_copiesAt_12
    simp
theorem m_whereIs (hs : Sh M) (h : CMw w wc wd wt M) (hw : w ≤ 200) (c day : Int) {n : Nat} (hn : n ≤ w) : f_Model_whereIs M 80 c day (n : Int) = some (whl wc wd wt c day n).2 := by
  unfold f_Model_whereIs
  refine xb (loop_for (fun j => ((whl wc wd wt c day j).1, (whl wc wd wt c day j).2, (j : Int))) n (t := (whl wc wd wt c day n).2) (by omega) rfl (fun j hj => ?_) ?_) rfl
  · have e1 : w32 ((j : Int) + 1) = ((j + 1 : Nat) : Int) := by rw [w32_s (by omega) (by omega)]; omega
    have g1 : ¬ (n : Int) ≤ j := by omega
    have g2 : (j : Int) < 200 := by omega
    obtain ⟨w1, w2, w3⟩ := h.2 j (by omega)
    unfold l_Model_whereIs_9
    by_cases c1 : wc j = c
    · by_cases c2 : day < wd j
      · have c2' : ¬ wd j ≤ day := by omega
        simp [cI, lt, p_79_25 hs, p_79_26 hs, n_99 hs, n_100 hs, g1, g2, w1, w2, c1, c2, e1, whl, c2']
      · have c2' : wd j ≤ day := by omega
        by_cases c3 : (whl wc wd wt c day j).1 ≤ wd j
        · simp [cI, lt, p_79_25 hs, p_79_26 hs, p_79_27 hs, n_99 hs, n_100 hs, n_101 hs, g1, g2, w1, w2, w3, c1, c2, e1, whl, c2', c3]
        · simp [cI, lt, p_79_25 hs, p_79_26 hs, p_79_27 hs, n_99 hs, n_100 hs, n_101 hs, g1, g2, w1, w2, w3, c1, c2, e1, whl, c2', c3]
    · simp [cI, lt, p_79_25 hs, n_99 hs, g1, g2, w1, c1, e1, whl]
  · unfold l_Model_whereIs_9
    simp
theorem m_copiesAt (hs : Sh M) (h : CMw w wc wd wt M) (hw : w ≤ 200) (t day : Int) {n : Nat} (hn : n ≤ w) : f_Model_copiesAt M 80 t day (n : Int) = some (cps wc wd wt t day n 30) := by
  unfold f_Model_copiesAt
  refine xb (loop_for (fun j => (cps wc wd wt t day n j, (j : Int))) 30 (t := cps wc wd wt t day n 30) (by decide) rfl (fun j hj => ?_) ?_) rfl
  · have hb := cps_b wc wd wt t day n j
    have e1 : w32 ((j : Int) + 1) = ((j + 1 : Nat) : Int) := by rw [w32_s (by omega) (by omega)]; omega
    have e2 : w32 (cps wc wd wt t day n j + 1) = cps wc wd wt t day n j + 1 := w32_s (by omega) (by omega)
    have g1 : ¬ (30 : Int) ≤ j := by omega
    unfold l_Model_copiesAt_6
    by_cases c1 : (whl wc wd wt (j : Int) day n).2 = t
    · simp [lt, g1, m_whereIs hs h hw _ _ hn, c1, e1, e2, cps]
    · simp [lt, g1, m_whereIs hs h hw _ _ hn, c1, e1, e2, cps]
  · unfold l_Model_copiesAt_6
    simp
end WO
